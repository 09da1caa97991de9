/-! ===== the calls that ask: squares, rain, flow, weeks, breaks ===== -/
theorem isIn_09_out {x : Int32} {M : xM} (h : x < 0 ∨ 10 ≤ x) : fX10_isIn x 0 9 M = some 0 :=
  isIn_0 (h.imp id (fun h => gt_of_ge h (by decide)))
theorem isIn_09 {x : Nat} {M : xM} (h : x < 10) : fX10_isIn (nI x) 0 9 M = some 1 :=
  isIn_1 (nI_pos (by omega)) (show ¬ (9:Int32) < nI x from nI_nlt (b := x) (a := 9) (by omega) (by decide))
theorem isIn_07_out {x : Int32} {M : xM} (h : x < 0 ∨ 8 ≤ x) : fX10_isIn x 0 7 M = some 0 :=
  isIn_0 (h.imp id (fun h => gt_of_ge h (by decide)))
theorem isIn_07 {x : Nat} {M : xM} (h : x < 8) : fX10_isIn (nI x) 0 7 M = some 1 :=
  isIn_1 (nI_pos (by omega)) (show ¬ (7:Int32) < nI x from nI_nlt (b := x) (a := 7) (by omega) (by decide))
theorem sq_tri (x : Int32) : (x < 0 ∨ 10 ≤ x) ∨ ∃ k : Nat, k < 10 ∧ x = nI k := by
  rcases i_tri x (n := 10) (by decide) with h | h | h
  · exact Or.inl (Or.inl h)
  · exact Or.inl (Or.inr h)
  · exact Or.inr h
theorem va_tri (x : Int32) : (x < 0 ∨ 8 ≤ x) ∨ ∃ k : Nat, k < 8 ∧ x = nI k := by
  rcases i_tri x (n := 8) (by decide) with h | h | h
  · exact Or.inl (Or.inl h)
  · exact Or.inl (Or.inr h)
  · exact Or.inr h
theorem isSq_x {x y : Int32} {M : xM} (h : x < 0 ∨ 10 ≤ x) : fX9_isSquare x y M = some 0 := by
  unfold fX9_isSquare
  by_cases h1 : x < 0
  · rw [if_pos h1]
  · rw [if_neg h1, if_pos (h.resolve_left h1)]
theorem isSq_y {x : Nat} {y : Int32} {M : xM} (hx : x < 10) (h : y < 0 ∨ 10 ≤ y) : fX9_isSquare (nI x) y M = some 0 := by
  unfold fX9_isSquare
  rw [if_neg (nI_pos (by omega)), if_neg (show ¬ (10:Int32) ≤ nI x from nI_ge (b := 10) hx (by decide))]
  by_cases h1 : y < 0
  · rw [if_pos h1]
  · rw [if_neg h1, if_pos (h.resolve_left h1)]
theorem isSq_1 {x y : Nat} {M : xM} (hx : x < 10) (hy : y < 10) : fX9_isSquare (nI x) (nI y) M = some 1 := by
  unfold fX9_isSquare
  rw [if_neg (nI_pos (by omega)), if_neg (show ¬ (10:Int32) ≤ nI x from nI_ge (b := 10) hx (by decide)), if_neg (nI_pos (by omega)), if_neg (show ¬ (10:Int32) ≤ nI y from nI_ge (b := 10) hy (by decide))]
theorem isVa_out {x : Int32} {M : xM} (h : x < 0 ∨ 8 ≤ x) : fX9_isValley x M = some 0 := by
  unfold fX9_isValley
  by_cases h1 : x < 0
  · rw [if_pos h1]
  · rw [if_neg h1, if_pos (h.resolve_left h1)]
theorem isVa_1 {x : Nat} {M : xM} (hx : x < 8) : fX9_isValley (nI x) M = some 1 := by
  unfold fX9_isValley
  rw [if_neg (nI_pos (by omega)), if_neg (show ¬ (8:Int32) ≤ nI x from nI_ge (b := 8) hx (by decide))]
theorem part_ok {x y day : Int32} {M : xM} {c : Nat} (hc : c < 2 ^ 31) (h0 : Inv M.1 c) : aR1 c (fX9_part x y day M) (fX10_part x y day) := by
  unfold fX9_part fX10_part
  rcases sq_tri x with h | ⟨a, ha, rfl⟩
  · rw [isSq_x h]
    simp only [some_bind, ↓reduceIte]
    exact ⟨_, _, rfl, by simp only [isIn_09_out h, some_bind, ↓reduceIte], c, by omega, h0⟩
  · rcases sq_tri y with h | ⟨b, hb, rfl⟩
    · rw [isSq_y ha h]
      simp only [some_bind, ↓reduceIte]
      exact ⟨_, _, rfl, by simp only [isIn_09 ha, isIn_09_out h, some_bind, i_10, ↓reduceIte], c, by omega, h0⟩
    · obtain ⟨M1, a1, a2, a3, a4, a5⟩ := openBooks_eq hc h0
      rw [isSq_1 ha hb, a1]
      simp only [some_bind, i_10, ↓reduceIte]
      rcases day_tri day with hd | ⟨d, hd, rfl⟩
      · rw [ownerC_out a3.1.pl hd, some_bind]
        exact ⟨_, _, rfl, by simp only [isIn_09 ha, isIn_09 hb, isIn_day_out hd, some_bind, i_10, ↓reduceIte], c, by omega, a3⟩
      · rw [ownerC_in hd a3.1 a4, some_bind]
        exact ⟨_, _, rfl, by simp only [isIn_09 ha, isIn_09 hb, isIn_day hd, owner_eq hd a3.1.h, some_bind, i_10, ↓reduceIte], c, by omega, a3⟩
theorem squares_ok {p day : Int32} {M : xM} {c : Nat} (hc : c < 2 ^ 31) (h0 : Inv M.1 c) : aR1 c (fX9_squares p day M) (fX10_squares p day) := by
  have hI := h0.1
  unfold fX9_squares
  rcases place_tri p with h | ⟨k, hk, rfl⟩
  · rw [gaugeDF_out h]
    simp only [some_bind, i_m1, ↓reduceIte]
    exact ⟨_, _, rfl, by unfold fX10_squares; simp only [fails_out h, some_bind, i_m1, ↓reduceIte], c, by omega, h0⟩
  · by_cases e : gf M.1 k = 0
    · rcases day_tri day with hd | ⟨d, hd, rfl⟩
      · rw [gaugeDF_dout hk hI.pl e hd]
        simp only [some_bind, i_m1, ↓reduceIte]
        exact ⟨_, _, rfl, by unfold fX10_squares; simp only [fails04 hk hI.wk, e, isIn_day_out hd, some_bind, i_m1, ↓reduceIte], c, by omega, h0⟩
      · obtain ⟨M1, a1, a2, a3, a4, a5⟩ := openBooks_eq hc h0
        have hK := sK_n (nE_142 a5)
        have e' : gf M1.1 k = 0 := by rw [gf_0, sGb_k hK]; exact gf_0.mp e
        rw [gaugeDF_in hk hd hI.pl e, a1]
        simp only [some_bind, ↓reduceIte, countC_eq hk hd a3.1 a4]
        refine ⟨_, _, rfl, ?_, c, by omega, a3⟩
        unfold fX10_squares
        have hten : ¬ (10:Int32) = 0 := by decide
        simp only [fails04 hk a3.1.wk, e', isIn_day hd, some_bind, i_10, ↓reduceIte]
        refine lp_for (fun s => (sQ (fun s => sCo M1.1 k d (s / 10) (s % 10)) s, nI s)) _ 100 (fun s kk hs hkk => ?_) (fun kk => ?_) xfu 0 (by decide) (by unfold xfu; omega)
        · have g1 : ¬ (100:Int32) ≤ nI s := nI_ge (b := 100) hs (by decide)
          rw [sQ_s] at hkk
          simp only [g1, hten, nI_d10 hs, nI_m10 hs, owner_eq hd a3.1.h, some_bind, bd_at, ↓reduceIte, nI_1]
          unfold sCo at hkk ⊢
          by_cases e2 : oI (sOwn M1.1 (nI (s / 10)) (nI (s % 10)) d) = nI k
          · simp only [e2, ↓reduceIte] at hkk ⊢
            exact hkk
          · simp only [e2, ↓reduceIte] at hkk ⊢
            exact hkk
        · have g1 : (100:Int32) ≤ nI 100 := by decide
          simp only [g1, ↓reduceIte]
    · rw [gaugeDF_no hk hI.pl e]
      simp only [some_bind, e, ↓reduceIte]
      exact ⟨_, _, rfl, by unfold fX10_squares; simp only [fails04 hk hI.wk, some_bind, e, ↓reduceIte], c, by omega, h0⟩
theorem rain_ok {v day : Int32} {M : xM} {c : Nat} (hc : c < 2 ^ 31) (h0 : Inv M.1 c) : aR2 c (fX9_rain v day M) (fX10_rain v day) := by
  unfold fX9_rain fX10_rain
  rcases va_tri v with h | ⟨a, ha, rfl⟩
  · rw [isVa_out h]
    simp only [some_bind, ↓reduceIte]
    exact ⟨_, _, _, rfl, by simp only [isIn_07_out h, some_bind, ↓reduceIte], c, by omega, h0⟩
  · have hb : xinb (nI a) 8 = true := xinb_nI ha (by decide)
    have hac : (nI a).toNatClampNeg = a := nI_clamp (by omega)
    obtain ⟨M1, a1, a2, a3, a4, a5⟩ := openBooks_eq hc h0
    rw [isVa_1 ha, a1]
    simp only [some_bind, i_10, hb, hac, rainC_eq ha a3.1 a4, ↓reduceIte]
    obtain ⟨M2, b1, b2⟩ := rain0_eq (M := M1) (day := day) ha a3.1.h a3.1.n a3.1.wf
    exact ⟨_, _, _, rfl, by simp only [isIn_07 ha, b1, some_bind, i_10, ↓reduceIte], c, by omega, Inv_q (qE_s b2) a3⟩
theorem mean_eq {r : Int32} {n : Nat} (hr : 0 ≤ r.toInt ∧ r.toInt ≤ 501700) (h1 : 0 < n) (h2 : n ≤ 100) : ((r.toInt64 * (1000:Int64)) / (nI n).toInt64).toInt32 = (r * (1000:Int32)) / nI n := by
  have e3 : (1000:Int64).toInt = 1000 := by decide
  have e4 : (1000:Int32).toInt = 1000 := by decide
  have p1 : (r * (1000:Int32)).toInt = r.toInt * 1000 := by
    rw [Int32.toInt_mul, e4]
    apply Int.bmod_eq_of_le <;> omega
  have p2 : (r.toInt64 * (1000:Int64)).toInt = r.toInt * 1000 := by
    rw [Int64.toInt_mul, e3, Int32.toInt_toInt64]
    apply Int.bmod_eq_of_le <;> omega
  have m1 : r * (1000:Int32) ≠ Int32.minValue := by
    intro e
    have e' := congrArg Int32.toInt e
    rw [p1] at e'
    have : (Int32.minValue).toInt = -2147483648 := by decide
    omega
  have m2 : r.toInt64 * (1000:Int64) ≠ Int64.minValue := by
    intro e
    have e' := congrArg Int64.toInt e
    rw [p2] at e'
    have : (Int64.minValue).toInt = -9223372036854775808 := by decide
    omega
  have hnn := Int.ediv_nonneg (a := r.toInt * 1000) (b := (n : Int)) (by omega) (by omega)
  have hle := Int.ediv_le_self (a := r.toInt * 1000) (n : Int) (by omega)
  apply Int32.toInt_inj.mp
  rw [Int64.toInt_toInt32, Int64.toInt_div_of_ne_left _ _ m2, Int32.toInt_div_of_ne_left _ _ m1, p1, p2, Int32.toInt_toInt64, nI_toInt (by omega), Int.tdiv_eq_ediv_of_nonneg (by omega)]
  apply Int.bmod_eq_of_le <;> omega
theorem mean_ok {v day : Int32} {M : xM} {c : Nat} (hc : c < 2 ^ 31) (h0 : Inv M.1 c) : aR2 c (fX9_mean v day M) (fX10_mean v day) := by
  unfold fX9_mean fX10_mean
  rcases va_tri v with h | ⟨a, ha, rfl⟩
  · rw [isVa_out h]
    simp only [some_bind, ↓reduceIte]
    exact ⟨_, _, _, rfl, by simp only [isIn_07_out h, some_bind, ↓reduceIte], c, by omega, h0⟩
  · have hb : xinb (nI a) 8 = true := xinb_nI ha (by decide)
    have hac : (nI a).toNatClampNeg = a := nI_clamp (by omega)
    obtain ⟨M1, a1, a2, a3, a4, a5⟩ := openBooks_eq hc h0
    have hI1 := a3.1
    rw [isVa_1 ha, a1]
    simp only [some_bind, i_10, hb, hac, rainC_eq ha hI1 a4, ↓reduceIte]
    obtain ⟨M2, b1, b2⟩ := rain0_eq (M := M1) (day := day) ha hI1.h hI1.n hI1.wf
    have hI2 := NInv_n (nE_q (qE_s b2)) hI1
    have hi2 := Inv_q (qE_s b2) a3
    by_cases e1 : sRain M1.1 a day = -1
    · rw [if_pos e1]
      exact ⟨_, _, _, rfl, by simp only [isIn_07 ha, b1, e1, some_bind, i_10, ↓reduceIte], c, by omega, hi2⟩
    · rw [if_neg e1]
      obtain ⟨M3, c1, c2⟩ := rain0_eq (M := M2) (day := day) ha hI2.h hI2.n hI2.wf
      rw [sRain_c b2] at c1
      have hml := sMn_le M1.1 a 100
      have hm0 : ¬ sMn M1.1 a 100 = 0 := by
        intro h
        refine e1 ?_
        unfold sRain
        rw [if_pos (Or.inr (Or.inr (Or.inl h)))]
      have hm3 : sMn M3.1 a 100 = sMn M1.1 a 100 := (sMn_c c2 a 100).trans (sMn_c b2 a 100)
      have g1 : (1:Int32) ≤ nI (sMn M1.1 a 100) := nI_le (a := 1) (by omega) (by omega)
      have g2 : ¬ nI (sMn M1.1 a 100) = 0 := nI_ne (b := 0) (by omega) (by decide) hm0
      have g3 : ¬ (nI (sMn M1.1 a 100)).toInt64 = 0 := by
        intro h
        have := congrArg Int64.toInt h
        rw [Int32.toInt_toInt64, nI_toInt (by omega), show (0:Int64).toInt = 0 from by decide] at this
        omega
      rw [(hI1.vl a ha).1, if_pos g1, if_neg g2]
      exact ⟨_, _, M3, rfl, by simp only [isIn_07 ha, b1, e1, c1, many_eq ha, hm3, g3, some_bind, i_10, ↓reduceIte, mean_eq (sRain_b hI1 e1) (show 0 < sMn M1.1 a 100 by omega) hml], c, by omega, Inv_q (qE_s (sEq_t b2 c2)) a3⟩
theorem flow_ok {v day : Int32} {M : xM} {c : Nat} (hc : c < 2 ^ 31) (h0 : Inv M.1 c) : aRL c (fX9_flow v day M) (fX10_flow v day) := by
  unfold fX9_flow fX10_flow
  rcases va_tri v with h | ⟨a, ha, rfl⟩
  · rw [isVa_out h]
    simp only [some_bind, ↓reduceIte]
    exact ⟨_, _, _, rfl, by simp only [isIn_07_out h, some_bind, ↓reduceIte], c, by omega, h0⟩
  · have hb : xinb (nI a) 8 = true := xinb_nI ha (by decide)
    have hac : (nI a).toNatClampNeg = a := nI_clamp (by omega)
    rw [isVa_1 ha]
    simp only [some_bind, i_10, ↓reduceIte]
    by_cases e1 : day < 0
    · rw [if_pos e1]
      exact ⟨_, _, _, rfl, by simp only [isIn_07 ha, isIn_0 (M := M) (show day < 0 ∨ (63:Int32) < day from Or.inl e1), some_bind, i_10, ↓reduceIte], c, by omega, h0⟩
    · rw [if_neg e1]
      by_cases e2 : day < 64
      · have e3 : ¬ (63:Int32) < day := by
          rw [Int32.lt_iff_toInt_lt] at e2 ⊢
          have : (63:Int32).toInt = 63 := by decide
          have : (64:Int32).toInt = 64 := by decide
          omega
        obtain ⟨M1, a1, a2, a3, a4, a5⟩ := openBooks_eq hc h0
        rw [if_pos e2, a1]
        simp only [some_bind, hb, hac, flowC_eq ha a3.1 a4, ↓reduceIte]
        obtain ⟨M2, b1, b2⟩ := flow0_eq (M := M1) (day := day) ha a3.1.swf
        exact ⟨_, _, _, rfl, by simp only [isIn_07 ha, isIn_1 (M := M1) e1 e3, b1, some_bind, i_10, ↓reduceIte], c, by omega, Inv_q (qE_s b2) a3⟩
      · have e3 : (63:Int32) < day := gt_of_ge (Int32.not_lt.mp e2) (by decide)
        rw [if_neg e2]
        exact ⟨_, _, _, rfl, by simp only [isIn_07 ha, isIn_0 (M := M) (show day < 0 ∨ (63:Int32) < day from Or.inr e3), some_bind, i_10, ↓reduceIte], c, by omega, h0⟩
/-- the first of the last j days (up to 63) on which more flows -/
def sAh (m : sm) (v : Nat) (l : Int64) : Nat → Int32
  | 0 => -1
  | j + 1 => if sFl m v (nI (64 - (j + 1))) 8 ≤ l then sAh m v l j else nI (64 - (j + 1))
theorem sAh_s (m : sm) (v : Nat) (l : Int64) (j : Nat) : sAh m v l (j + 1) = if sFl m v (nI (64 - (j + 1))) 8 ≤ l then sAh m v l j else nI (64 - (j + 1)) := rfl
theorem ahead_ok {v : Int32} {l : Int64} {M : xM} {c : Nat} (hc : c < 2 ^ 31) (h0 : Inv M.1 c) : aR2 c (fX9_ahead v l M) (fX10_ahead v l) := by
  unfold fX9_ahead
  rcases va_tri v with h | ⟨a, ha, rfl⟩
  · rw [isVa_out h]
    simp only [some_bind, ↓reduceIte]
    exact ⟨_, _, _, rfl, by unfold fX10_ahead; simp only [isIn_07_out h, some_bind, ↓reduceIte], c, by omega, h0⟩
  · have hb : xinb (nI a) 8 = true := xinb_nI ha (by decide)
    have hac : (nI a).toNatClampNeg = a := nI_clamp (by omega)
    obtain ⟨M1, a1, a2, a3, a4, a5⟩ := openBooks_eq hc h0
    have hI1 := a3.1
    obtain ⟨n, hn, hnn⟩ := hI1.n
    have hn1 : M1.1 1 3 = nI n := by rw [hI1.net.1]; exact hnn
    have hst : ∀ d, d < 64 → sAh M1.1 a l (64 - d) = if sFl M1.1 a (nI d) 8 ≤ l then sAh M1.1 a l (64 - (d + 1)) else nI d := by
      intro d hd
      have := sAh_s M1.1 a l (63 - d)
      rw [show 63 - d + 1 = 64 - d by omega, show 64 - (64 - d) = d by omega, show 63 - d = 64 - (d + 1) by omega] at this
      exact this
    have k9 : lp (fun (s6 : Int32) (kk7 : Int32 → Option (Int32 × xM)) =>
      if (64:Int32) ≤ s6 then
        some ((-1:Int32), M1)
      else
        if xinb (nI a) 8 then
          (fX4_flowOf (nI a).toNatClampNeg s6 M1).bind fun v10 =>
          if (lg_cmp v10 l) ≤ 0 then
            kk7 (s6 + 1)
          else
            some (s6, M1)
        else none) xfu (nI n) = some (sAh M1.1 a l (64 - n), M1) := by
      refine lp_run (fun s => ∃ d, d ≤ 64 ∧ s = nI d ∧ sAh M1.1 a l (64 - d) = sAh M1.1 a l (64 - n)) (fun s => 65 - s.toNatClampNeg) _ ?_ xfu _ ⟨n, by omega, rfl, rfl⟩ (by unfold xfu; show 65 - _ < 1000; omega)
      rintro s kk ⟨d, hd, rfl, h1⟩ hkk
      by_cases e1 : d = 64
      · subst e1
        have g1 : (64:Int32) ≤ nI 64 := by decide
        simp only [g1, ↓reduceIte]
        rw [← h1]
        rfl
      · have hd : d < 64 := by omega
        have g1 : ¬ (64:Int32) ≤ nI d := nI_ge (b := 64) hd (by decide)
        have hdc : (nI d).toNatClampNeg = d := nI_clamp (by omega)
        have hdc1 : (nI (d + 1)).toNatClampNeg = d + 1 := nI_clamp (by omega)
        have hs := hst d hd
        simp only [g1, hb, hac, flowC_eq ha hI1 a4, some_bind, ↓reduceIte, nI_1, lg_cmp_le]
        by_cases e2 : sFl M1.1 a (nI d) 8 ≤ l
        · rw [if_pos e2] at hs ⊢
          exact hkk _ ⟨d + 1, by omega, rfl, by rw [← hs, h1]⟩ (by rw [hdc, hdc1]; omega)
        · rw [if_neg e2] at hs ⊢
          rw [← h1, hs]
    have k10 : ∃ M2 : xM, fX10_ahead (nI a) l M1 = some (sAh M1.1 a l (64 - n), M2) ∧ sEq M1.1 M2.1 := by
      unfold fX10_ahead
      simp only [isIn_07 ha, some_bind, bd_at, i_10, hnn, ↓reduceIte]
      refine lp_post (Q := fun o => ∃ M2 : xM, o = some (sAh M1.1 a l (64 - n), M2) ∧ sEq M1.1 M2.1) (fun s => ∃ d N, d ≤ 64 ∧ s = (nI d, N) ∧ sEq M1.1 N.1 ∧ sAh M1.1 a l (64 - d) = sAh M1.1 a l (64 - n)) (fun s => 65 - s.1.toNatClampNeg) ?_ xfu _ ⟨n, M1, by omega, rfl, fun _ _ _ => rfl, rfl⟩ (by unfold xfu; show 65 - _ < 1000; omega)
      rintro s kk ⟨d, N, hd, rfl, he, h1⟩ hkk
      by_cases e1 : d = 64
      · subst e1
        have g1 : (64:Int32) ≤ nI 64 := by decide
        simp only [g1, ↓reduceIte]
        rw [← h1]
        exact ⟨N, rfl, he⟩
      · have hd : d < 64 := by omega
        have g1 : ¬ (64:Int32) ≤ nI d := nI_ge (b := 64) hd (by decide)
        have hdc : (nI d).toNatClampNeg = d := nI_clamp (by omega)
        have hdc1 : (nI (d + 1)).toNatClampNeg = d + 1 := nI_clamp (by omega)
        have hs := hst d hd
        obtain ⟨N', b1, b2⟩ := flow0_eq (M := N) (day := nI d) ha (sWf_c he hI1.swf)
        rw [sFl_c he] at b1
        simp only [g1, b1, some_bind, ↓reduceIte, nI_1, lg_cmp_le]
        by_cases e2 : sFl M1.1 a (nI d) 8 ≤ l
        · rw [if_pos e2] at hs ⊢
          exact hkk _ ⟨d + 1, N', by omega, rfl, sEq_t he b2, by rw [← hs, h1]⟩ (by simp only [hdc, hdc1]; omega)
        · rw [if_neg e2] at hs ⊢
          rw [← h1, hs]
          exact ⟨N', rfl, sEq_t he b2⟩
    obtain ⟨M2, b1, b2⟩ := k10
    rw [isVa_1 ha, a1]
    simp only [some_bind, bd_at, i_10, hn1, ↓reduceIte]
    exact ⟨_, _, M2, k9, b1, c, by omega, Inv_q (qE_s b2) a3⟩
