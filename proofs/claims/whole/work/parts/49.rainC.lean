/-! ===== the class's rain and flow ===== -/
/-- what a square gives to a valley on a day -/
def sGv (m : sm) (v d : Nat) (x y : Nat) : Int32 := if m 186 (100 * v + (10 * x + y)) = 0 then 0 else (match sOwn m (nI x) (nI y) d with | none => 0 | some b => sNum m b d)
theorem sRn_q (m : sm) (v d : Nat) (n : Nat) : sRn m v d n = sQ (fun s => sGv m v d (s / 10) (s % 10)) n := by
  induction n with
  | zero => rfl
  | succ n ih =>
    have E : sRn m v d (n + 1) = if m 186 (100 * v + n) = 0 then sRn m v d n else sRn m v d n + (match sSq m n d with | none => 0 | some b => sNum m b d) := rfl
    rw [E, sQ_s, ih]
    have h10 : 10 * (n / 10) + n % 10 = n := by omega
    show _ = _ + sGv m v d (n / 10) (n % 10)
    unfold sGv
    rw [h10]
    by_cases e : m 186 (100 * v + n) = 0
    · rw [if_pos e, if_pos e, Int32.add_zero]
    · rw [if_neg e, if_neg e]
theorem sMn_some {m : sm} {v : Nat} (n : Nat) : ¬ sMn m v n = 0 → ∃ s, s < n ∧ ¬ m 186 (100 * v + s) = 0 := by
  induction n with
  | zero => intro h; exact absurd rfl h
  | succ n ih =>
    intro h
    have E : sMn m v (n + 1) = if m 186 (100 * v + n) = 0 then sMn m v n else sMn m v n + 1 := rfl
    by_cases e : m 186 (100 * v + n) = 0
    · rw [E, if_pos e] at h
      obtain ⟨s, h1, h2⟩ := ih h
      exact ⟨s, by omega, h2⟩
    · exact ⟨n, by omega, e⟩
theorem has_at {m : sm} {v s : Nat} (hV : CVl m) (hv : v < 8) (hs : s < 100) : m (148 + 2 * v + 1) s = m 186 (100 * v + (10 * (s % 10) + s / 10)) := by
  have := (hV v hv).2 (s % 10) (s / 10) (by omega) (by omega)
  rw [show s % 10 + 10 * (s / 10) = s by omega] at this
  exact this
theorem rainC_gen {v : Nat} {day : Int32} {ow : Int32 → Int32 → Option Nat} {t : Nat → Int32} {M : xM} (hv : v < 8) (hI : NInv M.1) (hm : ¬ sMn M.1 v 100 = 0) (how : ∀ x y, fX4_ownerOf x y day M = some (oI (ow x y))) (hob : ∀ x y b, ow x y = some b → b < 16) (hall : ∀ x y x' y', (ow x y).isSome = (ow x' y').isSome) (ht : ∀ q, q < 16 → fX0_toldOf (nI q) day M = some (t q)) : fX4_rainOf v day M = some (if (ow 0 0).isSome = true then sQ (fun s => if M.1 (148 + 2 * v + 1) s = 0 then 0 else (match ow (nI (s % 10)) (nI (s / 10)) with | none => 0 | some b => t b)) 100 else -1) := by
  have hten : ¬ (10:Int32) = 0 := by decide
  have hVl := hI.vl v hv
  have hml := sMn_le M.1 v 100
  have hc : ¬ M.1 (148 + 2 * v) 1 = 0 := by
    rw [hVl.1]
    exact nI_ne (b := 0) (by omega) (by decide) hm
  unfold fX4_rainOf
  rw [if_neg hc]
  by_cases e0 : (ow 0 0).isSome = true
  · rw [if_pos e0]
    generalize hf : (fun s => if M.1 (148 + 2 * v + 1) s = 0 then (0:Int32) else (match ow (nI (s % 10)) (nI (s / 10)) with | none => 0 | some b => t b)) = f
    have hfs : ∀ s, f s = if M.1 (148 + 2 * v + 1) s = 0 then (0:Int32) else (match ow (nI (s % 10)) (nI (s / 10)) with | none => 0 | some b => t b) := fun s => by rw [← hf]
    refine lp_for (fun s => (sQ f s, nI s)) _ 100 (fun s kk hs hkk => ?_) (fun kk => ?_) xfu 0 (by decide) (by unfold xfu; omega)
    · have g1 : ¬ (100:Int32) ≤ nI s := nI_ge (b := 100) hs (by decide)
      have hsb : xinb (nI s) 100 = true := xinb_nI hs (by decide)
      have hsc : (nI s).toNatClampNeg = s := nI_clamp (by omega)
      rw [sQ_s, hfs s] at hkk
      simp only [g1, hsb, hsc, hten, nI_d10 hs, nI_m10 hs, how, some_bind, bd_at, ↓reduceIte, nI_1]
      by_cases e1 : M.1 (148 + 2 * v + 1) s = 0
      · simp only [e1, ↓reduceIte, Int32.add_zero] at hkk ⊢
        exact hkk
      · simp only [e1, ↓reduceIte] at hkk ⊢
        have h1 : (ow (nI (s % 10)) (nI (s / 10))).isSome = true := by rw [hall _ _ 0 0]; exact e0
        cases h2 : ow (nI (s % 10)) (nI (s / 10)) with
        | none => rw [h2] at h1; exact absurd h1 (by simp)
        | some b =>
          have hb := hob _ _ b h2
          have hb1 : ¬ nI b = -1 := nI_nm1 (by omega)
          rw [h2] at hkk
          simp only [oI, hb1, ht b hb, some_bind, ↓reduceIte] at hkk ⊢
          exact hkk
    · have g1 : (100:Int32) ≤ nI 100 := by decide
      simp only [g1, ↓reduceIte]
  · rw [if_neg e0]
    refine lp_run (fun s => ∃ i, i ≤ 100 ∧ s = (0, nI i) ∧ ∀ j, j < i → M.1 (148 + 2 * v + 1) j = 0) (fun s => 101 - s.2.toNatClampNeg) _ ?_ xfu _ ⟨0, by omega, rfl, fun j h => absurd h (by omega)⟩ (by unfold xfu; show 101 - _ < 1000; omega)
    rintro s kk ⟨i, hi, rfl, h1⟩ hkk
    by_cases e1 : i = 100
    · exfalso
      obtain ⟨s, hs, hs2⟩ := sMn_some 100 hm
      have h2 := h1 (s / 10 + 10 * (s % 10)) (by omega)
      have h3 := hVl.2 (s / 10) (s % 10) (by omega) (by omega)
      rw [show 10 * (s / 10) + s % 10 = s by omega] at h3
      rw [h3] at h2
      exact hs2 h2
    · have hs : i < 100 := by omega
      have g1 : ¬ (100:Int32) ≤ nI i := nI_ge (b := 100) hs (by decide)
      have hsb : xinb (nI i) 100 = true := xinb_nI hs (by decide)
      have hsc : (nI i).toNatClampNeg = i := nI_clamp (by omega)
      have hsc1 : (nI (i + 1)).toNatClampNeg = i + 1 := nI_clamp (by omega)
      simp only [g1, hsb, hsc, hten, nI_d10 hs, nI_m10 hs, how, some_bind, bd_at, ↓reduceIte, nI_1]
      by_cases e2 : M.1 (148 + 2 * v + 1) i = 0
      · rw [if_pos e2]
        refine hkk _ ⟨i + 1, by omega, rfl, fun j hj => ?_⟩ (by simp only [hsc, hsc1]; omega)
        by_cases e3 : j = i
        · rw [e3]; exact e2
        · exact h1 j (by omega)
      · rw [if_neg e2]
        have h2 : ¬ (ow (nI (i % 10)) (nI (i / 10))).isSome = true := by rw [hall _ _ 0 0]; exact e0
        cases h3 : ow (nI (i % 10)) (nI (i / 10)) with
        | none => simp only [oI, ↓reduceIte]
        | some b => rw [h3] at h2; exact absurd rfl h2
theorem rainC_eq {v : Nat} {day : Int32} {M : xM} (hv : v < 8) (hI : NInv M.1) (hV : BV M.1) : fX4_rainOf v day M = some (sRain M.1 v day) := by
  have hVl := hI.vl v hv
  by_cases e0 : sMn M.1 v 100 = 0
  · unfold fX4_rainOf sRain
    rw [if_pos (show M.1 (148 + 2 * v) 1 = 0 by rw [hVl.1, e0]; decide), if_pos (Or.inr (Or.inr (Or.inl e0)))]
  · rcases i_tri day (n := 56) (by decide) with h | h | ⟨d, hd, rfl⟩
    · rw [rainC_gen (t := fun _ => -1) (ow := fun _ _ => none) hv hI e0 (fun x y => ownerC_out hI.pl (Or.inl h)) (fun x y b h => absurd h (by simp)) (fun _ _ _ _ => rfl) (fun q hq => toldOf_out hq (Or.inl h))]
      rw [if_neg (by simp)]
      unfold sRain
      rw [if_pos (Or.inl h)]
    · rw [rainC_gen (t := fun _ => -1) (ow := fun _ _ => none) hv hI e0 (fun x y => ownerC_out hI.pl (Or.inr h)) (fun x y b h => absurd h (by simp)) (fun _ _ _ _ => rfl) (fun q hq => toldOf_out hq (Or.inr h))]
      rw [if_neg (by simp)]
      unfold sRain
      have h55 : (55:Int32) < day := by
        rw [Int32.le_iff_toInt_le, nI_toInt (by decide)] at h
        rw [Int32.lt_iff_toInt_lt]
        have : (55:Int32).toInt = 55 := by decide
        omega
      rw [if_pos (Or.inr (Or.inl h55))]
    · have hso : ∀ x y : Int32, (sOwn M.1 x y d).isSome = sIt (fun k => sTl M.1 k d) 16 := fun x y => sOw_it (fun k => sTl M.1 k d) (fun k => sFar M.1 k x y) 16
      rw [rainC_gen (t := fun q => sTd M.1 q d) (ow := fun x y => sOwn M.1 x y d) hv hI e0 (fun x y => ownerC_in hd hI hV) (fun x y b h => (sOw_lt 16 h).1) (fun _ _ _ _ => by rw [hso, hso]) (fun q hq => by rw [toldOf_nI hq hd, (hV q d hq hd).2.2.2])]
      have g1 : ¬ nI d < 0 := nI_pos (by omega)
      have g2 : ¬ (55:Int32) < nI d := nI_nlt (b := d) (a := 55) (by omega) (by decide)
      have hdc : (nI d).toNatClampNeg = d := nI_clamp (by omega)
      unfold sRain
      rw [hdc]
      by_cases e1 : sIt (fun k => sTl M.1 k d) 16 = true
      · rw [if_pos (by rw [hso]; exact e1), if_neg (by simp [g1, g2, e0, e1]), sRn_q, ← sQ_turn (fun x y => sGv M.1 v d x y)]
        refine congrArg some (sQ_cong 100 (fun s hs => ?_))
        show (if M.1 (148 + 2 * v + 1) s = 0 then (0:Int32) else (match sOwn M.1 (nI (s % 10)) (nI (s / 10)) d with | none => 0 | some b => sTd M.1 b d)) = sGv M.1 v d (s % 10) (s / 10)
        unfold sGv
        rw [has_at hI.vl hv hs]
        by_cases e2 : M.1 186 (100 * v + (10 * (s % 10) + s / 10)) = 0
        · rw [if_pos e2, if_pos e2]
        · rw [if_neg e2, if_neg e2]
          cases hw : sOwn M.1 (nI (s % 10)) (nI (s / 10)) d with
          | none => rfl
          | some b =>
            have hb := sOw_lt 16 hw
            have h2 := hb.2
            rw [sTl_td hI hb.1] at h2
            exact (sNum_td (by simpa using h2)).symm
      · rw [if_neg (by rw [hso]; exact e1), if_pos (Or.inr (Or.inr (Or.inr (by simpa using e1))))]
/-! ===== how great rain is ===== -/
theorem sQ_b {f : Nat → Int32} {c : Nat} (hc : c ≤ 10000) (n : Nat) : n ≤ 100 → (∀ i, i < n → 0 ≤ (f i).toInt ∧ (f i).toInt ≤ c) → 0 ≤ (sQ f n).toInt ∧ (sQ f n).toInt ≤ c * n := by
  induction n with
  | zero =>
    intro _ _
    show 0 ≤ (0:Int32).toInt ∧ (0:Int32).toInt ≤ c * ((0 : Nat) : Int)
    rw [show (0:Int32).toInt = 0 from by decide]
    omega
  | succ n ih =>
    intro hn h
    have ih := ih (by omega) (fun i hi => h i (by omega))
    have hh := h n (by omega)
    have p : (c : Int) * n ≤ 10000 * n := Int.mul_le_mul_of_nonneg_right (by omega) (by omega)
    have e : (c : Int) * ((n + 1 : Nat) : Int) = c * n + c := by rw [Int.natCast_add, Int.mul_add]; simp
    rw [sQ_s, Int32.toInt_add, e, Int.bmod_eq_of_le (by omega) (by omega)]
    omega
theorem sRain_b {m : sm} {v : Nat} {day : Int32} (hI : NInv m) (h : ¬ sRain m v day = -1) : 0 ≤ (sRain m v day).toInt ∧ (sRain m v day).toInt ≤ 501700 := by
  unfold sRain at h ⊢
  by_cases e : day < 0 ∨ 55 < day ∨ sMn m v 100 = 0 ∨ sIt (fun k => sTl m k day.toNatClampNeg) 16 = false
  · rw [if_pos e] at h
    exact absurd rfl h
  · rw [if_neg e]
    have e1 : ¬ day < 0 := fun h => e (Or.inl h)
    have e2 : ¬ 55 < day := fun h => e (Or.inr (Or.inl h))
    obtain ⟨d, hd, rfl⟩ := nI_of2 (M := 55) (n := 55) (by decide) e1 (Int32.not_lt.mp e2)
    rw [nI_clamp (by omega), sRn_q]
    have := sQ_b (c := 5017) (f := fun s => sGv m v d (s / 10) (s % 10)) (by omega) 100 (Nat.le_refl _) (fun s hs => by
      show 0 ≤ (sGv m v d (s / 10) (s % 10)).toInt ∧ (sGv m v d (s / 10) (s % 10)).toInt ≤ ((5017 : Nat) : Int)
      have z : 0 ≤ (0:Int32).toInt ∧ (0:Int32).toInt ≤ ((5017 : Nat) : Int) := by decide
      unfold sGv
      by_cases e3 : m 186 (100 * v + (10 * (s / 10) + s % 10)) = 0
      · rw [if_pos e3]; exact z
      · rw [if_neg e3]
        cases hw : sOwn m (nI (s / 10)) (nI (s % 10)) d with
        | none => exact z
        | some b =>
          have hb := sOw_lt 16 hw
          have h2 := hb.2
          rw [sTl_td hI hb.1] at h2
          have h3 : ¬ sTd m b d = -1 := by simpa using h2
          show 0 ≤ (sNum m b d).toInt ∧ (sNum m b d).toInt ≤ ((5017 : Nat) : Int)
          rw [sNum_td h3]
          exact sTd_b hI hb.1 (by omega) h3)
    omega
theorem nI_4 (j : Nat) : (4:Int32) + nI j = nI (4 + j) := by
  show nI 4 + nI j = _
  rw [nI_add]
theorem flowC_eq {v : Nat} {day : Int32} {M : xM} (hv : v < 8) (hI : NInv M.1) (hV : BV M.1) : fX4_flowOf v day M = some (sFl M.1 v day 8) := by
  unfold fX4_flowOf
  refine lp_for (fun j => (sFl M.1 v day j, nI j)) _ 8 (fun j kk hj hkk => ?_) (fun kk => ?_) xfu 0 (by decide) (by unfold xfu; omega)
  · have g1 : ¬ (8:Int32) ≤ nI j := nI_ge (b := 8) hj (by decide)
    have hr : fX6_rule (nI (4 + j)) M = some (M.1 185 j) := by
      rw [rule_eq (by omega), hI.ru.2.2.2.2 j hj]
    have hs : sFl M.1 v day (j + 1) = if M.1 185 j = 0 ∨ sRain M.1 v (day - nI j) = -1 then sFl M.1 v day j else sFl M.1 v day j + (sRain M.1 v (day - nI j)).toInt64 * (M.1 185 j).toInt64 := rfl
    rw [hs] at hkk
    have z : (M.1 185 j).toInt64 = 0 ↔ M.1 185 j = 0 := by
      constructor
      · intro h
        have := congrArg Int64.toInt h
        rw [Int32.toInt_toInt64] at this
        exact Int32.toInt_inj.mp (by rw [this]; decide)
      · intro h; rw [h]; decide
    simp only [g1, nI_4, hr, rainC_eq hv hI hV, some_bind, bd_at, ↓reduceIte, nI_1, lg_cmp_eq, z]
    by_cases e1 : M.1 185 j = 0
    · simp only [e1, ↓reduceIte, true_or] at hkk ⊢
      exact hkk
    · by_cases e2 : sRain M.1 v (day - nI j) = -1
      · have g2 : ¬ (0:Int32) < -1 := by decide
        have g3 : (0:Int32).toInt64 = 0 := by decide
        simp only [e1, e2, g2, g3, ↓reduceIte, or_true, Int64.mul_zero, Int64.add_zero] at hkk ⊢
        exact hkk
      · have hb := sRain_b hI e2
        have hmx : (if (0:Int32) < sRain M.1 v (day - nI j) then sRain M.1 v (day - nI j) else 0) = sRain M.1 v (day - nI j) := by
          by_cases e3 : (0:Int32) < sRain M.1 v (day - nI j)
          · rw [if_pos e3]
          · rw [if_neg e3]
            have z0 : (0:Int32).toInt = 0 := by decide
            rw [Int32.lt_iff_toInt_lt, z0] at e3
            apply Int32.toInt_inj.mp
            omega
        simp only [e1, e2, hmx, ↓reduceIte, or_self] at hkk ⊢
        rw [Int64.mul_comm (M.1 185 j).toInt64]
        exact hkk
  · have g1 : (8:Int32) ≤ nI 8 := by decide
    simp only [g1, ↓reduceIte]
