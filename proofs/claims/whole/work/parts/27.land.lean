/-! ===== numbers, owners of squares, rain, flow ===== -/
def sNum (m : sm) (k d : Nat) : Int32 :=
  if m 171 k = 3 then sSpr m k d
  else if sTr m k d = -1 then (if sMend m k d = -1 then sR m k d else sMend m k d) else sTr m k d
theorem sNum_c {m m' : sm} (e : sEq m m') (k d : Nat) : sNum m' k d = sNum m k d := by
  simp only [sNum, sSpr_c e, sTr_c e, sMend_c e, sR, sRaw_c e, e 171 _ (by decide)]
theorem number0_eq {k d : Nat} {M : xM} (hk : k < 16) (hd : d < 56) (hh : sH M.1) (hn : sN M.1) (hf : sF M.1 k) : sIntR M (sNum M.1 k d) (fX10_number0 (nI k) (nI d) M) := by
  have hb : xinb (nI k) 16 = true := xinb_nI hk (by decide)
  have hc : (nI k).toNatClampNeg = k := nI_clamp (by omega)
  unfold fX10_number0 sNum
  simp only [hb, hc, ↓reduceIte]
  by_cases e1 : M.1 171 k = 3
  · simp only [e1, ↓reduceIte]
    obtain ⟨M1, h1, h2⟩ := spread_eq (M := M) hk hd hh hf
    rw [h1]
    exact ⟨M1, rfl, h2⟩
  · simp only [e1, ↓reduceIte]
    rw [trusted_eq hk hd hh, some_bind]
    by_cases e2 : sTr M.1 k d = -1
    · obtain ⟨M1, h1, h2⟩ := mended_eq (M := M) hk hd hh hn
      simp only [e2, h1, some_bind, ↓reduceIte]
      by_cases e3 : sMend M.1 k d = -1
      · simp only [e3, ↓reduceIte]
        rw [raw0_eq hk hd (sH_c h2 hh), some_bind]
        refine ⟨M1, ?_, h2⟩
        rw [sR, sRaw_c h2]
      · simp only [e3, ↓reduceIte]
        exact ⟨M1, rfl, h2⟩
    · simp only [e2, ↓reduceIte]
      exact ⟨M, rfl, fun _ _ _ => rfl⟩
/-- of the first places that tell the nearest one -/
def sOw (tl : Nat → Bool) (f : Nat → Int32) : Nat → Option Nat
  | 0 => none
  | p + 1 => if tl p = false then sOw tl f p else
    match sOw tl f p with
    | none => some p
    | some b => if f b ≤ f p then some b else some p
theorem sOw_lt {tl : Nat → Bool} {f : Nat → Int32} {b : Nat} : ∀ n, sOw tl f n = some b → b < n ∧ tl b = true
  | 0, h => by simp [sOw] at h
  | n + 1, h => by
    unfold sOw at h
    split at h
    · have := sOw_lt n h
      exact ⟨by omega, this.2⟩
    · rename_i e1
      have e1 : tl n = true := by simpa using e1
      cases hh : sOw tl f n with
      | none => rw [hh] at h; simp only [Option.some.injEq] at h; exact ⟨by omega, h ▸ e1⟩
      | some c =>
        rw [hh] at h
        have := sOw_lt n hh
        simp only at h
        split at h
        · simp only [Option.some.injEq] at h; exact ⟨by omega, h ▸ this.2⟩
        · simp only [Option.some.injEq] at h; exact ⟨by omega, h ▸ e1⟩
/-- someone tells -/
def sIt (tl : Nat → Bool) : Nat → Bool
  | 0 => false
  | p + 1 => sIt tl p || tl p
theorem sOw_it (tl : Nat → Bool) (f : Nat → Int32) : ∀ n, (sOw tl f n).isSome = sIt tl n
  | 0 => rfl
  | n + 1 => by
    unfold sOw sIt
    rw [← sOw_it tl f n]
    cases h : tl n with
    | false => simp
    | true =>
      cases sOw tl f n with
      | none => simp
      | some b => simp only [reduceCtorEq, ↓reduceIte]; split <;> simp
abbrev sOwn (m : sm) (x y : Int32) (d : Nat) : Option Nat := sOw (fun k => sTl m k d) (fun k => sFar m k x y) 16
theorem sOwn_c {m m' : sm} (e : sEq m m') (x y : Int32) (d : Nat) : sOwn m' x y d = sOwn m x y d := by
  simp only [sOwn, sTl_c e, sFar_c e]
theorem owner_eq {x y : Int32} {d : Nat} {M : xM} (hd : d < 56) (hh : sH M.1) : fX10_owner x y (nI d) M = some (oI (sOwn M.1 x y d)) := by
  have h10 : ¬ (1:Int32) = 0 := by decide
  unfold fX10_owner
  refine lp_for (fun p => (oI (sOw (fun k => sTl M.1 k d) (fun k => sFar M.1 k x y) p), nI p)) _ 16 (fun p kk hp hkk => ?_) (fun kk => ?_) xfu 0 (by decide) (by unfold xfu; omega)
  · have g1 : ¬ (16:Int32) ≤ nI p := nI_ge (b := 16) hp (by decide)
    simp only [g1, ↓reduceIte, nI_1]
    rw [tells_eq hp hd hh, some_bind]
    simp only [sOw] at hkk
    rcases Bool.eq_false_or_eq_true (sTl M.1 p d) with e1 | e1
    · simp only [e1, h10, ↓reduceIte, reduceCtorEq] at hkk ⊢
      cases e2 : sOw (fun k => sTl M.1 k d) (fun k => sFar M.1 k x y) p with
      | none =>
        simp only [e2, oI, ↓reduceIte] at hkk ⊢
        exact hkk
      | some b =>
        have hb := (sOw_lt p e2).1
        have hb1 : ¬ nI b = -1 := nI_nm1 (by omega)
        simp only [e2, oI, hb1, ↓reduceIte] at hkk ⊢
        rw [far_eq hp, far_eq (show b < 16 by omega)]
        simp only [some_bind]
        by_cases e3 : sFar M.1 b x y ≤ sFar M.1 p x y
        · simp only [e3, ↓reduceIte] at hkk ⊢
          exact hkk
        · simp only [e3, ↓reduceIte] at hkk ⊢
          exact hkk
    · simp only [e1, ↓reduceIte, reduceCtorEq] at hkk ⊢
      exact hkk
  · have g1 : (16:Int32) ≤ nI 16 := by decide
    simp only [g1, ↓reduceIte]
def sMn (m : sm) (v : Nat) : Nat → Nat
  | 0 => 0
  | s + 1 => if m 186 (100 * v + s) = 0 then sMn m v s else sMn m v s + 1
theorem sMn_le (m : sm) (v : Nat) : ∀ n, sMn m v n ≤ n
  | 0 => Nat.le_refl _
  | n + 1 => by
    have := sMn_le m v n
    unfold sMn
    split <;> omega
theorem nI_100 (v s : Nat) : (100:Int32) * nI v + nI s = nI (100 * v + s) := by
  show nI 100 * nI v + nI s = _
  rw [pk_mul, nI_add]
theorem many_eq {v : Nat} {M : xM} (hv : v < 8) : fX10_many (nI v) M = some (nI (sMn M.1 v 100)) := by
  unfold fX10_many
  refine lp_for (fun s => (nI (sMn M.1 v s), nI s)) _ 100 (fun s kk hs hkk => ?_) (fun kk => ?_) xfu 0 (by decide) (by unfold xfu; omega)
  · have g1 : ¬ (100:Int32) ≤ nI s := nI_ge (b := 100) hs (by decide)
    have hb : xinb (nI (100 * v + s)) 800 = true := xinb_nI (by omega) (by decide)
    have hc : (nI (100 * v + s)).toNatClampNeg = 100 * v + s := nI_clamp (by omega)
    simp only [g1, nI_100, hb, hc, ↓reduceIte, nI_1, bd_at, Int32.add_zero]
    have hs1 : sMn M.1 v (s + 1) = if M.1 186 (100 * v + s) = 0 then sMn M.1 v s else sMn M.1 v s + 1 := rfl
    simp only [hs1] at hkk
    by_cases e1 : M.1 186 (100 * v + s) = 0
    · simp only [e1, ↓reduceIte] at hkk ⊢
      exact hkk
    · simp only [e1, ↓reduceIte] at hkk ⊢
      exact hkk
  · have g1 : (100:Int32) ≤ nI 100 := by decide
    simp only [g1, ↓reduceIte]
theorem isTold_eq {d : Nat} {M : xM} (hd : d < 56) (hh : sH M.1) : fX10_isTold (nI d) M = some (if sIt (fun k => sTl M.1 k d) 16 = true then 1 else 0) := by
  have h10 : ¬ (1:Int32) = 0 := by decide
  unfold fX10_isTold
  refine lp_for (fun p => (if sIt (fun k => sTl M.1 k d) p = true then 1 else 0, nI p)) _ 16 (fun p kk hp hkk => ?_) (fun kk => ?_) xfu 0 (by decide) (by unfold xfu; omega)
  · have g1 : ¬ (16:Int32) ≤ nI p := nI_ge (b := 16) hp (by decide)
    simp only [g1, ↓reduceIte, nI_1]
    simp only [sIt] at hkk
    rcases Bool.eq_false_or_eq_true (sIt (fun k => sTl M.1 k d) p) with e1 | e1
    · simp only [e1, h10, ↓reduceIte, Bool.true_or] at hkk ⊢
      exact hkk
    · simp only [e1, ↓reduceIte, Bool.false_or, reduceCtorEq] at hkk ⊢
      rw [tells_eq hp hd hh, some_bind]
      rcases Bool.eq_false_or_eq_true (sTl M.1 p d) with e2 | e2
      · simp only [e2, h10, ↓reduceIte] at hkk ⊢
        exact hkk
      · simp only [e2, ↓reduceIte, reduceCtorEq] at hkk ⊢
        exact hkk
  · have g1 : (16:Int32) ≤ nI 16 := by decide
    simp only [g1, ↓reduceIte]
    have h1 : xbo (if sIt (fun k => sTl M.1 k d) 16 = true then 1 else 0) = true := by split <;> decide
    rw [h1]
    simp only [↓reduceIte]
abbrev sSq (m : sm) (s d : Nat) : Option Nat := sOwn m (nI (s / 10)) (nI (s % 10)) d
def sRn (m : sm) (v d : Nat) : Nat → Int32
  | 0 => 0
  | s + 1 => if m 186 (100 * v + s) = 0 then sRn m v d s else sRn m v d s + (match sSq m s d with | none => 0 | some b => sNum m b d)
def sRain (m : sm) (v : Nat) (day : Int32) : Int32 :=
  if day < 0 ∨ 55 < day ∨ sMn m v 100 = 0 ∨ sIt (fun k => sTl m k day.toNatClampNeg) 16 = false then -1 else sRn m v day.toNatClampNeg 100
theorem sRn_c {m m' : sm} (e : sEq m m') (v d : Nat) : ∀ n, sRn m' v d n = sRn m v d n
  | 0 => rfl
  | n + 1 => by simp only [sRn, sRn_c e v d n, sSq, sOwn_c e, sNum_c e, e 186 _ (by decide)]
theorem sMn_c {m m' : sm} (e : sEq m m') (v : Nat) : ∀ n, sMn m' v n = sMn m v n
  | 0 => rfl
  | n + 1 => by simp only [sMn, sMn_c e v n, e 186 _ (by decide)]
theorem sRain_c {m m' : sm} (e : sEq m m') (v : Nat) (day : Int32) : sRain m' v day = sRain m v day := by
  simp only [sRain, sMn_c e, sTl_c e, sRn_c e]
theorem nI_d10 {s : Nat} (h : s < 100) : nI s / (10:Int32) = nI (s / 10) := pk_div (d := 10) (by omega) (by decide) (by decide)
theorem nI_m10 {s : Nat} (h : s < 100) : nI s - nI (s / 10) * (10:Int32) = nI (s % 10) := by
  show nI s - nI (s / 10) * nI 10 = _
  rw [pk_mul]
  have : nI s = nI (s % 10) + nI (s / 10 * 10) := by
    rw [nI_add]
    congr 1
    omega
  rw [this, Int32.add_sub_cancel]
theorem rain0_eq {v : Nat} {day : Int32} {M : xM} (hv : v < 8) (hh : sH M.1) (hn : sN M.1) (hf : ∀ k, k < 16 → sF M.1 k) : sIntR M (sRain M.1 v day) (fX10_rain0 (nI v) day M) := by
  have h10 : ¬ (1:Int32) = 0 := by decide
  have hten : ¬ (10:Int32) = 0 := by decide
  unfold fX10_rain0 sRain
  by_cases e1 : day < 0
  · rw [isIn_0 (Or.inl e1)]
    simp only [some_bind, e1, true_or, ↓reduceIte]
    exact ⟨M, rfl, fun _ _ _ => rfl⟩
  · by_cases e2 : 55 < day
    · rw [isIn_0 (Or.inr e2)]
      simp only [some_bind, e2, true_or, or_true, ↓reduceIte]
      exact ⟨M, rfl, fun _ _ _ => rfl⟩
    · rw [isIn_1 e1 e2]
      obtain ⟨d, hd, rfl⟩ := nI_of2 (M := 55) (n := 55) (by decide) e1 (Int32.not_lt.mp e2)
      have hc : (nI d).toNatClampNeg = d := nI_clamp (by omega)
      simp only [some_bind, h10, e1, e2, hc, false_or, ↓reduceIte, many_eq hv]
      have hml := sMn_le M.1 v 100
      by_cases e3 : sMn M.1 v 100 = 0
      · have g1 : nI (sMn M.1 v 100) = 0 := by rw [e3]; decide
        simp only [g1, e3, true_or, ↓reduceIte]
        exact ⟨M, rfl, fun _ _ _ => rfl⟩
      · have g1 : ¬ nI (sMn M.1 v 100) = 0 := nI_ne (b := 0) (by omega) (by decide) e3
        simp only [g1, e3, false_or, ↓reduceIte]
        rw [isTold_eq (by omega) hh, some_bind]
        rcases Bool.eq_false_or_eq_true (sIt (fun k => sTl M.1 k d) 16) with e4 | e4
        · simp only [e4, h10, ↓reduceIte, reduceCtorEq]
          refine lp_post (Q := sIntR M (sRn M.1 v d 100)) (fun s => ∃ (i : Nat) (N : xM), i ≤ 100 ∧ s = (sRn M.1 v d i, nI i, N) ∧ sEq M.1 N.1) (fun s => 100 - s.2.1.toNatClampNeg) ?_ xfu _ ⟨0, M, by omega, rfl, fun _ _ _ => rfl⟩ (by unfold xfu; show 100 - _ < 1000; omega)
          rintro s kk ⟨i, N, hi, rfl, he⟩ hkk
          by_cases e5 : i = 100
          · subst e5
            have g1 : (100:Int32) ≤ nI 100 := by decide
            simp only [g1, ↓reduceIte]
            exact ⟨N, rfl, he⟩
          · have hi : i < 100 := by omega
            have g1 : ¬ (100:Int32) ≤ nI i := nI_ge (b := 100) hi (by decide)
            have hb : xinb (nI (100 * v + i)) 800 = true := xinb_nI (by omega) (by decide)
            have hc3 : (nI (100 * v + i)).toNatClampNeg = 100 * v + i := nI_clamp (by omega)
            have hc4 : (nI i).toNatClampNeg = i := nI_clamp (by omega)
            have hc5 : (nI (i + 1)).toNatClampNeg = i + 1 := nI_clamp (by omega)
            simp only [g1, nI_100, hb, hc3, ↓reduceIte, nI_1, he 186 _ (show 186 < 187 by decide)]
            by_cases e6 : M.1 186 (100 * v + i) = 0
            · simp only [e6, ↓reduceIte]
              exact hkk _ ⟨i + 1, N, by omega, by simp only [sRn, e6, ↓reduceIte], he⟩ (by simp only [hc4, hc5]; omega)
            · simp only [e6, hten, nI_d10 hi, nI_m10 hi, ↓reduceIte]
              rw [owner_eq (by omega) (sH_c he hh), some_bind]
              have hso := sOw_it (fun k => sTl M.1 k d) (fun k => sFar M.1 k (nI (i / 10)) (nI (i % 10))) 16
              rw [e4] at hso
              rw [sOwn_c he]
              cases e7 : sOwn M.1 (nI (i / 10)) (nI (i % 10)) d with
              | none =>
                unfold sOwn at e7
                rw [e7] at hso
                simp at hso
              | some b =>
                have hb16 := (sOw_lt 16 e7).1
                obtain ⟨N1, h1, h2⟩ := number0_eq (M := N) (k := b) (d := d) hb16 (by omega) (sH_c he hh) (by obtain ⟨a, h1, h2⟩ := hn; exact ⟨a, h1, (he 170 15 (by decide)).trans h2⟩) (by obtain ⟨a, h1, h2⟩ := hf b hb16; exact ⟨a, h1, (he 175 b (by decide)).trans h2⟩)
                simp only [oI, h1, some_bind, bd_at, sNum_c he]
                exact hkk _ ⟨i + 1, N1, by omega, by simp only [sRn, e6, sSq, e7, ↓reduceIte], sEq_t he h2⟩ (by simp only [hc4, hc5]; omega)
        · simp only [e4, ↓reduceIte, reduceCtorEq]
          exact ⟨M, rfl, fun _ _ _ => rfl⟩
