theorem xwl_at (M : xM) (i k a b : Nat) (v : Int64) : (xwl M i k v).2 a b = if a = i ∧ b = k then v else M.2 a b := rfl
abbrev sWeeksR (M : xM) (k : Nat) (o : Option xM) : Prop := ∃ M' : xM, o = some M' ∧ sEq M.1 M'.1 ∧ ∀ w, w < 8 → M'.2 189 w = sWk M.1 k w true 7 ∧ M'.2 190 w = sWk M.1 k w false 7
theorem weeks_eq {k : Nat} {M : xM} (hk : k < 16) (hh : sH M.1) : sWeeksR M k (fX10_weeks (nI k) M) := by
  unfold fX10_weeks
  refine lp_post (Q := sWeeksR M k) (fun s => ∃ (i : Nat) (N : xM), i ≤ 8 ∧ s = (nI i, N) ∧ sEq M.1 N.1 ∧ ∀ w, w < i → N.2 189 w = sWk M.1 k w true 7 ∧ N.2 190 w = sWk M.1 k w false 7) (fun s => 8 - s.1.toNatClampNeg) ?_ xfu _ ⟨0, M, by omega, rfl, fun _ _ _ => rfl, fun w h => absurd h (by omega)⟩ (by unfold xfu; show 8 - _ < 1000; omega)
  rintro s kk ⟨i, N, hi, rfl, he, h2⟩ hkk
  by_cases e5 : i = 8
  · subst e5
    have g1 : (8:Int32) ≤ nI 8 := by decide
    simp only [g1, ↓reduceIte]
    exact ⟨N, rfl, he, h2⟩
  · have hi : i < 8 := by omega
    have g1 : ¬ (8:Int32) ≤ nI i := nI_ge (b := 8) hi (by decide)
    have hb : xinb (nI i) 8 = true := xinb_nI (by omega) (by decide)
    have hc4 : (nI i).toNatClampNeg = i := nI_clamp (by omega)
    have hc5 : (nI (i + 1)).toNatClampNeg = i + 1 := nI_clamp (by omega)
    simp only [g1, hb, hc4, bd_at, ↓reduceIte, nI_1]
    obtain ⟨N1, h3, h4, h5⟩ := weekOf_eq (own := true) (M := N) hk hi (sH_c he hh)
    simp only [↓reduceIte] at h3
    rw [h3, some_bind]
    have he1 := sEq_t he h4
    obtain ⟨N2, h6, h7, h8⟩ := weekOf_eq (own := false) (M := xwl N1 189 i (sWk N.1 k i true 7)) hk hi (sH_c he1 hh)
    simp only [↓reduceIte, reduceCtorEq] at h6
    rw [h6, some_bind]
    have he2 : sEq M.1 N2.1 := sEq_t he1 h7
    refine hkk _ ⟨i + 1, _, by omega, rfl, he2, fun w hw => ?_⟩ (by simp only [hc4, hc5]; omega)
    rw [xwl_at, xwl_at, h8, xwl_at, xwl_at, h5]
    by_cases e6 : w = i
    · subst e6
      have e1 : ¬ (189 = 190 ∧ w = w) := by omega
      simp only [e1, and_self, ↓reduceIte]
      exact ⟨sWk_c he k w true 7, sWk_c he1 k w false 7⟩
    · simp only [e6, and_false, ↓reduceIte]
      exact h2 w (by omega)
/-- sums of weeks, and how far two rows lie apart -/
def sSm (r : Nat → Int64) (a : Nat) : Nat → Int64
  | 0 => 0
  | n + 1 => sSm r a n + r (a + n)
abbrev lAbs (x : Int64) : Int64 := if 0 ≤ x then x else -x
def sAm (A B : Nat → Int64) (ta tb : Int64) (a : Nat) : Nat → Int64
  | 0 => 0
  | n + 1 => sAm A B ta tb a n + lAbs (if tb = 0 then A (a + n) else A (a + n) * tb - B (a + n) * ta)
def sAp (A B : Nat → Int64) (a n : Nat) : Int64 :=
  if sSm B a n = 0 then sAm A B (sSm A a n) (sSm B a n) a n * 1000 else sAm A B (sSm A a n) (sSm B a n) a n * 1000 / sSm B a n
theorem apart_eq {a b : Nat} {M : xM} (hab : a ≤ b) (hb8 : b ≤ 8) : fX10_apart (nI a) (nI b) M = some (sAp (M.2 189) (M.2 190) a (b - a)) := by
  unfold fX10_apart
  refine lp_for (fun e => (sSm (M.2 189) a e, sSm (M.2 190) a e, nI (a + e))) _ (b - a) (fun e kk he hkk => ?_) (fun kk => ?_) xfu 0 (Nat.zero_le _) (by unfold xfu; omega)
  · have g1 : ¬ nI b ≤ nI (a + e) := nI_ge (by omega) (by omega)
    have hb : xinb (nI (a + e)) 8 = true := xinb_nI (by omega) (by decide)
    have hc : (nI (a + e)).toNatClampNeg = a + e := nI_clamp (by omega)
    simp only [g1, hb, hc, bd_at, ↓reduceIte, nI_1]
    exact hkk
  · have g1 : nI b ≤ nI (a + (b - a)) := nI_le (by omega) (by omega)
    simp only [g1, ↓reduceIte]
    unfold sAp
    generalize sSm (M.2 189) a (b - a) = ta
    generalize sSm (M.2 190) a (b - a) = tb
    refine lp_for (fun e => (sAm (M.2 189) (M.2 190) ta tb a e, nI (a + e))) _ (b - a) (fun e kk2 he hkk => ?_) (fun kk2 => ?_) xfu 0 (Nat.zero_le _) (by unfold xfu; omega)
    · have g2 : ¬ nI b ≤ nI (a + e) := nI_ge (by omega) (by omega)
      have hb : xinb (nI (a + e)) 8 = true := xinb_nI (by omega) (by decide)
      have hc : (nI (a + e)).toNatClampNeg = a + e := nI_clamp (by omega)
      simp only [g2, hb, hc, jn_at, bd_at, ↓reduceIte, nI_1, lg_cmp_eq, lg_cmp_ge]
      have hs : sAm (M.2 189) (M.2 190) ta tb a (e + 1) = sAm (M.2 189) (M.2 190) ta tb a e + lAbs (if tb = 0 then M.2 189 (a + e) else M.2 189 (a + e) * tb - M.2 190 (a + e) * ta) := rfl
      simp only [hs, lAbs] at hkk
      by_cases e1 : tb = 0
      · simp only [e1, ↓reduceIte] at hkk ⊢
        by_cases e2 : 0 ≤ M.2 189 (a + e)
        · simp only [e2, ↓reduceIte] at hkk ⊢
          exact hkk
        · simp only [e2, ↓reduceIte] at hkk ⊢
          exact hkk
      · simp only [e1, ↓reduceIte] at hkk ⊢
        by_cases e2 : 0 ≤ M.2 189 (a + e) * tb - M.2 190 (a + e) * ta
        · simp only [e2, ↓reduceIte] at hkk ⊢
          exact hkk
        · simp only [e2, ↓reduceIte] at hkk ⊢
          exact hkk
    · simp only [g1, ↓reduceIte, lg_cmp_eq]
      by_cases e1 : tb = 0
      · simp only [e1, ↓reduceIte]
      · simp only [e1, ↓reduceIte]
