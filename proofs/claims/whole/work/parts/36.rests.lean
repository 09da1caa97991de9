abbrev sRestR (M : xM) (r base : Nat → Int32) (k a n l : Nat) (o : Option xM) : Prop := ∃ M' : xM, o = some M' ∧ M'.2 = M.2 ∧ (∀ e, e < n → M'.1 (124 + 1 + k) (a + e) = base (a + e) + (if sRk r a (a + e) n < l then 1 else 0)) ∧ ∀ j i, ¬ j = 141 → ¬ (j = 124 + 1 + k ∧ a ≤ i ∧ i < a + n) → M'.1 j i = M.1 j i
theorem rest_eq {k a u n l : Nat} {r base : Nat → Int32} {M : xM} (hk : k < 16) (hau : a ≤ u) (hu : u < 56) (hn : n = u + 1 - a) (hl : l ≤ n) (hr : ∀ e, e < n → 0 ≤ r (a + e)) (h1 : ∀ e, e < n → M.1 141 (a + e) = r (a + e)) (h2 : ∀ e, e < n → M.1 (124 + 1 + k) (a + e) = base (a + e)) : sRestR M r base k a n l (fX0_spreadRest (nI k) (nI a) (nI u) (nI l) M) := by
  have hb : xinb (nI k) 16 = true := xinb_nI hk (by decide)
  have hc : (nI k).toNatClampNeg = k := nI_clamp (by omega)
  unfold fX0_spreadRest
  refine lp_post (Q := sRestR M r base k a n l) (fun s => ∃ (S : Nat → Bool) (i : Nat) (N : xM), s = (nI i, N) ∧ sDown r S a n ∧ sCn S a n = i ∧ i ≤ l ∧ N.2 = M.2 ∧ (∀ e, e < n → N.1 141 (a + e) = sLeft r S (a + e)) ∧ (∀ e, e < n → N.1 (124 + 1 + k) (a + e) = base (a + e) + (if S (a + e) = true then 1 else 0)) ∧ ∀ j i, ¬ j = 141 → ¬ (j = 124 + 1 + k ∧ a ≤ i ∧ i < a + n) → N.1 j i = M.1 j i) (fun s => 57 - s.1.toNatClampNeg) ?_ xfu _ ⟨fun _ => false, 0, M, rfl, fun e d _ _ h => absurd h (by simp), ?_, by omega, rfl, fun e he => by rw [h1 e he]; rfl, fun e he => by rw [h2 e he, if_neg (by simp), Int32.add_zero], fun _ _ _ _ => rfl⟩ (by unfold xfu; show 57 - _ < 1000; omega)
  rotate_left
  · have : ∀ m, sCn (fun _ => false) a m = 0 := by
      intro m
      induction m with
      | zero => rfl
      | succ m ih =>
        have E : sCn (fun _ => false) a (m + 1) = if (false : Bool) = true then sCn (fun _ => false) a m + 1 else sCn (fun _ => false) a m := rfl
        rw [E, if_neg (by simp), ih]
    exact this n
  rintro s kk ⟨S, i, N, rfl, hS, hcn, hil, hN2, hN1, hNb, hNo⟩ hkk
  by_cases e1 : i = l
  · have g1 : nI l ≤ nI i := by rw [e1]; exact Int32.le_refl _
    simp only [g1, ↓reduceIte]
    refine ⟨N, rfl, hN2, fun e he => ?_, hNo⟩
    rw [hNb e he]
    have := greedy_mem hS he
    rw [hcn, e1] at this
    by_cases e2 : S (a + e) = true
    · rw [if_pos e2, if_pos (this.mp e2)]
    · rw [if_neg e2, if_neg (fun h => e2 (this.mpr h))]
  · have g1 : ¬ nI l ≤ nI i := nI_ge (by omega) (by omega)
    simp only [g1, bd_at, ↓reduceIte, nI_1]
    refine lp_post (Q := sRestR M r base k a n l) (fun s => ∃ b e, 1 ≤ e ∧ e ≤ n ∧ b < e ∧ s = (nI (a + b), nI (a + e)) ∧ (∀ x, x < e → sLeft r S (a + x) ≤ sLeft r S (a + b)) ∧ (∀ x, x < b → sLeft r S (a + x) < sLeft r S (a + b))) (fun s => 57 - s.2.toNatClampNeg) ?_ xfu _ ⟨0, 1, by omega, by omega, by omega, rfl, fun x hx => by rw [show x = 0 by omega]; exact Int32.le_refl _, fun x hx => absurd hx (by omega)⟩ (by unfold xfu; show 57 - _ < 1000; omega)
    rintro s kk2 ⟨b, e, he1, hen, hbe, rfl, hx1, hx2⟩ hkk2
    have hbb : xinb (nI (a + b)) 56 = true := xinb_nI (by omega) (by decide)
    have hbc : (nI (a + b)).toNatClampNeg = a + b := nI_clamp (by omega)
    by_cases e2 : e = n
    · have g2 : nI u < nI (a + e) := nI_lt (by omega) (by omega)
      simp only [g2, hb, hbb, hbc, hc, ↓reduceIte]
      have hg := greedy_step hr hS (by omega) (show b < n by omega) (fun x hx => hx1 x (by omega)) hx2
      refine hkk _ ⟨fun x => S x || x == a + b, i + 1, _, rfl, hg.2.1, by rw [hg.2.2, hcn], by omega, hN2, fun x hx => ?_, fun x hx => ?_, fun j y hj hy => ?_⟩ (by show 57 - (nI (i + 1)).toNatClampNeg < 57 - (nI i).toNatClampNeg; rw [nI_clamp (by omega), nI_clamp (by omega)]; omega)
      · rw [xw_at, xw_at]
        by_cases e3 : x = b
        · rw [e3, if_pos ⟨rfl, rfl⟩]
          show _ = if (S (a + b) || a + b == a + b) = true then (-1:Int32) else r (a + b)
          rw [if_pos (by simp)]
        · rw [if_neg (by omega), if_neg (by omega), hN1 x hx]
          have : (a + x == a + b) = false := by simp; omega
          show (if S (a + x) = true then (-1:Int32) else r (a + x)) = if (S (a + x) || a + x == a + b) = true then (-1:Int32) else r (a + x)
          rw [this, Bool.or_false]
      · rw [xw_at, xw_at]
        by_cases e3 : x = b
        · rw [e3, if_neg (by omega), if_pos ⟨rfl, rfl⟩, hNb b (by omega), hg.1]
          show base (a + b) + (if false = true then (1:Int32) else 0) + 1 = base (a + b) + if (S (a + b) || a + b == a + b) = true then (1:Int32) else 0
          rw [if_neg (by simp), if_pos (by simp), Int32.add_zero]
        · rw [if_neg (by omega), if_neg (by omega), hNb x hx]
          have : (a + x == a + b) = false := by simp; omega
          show base (a + x) + (if S (a + x) = true then (1:Int32) else 0) = base (a + x) + if (S (a + x) || a + x == a + b) = true then (1:Int32) else 0
          rw [this, Bool.or_false]
      · rw [xw_at, xw_at, if_neg (by omega), if_neg (by omega)]
        exact hNo j y hj hy
    · have g2 : ¬ nI u < nI (a + e) := nI_nlt (by omega) (by omega)
      have heb : xinb (nI (a + e)) 56 = true := xinb_nI (by omega) (by decide)
      have hec : (nI (a + e)).toNatClampNeg = a + e := nI_clamp (by omega)
      have hm : 57 - (nI (a + (e + 1))).toNatClampNeg < 57 - (nI (a + e)).toNatClampNeg := by
        rw [nI_clamp (by omega), nI_clamp (by omega)]; omega
      simp only [g2, heb, hbb, hec, hbc, hN1 e (by omega), hN1 b (by omega), ↓reduceIte, nI_1]
      by_cases e3 : sLeft r S (a + e) ≤ sLeft r S (a + b)
      · rw [if_pos e3]
        refine hkk2 _ ⟨b, e + 1, by omega, by omega, by omega, rfl, fun x hx => ?_, hx2⟩ hm
        by_cases e4 : x = e
        · rw [e4]; exact e3
        · exact hx1 x (by omega)
      · rw [if_neg e3]
        have e5 := Int32.not_le.mp e3
        refine hkk2 _ ⟨e, e + 1, by omega, by omega, by omega, rfl, fun x hx => ?_, fun x hx => ?_⟩ hm
        · by_cases e4 : x = e
          · rw [e4]; exact Int32.le_refl _
          · exact Int32.le_trans (hx1 x (by omega)) (Int32.le_of_lt e5)
        · exact Int32.lt_of_le_of_lt (hx1 x (by omega)) e5
