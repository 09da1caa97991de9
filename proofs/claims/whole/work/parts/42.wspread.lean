/-! ===== the class writes what a store spreads ===== -/
theorem xv_ne {M : xM} {i k a b : Nat} {v : Int32} (h : ¬ (a = i ∧ b = k)) : (xw M i k v).1 a b = M.1 a b := by
  rw [xw_at, if_neg h]
theorem xv_eq {M : xM} {i k : Nat} {v : Int32} : (xw M i k v).1 i k = v := by
  rw [xw_at, if_pos ⟨rfl, rfl⟩]
abbrev nE (m m' : sm) : Prop := ∀ j i, (j < 72 ∨ (146 ≤ j ∧ j < 165) ∨ (170 ≤ j ∧ j < 187)) → m' j i = m j i
theorem sK_n {m m' : sm} (e : nE m m') : sK m m' := fun j i h => e j i (Or.inr (Or.inr h))
theorem nE_t {a b c : sm} (h1 : nE a b) (h2 : nE b c) : nE a c := fun j i h => (h2 j i h).trans (h1 j i h)
theorem CPl_n {m m' : sm} (e : nE m m') (h : CPl m) : CPl m' := by
  refine ⟨fun k hk => ?_, fun k hk hne => ?_⟩
  · rw [e _ _ (by omega), e _ _ (by omega)]
    exact h.1 k hk
  · rw [e 171 k (by omega)] at hne
    rw [e _ _ (by omega), e _ _ (by omega), e _ _ (by omega), e _ _ (by omega), e _ _ (by omega), e _ _ (by omega), e _ _ (by omega), e _ _ (by omega), e _ _ (by omega), e _ _ (by omega)]
    exact h.2 k hk hne
theorem CRd_n {m m' : sm} (e : nE m m') (h : CRd m) : CRd m' := by
  intro k d hk hd hne
  rw [e 171 k (by omega)] at hne
  have := h k d hk hd hne
  rw [e _ _ (by omega), e _ _ (by omega), e _ _ (by omega), e _ _ (by omega), e _ _ (by omega), e _ _ (by omega), e _ _ (by omega)]
  exact this
theorem sVal_k {m m' : sm} (e : sK m m') (k a u : Nat) (v : Int32) (d : Nat) : sVal m' k a u v d = sVal m k a u v d := by
  have h : ∀ y, sTr m' y = sTr m y := fun y => funext fun d => sTr_k e y d
  unfold sVal
  rw [sBy_k e]
  cases sBy m k a u with
  | none => rfl
  | some y =>
    show sShare (sTr m' y) v a u d = sShare (sTr m y) v a u d
    rw [h]
abbrev sWSR (M : xM) (k f n : Nat) (o : Option xM) : Prop := ∃ M' : xM, o = some M' ∧ M'.2 = M.2 ∧ (∀ d, M'.1 (124 + 1 + k) d = if f ≤ d ∧ d < sSn M.1 k f n then sSpr M.1 k d else M.1 (124 + 1 + k) d) ∧ ∀ j i, ¬ j = 141 → ¬ j = 124 + 1 + k → M'.1 j i = M.1 j i
theorem writeSpread_eq {k f n : Nat} {M : xM} (hk : k < 16) (hn : n ≤ 56) (hf : f ≤ 56) (hff : M.1 175 k = nI f) (hP : CPl M.1) (hR : CRd M.1) (hT : CTr M.1) (hk3 : M.1 171 k = 3) (hTB : TB M.1) (hB : ∀ d, d < 56 → ¬ M.1 177 (56 * k + d) = -1 → 0 ≤ (M.1 177 (56 * k + d)).toInt ∧ (M.1 177 (56 * k + d)).toInt ≤ 5000) : sWSR M k f n (fX0_writeSpread (nI k) (nI n) M) := by
  have hb : xinb (nI k) 16 = true := xinb_nI hk (by decide)
  have hc : (nI k).toNatClampNeg = k := nI_clamp (by omega)
  have hne : ¬ M.1 171 k = -1 := by rw [hk3]; decide
  have h4 : M.1 (8 + 4 * k) 4 = nI f := by rw [(hP.2 k hk hne).2.2.2.1, hff]
  unfold fX0_writeSpread
  simp only [hb, hc, h4, bd_at, ↓reduceIte]
  refine lp_post (Q := sWSR M k f n) (fun s => ∃ (e : Nat) (N : xM), f ≤ e ∧ (e ≤ n ∨ e = f) ∧ s = (nI (sSn M.1 k f e), nI e, N) ∧ N.2 = M.2 ∧ (∀ d, N.1 (124 + 1 + k) d = if f ≤ d ∧ d < sSn M.1 k f e then sSpr M.1 k d else M.1 (124 + 1 + k) d) ∧ ∀ j i, ¬ j = 141 → ¬ j = 124 + 1 + k → N.1 j i = M.1 j i) (fun s => 58 - s.2.1.toNatClampNeg) ?_ xfu _ ⟨f, M, Nat.le_refl _, Or.inr rfl, by rw [sSn_f M.1 k f f (Nat.le_refl _)], rfl, fun d => by rw [sSn_f M.1 k f f (Nat.le_refl _), if_neg (by omega)], fun _ _ _ _ => rfl⟩ (by unfold xfu; show 58 - _ < 1000; omega)
  rintro s kk ⟨e, N, h1, h2, rfl, h3, h4', h5⟩ hkk
  have g0 : ¬ nI e < 0 := nI_pos (by omega)
  by_cases e1 : n ≤ e
  · have g1 : nI n ≤ nI e := nI_le e1 (by omega)
    simp only [g0, g1, ↓reduceIte]
    refine ⟨N, rfl, h3, fun d => ?_, h5⟩
    have hs : sSn M.1 k f e = sSn M.1 k f n := by
      rcases h2 with h2 | h2
      · rw [show e = n by omega]
      · rw [h2, sSn_f M.1 k f f (Nat.le_refl _), sSn_f M.1 k f n (by omega)]
    rw [h4' d, hs]
  · have g1 : ¬ nI n ≤ nI e := nI_ge (by omega) (by omega)
    have he : e < 56 := by omega
    have heb : xinb (nI e) 56 = true := xinb_nI he (by decide)
    have hec : (nI e).toNatClampNeg = e := nI_clamp (by omega)
    have hec1 : (nI (e + 1)).toNatClampNeg = e + 1 := nI_clamp (by omega)
    have hm : 58 - (nI (e + 1)).toNatClampNeg < 58 - (nI e).toNatClampNeg := by
      rw [hec, hec1]
      exact m58 (by omega)
    have hs1 := sSn_s M.1 k f e
    have hN177 : N.1 (8 + 4 * k + 1) e = M.1 177 (56 * k + e) := by
      rw [h5 _ _ (by omega) (by omega)]
      exact (hR k e hk he hne).1
    simp only [g0, g1, heb, hec, hN177, bd_at, ↓reduceIte, nI_1]
    by_cases e2 : M.1 177 (56 * k + e) = -1
    · rw [if_pos (Or.inr e2)] at hs1
      rw [if_pos e2]
      exact hkk _ ⟨e + 1, N, by omega, Or.inl (by omega), by rw [hs1], h3, fun d => by rw [hs1]; exact h4' d, h5⟩ hm
    · rw [if_neg (fun h => h.elim (fun h => absurd h (by omega)) e2)] at hs1
      rw [if_neg e2]
      have hnE : nE M.1 N.1 := fun j i h => h5 j i (by omega) (by omega)
      have hK := sK_n hnE
      have hse : sSn M.1 k f e ≤ e := by
        rcases sSn_le M.1 k f e with h | h
        · exact h
        · rw [h]; exact h1
      have hsf := sSn_ge M.1 k f e
      have hNT : CTr N.1 := fun q d hq hd => by
        rw [h5 _ _ (by omega) (by omega), sTr_k hK]
        exact hT q d hq hd
      have hNTB : TB N.1 := fun q d hq hd h => by
        rw [sTr_k hK] at h ⊢
        exact hTB q d hq hd h
      obtain ⟨N', a1, a2, a3, a4⟩ := spreadC_eq (v := M.1 177 (56 * k + e)) (M := N) hk hse he (CPl_n hnE hP) hNT (by rw [hK 171 k (by decide)]; exact hk3) hNTB hN177 (hB e he e2)
      rw [a1]
      refine hkk _ ⟨e + 1, N', by omega, Or.inl (by omega), by rw [hs1], a2.trans h3, fun d => ?_, fun j i b1 b2 => ?_⟩ hm
      · rw [hs1]
        by_cases e3 : sSn M.1 k f e ≤ d ∧ d ≤ e
        · rw [a3 d e3.1 e3.2, sVal_k hK, if_pos ⟨by omega, by omega⟩]
          exact (sSpr_val hk3 hff (by omega) e3.2 he e2 (fun x b1 b2 => sSn_none (f := f) e x (by omega) b2 (by omega))).symm
        · rw [a4 (124 + 1 + k) d (by omega) (by omega), h4' d]
          by_cases e4 : f ≤ d ∧ d < sSn M.1 k f e
          · rw [if_pos e4, if_pos ⟨e4.1, by omega⟩]
          · rw [if_neg e4, if_neg (by omega)]
      · rw [a4 j i b1 (by omega)]
        exact h5 j i b1 b2
