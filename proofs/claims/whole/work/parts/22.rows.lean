/-! ===== what only the scratch rows (187, 188 and the longs) differ in ===== -/
abbrev sEq (m m' : sm) : Prop := ∀ j i, j < 187 → m' j i = m j i
theorem sEq_t {a b c : sm} (h1 : sEq a b) (h2 : sEq b c) : sEq a c := fun j i h => (h2 j i h).trans (h1 j i h)
theorem xw_at (M : xM) (i k a b : Nat) (v : Int32) : (xw M i k v).1 a b = if a = i ∧ b = k then v else M.1 a b := rfl
theorem sEq_w {m : sm} {M : xM} {i k : Nat} {v : Int32} (h : sEq m M.1) (hi : 187 ≤ i) : sEq m (xw M i k v).1 := fun j a hj => by
  rw [xw_at, if_neg (by omega)]
  exact h j a hj
theorem sGb_c {m m' : sm} (e : sEq m m') (k : Nat) : sGb m' k = sGb m k := by
  unfold sGb
  rw [e 171 k (by decide)]
theorem sHd_c {m m' : sm} (e : sEq m m') (k d : Nat) (t : Int32) : ∀ n, sHd m' k d t n = sHd m k d t n
  | 0 => rfl
  | n + 1 => by
    simp only [sHd, sHd_c e k d t n, e 181 n (by decide), e 182 n (by decide), e 184 n (by decide)]
theorem sHi_c {m m' : sm} (e : sEq m m') (k d : Nat) (t : Int32) : sHi m' k d t = sHi m k d t := by
  unfold sHi sHn
  rw [sHd_c e, e 170 14 (by decide)]
theorem sTip_c {m m' : sm} (e : sEq m m') (k d : Nat) : sTip m' k d = sTip m k d := by
  simp only [sTip, e 177 _ (by decide), e 174 _ (by decide), e 178 _ (by decide)]
theorem sRaw_c {m m' : sm} (e : sEq m m') (k d : Nat) (t : Int32) : sRaw m' k d t = sRaw m k d t := by
  simp only [sRaw, sGb_c e, sTip_c e, sHi_c e, e 171 _ (by decide), e 175 _ (by decide), e 170 _ (by decide), e 183 _ (by decide), e 177 _ (by decide), e 179 _ (by decide), e 180 _ (by decide), e 174 _ (by decide)]
theorem sFar_c {m m' : sm} (e : sEq m m') (q : Nat) (x y : Int32) : sFar m' q x y = sFar m q x y := by
  simp only [sFar, e 172 _ (by decide), e 173 _ (by decide)]
theorem sDs_c {m m' : sm} (e : sEq m m') (q k : Nat) : sDs m' q k = sDs m q k := by
  unfold sDs
  rw [sFar_c e, e 172 _ (by decide), e 173 _ (by decide)]
theorem sDl_c {m m' : sm} (e : sEq m m') (k d : Nat) : ∀ q, sDl m' k d q = sDl m k d q
  | 0 => rfl
  | q + 1 => by
    simp only [sDl, sDl_c e k d q, sGb_c e, sDs_c e, sRaw_c e, e 170 _ (by decide)]
theorem sDo_c {m m' : sm} (e : sEq m m') (k d : Nat) : sDo m' k d = sDo m k d := by
  simp only [sDo, sDo3, sDl_c e, sRaw_c e, sHi_c e, e 170 _ (by decide), e 171 _ (by decide), e 177 _ (by decide), e 180 _ (by decide)]
theorem sTr_c {m m' : sm} (e : sEq m m') (k d : Nat) : sTr m' k d = sTr m k d := by
  simp only [sTr, sDo_c e, sRaw_c e]
theorem sH_c {m m' : sm} (e : sEq m m') (h : sH m) : sH m' := by
  obtain ⟨a, h1, h2⟩ := h
  exact ⟨a, h1, (e 170 14 (by decide)).trans h2⟩
/-! ===== a loop whose answer is told by a property ===== -/
theorem lp_post {σ β : Type} {step : σ → (σ → Option β) → Option β} (P : σ → Prop) (μ : σ → Nat) (Q : Option β → Prop) (h : ∀ s k, P s → (∀ s', P s' → μ s' < μ s → Q (k s')) → Q (step s k)) : ∀ n s, P s → μ s < n → Q (lp step n s) := by
  intro n
  induction n with
  | zero => intro s _ h9; exact absurd h9 (Nat.not_lt_zero _)
  | succ n ih =>
    intro s hs h9
    rw [lp_succ]
    exact h s _ hs (fun s' h1 h2 => ih s' h1 (by omega))
/-! ===== rows of places by distance ===== -/
def sIns (f : Nat → Int32) (q : Nat) : List Nat → List Nat
  | [] => [q]
  | y :: L => if f q < f y then q :: y :: L else y :: sIns f q L
theorem sIns_at {f : Nat → Int32} {q : Nat} {B : List Nat} (hB : ∀ b ∈ B, f q < f b) : ∀ A : List Nat, (∀ a ∈ A, f a ≤ f q) → sIns f q (A ++ B) = A ++ q :: B
  | [], _ => by
    cases B with
    | nil => rfl
    | cons b B =>
      show (if f q < f b then _ else _) = _
      rw [if_pos (hB b (List.mem_cons_self ..))]
      rfl
  | a :: A, h => by
    show (if f q < f a then _ else _) = _
    rw [if_neg (Int32.not_lt.mpr (h a (List.mem_cons_self ..)))]
    have := sIns_at hB A (fun x hx => h x (List.mem_cons_of_mem _ hx))
    show a :: sIns f q (A ++ B) = a :: (A ++ q :: B)
    rw [this]
theorem sIns_mem {f : Nat → Int32} {q y : Nat} : ∀ L : List Nat, y ∈ sIns f q L → y = q ∨ y ∈ L
  | [], h => Or.inl (List.mem_singleton.mp h)
  | a :: L, h => by
    unfold sIns at h
    split at h
    · rcases List.mem_cons.mp h with h | h
      · exact Or.inl h
      · exact Or.inr h
    · rcases List.mem_cons.mp h with h | h
      · exact Or.inr (h ▸ List.mem_cons_self ..)
      · exact (sIns_mem L h).imp id (List.mem_cons_of_mem _)
theorem sIns_len (f : Nat → Int32) (q : Nat) : ∀ L : List Nat, (sIns f q L).length = L.length + 1
  | [] => rfl
  | a :: L => by
    unfold sIns
    split
    · rfl
    · show (sIns f q L).length + 1 = _
      rw [sIns_len f q L]
      rfl
theorem sIns_sorted {f : Nat → Int32} {q : Nat} : ∀ L : List Nat, L.Pairwise (fun a b => f a ≤ f b) → (sIns f q L).Pairwise (fun a b => f a ≤ f b)
  | [], _ => List.pairwise_singleton _ _
  | a :: L, h => by
    have h' := List.pairwise_cons.mp h
    unfold sIns
    split
    · rename_i e
      refine List.pairwise_cons.mpr ⟨fun b hb => ?_, h⟩
      rcases List.mem_cons.mp hb with rfl | hb
      · exact Int32.le_of_lt e
      · exact Int32.le_trans (Int32.le_of_lt e) (h'.1 b hb)
    · rename_i e
      refine List.pairwise_cons.mpr ⟨fun b hb => ?_, sIns_sorted L h'.2⟩
      rcases sIns_mem L hb with rfl | hb
      · exact Int32.not_lt.mp e
      · exact h'.1 b hb
def sRows (m : sm) (k : Nat) : Nat → List Nat
  | 0 => []
  | q + 1 => if q = k ∨ sGb m q = false then sRows m k q else sIns (fun y => sDs m y k) q (sRows m k q)
theorem sRows_mem {m : sm} {k y : Nat} : ∀ n, y ∈ sRows m k n → y < n ∧ ¬ y = k ∧ sGb m y = true
  | 0, h => absurd h List.not_mem_nil
  | n + 1, h => by
    unfold sRows at h
    split at h
    · have := sRows_mem n h
      exact ⟨by omega, this.2⟩
    · rename_i e
      rcases sIns_mem _ h with rfl | h
      · refine ⟨by omega, fun h1 => e (Or.inl h1), ?_⟩
        cases h2 : sGb m y with
        | true => rfl
        | false => exact absurd (Or.inr h2) e
      · have := sRows_mem n h
        exact ⟨by omega, this.2⟩
theorem sRows_len (m : sm) (k : Nat) : ∀ n, (sRows m k n).length ≤ n
  | 0 => Nat.le_refl _
  | n + 1 => by
    have := sRows_len m k n
    unfold sRows
    split
    · omega
    · rw [sIns_len]; omega
theorem sRows_sorted (m : sm) (k : Nat) : ∀ n, (sRows m k n).Pairwise (fun a b => sDs m a k ≤ sDs m b k)
  | 0 => List.Pairwise.nil
  | n + 1 => by
    unfold sRows
    split
    · exact sRows_sorted m k n
    · exact sIns_sorted _ (sRows_sorted m k n)
theorem sRows_c {m m' : sm} (e : sEq m m') (k : Nat) : ∀ n, sRows m' k n = sRows m k n
  | 0 => rfl
  | n + 1 => by
    unfold sRows
    simp only [sRows_c e k n, sGb_c e, sDs_c e]
/-- a row of the memory holds a list of places -/
abbrev sHas (r : Nat → Int32) (L : List Nat) : Prop := ∀ (i y : Nat), L[i]? = some y → r i = nI y
theorem snoc_cases (A : List Nat) : A = [] ∨ ∃ A' a, A = A' ++ [a] := by
  rcases List.eq_nil_or_concat A with h | ⟨A', a, h⟩
  · exact Or.inl h
  · exact Or.inr ⟨A', a, by rw [h, List.concat_eq_append]⟩
abbrev sRowsR (M : xM) (k : Nat) (o : Option (Int32 × xM)) : Prop := ∃ M' : xM, o = some (nI (sRows M.1 k 16).length, M') ∧ sEq M.1 M'.1 ∧ sHas (M'.1 187) (sRows M.1 k 16)
theorem rows_eq {k : Nat} {M : xM} (hk : k < 16) : sRowsR M k (fX10_rows (nI k) M) := by
  have hb : xinb (nI k) 16 = true := xinb_nI hk (by decide)
  have hc : (nI k).toNatClampNeg = k := nI_clamp (by omega)
  have h10 : ¬ (1:Int32) = 0 := by decide
  unfold fX10_rows
  refine lp_post (Q := sRowsR M k) (fun s => ∃ q N, q ≤ 16 ∧ s = (nI (sRows M.1 k q).length, nI q, N) ∧ sEq M.1 N.1 ∧ sHas (N.1 187) (sRows M.1 k q)) (fun s => 16 - s.2.1.toNatClampNeg) ?_ xfu _ ⟨0, M, by omega, rfl, fun _ _ _ => rfl, fun i y h => absurd h (by simp [sRows])⟩ (by unfold xfu; show 16 - _ < 1000; omega)
  rintro s kk ⟨q, N, hq, rfl, he, hr⟩ hkk
  by_cases h16 : q = 16
  · subst h16
    have g1 : (16:Int32) ≤ nI 16 := by decide
    simp only [g1, ↓reduceIte]
    exact ⟨N, rfl, he, hr⟩
  · have hq : q < 16 := by omega
    have g1 : ¬ (16:Int32) ≤ nI q := nI_ge (b := 16) hq (by decide)
    have gq : (nI q).toNatClampNeg = q := nI_clamp (by omega)
    have gq1 : (nI (q + 1)).toNatClampNeg = q + 1 := nI_clamp (by omega)
    simp only [g1, ↓reduceIte, nI_1]
    by_cases q1 : q = k
    · have : nI q = nI k := by rw [q1]
      simp only [this, ↓reduceIte]
      exact hkk _ ⟨q + 1, N, by omega, by simp only [sRows, q1, true_or, ↓reduceIte], he, by simpa only [sRows, q1, true_or, ↓reduceIte] using hr⟩ (by simp only [gq, gq1]; omega)
    · have q2 : ¬ nI q = nI k := nI_ne (by omega) (by omega) q1
      simp only [q2, ↓reduceIte]
      rcases Bool.eq_false_or_eq_true (sGb M.1 q) with q3 | q3
      · rw [isGauge_1 hq ((sGb_c he q).trans q3)]
        simp only [some_bind, h10, ↓reduceIte]
        have hrow : sRows M.1 k (q + 1) = sIns (fun y => sDs M.1 y k) q (sRows M.1 k q) := by
          conv => lhs; unfold sRows
          rw [if_neg (by simp [q1, q3])]
        have hl := sRows_len M.1 k q
        have hs := sRows_sorted M.1 k q
        have hm := fun y => sRows_mem (m := M.1) (k := k) (y := y) q
        generalize hL : sRows M.1 k q = L at *
        refine lp_post (fun s => ∃ A B N', L = A ++ B ∧ s = (nI A.length, N') ∧ sEq M.1 N'.1 ∧ sHas (N'.1 187) A ∧ (∀ i y, B[i]? = some y → N'.1 187 (A.length + 1 + i) = nI y) ∧ (∀ b ∈ B, sDs M.1 q k < sDs M.1 b k)) (fun s => s.1.toNatClampNeg) _ ?_ xfu _ ⟨L, [], N, by simp, rfl, he, hr, fun i y h => absurd h (by simp), fun b h => absurd h List.not_mem_nil⟩ (by show (nI L.length).toNatClampNeg < 1000; rw [nI_clamp (by omega)]; omega)
        rintro s kk2 ⟨A, B, N', hAB, rfl, he', hA, hB, hBl⟩ hkk2
        have hlen : A.length + B.length = L.length := by rw [hAB, List.length_append]
        have hb2 : xinb (nI A.length) 16 = true := xinb_nI (by omega) (by decide)
        have hc2 : (nI A.length).toNatClampNeg = A.length := nI_clamp (by omega)
        have fin : (∀ a ∈ A, sDs M.1 a k ≤ sDs M.1 q k) → sRowsR M k (kk (nI (L.length + 1), nI (q + 1), xw N' 187 (nI A.length).toNatClampNeg (nI q))) := by
          intro hAl
          have hins : sRows M.1 k (q + 1) = A ++ q :: B := by
            rw [hrow, hAB]
            exact sIns_at hBl A hAl
          refine hkk _ ⟨q + 1, xw N' 187 (nI A.length).toNatClampNeg (nI q), by omega, ?_, sEq_w he' (Nat.le_refl _), ?_⟩ (by simp only [gq, gq1]; omega)
          · rw [hrow, sIns_len]
          · rw [hins, hc2]
            intro i y hy
            rw [xw_at]
            by_cases e1 : i = A.length
            · subst e1
              rw [if_pos ⟨rfl, rfl⟩]
              simp only [List.getElem?_append_right (Nat.le_refl _), Nat.sub_self, List.getElem?_cons_zero, Option.some.injEq] at hy
              rw [hy]
            · rw [if_neg (by simp [e1])]
              by_cases e2 : i < A.length
              · rw [List.getElem?_append_left e2] at hy
                exact hA i y hy
              · obtain ⟨j, rfl⟩ : ∃ j, i = A.length + 1 + j := ⟨i - A.length - 1, by omega⟩
                rw [List.getElem?_append_right (by omega), show A.length + 1 + j - A.length = j + 1 by omega, List.getElem?_cons_succ] at hy
                exact hB j y hy
        unfold jn
        rcases snoc_cases A with rfl | ⟨A', a, rfl⟩
        · have g2 : nI ([] : List Nat).length ≤ 0 := by decide
          simp only [g2, hb2, bd, ↓reduceIte]
          exact fin (fun a h => absurd h List.not_mem_nil)
        · have hAl : (A' ++ [a]).length = A'.length + 1 := by simp
          have g2 : ¬ nI (A'.length + 1) ≤ 0 := nI_nle (by omega) (by omega)
          have hb3 : xinb (nI A'.length) 16 = true := xinb_nI (by omega) (by decide)
          have hc3 : (nI A'.length).toNatClampNeg = A'.length := nI_clamp (by omega)
          have ha : N'.1 187 A'.length = nI a := hA A'.length a (by simp)
          have haL : a ∈ L := by rw [hAB]; simp
          have ha16 : a < 16 := by have := (hm a haL).1; omega
          rw [hAl] at hb2 hc2 hB fin ⊢
          simp only [g2, hb, hb2, hb3, hc, hc2, hc3, ha, bd, nI_pred, far_eq hq, far_eq ha16, some_bind, ↓reduceIte, he' 172 _ (by decide), he' 173 _ (by decide), sFar_c he'] at fin ⊢
          by_cases e3 : sDs M.1 a k ≤ sDs M.1 q k
          · have e3' := e3
            unfold sDs at e3'
            simp only [e3', ↓reduceIte]
            refine fin (fun c hc => ?_)
            rw [hAB] at hs
            have hs1 := (List.pairwise_append.mp (List.pairwise_append.mp hs).1).2.2
            rcases List.mem_append.mp hc with h | h
            · exact Int32.le_trans (hs1 c h a (List.mem_singleton.mpr rfl)) e3
            · rw [List.mem_singleton.mp h]; exact e3
          · have e3' := e3
            unfold sDs at e3'
            simp only [e3', ↓reduceIte]
            have g4 : nI (A'.length + 1) + -1 = nI A'.length := by
              rw [← nI_pred A'.length, Int32.sub_eq_add_neg]
            rw [g4]
            refine hkk2 _ ⟨A', a :: B, xw N' 187 (A'.length + 1) (nI a), by rw [hAB]; simp, rfl, sEq_w he' (Nat.le_refl _), ?_, ?_, ?_⟩ (by simp only [hc3]; show A'.length < (nI (A' ++ [a]).length).toNatClampNeg; rw [hAl, hc2]; omega)
            · intro i y hy
              have hi : i < A'.length := by
                rcases Nat.lt_or_ge i A'.length with h | h
                · exact h
                · rw [List.getElem?_eq_none h] at hy; exact absurd hy (by simp)
              rw [xw_at, if_neg (by omega)]
              exact hA i y (by rw [List.getElem?_append_left hi]; exact hy)
            · intro i y hy
              rw [xw_at]
              cases i with
              | zero =>
                rw [if_pos ⟨rfl, rfl⟩]
                simp only [List.getElem?_cons_zero, Option.some.injEq] at hy
                rw [hy]
              | succ i =>
                rw [if_neg (by omega)]
                rw [List.getElem?_cons_succ] at hy
                have := hB i y hy
                rw [show A'.length + 1 + (i + 1) = A'.length + 1 + 1 + i by omega]
                exact this
            · intro b hb
              rcases List.mem_cons.mp hb with rfl | hb
              · exact Int32.not_le.mp e3
              · exact hBl b hb
      · rw [isGauge_0 hq ((sGb_c he q).trans q3)]
        simp only [some_bind, ↓reduceIte]
        exact hkk _ ⟨q + 1, N, by omega, by simp only [sRows, q3, or_true, ↓reduceIte], he, by simpa only [sRows, q3, or_true, ↓reduceIte] using hr⟩ (by simp only [gq, gq1]; omega)
