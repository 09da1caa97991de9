/-- the class's last entries -/
abbrev CHd (m : sm) (h : Nat) : Prop := ∀ k d, k < 16 → d < 56 → m (8 + 4 * k + 3) d = sHl m k d h
/-- what is so of entries and readings of the reference -/
abbrev WH (m : sm) (h : Nat) : Prop := ∀ i, i < h → (∃ w, w ≤ 56 ∧ m 184 i = nI w ∧ nI w ≤ m 170 15) ∧ ∀ k, k < 16 → m 181 i = nI k → sGb m k = true ∧ ¬ m 171 k = 3 ∧ ∃ d, d < 56 ∧ m 182 i = nI d ∧ ¬ nI d < m 175 k ∧ nI d ≤ m 184 i
abbrev WR (m : sm) : Prop := ∀ k d, k < 16 → d < 56 → sGb m k = true → (nI d < m 175 k ∨ ¬ nI d ≤ m 170 15) → m 177 (56 * k + d) = -1 ∧ m 178 (56 * k + d) = -1 ∧ m 179 (56 * k + d) = -1 ∧ m 180 (56 * k + d) = -1
theorem sRe_none {m : sm} {k d : Nat} (h : m 177 (56 * k + d) = -1 ∧ m 178 (56 * k + d) = -1 ∧ m 179 (56 * k + d) = -1 ∧ m 180 (56 * k + d) = -1) : sRe m k d = -1 := by
  unfold sRe
  simp only [h.1, h.2.2.1, h.2.2.2, ↓reduceIte, and_self, or_self]
  split
  · rfl
  · split
    · rfl
    · split
      · rfl
      · split <;> rfl
theorem sRe_no {m : sm} {k d : Nat} (h : sGb m k = false ∨ m 171 k = 3) : sRe m k d = -1 := by
  unfold sRe
  have hk : m 171 k = -1 ∨ m 171 k = 5 ∨ m 171 k = 3 := by
    rcases h with h | h
    · rcases sGb_0 h with h | h
      · exact Or.inl h
      · exact Or.inr (Or.inl h)
    · exact Or.inr (Or.inr h)
  have q1 : ¬ (-1:Int32) = 0 ∧ ¬ (-1:Int32) = 1 ∧ ¬ (-1:Int32) = 2 ∧ ¬ (-1:Int32) = 4 := by decide
  have q2 : ¬ (5:Int32) = 0 ∧ ¬ (5:Int32) = 1 ∧ ¬ (5:Int32) = 2 ∧ ¬ (5:Int32) = 4 := by decide
  have q3 : ¬ (3:Int32) = 0 ∧ ¬ (3:Int32) = 1 ∧ ¬ (3:Int32) = 2 ∧ ¬ (3:Int32) = 4 := by decide
  rcases hk with h | h | h
  · simp only [h, q1.1, q1.2.1, q1.2.2.1, q1.2.2.2, ↓reduceIte]
  · simp only [h, q2.1, q2.2.1, q2.2.2.1, q2.2.2.2, ↓reduceIte]
  · simp only [h, q3.1, q3.2.1, q3.2.2.1, q3.2.2.2, ↓reduceIte]
/-- kinds -/
abbrev WK (m : sm) : Prop := ∀ k, k < 16 → m 171 k = -1 ∨ ∃ c, c ≤ 5 ∧ m 171 k = nI c
theorem sRaw_re {m : sm} {k d : Nat} {t : Int32} (hK : WK m) (hk : k < 16) (hg : sGb m k = true) (h3 : ¬ m 171 k = 3) (hf : ¬ nI d < m 175 k) (ht : ¬ t < nI d) (hn : nI d ≤ m 170 15) (hh : sHi m k d t = -1) : sRaw m k d t = sRe m k d := by
  unfold sRaw sRe
  simp only [hg, h3, hf, ht, hn, hh, reduceCtorEq, not_true, or_self, ↓reduceIte]
  by_cases q0 : m 171 k = 0
  · simp only [q0, ↓reduceIte]
  · by_cases q1 : m 171 k = 1
    · simp only [q1, ↓reduceIte]
    · by_cases q2 : m 171 k = 2
      · simp only [q2, ↓reduceIte]
      · have q4 : m 171 k = 4 := by
          have hg := sGb_1 hg
          rcases hK k hk with h | ⟨c, h, h'⟩
          · exact absurd h hg.1
          · have : c = 0 ∨ c = 1 ∨ c = 2 ∨ c = 3 ∨ c = 4 ∨ c = 5 := by omega
            rcases this with rfl | rfl | rfl | rfl | rfl | rfl
            · exact absurd h' q0
            · exact absurd h' q1
            · exact absurd h' q2
            · exact absurd h' h3
            · exact h'
            · exact absurd h' hg.2
        simp only [q0, q1, q2, q4, ↓reduceIte]
abbrev CNet (m : sm) : Prop := m 1 3 = m 170 15 ∧ CPl m ∧ CRd m ∧ WK m ∧ WR m ∧ sN m
abbrev CLg (m : sm) : Prop := ∃ h, h ≤ 100 ∧ m 170 14 = nI h ∧ CLog m h ∧ CHd m h ∧ WH m h
theorem numberKnown_eq {k d : Nat} {t : Int32} {M : xM} (hk : k < 16) (hd : d < 56) (hN : CNet M.1) (hL : CLg M.1) : fX6_numberKnown (nI k) (nI d) t M = some (sRaw M.1 k d t) := by
  obtain ⟨-, h1, h2, hK, hR, -⟩ := hN
  obtain ⟨h, h9, hh, hl, hc, hW⟩ := hL
  have hb : xinb (nI k) 16 = true := xinb_nI hk (by decide)
  have hck : (nI k).toNatClampNeg = k := nI_clamp (by omega)
  have hb2 : xinb (nI d) 56 = true := xinb_nI hd (by decide)
  have hcd : (nI d).toNatClampNeg = d := nI_clamp (by omega)
  have h10 : ¬ (1:Int32) = 0 := by decide
  have hn : sHn M.1 = h := by unfold sHn; rw [hh, nI_clamp (by omega)]
  unfold fX6_numberKnown
  rw [isPlace_nI hk, isDay_nI hd]
  simp only [some_bind, h10, hb, hb2, hck, hcd, hc k d hk hd, latest_eq hk hd hl h9 (Nat.le_refl h), jn_at, ↓reduceIte]
  rcases sHd_at M.1 k d t h with e1 | ⟨i, hi, e1, e2, e3, e4⟩
  · have g1 : (-1:Int32) < 0 := by decide
    simp only [e1, g1, ↓reduceIte, numberRead_eq hk hd h1 h2, some_bind]
    have hhi : sHi M.1 k d t = -1 := by unfold sHi; rw [hn]; exact e1
    rcases Bool.eq_false_or_eq_true (sGb M.1 k) with hg | hg
    · by_cases k3 : M.1 171 k = 3
      · have : sRaw M.1 k d t = -1 := by unfold sRaw; simp only [k3, true_or, or_true, ↓reduceIte]
        rw [this, sRe_no (Or.inr k3)]
        split <;> rfl
      · by_cases hf : nI d < M.1 175 k
        · have : sRaw M.1 k d t = -1 := by unfold sRaw; simp only [hf, true_or, or_true, ↓reduceIte]
          rw [this, sRe_none (hR k d hk hd hg (Or.inl hf))]
          split <;> rfl
        · by_cases ht : t < nI d
          · have : sRaw M.1 k d t = -1 := by unfold sRaw; simp only [ht, true_or, or_true, ↓reduceIte]
            rw [this, if_pos ht]
          · rw [if_neg ht]
            by_cases hnw : nI d ≤ M.1 170 15
            · rw [sRaw_re hK hk hg k3 hf ht hnw hhi]
            · have : sRaw M.1 k d t = -1 := by unfold sRaw; simp only [hnw, not_false_eq_true, or_true, ↓reduceIte]
              rw [this, sRe_none (hR k d hk hd hg (Or.inr hnw))]
    · have : sRaw M.1 k d t = -1 := by unfold sRaw; simp only [hg, true_or, ↓reduceIte]
      rw [this, sRe_no (Or.inl hg)]
      split <;> rfl
  · obtain ⟨⟨w, hw, hw1, hw2⟩, hw3⟩ := hW i hi
    obtain ⟨hg, k3, d', hd', hd1, hd2, hd3⟩ := hw3 k hk e2
    rw [e3] at hd1
    have hdd : d = d' := nI_inj (by omega) (by omega) hd1
    subst hdd
    have g1 : ¬ nI i < 0 := nI_pos (by omega)
    have g2 : ¬ (100:Int32) ≤ nI i := nI_ge (b := 100) (by omega) (by decide)
    have hb3 : xinb (nI i) 100 = true := xinb_nI (by omega) (by decide)
    have hc3 : (nI i).toNatClampNeg = i := nI_clamp (by omega)
    have g4 : ¬ nI i = -1 := nI_nm1 (by omega)
    have ht : ¬ t < nI d := Int32.not_lt.mpr (Int32.le_trans hd3 (Int32.not_lt.mp e4))
    have hnw : nI d ≤ M.1 170 15 := Int32.le_trans hd3 (by rw [hw1]; exact hw2)
    have hhi : sHi M.1 k d t = nI i := by unfold sHi; rw [hn]; exact e1
    simp only [e1, g1, g2, hb3, hc3, (hl i hi).1, ↓reduceIte]
    unfold sRaw
    simp only [hg, k3, hd2, ht, hnw, hhi, g4, hc3, reduceCtorEq, not_true, not_false_eq_true, or_self, ↓reduceIte]
theorem sHd_late {m : sm} {k d : Nat} {t t' : Int32} : ∀ n, (∀ i, i < n → ¬ t < m 184 i ∧ ¬ t' < m 184 i) → sHd m k d t n = sHd m k d t' n
  | 0, _ => rfl
  | n + 1, h => by
    have h1 := h n (by omega)
    have ih := sHd_late (k := k) (d := d) n (fun i hi => h i (by omega))
    have e1 : sHd m k d t (n + 1) = if m 181 n = nI k ∧ m 182 n = nI d ∧ ¬ t < m 184 n then nI n else sHd m k d t n := rfl
    have e2 : sHd m k d t' (n + 1) = if m 181 n = nI k ∧ m 182 n = nI d ∧ ¬ t' < m 184 n then nI n else sHd m k d t' n := rfl
    rw [e1, e2, ih]
    simp only [h1.1, h1.2, not_false_eq_true, and_true]
/-- later than now counts all -/
theorem sRaw_late {m : sm} {k d h : Nat} {t t' : Int32} (hh : m 170 14 = nI h) (h9 : h ≤ 100) (hW : WH m h) (h1 : m 170 15 ≤ t) (h2 : m 170 15 ≤ t') : sRaw m k d t = sRaw m k d t' := by
  have hn : sHn m = h := by unfold sHn; rw [hh, nI_clamp (by omega)]
  have hi : sHi m k d t = sHi m k d t' := by
    unfold sHi
    rw [hn]
    refine sHd_late h (fun i hi => ?_)
    obtain ⟨⟨w, hw, hw1, hw2⟩, -⟩ := hW i hi
    rw [hw1]
    exact ⟨Int32.not_lt.mpr (Int32.le_trans hw2 h1), Int32.not_lt.mpr (Int32.le_trans hw2 h2)⟩
  unfold sRaw
  rw [hi]
  by_cases hnw : nI d ≤ m 170 15
  · have e1 : ¬ t < nI d := Int32.not_lt.mpr (Int32.le_trans hnw h1)
    have e2 : ¬ t' < nI d := Int32.not_lt.mpr (Int32.le_trans hnw h2)
    simp only [e1, e2]
  · simp only [hnw, not_false_eq_true, or_true, ↓reduceIte]
theorem numberKnown56 {k d : Nat} {M : xM} (hk : k < 16) (hd : d < 56) (hN : CNet M.1) (hL : CLg M.1) : fX6_numberKnown (nI k) (nI d) 56 M = some (sR M.1 k d) := by
  rw [numberKnown_eq hk hd hN hL]
  obtain ⟨-, -, -, -, -, n, hn, hn1⟩ := hN
  obtain ⟨h, h9, hh, -, -, hW⟩ := hL
  rw [sRaw_late (t' := 99) hh h9 hW (by rw [hn1]; exact nI_le (b := 56) hn (by decide)) (by rw [hn1]; exact nI_le (b := 99) (by omega) (by decide))]
