/-! ===== the calls that change a day's readings ===== -/
theorem Inv_2 {m m' : sm} {c p : Nat} (hp : p < 16) (h : Inv m c) (hf : ∀ j i, ¬ (1 = j ∧ i = 4) → ¬ (j = 8 + 4 * p ∧ i = 5) → ¬ (8 + 4 * p + 1 ≤ j ∧ j ≤ 8 + 4 * p + 2) → ¬ (j = 176 ∧ i = p) → ¬ (177 ≤ j ∧ j ≤ 180 ∧ 56 * p ≤ i ∧ i < 56 * p + 56) → m' j i = m j i) (h1 : m' 1 4 = m 1 4 + 1) (hP : PI m' p) : Inv m' (c + 1) := by
  obtain ⟨a, h9, hl⟩ := h.1.2.1
  refine Inv_1 hp h (fun j i b1 b2 b3 b4 b5 b6 b7 => hf j i b1 (by omega) (by omega) (by omega) (by omega)) h1 hP ⟨a, h9, CLog2_e ⟨fun j i b1 b2 => ?_, fun k d hk hd => ?_, fun j i b1 b2 => ?_, fun k hk => ⟨?_, ?_⟩, ?_, ?_⟩ hl⟩
  · exact hf j i (by omega) (by omega) (by omega) (by omega) (by omega)
  · exact hf _ d (by omega) (by omega) (by omega) (by omega) (by omega)
  · exact hf j i (by omega) (by omega) (by omega) (by omega) (by omega)
  · exact hf _ k (by omega) (by omega) (by omega) (by omega) (by omega)
  · exact hf _ k (by omega) (by omega) (by omega) (by omega) (by omega)
  · exact hf _ _ (by omega) (by omega) (by omega) (by omega) (by omega)
  · exact hf _ _ (by omega) (by omega) (by omega) (by omega) (by omega)
theorem PI_day {m m' : sm} {p n : Nat} (h : PI m p) (hg : sGb m p = true) (hn : n < 56) (hnn : m 170 15 = nI n) (et : m' 170 15 = m 170 15) (a1 : ∀ i, i < 5 → m' (8 + 4 * p) i = m (8 + 4 * p) i) (a2 : ∀ j, 171 ≤ j → j ≤ 175 → m' j p = m j p) (a3 : m' (8 + 4 * p) 5 = m' 176 p) (a4 : ∀ d, d < 56 → ¬ d = n → m' (8 + 4 * p + 1) d = m (8 + 4 * p + 1) d ∧ m' (8 + 4 * p + 2) d = m (8 + 4 * p + 2) d ∧ m' 177 (56 * p + d) = m 177 (56 * p + d) ∧ m' 178 (56 * p + d) = m 178 (56 * p + d) ∧ m' 179 (56 * p + d) = m 179 (56 * p + d) ∧ m' 180 (56 * p + d) = m 180 (56 * p + d)) (a5 : m' (8 + 4 * p + 1) n = m' 177 (56 * p + n) ∧ (m 171 p = 1 → m' (8 + 4 * p + 2) n = m' 178 (56 * p + n)) ∧ (m 171 p = 2 → m' (8 + 4 * p + 2) n = m' 179 (56 * p + n)) ∧ (m 171 p = 4 → m' (8 + 4 * p + 2) n = m' 180 (56 * p + n))) (a6 : (-1 ≤ (m' 177 (56 * p + n)).toInt ∧ (m' 177 (56 * p + n)).toInt ≤ 5000) ∧ (-1 ≤ (m' 178 (56 * p + n)).toInt ∧ (m' 178 (56 * p + n)).toInt ≤ 7) ∧ (-1 ≤ (m' 179 (56 * p + n)).toInt ∧ (m' 179 (56 * p + n)).toInt ≤ 5000) ∧ (-1 ≤ (m' 180 (56 * p + n)).toInt ∧ (m' 180 (56 * p + n)).toInt ≤ 250) ∧ (m 171 p = 1 ∨ m 171 p = 4 → (m' 177 (56 * p + n)).toInt ≤ 250)) : PI m' p := by
  obtain ⟨h1, h2, h3, h4, h5, h6, h7, h8, ⟨f, h9, h9'⟩, h10⟩ := h
  have hne := (sGb_1 hg).1
  have k1 := a2 171 (by omega) (by omega)
  have k5 := a2 175 (by omega) (by omega)
  have hg' : sGb m' p = sGb m p := by unfold sGb; rw [k1]
  refine ⟨?_, fun _ => ?_, fun d hd _ => ?_, ?_, fun d hd _ hx => ?_, fun d hd _ => ?_, fun h => ?_, fun _ => ?_, ⟨f, h9, ?_⟩, fun _ => ?_⟩
  · rw [a1 0 (by omega), k1]; exact h1
  · have := h2 hne
    rw [a1 1 (by omega), a1 2 (by omega), a1 3 (by omega), a1 4 (by omega), a2 172 (by omega) (by omega), a2 173 (by omega) (by omega), a2 174 (by omega) (by omega), k5]
    exact ⟨this.1, this.2.1, this.2.2.1, this.2.2.2.1, a3⟩
  · rw [k1]
    by_cases e : d = n
    · rw [e]; exact a5
    · have b := a4 d hd e
      rw [b.1, b.2.1, b.2.2.1, b.2.2.2.1, b.2.2.2.2.1, b.2.2.2.2.2]
      exact h3 d hd hne
  · rw [k1]; exact h4
  · rw [k5, et] at hx
    by_cases e : d = n
    · exfalso
      rw [e, hnn] at hx
      have ht := h10 hne
      rw [hnn] at ht
      rcases hx with hx | hx
      · exact Int32.not_lt.mpr ht hx
      · exact hx (Int32.le_refl _)
    · have b := a4 d hd e
      rw [b.2.2.1, b.2.2.2.1, b.2.2.2.2.1, b.2.2.2.2.2]
      exact h5 d hd hg hx
  · rw [k1, a2 174 (by omega) (by omega)]
    have hh := h6 d hd hg
    by_cases e : d = n
    · rw [e]
      exact ⟨a6.1, a6.2.1, a6.2.2.1, a6.2.2.2.1, a6.2.2.2.2, hh.2.2.2.2.2⟩
    · have b := a4 d hd e
      rw [b.2.2.1, b.2.2.2.1, b.2.2.2.2.1, b.2.2.2.2.2]
      exact hh
  · rw [k1] at h
    exact absurd h hne
  · rw [a2 172 (by omega) (by omega), a2 173 (by omega) (by omega)]
    exact h8 hne
  · rw [k5]; exact h9'
  · rw [k5, et]
    exact h10 hne
theorem hasSize_eq {x : Int32} {M : xM} : fX9_hasSize x M = some (if x = 1 ∨ x = 4 then 1 else 0) := by
  unfold fX9_hasSize
  by_cases h1 : x = 1
  · rw [if_pos h1, if_pos (Or.inl h1)]
  · rw [if_neg h1]
    by_cases h2 : x = 4
    · rw [if_pos h2, if_pos (Or.inr h2)]
    · rw [if_neg h2, if_neg (fun h => h.elim h1 h2)]
abbrev mostOf (x : Int32) : Int32 := if x = 1 ∨ x = 4 then 250 else 5000
theorem read9 {k n : Nat} {v : Int32} {M : xM} (hk : k < 16) (hn : n < 56) (hP : CPl M.1) (h13 : M.1 1 3 = nI n) (hg : gf M.1 k = 0) (h1 : ¬ v < 0) (h2 : ¬ mostOf (M.1 171 k) < v) : ∃ M1 : xM, fX9_read (nI k) v M = some (1, M1) ∧ (∀ j i, ¬ (j = 8 + 4 * k + 1 ∧ i = n) → ¬ (j = 8 + 4 * k ∧ i = 5) → ¬ (j = 1 ∧ i = 4) → M1.1 j i = M.1 j i) ∧ M1.1 (8 + 4 * k + 1) n = v ∧ M1.1 (8 + 4 * k) 5 = (if M.1 171 k = 2 then M.1 (8 + 4 * k) 5 + v else M.1 (8 + 4 * k) 5) ∧ M1.1 1 4 = M.1 1 4 + 1 := by
  have hb : xinb (nI k) 16 = true := xinb_nI hk (by decide)
  have hc : (nI k).toNatClampNeg = k := nI_clamp (by omega)
  have hnb : xinb (nI n) 56 = true := xinb_nI hn (by decide)
  have hnc : (nI n).toNatClampNeg = n := nI_clamp (by omega)
  have hk0 := hP.1 k hk
  have hx0 : (xw M (8 + 4 * k + 1) n v).1 (8 + 4 * k) 0 = M.1 171 k := by rw [xv_ne (by omega)]; exact hk0
  have hx5 : (xw M (8 + 4 * k + 1) n v).1 (8 + 4 * k) 5 = M.1 (8 + 4 * k) 5 := xv_ne (by omega)
  unfold fX9_read
  rw [gaugeF_nI hk hP, hg]
  simp only [some_bind, jn_at, bd_at, hb, hc, hnb, hnc, h13, hk0, hx0, hx5, hasSize_eq, isDay_nI hn, i_10, h1, ↓reduceIte]
  unfold mostOf at h2
  by_cases e1 : M.1 171 k = 1 ∨ M.1 171 k = 4
  · have e2 : ¬ M.1 171 k = 2 := by
      rcases e1 with e | e <;> rw [e] <;> decide
    rw [if_pos e1] at h2
    simp only [e1, e2, h2, i_10, ↓reduceIte]
    refine ⟨_, rfl, fun j i b1 b2 b3 => ?_, ?_, ?_, ?_⟩
    · rw [xv_ne (by omega), xv_ne (by omega)]
    · rw [xv_ne (by omega), xv_eq]
    · rw [xv_ne (by omega), hx5]
    · rw [xv_eq, xv_ne (by omega)]
  · rw [if_neg e1] at h2
    simp only [e1, h2, ↓reduceIte]
    by_cases e2 : M.1 171 k = 2
    · simp only [e2, ↓reduceIte]
      refine ⟨_, rfl, fun j i b1 b2 b3 => ?_, ?_, ?_, ?_⟩
      · rw [xv_ne (by omega), xv_ne (by omega), xv_ne (by omega)]
      · rw [xv_ne (by omega), xv_ne (by omega), xv_eq]
      · rw [xv_ne (by omega), xv_eq]
      · rw [xv_eq, xv_ne (by omega), xv_ne (by omega)]
    · simp only [e2, ↓reduceIte]
      refine ⟨_, rfl, fun j i b1 b2 b3 => ?_, ?_, ?_, ?_⟩
      · rw [xv_ne (by omega), xv_ne (by omega)]
      · rw [xv_ne (by omega), xv_eq]
      · rw [xv_ne (by omega), hx5]
      · rw [xv_eq, xv_ne (by omega)]
theorem read10 {k n : Nat} {v : Int32} {M : xM} (hk : k < 16) (hn : n < 56) (hK : WK M.1) (hnn : M.1 170 15 = nI n) (hg : gf M.1 k = 0) (h1 : ¬ v < 0) (h2 : ¬ mostOf (M.1 171 k) < v) : ∃ M1 : xM, fX10_read (nI k) v M = some (1, M1) ∧ (∀ j i, ¬ (j = 177 ∧ i = 56 * k + n) → ¬ (j = 176 ∧ i = k) → M1.1 j i = M.1 j i) ∧ M1.1 177 (56 * k + n) = v ∧ M1.1 176 k = (if M.1 171 k = 2 then M.1 176 k + v else M.1 176 k) := by
  have hb : xinb (nI k) 16 = true := xinb_nI hk (by decide)
  have hc : (nI k).toNatClampNeg = k := nI_clamp (by omega)
  have hnb : xinb (nI (56 * k + n)) 896 = true := xinb_nI (by omega) (by decide)
  have hnc : (nI (56 * k + n)).toNatClampNeg = 56 * k + n := nI_clamp (by omega)
  have h56 : ¬ nI n = 56 := nI_ne (b := 56) (by omega) (by decide) (by omega)
  have hx0 : (xw M 177 (56 * k + n) v).1 171 k = M.1 171 k := xv_ne (by omega)
  have hx6 : (xw M 177 (56 * k + n) v).1 176 k = M.1 176 k := xv_ne (by omega)
  unfold fX10_read
  rw [fails04 hk hK, hg]
  simp only [some_bind, jn_at, bd_at, hb, hc, hnn, h56, ↓reduceIte]
  unfold mostOf at h2
  have fin : ¬ M.1 171 k = 2 → ∃ M1 : xM, some ((1 : Int32), xw M 177 (56 * k + n) v) = some (1, M1) ∧ (∀ j i, ¬ (j = 177 ∧ i = 56 * k + n) → ¬ (j = 176 ∧ i = k) → M1.1 j i = M.1 j i) ∧ M1.1 177 (56 * k + n) = v ∧ M1.1 176 k = (if M.1 171 k = 2 then M.1 176 k + v else M.1 176 k) := by
    intro e2
    refine ⟨_, rfl, fun j i b1 b2 => ?_, ?_, ?_⟩
    · rw [xv_ne (by omega)]
    · rw [xv_eq]
    · rw [xv_ne (by omega), if_neg e2]
  by_cases e1 : M.1 171 k = 1
  · rw [if_pos (Or.inl e1)] at h2
    have e2 : ¬ M.1 171 k = 2 := by rw [e1]; decide
    have e3 : ¬ (1:Int32) = 2 := by decide
    simp only [e1, i_10, isIn_1 (M := M) h1 h2, some_bind, at_nI, hnb, hnc, hx0, e3, ↓reduceIte]
    have := fin e2
    simp only [e1, e3, ↓reduceIte] at this
    exact this
  · by_cases e4 : M.1 171 k = 4
    · rw [if_pos (Or.inr e4)] at h2
      have e2 : ¬ M.1 171 k = 2 := by rw [e4]; decide
      have e3 : ¬ (4:Int32) = 2 := by decide
      have e5 : ¬ (4:Int32) = 1 := by decide
      simp only [e4, e5, i_10, isIn_1 (M := M) h1 h2, some_bind, at_nI, hnb, hnc, hx0, e3, ↓reduceIte]
      have := fin e2
      simp only [e4, e3, ↓reduceIte] at this
      exact this
    · rw [if_neg (fun h => h.elim e1 e4)] at h2
      simp only [e1, e4, isIn_1 (M := M) h1 h2, some_bind, i_10, at_nI, hnb, hnc, hx0, hx6, ↓reduceIte]
      by_cases e2 : M.1 171 k = 2
      · simp only [e2, ↓reduceIte]
        refine ⟨_, rfl, fun j i b1 b2 => ?_, ?_, ?_⟩
        · rw [xv_ne (by omega), xv_ne (by omega)]
        · rw [xv_ne (by omega), xv_eq]
        · rw [xv_eq]
      · rw [if_neg e2]
        exact fin e2
theorem gf_of {m m' : sm} {k : Nat} (e : m' 171 k = m 171 k) : gf m' k = gf m k := by
  unfold gf
  rw [e]
theorem mostOf_i (x : Int32) : (mostOf x).toInt = 250 ∨ (mostOf x).toInt = 5000 := by
  unfold mostOf
  split
  · exact Or.inl (by decide)
  · exact Or.inr (by decide)
theorem read_ok {p v : Int32} {M : xM} {c : Nat} (h0 : Inv M.1 c) : aR2 c (fX9_read p v M) (fX10_read p v) := by
  have hI := h0.1
  obtain ⟨n, hn, hnn⟩ := hI.n
  have h13 : M.1 1 3 = nI n := by rw [hI.net.1]; exact hnn
  rcases place_tri p with h | ⟨k, hk, rfl⟩
  · refine ⟨-1, M, M, ?_, ?_, c, by omega, h0⟩
    · unfold fX9_read
      rw [gaugeF_out h]
      simp only [some_bind, i_m1, ↓reduceIte]
    · unfold fX10_read
      rw [fails_out h]
      simp only [some_bind, i_m1, ↓reduceIte]
  · have hb : xinb (nI k) 16 = true := xinb_nI hk (by decide)
    have hc : (nI k).toNatClampNeg = k := nI_clamp (by omega)
    by_cases e : gf M.1 k = 0
    · by_cases bad : v < 0 ∨ mostOf (M.1 171 k) < v ∨ n = 56
      · refine ⟨-1, M, M, ?_, ?_, c, by omega, h0⟩
        · unfold fX9_read
          rw [gaugeF_nI hk hI.pl, e]
          simp only [some_bind, jn_at, hb, hc, h13, hI.pl.1 k hk, hasSize_eq, ↓reduceIte]
          unfold mostOf at bad
          have h56 : n = 56 → fX9_isDay (nI n) M = some 0 := fun h => by rw [h]; exact isDay_out (Or.inr (by decide))
          by_cases e1 : M.1 171 k = 1 ∨ M.1 171 k = 4
          · rw [if_pos e1] at bad
            simp only [e1, i_10, ↓reduceIte]
            by_cases b1 : v < 0
            · rw [if_pos b1]
            · by_cases b2 : 250 < v
              · rw [if_neg b1, if_pos b2]
              · have b3 : n = 56 := bad.elim (fun h => absurd h b1) (fun h => h.elim (fun h => absurd h b2) id)
                rw [if_neg b1, if_neg b2, h56 b3, some_bind, if_pos rfl]
          · rw [if_neg e1] at bad
            simp only [e1, ↓reduceIte]
            by_cases b1 : v < 0
            · rw [if_pos b1]
            · by_cases b2 : 5000 < v
              · rw [if_neg b1, if_pos b2]
              · have b3 : n = 56 := bad.elim (fun h => absurd h b1) (fun h => h.elim (fun h => absurd h b2) id)
                rw [if_neg b1, if_neg b2, h56 b3, some_bind, if_pos rfl]
        · unfold fX10_read
          rw [fails04 hk hI.wk, e]
          simp only [some_bind, jn_at, hb, hc, hnn, ↓reduceIte]
          by_cases b3 : n = 56
          · have g : nI n = 56 := by rw [b3]; rfl
            simp only [g, ↓reduceIte]
            split
            · rfl
            · split <;> rfl
          · have g : ¬ nI n = 56 := nI_ne (b := 56) (by omega) (by decide) b3
            have bad2 : v < 0 ∨ mostOf (M.1 171 k) < v := bad.elim Or.inl (fun h => h.elim Or.inr (fun h => absurd h b3))
            unfold mostOf at bad2
            simp only [g, ↓reduceIte]
            by_cases e1 : M.1 171 k = 1
            · rw [if_pos (Or.inl e1)] at bad2
              simp only [e1, i_10, isIn_0 (M := M) bad2, some_bind, ↓reduceIte]
            · by_cases e4 : M.1 171 k = 4
              · have e5 : ¬ (4:Int32) = 1 := by decide
                rw [if_pos (Or.inr e4)] at bad2
                simp only [e4, e5, i_10, isIn_0 (M := M) bad2, some_bind, ↓reduceIte]
              · rw [if_neg (fun h => h.elim e1 e4)] at bad2
                simp only [e1, e4, isIn_0 (M := M) bad2, some_bind, ↓reduceIte]
      · have b1 : ¬ v < 0 := fun h => bad (Or.inl h)
        have b2 : ¬ mostOf (M.1 171 k) < v := fun h => bad (Or.inr (Or.inl h))
        have hn : n < 56 := by
          have : ¬ n = 56 := fun h => bad (Or.inr (Or.inr h))
          omega
        have hgb := gf_0.mp e
        have hne := (sGb_1 hgb).1
        obtain ⟨M1, c1, c2, c3, c4, c5⟩ := read9 hk hn hI.pl h13 e b1 b2
        have hK1 : WK M1.1 := fun q hq => by
          rw [c2 171 q (by omega) (by omega) (by omega)]; exact hI.wk q hq
        have k1 : M1.1 171 k = M.1 171 k := c2 171 k (by omega) (by omega) (by omega)
        obtain ⟨M2, d1, d2, d3, d4⟩ := read10 (M := M1) hk hn hK1 (by rw [c2 170 15 (by omega) (by omega) (by omega)]; exact hnn) (by rw [gf_of k1]; exact e) b1 (by rw [k1]; exact b2)
        refine ⟨1, M1, M2, c1, d1, c + 1, Nat.le_refl _, ?_⟩
        have hall : ∀ j i, ¬ (j = 8 + 4 * k + 1 ∧ i = n) → ¬ (j = 8 + 4 * k ∧ i = 5) → ¬ (j = 1 ∧ i = 4) → ¬ (j = 177 ∧ i = 56 * k + n) → ¬ (j = 176 ∧ i = k) → M2.1 j i = M.1 j i := fun j i a1 a2 a3 a4 a5 => (d2 j i a4 a5).trans (c2 j i a1 a2 a3)
        have hv : 0 ≤ v.toInt ∧ v.toInt ≤ (mostOf (M.1 171 k)).toInt := by
          rw [Int32.lt_iff_toInt_lt] at b1 b2
          have : (0:Int32).toInt = 0 := by decide
          omega
        have hmi := mostOf_i (M.1 171 k)
        have hwb := hI.wb k n hk hn hgb
        refine Inv_2 hk h0 (fun j i a1 a2 a3 a4 a5 => hall j i (by omega) (by omega) (by omega) (by omega) (by omega)) ?_ (PI_day (hI.pi hk) hgb hn hnn ?_ (fun i hi => ?_) (fun j a b => ?_) ?_ (fun d hd hdn => ⟨?_, ?_, ?_, ?_, ?_, ?_⟩) ⟨?_, ?_, ?_, ?_⟩ ⟨?_, ?_, ?_, ?_, ?_⟩)
        · rw [d2 1 4 (by omega) (by omega)]; exact c5
        · exact hall _ _ (by omega) (by omega) (by omega) (by omega) (by omega)
        · exact hall _ _ (by omega) (by omega) (by omega) (by omega) (by omega)
        · exact hall _ _ (by omega) (by omega) (by omega) (by omega) (by omega)
        · rw [d4, d2 _ _ (by omega) (by omega), c4, k1, c2 176 k (by omega) (by omega) (by omega), (hI.pl.2 k hk hne).2.2.2.2]
        · exact hall _ _ (by omega) (by omega) (by omega) (by omega) (by omega)
        · exact hall _ _ (by omega) (by omega) (by omega) (by omega) (by omega)
        · exact hall _ _ (by omega) (by omega) (by omega) (by omega) (by omega)
        · exact hall _ _ (by omega) (by omega) (by omega) (by omega) (by omega)
        · exact hall _ _ (by omega) (by omega) (by omega) (by omega) (by omega)
        · exact hall _ _ (by omega) (by omega) (by omega) (by omega) (by omega)
        · rw [d3, d2 _ _ (by omega) (by omega), c3]
        · intro h
          rw [hall _ _ (by omega) (by omega) (by omega) (by omega) (by omega), hall _ _ (by omega) (by omega) (by omega) (by omega) (by omega)]
          exact (hI.rd k n hk hn hne).2.1 h
        · intro h
          rw [hall _ _ (by omega) (by omega) (by omega) (by omega) (by omega), hall _ _ (by omega) (by omega) (by omega) (by omega) (by omega)]
          exact (hI.rd k n hk hn hne).2.2.1 h
        · intro h
          rw [hall _ _ (by omega) (by omega) (by omega) (by omega) (by omega), hall _ _ (by omega) (by omega) (by omega) (by omega) (by omega)]
          exact (hI.rd k n hk hn hne).2.2.2 h
        · rw [d3]; omega
        · rw [hall 178 _ (by omega) (by omega) (by omega) (by omega) (by omega)]; exact hwb.2.1
        · rw [hall 179 _ (by omega) (by omega) (by omega) (by omega) (by omega)]; exact hwb.2.2.1
        · rw [hall 180 _ (by omega) (by omega) (by omega) (by omega) (by omega)]; exact hwb.2.2.2.1
        · intro h
          rw [d3]
          unfold mostOf at hv
          rw [if_pos h] at hv
          exact hv.2
    · refine ⟨gf M.1 k, M, M, ?_, ?_, c, by omega, h0⟩
      · unfold fX9_read
        rw [gaugeF_nI hk hI.pl]
        simp only [some_bind, e, ↓reduceIte]
      · unfold fX10_read
        rw [fails04 hk hI.wk]
        simp only [some_bind, e, ↓reduceIte]
