/-! ===== the class: its net beside the reference's ===== -/
/-- the latest of the first n entries of a place and a day -/
def sHl (m : sm) (k d : Nat) : Nat → Int32
  | 0 => -1
  | i + 1 => if m 181 i = nI k ∧ m 182 i = nI d then nI i else sHl m k d i
theorem sHl_at (m : sm) (k d : Nat) : ∀ n, (sHl m k d n = -1 ∧ ∀ t, sHd m k d t n = -1) ∨ ∃ i, i < n ∧ sHl m k d n = nI i ∧ m 181 i = nI k ∧ m 182 i = nI d ∧ ∀ t, sHd m k d t n = if t < m 184 i then sHd m k d t i else nI i
  | 0 => Or.inl ⟨rfl, fun _ => rfl⟩
  | n + 1 => by
    have hsd : ∀ t, sHd m k d t (n + 1) = if m 181 n = nI k ∧ m 182 n = nI d ∧ ¬ t < m 184 n then nI n else sHd m k d t n := fun _ => rfl
    have hsl : sHl m k d (n + 1) = if m 181 n = nI k ∧ m 182 n = nI d then nI n else sHl m k d n := rfl
    rw [hsl]
    by_cases e1 : m 181 n = nI k ∧ m 182 n = nI d
    · rw [if_pos e1]
      refine Or.inr ⟨n, by omega, rfl, e1.1, e1.2, fun t => ?_⟩
      rw [hsd]
      by_cases e2 : t < m 184 n
      · rw [if_neg (fun h => h.2.2 e2), if_pos e2]
      · rw [if_pos ⟨e1.1, e1.2, e2⟩, if_neg e2]
    · rw [if_neg e1]
      have hx : ∀ t, ¬ (m 181 n = nI k ∧ m 182 n = nI d ∧ ¬ t < m 184 n) := fun t h => e1 ⟨h.1, h.2.1⟩
      rcases sHl_at m k d n with ⟨h1, h2⟩ | ⟨i, h1, h2, h3, h4, h5⟩
      · exact Or.inl ⟨h1, fun t => by rw [hsd, if_neg (hx t), h2]⟩
      · exact Or.inr ⟨i, by omega, h2, h3, h4, fun t => by rw [hsd, if_neg (hx t), h5]⟩
/-- the log of the class holds the entries of the reference -/
abbrev CLog (m : sm) (h : Nat) : Prop := ∀ i, i < h → m 4 i = m 183 i ∧ m 5 i = m 184 i ∧ ∀ k d, k < 16 → d < 56 → m 181 i = nI k → m 182 i = nI d → m 6 i = sHl m k d i
theorem latest_eq {k d h n : Nat} {t : Int32} {M : xM} (hk : k < 16) (hd : d < 56) (hl : CLog M.1 h) (h9 : h ≤ 100) (hn : n ≤ h) : fX3_latestUntil (sHl M.1 k d n) t M = some (sHd M.1 k d t n) := by
  unfold fX3_latestUntil
  refine lp_run (fun s => ∃ a j, j + a ≤ n ∧ s = (sHl M.1 k d a, nI j) ∧ sHd M.1 k d t a = sHd M.1 k d t n) (fun s => 101 - s.2.toNatClampNeg) _ ?_ xfu _ ⟨n, 0, by omega, rfl, rfl⟩ (by unfold xfu; show 101 - _ < 1000; omega)
  rintro s kk ⟨a, j, h1, rfl, h2⟩ hkk
  by_cases e1 : j = 100
  · have g1 : (100:Int32) ≤ nI j := by rw [e1]; decide
    simp only [g1, ↓reduceIte]
    rw [← h2, show a = 0 by omega]
    rfl
  · have g1 : ¬ (100:Int32) ≤ nI j := nI_ge (b := 100) (by omega) (by decide)
    simp only [g1, ↓reduceIte]
    rcases sHl_at M.1 k d a with ⟨h3, h4⟩ | ⟨i, h3, h4, h5, h6, h7⟩
    · have g2 : (-1:Int32) < 0 := by decide
      simp only [h3, g2, ↓reduceIte]
      rw [← h2, h4]
    · have g2 : ¬ nI i < 0 := nI_pos (by omega)
      have g3 : nI i < (100:Int32) := nI_lt (b := 100) (by omega) (by decide)
      have hb : xinb (nI i) 100 = true := xinb_nI (by omega) (by decide)
      have hc : (nI i).toNatClampNeg = i := nI_clamp (by omega)
      have hi := hl i (by omega)
      simp only [h4, g2, g3, hb, hc, hi.2.1, hi.2.2 k d hk hd h5 h6, bd_at, ↓reduceIte, nI_1]
      rw [← h2, h7]
      by_cases e2 : t < M.1 184 i
      · simp only [e2, ↓reduceIte]
        have := hkk (sHl M.1 k d i, nI (j + 1)) ⟨i, j + 1, by omega, rfl, by rw [← h2, h7, if_pos e2]⟩ (by show 101 - (nI (j + 1)).toNatClampNeg < 101 - (nI j).toNatClampNeg; rw [nI_clamp (by omega), nI_clamp (by omega)]; omega)
        rw [this, ← h2, h7, if_pos e2]
      · simp only [e2, ↓reduceIte]
/-- the places of the class -/
abbrev CPl (m : sm) : Prop := (∀ k, k < 16 → m (8 + 4 * k) 0 = m 171 k) ∧ (∀ k, k < 16 → ¬ m 171 k = -1 → m (8 + 4 * k) 1 = m 172 k ∧ m (8 + 4 * k) 2 = m 173 k ∧ m (8 + 4 * k) 3 = m 174 k ∧ m (8 + 4 * k) 4 = m 175 k ∧ m (8 + 4 * k) 5 = m 176 k)
abbrev CRd (m : sm) : Prop := ∀ k d, k < 16 → d < 56 → ¬ m 171 k = -1 → m (8 + 4 * k + 1) d = m 177 (56 * k + d) ∧ (m 171 k = 1 → m (8 + 4 * k + 2) d = m 178 (56 * k + d)) ∧ (m 171 k = 2 → m (8 + 4 * k + 2) d = m 179 (56 * k + d)) ∧ (m 171 k = 4 → m (8 + 4 * k + 2) d = m 180 (56 * k + d))
theorem isPlace_nI {k : Nat} {M : xM} (hk : k < 16) : fX9_isPlace (nI k) M = some 1 := by
  unfold fX9_isPlace
  rw [if_neg (nI_pos (by omega)), if_neg (show ¬ (16:Int32) ≤ nI k from nI_ge (b := 16) hk (by decide))]
theorem isDay_nI {d : Nat} {M : xM} (hd : d < 56) : fX9_isDay (nI d) M = some 1 := by
  unfold fX9_isDay
  rw [if_neg (nI_pos (by omega)), if_neg (show ¬ (56:Int32) ≤ nI d from nI_ge (b := 56) hd (by decide))]
theorem isDay_out {d : Int32} {M : xM} (h : d < 0 ∨ 56 ≤ d) : fX9_isDay d M = some 0 := by
  unfold fX9_isDay
  by_cases h1 : d < 0
  · rw [if_pos h1]
  · rw [if_neg h1, if_pos (h.resolve_left h1)]
theorem isPlace_out {d : Int32} {M : xM} (h : d < 0 ∨ 16 ≤ d) : fX9_isPlace d M = some 0 := by
  unfold fX9_isPlace
  by_cases h1 : d < 0
  · rw [if_pos h1]
  · rw [if_neg h1, if_pos (h.resolve_left h1)]
/-- the number that is read -/
def sRe (m : sm) (k d : Nat) : Int32 :=
  if m 171 k = 0 then m 177 (56 * k + d)
  else if m 171 k = 1 then (if m 177 (56 * k + d) = -1 then -1 else sTip m k d)
  else if m 171 k = 2 then (if m 177 (56 * k + d) = -1 ∧ m 179 (56 * k + d) = -1 then -1 else if m 179 (56 * k + d) = -1 then 0 else m 179 (56 * k + d))
  else if m 171 k = 4 then (if m 177 (56 * k + d) = -1 ∨ m 180 (56 * k + d) = -1 then -1 else (m 177 (56 * k + d) + m 180 (56 * k + d)) * m 174 k / 2)
  else -1
theorem max0 (w : Int32) : (if 0 < w then w else 0) = if 0 ≤ w then w else 0 := by
  by_cases h : 0 < w
  · rw [if_pos h, if_pos (Int32.le_of_lt h)]
  · rw [if_neg h]
    by_cases h1 : 0 ≤ w
    · rw [if_pos h1]
      have := Int32.le_antisymm h1 (Int32.not_lt.mp h)
      exact this
    · rw [if_neg h1]
theorem tippedC_eq {k d : Nat} {M : xM} (hk : k < 16) (hd : d < 56) (h1 : CPl M.1) (h2 : CRd M.1) (hK : M.1 171 k = 1) : fX7_numberTipped k (nI d) M = some (if M.1 177 (56 * k + d) = -1 then -1 else sTip M.1 k d) := by
  have hb : xinb (nI d) 56 = true := xinb_nI hd (by decide)
  have hc : (nI d).toNatClampNeg = d := nI_clamp (by omega)
  have h10 : ¬ (1:Int32) = 0 := by decide
  have hne : ¬ M.1 171 k = -1 := by rw [hK]; decide
  have hr := h2 k d hk hd hne
  have hs := (h1.2 k hk hne).2.2.1
  unfold fX7_numberTipped
  rw [isDay_nI hd]
  simp only [some_bind, h10, hb, hc, hr.1, hr.2.1 hK, hs, bd_at, jn_at, ↓reduceIte]
  by_cases e1 : M.1 177 (56 * k + d) = -1
  · simp only [e1, ↓reduceIte]
  · simp only [e1, ↓reduceIte]
    unfold sTip
    rcases Nat.eq_zero_or_pos d with rfl | hp
    · have h0 : nI 0 ≤ 0 := by decide
      simp only [h0, ↓reduceIte, true_or, max0]
    · have h0 : ¬ nI d ≤ 0 := nI_nle hp (by omega)
      obtain ⟨j, rfl⟩ : ∃ j, d = j + 1 := ⟨d - 1, by omega⟩
      have hb3 : xinb (nI j) 56 = true := xinb_nI (by omega) (by decide)
      have hc3 : (nI j).toNatClampNeg = j := nI_clamp (by omega)
      have h8 : ¬ (8:Int32) = 0 := by decide
      have hr3 := (h2 k j hk (by omega) hne).2.1 hK
      have hd0 : ¬ j + 1 = 0 := by omega
      simp only [h0, nI_pred, hb3, hc3, h8, hr3, hd0, ↓reduceIte, false_or, Nat.add_sub_cancel]
      by_cases e2 : M.1 178 (56 * k + (j + 1)) = -1
      · simp only [e2, ↓reduceIte, true_or, max0]
      · by_cases e3 : M.1 178 (56 * k + j) = -1
        · simp only [e2, e3, ↓reduceIte, or_true, max0]
        · simp only [e2, e3, ↓reduceIte, or_self, max0]
theorem numberRead_eq {k d : Nat} {M : xM} (hk : k < 16) (hd : d < 56) (h1 : CPl M.1) (h2 : CRd M.1) : fX7_numberRead k (nI d) M = some (sRe M.1 k d) := by
  have hb : xinb (nI d) 56 = true := xinb_nI hd (by decide)
  have hc : (nI d).toNatClampNeg = d := nI_clamp (by omega)
  have h10 : ¬ (1:Int32) = 0 := by decide
  unfold fX7_numberRead sRe
  rw [isDay_nI hd]
  simp only [some_bind, h10, hb, hc, h1.1 k hk, bd_at, ↓reduceIte]
  by_cases e0 : M.1 171 k = -1
  · have q : ¬ (-1:Int32) = 0 ∧ ¬ (-1:Int32) = 1 ∧ ¬ (-1:Int32) = 2 ∧ ¬ (-1:Int32) = 3 ∧ ¬ (-1:Int32) = 4 := by decide
    simp only [e0, q.1, q.2.1, q.2.2.1, q.2.2.2.1, q.2.2.2.2, ↓reduceIte]
  · have hr := h2 k d hk hd e0
    by_cases q0 : M.1 171 k = 0
    · simp only [q0, hr.1, ↓reduceIte]
    · by_cases q1 : M.1 171 k = 1
      · rw [tippedC_eq hk hd h1 h2 q1]
        simp only [q1, h10, some_bind, ↓reduceIte]
      · by_cases q2 : M.1 171 k = 2
        · have q : ¬ (2:Int32) = 0 ∧ ¬ (2:Int32) = 1 := by decide
          simp only [q2, q.1, q.2, hr.1, hr.2.2.1 q2, ↓reduceIte]
          by_cases r1 : M.1 179 (56 * k + d) = -1
          · by_cases r2 : M.1 177 (56 * k + d) = -1
            · simp only [r1, r2, ↓reduceIte, and_self]
            · simp only [r1, r2, ↓reduceIte, false_and]
          · simp only [r1, ↓reduceIte, and_false]
        · by_cases q3 : M.1 171 k = 3
          · have q : ¬ (3:Int32) = 0 ∧ ¬ (3:Int32) = 1 ∧ ¬ (3:Int32) = 2 ∧ ¬ (3:Int32) = 4 := by decide
            simp only [q3, q.1, q.2.1, q.2.2.1, q.2.2.2, ↓reduceIte]
          · by_cases q4 : M.1 171 k = 4
            · have q : ¬ (4:Int32) = 0 ∧ ¬ (4:Int32) = 1 ∧ ¬ (4:Int32) = 2 ∧ ¬ (4:Int32) = 3 := by decide
              have h20 : ¬ (2:Int32) = 0 := by decide
              have hs := (h1.2 k hk e0).2.2.1
              unfold fX7_numberTwinned
              rw [isDay_nI hd]
              simp only [some_bind, q4, q.1, q.2.1, q.2.2.1, q.2.2.2, h10, h20, hb, hc, hr.1, hr.2.2.2 q4, hs, ↓reduceIte]
              by_cases r1 : M.1 177 (56 * k + d) = -1
              · simp only [r1, ↓reduceIte, true_or, some_bind]
              · by_cases r2 : M.1 180 (56 * k + d) = -1
                · simp only [r1, r2, ↓reduceIte, or_true, some_bind]
                · simp only [r1, r2, ↓reduceIte, or_self, some_bind]
            · simp only [q0, q1, q2, q3, q4, ↓reduceIte]
