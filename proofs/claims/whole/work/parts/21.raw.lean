abbrev sHn (m : sm) : Nat := (m 170 14).toNatClampNeg
abbrev sHi (m : sm) (k d : Nat) (t : Int32) : Int32 := sHd m k d t (sHn m)
theorem sHd_at (m : sm) (k d : Nat) (t : Int32) : ∀ n, sHd m k d t n = -1 ∨ ∃ i, i < n ∧ sHd m k d t n = nI i ∧ m 181 i = nI k ∧ m 182 i = nI d ∧ ¬ t < m 184 i
  | 0 => Or.inl rfl
  | n + 1 => by
    unfold sHd
    by_cases h : m 181 n = nI k ∧ m 182 n = nI d ∧ ¬ t < m 184 n
    · rw [if_pos h]
      exact Or.inr ⟨n, by omega, rfl, h⟩
    · rw [if_neg h]
      rcases sHd_at m k d t n with h1 | ⟨i, h1, h2⟩
      · exact Or.inl h1
      · exact Or.inr ⟨i, by omega, h2⟩
def sRaw (m : sm) (k d : Nat) (t : Int32) : Int32 :=
  if sGb m k = false ∨ m 171 k = 3 ∨ nI d < m 175 k ∨ t < nI d ∨ ¬ nI d ≤ m 170 15 then -1
  else if ¬ sHi m k d t = -1 then m 183 (sHi m k d t).toNatClampNeg
  else if m 171 k = 0 then m 177 (56 * k + d)
  else if m 171 k = 1 then (if m 177 (56 * k + d) = -1 then -1 else sTip m k d)
  else if m 171 k = 2 then (if m 177 (56 * k + d) = -1 ∧ m 179 (56 * k + d) = -1 then -1 else if m 179 (56 * k + d) = -1 then 0 else m 179 (56 * k + d))
  else if m 177 (56 * k + d) = -1 ∨ m 180 (56 * k + d) = -1 then -1 else (m 177 (56 * k + d) + m 180 (56 * k + d)) * m 174 k / 2
/-- how many entries there are -/
abbrev sH (m : sm) : Prop := ∃ h, h ≤ 100 ∧ m 170 14 = nI h
theorem rawAt_eq {k d : Nat} {t : Int32} {M : xM} (hk : k < 16) (hd : d < 56) (hh : sH M.1) : fX10_rawAt (nI k) (nI d) t M = some (sRaw M.1 k d t) := by
  obtain ⟨h, h9, hh⟩ := hh
  have hb : xinb (nI k) 16 = true := xinb_nI hk (by decide)
  have hc : (nI k).toNatClampNeg = k := nI_clamp (by omega)
  have hb2 : xinb (nI (56 * k + d)) 896 = true := xinb_nI (by omega) (by decide)
  have hc2 : (nI (56 * k + d)).toNatClampNeg = 56 * k + d := nI_clamp (by omega)
  have hn : sHn M.1 = h := by unfold sHn; rw [hh, nI_clamp (by omega)]
  have h10 : ¬ (1:Int32) = 0 := by decide
  have h20 : ¬ (2:Int32) = 0 := by decide
  unfold fX10_rawAt sRaw
  rcases Bool.eq_false_or_eq_true (sGb M.1 k) with hg | hg
  · rw [isGauge_1 hk hg]
    simp only [some_bind, hb, hc, h10, hg, ↓reduceIte, reduceCtorEq, false_or]
    by_cases e3 : M.1 171 k = 3
    · simp only [e3, ↓reduceIte, true_or]
    · simp only [e3, ↓reduceIte, false_or]
      by_cases e4 : nI d < M.1 175 k
      · rw [isIn_0 (Or.inl e4)]
        simp only [e4, some_bind, ↓reduceIte, true_or]
      · rw [isIn_1 e4 (show ¬ (55:Int32) < nI d from nI_nlt (b := d) (a := 55) (by omega) (by decide))]
        simp only [e4, some_bind, h10, ↓reduceIte, false_or]
        by_cases e5 : t < nI d
        · simp only [e5, ↓reduceIte, true_or]
        · simp only [e5, ↓reduceIte, false_or]
          by_cases e6 : nI d ≤ M.1 170 15
          · simp only [e6, ↓reduceIte, not_true]
            rw [byHand_eq hh h9]
            unfold sHi
            rw [hn]
            simp only [some_bind]
            rcases sHd_at M.1 k d t h with e7 | ⟨i, hi, e7, -⟩
            · simp only [e7, ↓reduceIte, not_true, at_nI, some_bind, hb2, hc2, bd, jn]
              by_cases q0 : M.1 171 k = 0
              · simp only [q0, ↓reduceIte]
              · by_cases q1 : M.1 171 k = 1
                · simp only [q1, h10, ↓reduceIte]
                  by_cases r1 : M.1 177 (56 * k + d) = -1
                  · simp only [r1, ↓reduceIte]
                  · simp only [r1, ↓reduceIte, tipped_eq hk hd, some_bind]
                · by_cases q2 : M.1 171 k = 2
                  · have h21 : ¬ (2:Int32) = 1 := by decide
                    simp only [q2, h20, h21, ↓reduceIte]
                    by_cases r1 : M.1 177 (56 * k + d) = -1
                    · by_cases r2 : M.1 179 (56 * k + d) = -1
                      · simp only [r1, r2, ↓reduceIte, and_self]
                      · simp only [r1, r2, ↓reduceIte, and_false]
                    · by_cases r2 : M.1 179 (56 * k + d) = -1
                      · simp only [r1, r2, ↓reduceIte, false_and]
                      · simp only [r1, r2, ↓reduceIte, and_false]
                  · simp only [q0, q1, q2, ↓reduceIte]
                    by_cases r1 : M.1 177 (56 * k + d) = -1
                    · simp only [r1, ↓reduceIte, true_or]
                    · by_cases r2 : M.1 180 (56 * k + d) = -1
                      · simp only [r1, r2, ↓reduceIte, or_true]
                      · simp only [r1, r2, h20, ↓reduceIte, or_self]
            · have h1 : ¬ nI i = -1 := nI_nm1 (by omega)
              have hb3 : xinb (nI i) 100 = true := xinb_nI (by omega) (by decide)
              simp only [e7, h1, hb3, ↓reduceIte, not_false_eq_true]
          · simp only [e6, ↓reduceIte, not_false_eq_true]
  · rw [isGauge_0 hk hg]
    simp only [some_bind, hg, ↓reduceIte, true_or]
theorem rawAt_out {k : Nat} {day t : Int32} {M : xM} (hk : k < 16) (hf : ¬ M.1 175 k < 0) (hd : day < 0 ∨ nI 56 ≤ day) : fX10_rawAt (nI k) day t M = some (-1) := by
  have hb : xinb (nI k) 16 = true := xinb_nI hk (by decide)
  have hc : (nI k).toNatClampNeg = k := nI_clamp (by omega)
  have h10 : ¬ (1:Int32) = 0 := by decide
  have hin : day < M.1 175 k ∨ (55:Int32) < day := by
    rcases hd with h | h
    · exact Or.inl (by
        have h1 := i_le_of_not_lt hf
        rw [Int32.lt_iff_toInt_lt] at h ⊢
        rw [Int32.le_iff_toInt_le] at h1
        omega)
    · exact Or.inr (by
        rw [Int32.le_iff_toInt_le, nI_toInt (by decide)] at h
        rw [Int32.lt_iff_toInt_lt]
        have : (55:Int32).toInt = 55 := by decide
        omega)
  unfold fX10_rawAt
  rcases Bool.eq_false_or_eq_true (sGb M.1 k) with hg | hg
  · rw [isGauge_1 hk hg]
    simp only [some_bind, hb, hc, h10, ↓reduceIte]
    by_cases e3 : M.1 171 k = 3
    · simp only [e3, ↓reduceIte]
    · simp only [e3, ↓reduceIte]
      rw [isIn_0 hin]
      simp only [some_bind, ↓reduceIte]
  · rw [isGauge_0 hk hg]
    simp only [some_bind, ↓reduceIte]
abbrev sR (m : sm) (k d : Nat) : Int32 := sRaw m k d 99
theorem raw0_eq {k d : Nat} {M : xM} (hk : k < 16) (hd : d < 56) (hh : sH M.1) : fX10_raw0 (nI k) (nI d) M = some (sR M.1 k d) := by
  unfold fX10_raw0
  rw [rawAt_eq hk hd hh]
  rfl
/-- the distance of a gauge from a square, of a gauge from a gauge -/
def sFar (m : sm) (q : Nat) (x y : Int32) : Int32 := (m 172 q - x) * (m 172 q - x) + (m 173 q - y) * (m 173 q - y)
abbrev sDs (m : sm) (q k : Nat) : Int32 := sFar m q (m 172 k) (m 173 k)
theorem far_eq {q : Nat} {x y : Int32} {M : xM} (hq : q < 16) : fX10_far (nI q) x y M = some (sFar M.1 q x y) := by
  have hb : xinb (nI q) 16 = true := xinb_nI hq (by decide)
  have hc : (nI q).toNatClampNeg = q := nI_clamp (by omega)
  unfold fX10_far
  simp only [hb, hc, ↓reduceIte]
  rfl
/-- how many gauges near tell their rain of that day, and whether all are wet -/
def sDl (m : sm) (k d : Nat) : Nat → Int32 × Int32
  | 0 => (0, 1)
  | q + 1 => if q = k ∨ sGb m q = false ∨ m 170 17 < sDs m q k ∨ sR m q d = -1 then sDl m k d q else ((sDl m k d q).1 + 1, if (sDl m k d q).2 = 0 then 0 else if sR m q d < m 170 18 then 0 else 1)
def sDo3 (m : sm) (k d : Nat) : Int32 :=
  let a := m 177 (56 * k + d)
  let b := m 180 (56 * k + d)
  let more := if a ≤ b then b else a
  let less := if a ≤ b then a else b
  if 100 * (more - less) ≤ m 170 19 * more then 0 else 3
def sDo (m : sm) (k d : Nat) : Int32 :=
  if sR m k d = -1 then 0
  else if ¬ sR m k d ≤ m 170 16 then 1
  else if sR m k d = 0 ∧ ¬ (sDl m k d 16).1 ≤ 1 ∧ ¬ (sDl m k d 16).2 = 0 then 2
  else if m 171 k = 4 ∧ sHi m k d 99 = -1 then sDo3 m k d
  else 0
theorem doubt_eq {k d : Nat} {M : xM} (hk : k < 16) (hd : d < 56) (hh : sH M.1) : fX10_doubt (nI k) (nI d) M = some (sDo M.1 k d) := by
  have hh0 := hh
  obtain ⟨h, h9, hh⟩ := hh
  have hb : xinb (nI k) 16 = true := xinb_nI hk (by decide)
  have hc : (nI k).toNatClampNeg = k := nI_clamp (by omega)
  have hb2 : xinb (nI (56 * k + d)) 896 = true := xinb_nI (by omega) (by decide)
  have hc2 : (nI (56 * k + d)).toNatClampNeg = 56 * k + d := nI_clamp (by omega)
  have hn : sHn M.1 = h := by unfold sHn; rw [hh, nI_clamp (by omega)]
  have h10 : ¬ (1:Int32) = 0 := by decide
  unfold fX10_doubt
  rw [raw0_eq hk hd hh0]
  simp only [some_bind]
  by_cases e1 : sR M.1 k d = -1
  · simp only [e1, sDo, ↓reduceIte]
  · by_cases e2 : sR M.1 k d ≤ M.1 170 16
    · simp only [e1, e2, ↓reduceIte]
      refine lp_for (fun i => ((sDl M.1 k d i).1, (sDl M.1 k d i).2, nI i)) _ 16 (fun q kk hq hkk => ?_) (fun kk => ?_) xfu 0 (by decide) (by unfold xfu; omega)
      · have g1 : ¬ (16:Int32) ≤ nI q := nI_ge (b := 16) hq (by decide)
        simp only [g1, ↓reduceIte, nI_1]
        simp only [sDl] at hkk
        by_cases q1 : q = k
        · subst q1
          simpa only [↓reduceIte, true_or] using hkk
        · have q2 : ¬ nI q = nI k := nI_ne (by omega) (by omega) q1
          simp only [q2, ↓reduceIte]
          simp only [q1, false_or] at hkk
          rcases Bool.eq_false_or_eq_true (sGb M.1 q) with q3 | q3
          · rw [isGauge_1 hq q3]
            simp only [some_bind, h10, hb, hc, ↓reduceIte, far_eq hq]
            simp only [q3, reduceCtorEq, false_or] at hkk
            by_cases q4 : M.1 170 17 < sDs M.1 q k
            · simp only [q4, ↓reduceIte, true_or] at hkk ⊢
              exact hkk
            · simp only [q4, false_or] at hkk
              simp only [q4, ↓reduceIte]
              rw [raw0_eq hq hd hh0]
              simp only [some_bind]
              by_cases q5 : sR M.1 q d = -1
              · simp only [q5, ↓reduceIte] at hkk ⊢
                exact hkk
              · simp only [q5, ↓reduceIte] at hkk ⊢
                by_cases q6 : (sDl M.1 k d q).2 = 0
                · simp only [q6, ↓reduceIte] at hkk ⊢
                  exact hkk
                · simp only [q6, ↓reduceIte] at hkk ⊢
                  by_cases q7 : sR M.1 q d < M.1 170 18
                  · simp only [q7, ↓reduceIte] at hkk ⊢
                    exact hkk
                  · simp only [q7, ↓reduceIte] at hkk ⊢
                    exact hkk
          · rw [isGauge_0 hq q3]
            simp only [some_bind, ↓reduceIte]
            simpa only [q3, true_or, ↓reduceIte] using hkk
      · have g1 : (16:Int32) ≤ nI 16 := by decide
        unfold sDo
        simp only [g1, e1, e2, ↓reduceIte, not_true, jn, hb, hc]
        have key : (if M.1 171 k = 4 then (fX10_byHand (nI k) (nI d) 99 M).bind fun v14 => if v14 = -1 then (fX10_at (nI k) (nI d) M).bind fun v16 => if xinb v16 896 = true then bd (M.1 177 v16.toNatClampNeg) fun x18 => (fX10_at (nI k) (nI d) M).bind fun v20 => if xinb v20 896 = true then bd (M.1 180 v20.toNatClampNeg) fun x22 => if x18 ≤ x22 then (if x18 ≤ x22 then (if 100 * (x22 - x18) ≤ M.1 170 19 * x22 then some 0 else some 3) else (if 100 * (x22 - x22) ≤ M.1 170 19 * x22 then some 0 else some 3)) else (if x18 ≤ x22 then (if 100 * (x18 - x18) ≤ M.1 170 19 * x18 then some 0 else some 3) else (if 100 * (x18 - x22) ≤ M.1 170 19 * x18 then some 0 else some 3)) else none else none else some 0 else some (0:Int32)) = some (if M.1 171 k = 4 ∧ sHi M.1 k d 99 = -1 then sDo3 M.1 k d else 0) := by
          by_cases w1 : M.1 171 k = 4
          · simp only [w1, ↓reduceIte, true_and]
            rw [byHand_eq hh h9]
            unfold sHi
            rw [hn]
            simp only [some_bind, at_nI, hb2, hc2, bd, ↓reduceIte]
            by_cases w2 : sHd M.1 k d 99 h = -1
            · simp only [w2, ↓reduceIte, sDo3]
              by_cases w3 : M.1 177 (56 * k + d) ≤ M.1 180 (56 * k + d)
              · simp only [w3, ↓reduceIte]; split <;> rfl
              · simp only [w3, ↓reduceIte]; split <;> rfl
            · simp only [w2, ↓reduceIte]
          · simp only [w1, ↓reduceIte, false_and]
        by_cases z1 : sR M.1 k d = 0
        · by_cases z2 : (sDl M.1 k d 16).1 ≤ 1
          · simp only [z1, z2, ↓reduceIte, not_true, false_and, and_false]
            exact key
          · by_cases z3 : (sDl M.1 k d 16).2 = 0
            · simp only [z1, z2, z3, ↓reduceIte, not_true, and_false]
              exact key
            · simp only [z1, z2, z3, ↓reduceIte, not_false_eq_true, and_self]
        · simp only [z1, ↓reduceIte, false_and]
          exact key
    · simp only [e1, e2, sDo, ↓reduceIte, not_false_eq_true]
def sTr (m : sm) (k d : Nat) : Int32 := if sR m k d = -1 then -1 else if sDo m k d = 0 then sR m k d else -1
theorem trusted_eq {k d : Nat} {M : xM} (hk : k < 16) (hd : d < 56) (hh : sH M.1) : fX10_trusted (nI k) (nI d) M = some (sTr M.1 k d) := by
  unfold fX10_trusted sTr
  rw [raw0_eq hk hd hh, doubt_eq hk hd hh]
  simp only [some_bind]
  by_cases e1 : sR M.1 k d = -1
  · simp only [e1, ↓reduceIte]
  · by_cases e2 : sDo M.1 k d = 0
    · simp only [e1, e2, ↓reduceIte]
    · simp only [e1, e2, ↓reduceIte]
