/-! ===== the class's doubts ===== -/
abbrev WB (m : sm) : Prop := ∀ k d, k < 16 → d < 56 → sGb m k = true → (-1 ≤ (m 177 (56 * k + d)).toInt ∧ (m 177 (56 * k + d)).toInt ≤ 5000) ∧ (-1 ≤ (m 178 (56 * k + d)).toInt ∧ (m 178 (56 * k + d)).toInt ≤ 7) ∧ (-1 ≤ (m 179 (56 * k + d)).toInt ∧ (m 179 (56 * k + d)).toInt ≤ 5000) ∧ (-1 ≤ (m 180 (56 * k + d)).toInt ∧ (m 180 (56 * k + d)).toInt ≤ 250) ∧ (m 171 k = 1 ∨ m 171 k = 4 → (m 177 (56 * k + d)).toInt ≤ 250) ∧ (0 ≤ (m 174 k).toInt ∧ (m 174 k).toInt ≤ 20)
abbrev CRu (m : sm) : Prop := m 7 0 = m 170 16 ∧ m 7 1 = m 170 17 ∧ m 7 2 = m 170 18 ∧ m 7 3 = m 170 19 ∧ ∀ j, j < 8 → m 7 (4 + j) = m 185 j
theorem sq_sym (a b : Int32) : (a - b) * (a - b) = (b - a) * (b - a) := by
  have : a - b = -(b - a) := by rw [Int32.neg_sub]
  rw [this, Int32.neg_mul_neg]
theorem cdist_eq {q k : Nat} {M : xM} (hq : q < 16) (hk : k < 16) (hP : CPl M.1) (h1 : ¬ M.1 171 q = -1) (h2 : ¬ M.1 171 k = -1) : fX9_squaredDistance (M.1 (8 + 4 * k) 1) (M.1 (8 + 4 * k) 2) q M = some (sDs M.1 q k) := by
  have a := hP.2 q hq h1
  have b := hP.2 k hk h2
  unfold fX9_squaredDistance sDs sFar
  rw [a.1, a.2.1, b.1, b.2.1, sq_sym (M.1 172 k), sq_sym (M.1 173 k)]
theorem rule_eq {j : Nat} {M : xM} (hj : j < 12) : fX6_rule (nI j) M = some (M.1 7 j) := by
  have hb : xinb (nI j) 12 = true := xinb_nI hj (by decide)
  have hc : (nI j).toNatClampNeg = j := nI_clamp (by omega)
  unfold fX6_rule
  rw [if_neg (nI_pos (by omega)), if_neg (show ¬ (12:Int32) ≤ nI j from nI_ge (b := 12) hj (by decide)), if_pos hb, hc]
theorem sR_g {m : sm} {k d : Nat} (h : ¬ sR m k d = -1) : sGb m k = true := by
  cases e : sGb m k with
  | true => rfl
  | false =>
    refine absurd ?_ h
    unfold sR sRaw
    rw [if_pos (Or.inl e)]
theorem sDl_dry {m : sm} {k d a : Nat} (h : (sDl m k d a).2 = 0) : ∀ n, a ≤ n → (sDl m k d n).2 = 0 := by
  intro n
  induction n with
  | zero => intro hn; rw [show a = 0 by omega] at h; exact h
  | succ n ih =>
    intro hn
    by_cases e : a = n + 1
    · rw [← e]; exact h
    · have := ih (by omega)
      have hs : sDl m k d (n + 1) = if n = k ∨ sGb m n = false ∨ m 170 17 < sDs m n k ∨ sR m n d = -1 then sDl m k d n else ((sDl m k d n).1 + 1, if (sDl m k d n).2 = 0 then 0 else if sR m n d < m 170 18 then 0 else 1) := rfl
      rw [hs]
      split
      · exact this
      · simp only [this, ↓reduceIte]
theorem sDl_01 (m : sm) (k d : Nat) : ∀ n, (sDl m k d n).2 = 0 ∨ (sDl m k d n).2 = 1
  | 0 => Or.inr rfl
  | n + 1 => by
    have ih := sDl_01 m k d n
    have hs : sDl m k d (n + 1) = if n = k ∨ sGb m n = false ∨ m 170 17 < sDs m n k ∨ sR m n d = -1 then sDl m k d n else ((sDl m k d n).1 + 1, if (sDl m k d n).2 = 0 then 0 else if sR m n d < m 170 18 then 0 else 1) := rfl
    rw [hs]
    split
    · exact ih
    · show (if (sDl m k d n).2 = 0 then (0:Int32) else if sR m n d < m 170 18 then 0 else 1) = 0 ∨ (if (sDl m k d n).2 = 0 then (0:Int32) else if sR m n d < m 170 18 then 0 else 1) = 1
      split
      · exact Or.inl rfl
      · split
        · exact Or.inl rfl
        · exact Or.inr rfl
theorem lt2_le1 (x : Int32) : x < 2 ↔ x ≤ 1 := by
  rw [Int32.lt_iff_toInt_lt, Int32.le_iff_toInt_le, show (2:Int32).toInt = 2 from by decide, show (1:Int32).toInt = 1 from by decide]
  omega
theorem isDry_eq {k d : Nat} {M : xM} (hk : k < 16) (hd : d < 56) (hP : CPl M.1) (hU : CRu M.1) (hg : sGb M.1 k = true) (hr : ∀ q, q < 16 → M.1 (73 + 1 + q) d = sR M.1 q d) : fX0_isDryAmongWet (nI k) (nI d) M = some (if ¬ (sDl M.1 k d 16).1 ≤ 1 ∧ ¬ (sDl M.1 k d 16).2 = 0 then 1 else 0) := by
  have hb : xinb (nI k) 16 = true := xinb_nI hk (by decide)
  have hc : (nI k).toNatClampNeg = k := nI_clamp (by omega)
  have hb2 : xinb (nI d) 56 = true := xinb_nI hd (by decide)
  have hc2 : (nI d).toNatClampNeg = d := nI_clamp (by omega)
  have r1 : fX6_rule 1 M = some (M.1 170 17) := by rw [← hU.2.1]; exact rule_eq (j := 1) (by decide)
  have r2 : fX6_rule 2 M = some (M.1 170 18) := by rw [← hU.2.2.1]; exact rule_eq (j := 2) (by decide)
  unfold fX0_isDryAmongWet
  simp only [hb, r1, r2, some_bind, ↓reduceIte]
  refine lp_run (fun s => ∃ q, q ≤ 16 ∧ s = ((sDl M.1 k d q).1, nI q) ∧ ¬ (sDl M.1 k d q).2 = 0) (fun s => 16 - s.2.toNatClampNeg) _ ?_ xfu _ ⟨0, by omega, rfl, show ¬ (1:Int32) = 0 by decide⟩ (by unfold xfu; show 16 - _ < 1000; omega)
  rintro s kk ⟨q, hq, rfl, hw⟩ hkk
  by_cases e16 : q = 16
  · subst e16
    have g1 : (16:Int32) ≤ nI 16 := by decide
    simp only [g1, hw, lt2_le1, not_false_eq_true, and_true, ↓reduceIte]
    by_cases e1 : (sDl M.1 k d 16).1 ≤ 1
    · simp only [e1, not_true, ↓reduceIte]
    · simp only [e1, not_false_eq_true, ↓reduceIte]
  · have hq : q < 16 := by omega
    have g1 : ¬ (16:Int32) ≤ nI q := nI_ge (b := 16) hq (by decide)
    have hbq : xinb (nI q) 16 = true := xinb_nI hq (by decide)
    have hcq : (nI q).toNatClampNeg = q := nI_clamp (by omega)
    have hcq1 : (nI (q + 1)).toNatClampNeg = q + 1 := nI_clamp (by omega)
    have hs : sDl M.1 k d (q + 1) = if q = k ∨ sGb M.1 q = false ∨ M.1 170 17 < sDs M.1 q k ∨ sR M.1 q d = -1 then sDl M.1 k d q else ((sDl M.1 k d q).1 + 1, if (sDl M.1 k d q).2 = 0 then 0 else if sR M.1 q d < M.1 170 18 then 0 else 1) := rfl
    have skip : (q = k ∨ sGb M.1 q = false ∨ M.1 170 17 < sDs M.1 q k ∨ sR M.1 q d = -1) → kk ((sDl M.1 k d q).1, nI (q + 1)) = some (if ¬ (sDl M.1 k d 16).1 ≤ 1 ∧ ¬ (sDl M.1 k d 16).2 = 0 then 1 else 0) := fun h => by
      rw [if_pos h] at hs
      exact hkk _ ⟨q + 1, by omega, by rw [hs], by rw [hs]; exact hw⟩ (by simp only [hcq, hcq1]; omega)
    simp only [g1, ↓reduceIte, nI_1]
    by_cases q1 : q = k
    · have : nI q = nI k := by rw [q1]
      simp only [this, ↓reduceIte]
      exact skip (Or.inl q1)
    · have q2 : ¬ nI q = nI k := nI_ne (by omega) (by omega) q1
      simp only [q2, hbq, hb2, hcq, hc, hc2, hr q hq, ↓reduceIte]
      by_cases q3 : sR M.1 q d = -1
      · simp only [q3, ↓reduceIte]
        exact skip (Or.inr (Or.inr (Or.inr q3)))
      · have hgq := sR_g q3
        simp only [q3, ↓reduceIte]
        rw [cdist_eq hq hk hP (sGb_1 hgq).1 (sGb_1 hg).1, some_bind]
        by_cases q4 : M.1 170 17 < sDs M.1 q k
        · have q5 : ¬ sDs M.1 q k ≤ M.1 170 17 := Int32.not_le.mpr q4
          simp only [q5, ↓reduceIte]
          exact skip (Or.inr (Or.inr (Or.inl q4)))
        · have q5 : sDs M.1 q k ≤ M.1 170 17 := Int32.not_lt.mp q4
          simp only [q5, ↓reduceIte]
          rw [if_neg (by simp [q1, hgq, q4, q3]), if_neg hw] at hs
          by_cases q6 : sR M.1 q d < M.1 170 18
          · have q7 : ¬ M.1 170 18 ≤ sR M.1 q d := Int32.not_le.mpr q6
            rw [if_pos q6] at hs
            have h0 := sDl_dry (m := M.1) (k := k) (d := d) (a := q + 1) (by rw [hs]) 16 (by omega)
            simp only [q7, h0, not_true, and_false, ↓reduceIte]
          · have q7 : M.1 170 18 ≤ sR M.1 q d := Int32.not_lt.mp q6
            rw [if_neg q6] at hs
            simp only [q7, ↓reduceIte]
            exact hkk _ ⟨q + 1, by omega, by rw [hs], by rw [hs]; show ¬ (1:Int32) = 0; decide⟩ (by simp only [hcq, hcq1]; omega)
theorem abs_dif {a b : Int32} (h1 : -1 ≤ a.toInt ∧ a.toInt ≤ 5000) (h2 : -1 ≤ b.toInt ∧ b.toInt ≤ 5000) : (if 0 ≤ a - b then a - b else 0 - (a - b)) = (if a ≤ b then b else a) - (if a ≤ b then a else b) := by
  have e1 : (a - b).toInt = a.toInt - b.toInt := by
    rw [Int32.toInt_sub]
    apply Int.bmod_eq_of_le <;> omega
  by_cases h : a ≤ b
  · have h' := Int32.le_iff_toInt_le.mp h
    simp only [h, ↓reduceIte]
    by_cases h3 : 0 ≤ a - b
    · have h3' := Int32.le_iff_toInt_le.mp h3
      rw [e1, show (0:Int32).toInt = 0 from by decide] at h3'
      have : a = b := Int32.toInt_inj.mp (by omega)
      rw [if_pos h3, this]
    · rw [if_neg h3, Int32.zero_sub, Int32.neg_sub]
  · have h' := Int32.not_le.mp h
    rw [Int32.lt_iff_toInt_lt] at h'
    simp only [h, ↓reduceIte]
    have h3 : 0 ≤ a - b := by
      rw [Int32.le_iff_toInt_le, e1, show (0:Int32).toInt = 0 from by decide]
      omega
    rw [if_pos h3]
theorem doubtC_eq {k d : Nat} {M : xM} (hk : k < 16) (hd : d < 56) (hN : CNet M.1) (hL : CLg M.1) (hU : CRu M.1) (hB : WB M.1) (hr : ∀ q, q < 16 → M.1 (73 + 1 + q) d = sR M.1 q d) : fX0_doubtingRule (nI k) (nI d) M = some (sDo M.1 k d) := by
  obtain ⟨-, hP, hRd, -, -, -⟩ := hN
  obtain ⟨h, h9, hh, hl, hc, hW⟩ := hL
  have hb : xinb (nI k) 16 = true := xinb_nI hk (by decide)
  have hck : (nI k).toNatClampNeg = k := nI_clamp (by omega)
  have hb2 : xinb (nI d) 56 = true := xinb_nI hd (by decide)
  have hcd : (nI d).toNatClampNeg = d := nI_clamp (by omega)
  have h10 : ¬ (1:Int32) = 0 := by decide
  have hn : sHn M.1 = h := by unfold sHn; rw [hh, nI_clamp (by omega)]
  have r0 : fX6_rule 0 M = some (M.1 170 16) := by rw [← hU.1]; exact rule_eq (j := 0) (by decide)
  have r3 : fX6_rule 3 M = some (M.1 170 19) := by rw [← hU.2.2.2.1]; exact rule_eq (j := 3) (by decide)
  unfold fX0_doubtingRule sDo
  simp only [hb, hb2, hck, hcd, hr k hk, r0, r3, some_bind, bd_at, jn_at, ↓reduceIte]
  by_cases e1 : sR M.1 k d = -1
  · simp only [e1, ↓reduceIte]
  · have hg := sR_g e1
    have hne := (sGb_1 hg).1
    simp only [e1, ↓reduceIte]
    have key : (fX7_isUnlike k (nI d) (M.1 170 19) M).bind (fun v15 => if v15 = 0 then some (0:Int32) else some 3) = some (if M.1 171 k = 4 ∧ sHi M.1 k d 99 = -1 then sDo3 M.1 k d else 0) := by
      unfold fX7_isUnlike
      rw [isDay_nI hd]
      simp only [some_bind, h10, hb2, hcd, hP.1 k hk, hc k d hk hd, bd_at, ↓reduceIte]
      by_cases k4 : M.1 171 k = 4
      · have hrd := hRd k d hk hd hne
        have hHl : sHl M.1 k d h = sHi M.1 k d 99 := by
          unfold sHi
          rw [hn]
          rcases sHl_at M.1 k d h with ⟨a1, a2⟩ | ⟨i, a1, a2, a3, a4, a5⟩
          · rw [a1, a2]
          · obtain ⟨⟨w, hw, hw1, hw2⟩, -⟩ := hW i a1
            rw [a2, a5, if_neg]
            rw [hw1]
            exact nI_nlt (a := 99) (by omega) (by decide)
        simp only [k4, hHl, hrd.1, hrd.2.2.2 k4, true_and, ↓reduceIte]
        by_cases e5 : sHi M.1 k d 99 = -1
        · have hbd := hB k d hk hd hg
          simp only [e5, ↓reduceIte]
          rw [abs_dif hbd.1 ⟨hbd.2.2.2.1.1, by omega⟩]
          unfold sDo3
          have hmx : (if M.1 177 (56 * k + d) < M.1 180 (56 * k + d) then M.1 180 (56 * k + d) else M.1 177 (56 * k + d)) = if M.1 177 (56 * k + d) ≤ M.1 180 (56 * k + d) then M.1 180 (56 * k + d) else M.1 177 (56 * k + d) := by
            by_cases z1 : M.1 177 (56 * k + d) < M.1 180 (56 * k + d)
            · rw [if_pos z1, if_pos (Int32.le_of_lt z1)]
            · rw [if_neg z1]
              by_cases z2 : M.1 177 (56 * k + d) ≤ M.1 180 (56 * k + d)
              · rw [if_pos z2]; exact Int32.le_antisymm z2 (Int32.not_lt.mp z1)
              · rw [if_neg z2]
          rw [hmx, Int32.mul_comm _ 100]
          simp only []
          by_cases z3 : 100 * ((if M.1 177 (56 * k + d) ≤ M.1 180 (56 * k + d) then M.1 180 (56 * k + d) else M.1 177 (56 * k + d)) - if M.1 177 (56 * k + d) ≤ M.1 180 (56 * k + d) then M.1 177 (56 * k + d) else M.1 180 (56 * k + d)) ≤ M.1 170 19 * if M.1 177 (56 * k + d) ≤ M.1 180 (56 * k + d) then M.1 180 (56 * k + d) else M.1 177 (56 * k + d)
          · rw [if_pos z3, if_pos z3]; rfl
          · rw [if_neg z3, if_neg z3]; rfl
        · simp only [e5, some_bind, ↓reduceIte]
      · simp only [k4, some_bind, false_and, ↓reduceIte]
    by_cases e2 : sR M.1 k d ≤ M.1 170 16
    · simp only [e2, not_true, ↓reduceIte]
      by_cases z1 : sR M.1 k d = 0
      · rw [isDry_eq hk hd hP hU hg hr]
        by_cases z2 : ¬ (sDl M.1 k d 16).1 ≤ 1 ∧ ¬ (sDl M.1 k d 16).2 = 0
        · simp only [z1, some_bind, if_pos z2, h10, true_and, ↓reduceIte]
        · simp only [z1, some_bind, if_neg z2, true_and, ↓reduceIte]
          exact key
      · simp only [z1, false_and, ↓reduceIte]
        exact key
    · simp only [e2, not_false_eq_true, ↓reduceIte]
