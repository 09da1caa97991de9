/-! ===== stores: the day on which it is read, and what it spreads ===== -/
/-- of the last n days the first with a reading -/
def sOn (m : sm) (k : Nat) : Nat → Option Nat
  | 0 => none
  | n + 1 => if m 177 (56 * k + (56 - (n + 1))) = -1 then sOn m k n else some (56 - (n + 1))
def sRO (m : sm) (k d : Nat) : Option Nat := if m 171 k = 3 ∧ ¬ nI d < m 175 k then sOn m k (56 - d) else none
def oI : Option Nat → Int32
  | none => -1
  | some b => nI b
theorem sOn_c {m m' : sm} (e : sEq m m') (k : Nat) : ∀ n, sOn m' k n = sOn m k n
  | 0 => rfl
  | n + 1 => by simp only [sOn, sOn_c e k n, e 177 _ (by decide)]
theorem sRO_c {m m' : sm} (e : sEq m m') (k d : Nat) : sRO m' k d = sRO m k d := by
  simp only [sRO, sOn_c e, e 171 _ (by decide), e 175 _ (by decide)]
theorem sOn_some {m : sm} {k u : Nat} : ∀ n, n ≤ 56 → sOn m k n = some u → 56 - n ≤ u ∧ u < 56 ∧ ¬ m 177 (56 * k + u) = -1 ∧ ∀ e, 56 - n ≤ e → e < u → m 177 (56 * k + e) = -1
  | 0, _, h => by simp [sOn] at h
  | n + 1, hn, h => by
    unfold sOn at h
    split at h
    · rename_i e1
      obtain ⟨h1, h2, h3, h4⟩ := sOn_some n (by omega) h
      refine ⟨by omega, h2, h3, fun e he1 he2 => ?_⟩
      by_cases e2 : e = 56 - (n + 1)
      · rw [e2]; exact e1
      · exact h4 e (by omega) he2
    · rename_i e1
      have h := Option.some.inj h
      subst h
      exact ⟨Nat.le_refl _, by omega, e1, fun e he1 he2 => by omega⟩
theorem sOn_none {m : sm} {k : Nat} : ∀ n, n ≤ 56 → sOn m k n = none → ∀ e, 56 - n ≤ e → e < 56 → m 177 (56 * k + e) = -1
  | 0, _, _ => fun e h1 h2 => by omega
  | n + 1, hn, h => by
    unfold sOn at h
    split at h
    · rename_i e1
      intro e h1 h2
      by_cases e2 : e = 56 - (n + 1)
      · rw [e2]; exact e1
      · exact sOn_none n (by omega) h e (by omega) h2
    · exact absurd h (by simp)
theorem sRO_some {m : sm} {k d u : Nat} (h : sRO m k d = some u) : m 171 k = 3 ∧ ¬ nI d < m 175 k ∧ d ≤ u ∧ u < 56 ∧ ¬ m 177 (56 * k + u) = -1 ∧ ∀ e, d ≤ e → e < u → m 177 (56 * k + e) = -1 := by
  unfold sRO at h
  split at h
  · rename_i e
    have hd : d < 56 := by
      rcases Nat.lt_or_ge d 56 with h1 | h1
      · exact h1
      · rw [Nat.sub_eq_zero_of_le h1] at h; simp [sOn] at h
    obtain ⟨h1, h2, h3, h4⟩ := sOn_some (56 - d) (by omega) h
    exact ⟨e.1, e.2, by omega, h2, h3, fun x a b => h4 x (by omega) b⟩
  · exact absurd h (by simp)
theorem readOn_eq {k d : Nat} {M : xM} (hk : k < 16) (hd : d < 56) : fX10_readOn (nI k) (nI d) M = some (oI (sRO M.1 k d)) := by
  have hb : xinb (nI k) 16 = true := xinb_nI hk (by decide)
  have hc : (nI k).toNatClampNeg = k := nI_clamp (by omega)
  have h10 : ¬ (1:Int32) = 0 := by decide
  unfold fX10_readOn sRO
  by_cases e1 : M.1 171 k = 3
  · by_cases e2 : nI d < M.1 175 k
    · simp only [hb, hc, e1, ↓reduceIte]
      rw [isIn_0 (Or.inl e2)]
      simp only [some_bind, e2, not_true, and_false, ↓reduceIte, oI]
    · simp only [hb, hc, e1, ↓reduceIte]
      rw [isIn_1 e2 (show ¬ (55:Int32) < nI d from nI_nlt (b := d) (a := 55) (by omega) (by decide))]
      simp only [some_bind, h10, ↓reduceIte, e2, not_false_eq_true, and_self]
      refine lp_run (fun s => ∃ e, d ≤ e ∧ e ≤ 56 ∧ s = nI e ∧ sOn M.1 k (56 - e) = sOn M.1 k (56 - d)) (fun s => 56 - s.toNatClampNeg) _ ?_ xfu _ ⟨d, Nat.le_refl _, by omega, rfl, rfl⟩ (by unfold xfu; omega)
      rintro s kk ⟨e, h1, h2, rfl, h3⟩ hkk
      by_cases e3 : e = 56
      · subst e3
        have g1 : (56:Int32) ≤ nI 56 := by decide
        simp only [g1, ↓reduceIte]
        rw [← h3]
        rfl
      · have he : e < 56 := by omega
        have g1 : ¬ (56:Int32) ≤ nI e := nI_ge (b := 56) he (by decide)
        have hb2 : xinb (nI (56 * k + e)) 896 = true := xinb_nI (by omega) (by decide)
        have hc2 : (nI (56 * k + e)).toNatClampNeg = 56 * k + e := nI_clamp (by omega)
        have hc3 : (nI e).toNatClampNeg = e := nI_clamp (by omega)
        have hc4 : (nI (e + 1)).toNatClampNeg = e + 1 := nI_clamp (by omega)
        have h4 : sOn M.1 k (56 - e) = if M.1 177 (56 * k + e) = -1 then sOn M.1 k (56 - (e + 1)) else some e := by
          rw [show 56 - e = (55 - e) + 1 by omega, show 56 - (e + 1) = 55 - e by omega]
          conv => lhs; unfold sOn
          rw [show 56 - (55 - e + 1) = e by omega]
        simp only [g1, at_nI, some_bind, hb2, hc2, ↓reduceIte, nI_1]
        by_cases e4 : M.1 177 (56 * k + e) = -1
        · simp only [e4, ↓reduceIte] at h4 ⊢
          exact hkk _ ⟨e + 1, by omega, by omega, rfl, by rw [← h4, h3]⟩ (by rw [hc3, hc4]; omega)
        · simp only [e4, ↓reduceIte] at h4 ⊢
          rw [← h3, h4]
          rfl
  · simp only [hb, hc, e1, ↓reduceIte, false_and, oI]
/-- a place tells its rain of a day -/
def sTl (m : sm) (k d : Nat) : Bool := sGb m k && (if m 171 k = 3 then (sRO m k d).isSome else !(sTr m k d == -1))
theorem sTl_c {m m' : sm} (e : sEq m m') (k d : Nat) : sTl m' k d = sTl m k d := by
  simp only [sTl, sGb_c e, sRO_c e, sTr_c e, e 171 _ (by decide)]
theorem sRO_lt {m : sm} {k d u : Nat} (h : sRO m k d = some u) : u < 56 := (sRO_some h).2.2.2.1
theorem tells_eq {k d : Nat} {M : xM} (hk : k < 16) (hd : d < 56) (hh : sH M.1) : fX10_tells (nI k) (nI d) M = some (if sTl M.1 k d = true then 1 else 0) := by
  have hb : xinb (nI k) 16 = true := xinb_nI hk (by decide)
  have hc : (nI k).toNatClampNeg = k := nI_clamp (by omega)
  have h10 : ¬ (1:Int32) = 0 := by decide
  unfold fX10_tells sTl
  rcases Bool.eq_false_or_eq_true (sGb M.1 k) with hg | hg
  · rw [isGauge_1 hk hg]
    simp only [some_bind, hb, hc, h10, hg, ↓reduceIte, Bool.true_and]
    by_cases e1 : M.1 171 k = 3
    · simp only [e1, ↓reduceIte]
      rw [readOn_eq hk hd, some_bind]
      cases h : sRO M.1 k d with
      | none => simp [oI]
      | some u =>
        have h1 := sRO_lt h
        have h2 : ¬ nI u = -1 := nI_nm1 (by omega)
        simp [oI, h2]
    · simp only [e1, ↓reduceIte]
      rw [trusted_eq hk hd hh, some_bind]
      by_cases e2 : sTr M.1 k d = -1
      · simp [e2]
      · simp [e2]
  · rw [isGauge_0 hk hg]
    simp [some_bind, hg]
