/-! ===== a store's days: each belongs to the next reading ===== -/
theorem sSn_s (m : sm) (k f e : Nat) : sSn m k f (e + 1) = if e < f ∨ m 177 (56 * k + e) = -1 then sSn m k f e else e + 1 := rfl
theorem sSn_flat {m : sm} {k f d : Nat} (u : Nat) : d ≤ u → (∀ e, d ≤ e → e < u → m 177 (56 * k + e) = -1) → sSn m k f u = sSn m k f d := by
  induction u with
  | zero => intro h _; rw [show d = 0 by omega]
  | succ u ih =>
    intro h h1
    by_cases e1 : d = u + 1
    · rw [e1]
    · rw [sSn_s, if_pos (Or.inr (h1 u (by omega) (by omega)))]
      exact ih (by omega) (fun e a b => h1 e a (by omega))
theorem sSn_since {m : sm} {k f d u : Nat} (hf : f ≤ d) (hd : d ≤ u) (h1 : ∀ e, d ≤ e → e < u → m 177 (56 * k + e) = -1) : sSn m k f u ≤ d := by
  rw [sSn_flat u hd h1]
  rcases sSn_le m k f d with h | h <;> omega
theorem sSn_ge (m : sm) (k f : Nat) (n : Nat) : f ≤ sSn m k f n := by
  induction n with
  | zero => exact Nat.le_refl _
  | succ n ih =>
    rw [sSn_s]
    split
    · exact ih
    · rename_i h
      have : ¬ n < f := fun h1 => h (Or.inl h1)
      omega
/-- no reading since then -/
theorem sSn_none {m : sm} {k f : Nat} (n : Nat) : ∀ e, sSn m k f n ≤ e → e < n → f ≤ e → m 177 (56 * k + e) = -1 := by
  induction n with
  | zero => intro e _ h _; exact absurd h (by omega)
  | succ n ih =>
    intro e h1 h2 h3
    rw [sSn_s] at h1
    by_cases h4 : n < f ∨ m 177 (56 * k + n) = -1
    · rw [if_pos h4] at h1
      by_cases e1 : e = n
      · rw [e1]
        rcases h4 with h4 | h4
        · omega
        · exact h4
      · exact ih e h1 (by omega) h3
    · rw [if_neg h4] at h1
      omega
/-- the next reading from d on is that of day u -/
theorem sOn_is {m : sm} {k u : Nat} (hu : u < 56) (h : ¬ m 177 (56 * k + u) = -1) : ∀ n, 56 - n ≤ u → n ≤ 56 → (∀ e, 56 - n ≤ e → e < u → m 177 (56 * k + e) = -1) → sOn m k n = some u := by
  intro n
  induction n with
  | zero => intro h1 _ _; exact absurd h1 (by omega)
  | succ n ih =>
    intro h1 h2 h3
    have E : sOn m k (n + 1) = if m 177 (56 * k + (56 - (n + 1))) = -1 then sOn m k n else some (56 - (n + 1)) := rfl
    rw [E]
    by_cases e1 : 56 - (n + 1) = u
    · rw [e1, if_neg h]
    · rw [if_pos (h3 _ (Nat.le_refl _) (by omega))]
      exact ih (by omega) (by omega) (fun e a b => h3 e (by omega) b)
theorem sSpr_val {m : sm} {k f d u : Nat} (hk3 : m 171 k = 3) (hff : m 175 k = nI f) (hf : f ≤ d) (hdu : d ≤ u) (hu : u < 56) (h : ¬ m 177 (56 * k + u) = -1) (h1 : ∀ e, d ≤ e → e < u → m 177 (56 * k + e) = -1) : sSpr m k d = sVal m k (sSn m k f u) u (m 177 (56 * k + u)) d := by
  have hro : sRO m k d = some u := by
    unfold sRO
    rw [if_pos ⟨hk3, by rw [hff]; exact nI_nlt (by omega) (by omega)⟩]
    exact sOn_is hu h (56 - d) (by omega) (by omega) (fun e a b => h1 e (by omega) b)
  have hft : sFt m k = f := by unfold sFt; rw [hff, nI_clamp (by omega)]
  unfold sSpr sVal
  simp only [hro, hft]
  cases hs : sBy m k (sSn m k f u) u with
  | none => simp only [hs]
  | some y => simp only [hs]
theorem sSpr_no {m : sm} {k d : Nat} (hd : d < 56) (h1 : ∀ e, d ≤ e → e < 56 → m 177 (56 * k + e) = -1) : sSpr m k d = -1 := by
  have hro : sRO m k d = none := by
    cases h : sRO m k d with
    | none => rfl
    | some u =>
      have := sRO_some h
      exact absurd (h1 u this.2.2.1 this.2.2.2.1) this.2.2.2.2.1
  unfold sSpr
  rw [hro]
