/-! ===== giving the rests away one by one = counting who comes before ===== -/
def sCn (S : Nat → Bool) (a : Nat) : Nat → Nat
  | 0 => 0
  | n + 1 => if S (a + n) = true then sCn S a n + 1 else sCn S a n
theorem sCn_le {S T : Nat → Bool} {a : Nat} : ∀ n, (∀ e, e < n → S (a + e) = true → T (a + e) = true) → sCn S a n ≤ sCn T a n
  | 0, _ => Nat.le_refl _
  | n + 1, h => by
    have ih := sCn_le n (fun e he => h e (by omega))
    have hn := h n (by omega)
    unfold sCn
    cases h1 : S (a + n) with
    | false => simp only [reduceCtorEq, ↓reduceIte]; split <;> omega
    | true => simp only [hn h1, ↓reduceIte]; omega
theorem sCn_lt {S T : Nat → Bool} {a e0 : Nat} : ∀ n, (∀ e, e < n → S (a + e) = true → T (a + e) = true) → e0 < n → S (a + e0) = false → T (a + e0) = true → sCn S a n < sCn T a n
  | 0, _, h0, _, _ => absurd h0 (by omega)
  | n + 1, h, h0, h1, h2 => by
    have hn := h n (by omega)
    have le := sCn_le (S := S) (T := T) (a := a) n (fun e he => h e (by omega))
    unfold sCn
    by_cases e1 : e0 = n
    · subst e1
      simp only [h1, h2, reduceCtorEq, ↓reduceIte]
      omega
    · have ih := sCn_lt n (fun e he => h e (by omega)) (show e0 < n by omega) h1 h2
      cases h3 : S (a + n) with
      | false => simp only [reduceCtorEq, ↓reduceIte]; split <;> omega
      | true => simp only [hn h3, ↓reduceIte]; omega
theorem sCn_one {S : Nat → Bool} {a b : Nat} : ∀ n, b < a + n → a ≤ b → S b = false → sCn (fun e => S e || e == b) a n = sCn S a n + 1
  | 0, h, h1, _ => absurd h (by omega)
  | n + 1, h, h1, h2 => by
    by_cases e1 : b = a + n
    · have hsame : ∀ m, m ≤ n → sCn (fun e => S e || e == b) a m = sCn S a m := by
        intro m
        induction m with
        | zero => intro _; rfl
        | succ m ih =>
          intro hm
          have ih := ih (by omega)
          have : (a + m == b) = false := by simp; omega
          unfold sCn
          simp only [ih, this, Bool.or_false]
      have ht : (S (a + n) || a + n == b) = true := by simp [e1]
      have hf : ¬ S (a + n) = true := by rw [← e1, h2]; simp
      have E : sCn (fun e => S e || e == b) a (n + 1) = if (S (a + n) || a + n == b) = true then sCn (fun e => S e || e == b) a n + 1 else sCn (fun e => S e || e == b) a n := rfl
      have E2 : sCn S a (n + 1) = if S (a + n) = true then sCn S a n + 1 else sCn S a n := rfl
      rw [E, E2, hsame n (Nat.le_refl _), if_pos ht, if_neg hf]
    · have ih := sCn_one n (by omega) h1 h2
      have : (a + n == b) = false := by simp; omega
      unfold sCn
      simp only [ih, this, Bool.or_false]
      split <;> rfl
theorem sCn_full {S : Nat → Bool} {a : Nat} : ∀ n, (∀ e, e < n → S (a + e) = true) → sCn S a n = n
  | 0, _ => rfl
  | n + 1, h => by
    have ih := sCn_full n (fun e he => h e (by omega))
    unfold sCn
    rw [if_pos (h n (by omega)), ih]
/-- e comes before d -/
abbrev sPre (r : Nat → Int32) (e d : Nat) : Prop := r d < r e ∨ (r e = r d ∧ e < d)
theorem sRk_cn (r : Nat → Int32) (a d : Nat) : ∀ n, sRk r a d n = sCn (fun e => decide (sPre r e d)) a n
  | 0 => rfl
  | n + 1 => by
    have ih := sRk_cn r a d n
    have e1 : sRk r a d (n + 1) = if sPre r (a + n) d then sRk r a d n + 1 else sRk r a d n := rfl
    have e2 : sCn (fun e => decide (sPre r e d)) a (n + 1) = if decide (sPre r (a + n) d) = true then sCn (fun e => decide (sPre r e d)) a n + 1 else sCn (fun e => decide (sPre r e d)) a n := rfl
    rw [e1, e2, ih]
    by_cases h : sPre r (a + n) d
    · rw [if_pos h, if_pos (decide_eq_true h)]
    · rw [if_neg h, if_neg (by simp only [decide_eq_true_eq]; exact h)]
abbrev sDown (r : Nat → Int32) (S : Nat → Bool) (a n : Nat) : Prop := ∀ e d, e < n → d < n → S (a + d) = true → sPre r (a + e) (a + d) → S (a + e) = true
theorem greedy_mem {r : Nat → Int32} {S : Nat → Bool} {a n d : Nat} (hS : sDown r S a n) (hd : d < n) : S (a + d) = true ↔ sRk r a (a + d) n < sCn S a n := by
  rw [sRk_cn]
  constructor
  · intro h
    refine sCn_lt (e0 := d) n (fun e he h1 => hS e d he hd h (of_decide_eq_true h1)) hd ?_ h
    refine decide_eq_false ?_
    rintro (h1 | h1)
    · exact (Int32.lt_irrefl h1).elim
    · omega
  · intro h
    cases h1 : S (a + d) with
    | true => rfl
    | false =>
      refine absurd h (Nat.not_lt.mpr (sCn_le n (fun e he h2 => ?_)))
      refine decide_eq_true ?_
      have hne : ¬ e = d := by
        intro h3
        rw [h3, h1] at h2
        exact absurd h2 (by simp)
      by_cases h3 : r (a + d) < r (a + e)
      · exact Or.inl h3
      · by_cases h4 : r (a + e) = r (a + d)
        · by_cases h5 : e < d
          · exact Or.inr ⟨h4, by omega⟩
          · have := hS d e hd he h2 (Or.inr ⟨h4.symm, by omega⟩)
            rw [h1] at this
            exact absurd this (by simp)
        · have h6 : r (a + e) < r (a + d) := by
            rw [Int32.lt_iff_toInt_lt] at h3 ⊢
            have : ¬ (r (a + e)).toInt = (r (a + d)).toInt := fun h => h4 (Int32.toInt_inj.mp h)
            omega
          have := hS d e hd he h2 (Or.inl h6)
          rw [h1] at this
          exact absurd this (by simp)
/-- the rest that is left of a day -/
abbrev sLeft (r : Nat → Int32) (S : Nat → Bool) (e : Nat) : Int32 := if S e = true then -1 else r e
theorem greedy_step {r : Nat → Int32} {S : Nat → Bool} {a n b : Nat} (hr : ∀ e, e < n → 0 ≤ r (a + e)) (hS : sDown r S a n) (hc : sCn S a n < n) (hb : b < n) (h1 : ∀ e, e < n → sLeft r S (a + e) ≤ sLeft r S (a + b)) (h2 : ∀ e, e < b → sLeft r S (a + e) < sLeft r S (a + b)) : S (a + b) = false ∧ sDown r (fun e => S e || e == a + b) a n ∧ sCn (fun e => S e || e == a + b) a n = sCn S a n + 1 := by
  have hSb : S (a + b) = false := by
    cases h3 : S (a + b) with
    | false => rfl
    | true =>
      refine absurd (sCn_full (S := S) (a := a) n (fun e he => ?_)) (by omega)
      cases h4 : S (a + e) with
      | true => rfl
      | false =>
        have h5 := h1 e he
        unfold sLeft at h5
        rw [h3, h4, if_pos rfl, if_neg (by simp)] at h5
        have h6 := Int32.le_trans (hr e he) h5
        exact absurd h6 (by decide)
  refine ⟨hSb, ?_, sCn_one n (by omega) (by omega) hSb⟩
  intro e d he hd h3 h4
  by_cases e1 : d = b
  · subst e1
    cases h5 : S (a + e) with
    | true => simp [h5]
    | false =>
      by_cases e2 : e = d
      · subst e2; simp
      · exfalso
        have l1 : sLeft r S (a + e) = r (a + e) := by unfold sLeft; rw [h5, if_neg (by simp)]
        have l2 : sLeft r S (a + d) = r (a + d) := by unfold sLeft; rw [hSb, if_neg (by simp)]
        rcases h4 with h4 | ⟨h4, h6⟩
        · have := h1 e he
          rw [l1, l2] at this
          exact Int32.not_le.mpr h4 this
        · have := h2 e (by omega)
          rw [l1, l2, h4] at this
          exact Int32.lt_irrefl this
  · have h6 : S (a + d) = true := by
      have : (a + d == a + b) = false := by simp; omega
      simpa only [this, Bool.or_false] using h3
    have := hS e d he hd h6 h4
    simp only [this, Bool.true_or]
