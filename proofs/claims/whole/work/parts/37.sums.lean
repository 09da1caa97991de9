/-! ===== shares over Int: what is left is at most a day's worth each ===== -/
def iT (t : Nat → Int32) (a : Nat) : Nat → Int
  | 0 => 0
  | n + 1 => iT t a n + (t (a + n)).toInt
def iQ (t : Nat → Int32) (v T : Int) (a : Nat) : Nat → Int
  | 0 => 0
  | n + 1 => iQ t v T a n + v * (t (a + n)).toInt / T
abbrev tOk (t : Nat → Int32) (a n : Nat) : Prop := ∀ e, e < n → 0 ≤ (t (a + e)).toInt ∧ (t (a + e)).toInt ≤ 5017
theorem iT_b {t : Nat → Int32} {a : Nat} : ∀ n, tOk t a n → 0 ≤ iT t a n ∧ iT t a n ≤ 5017 * n
  | 0, _ => by simp [iT]
  | n + 1, h => by
    have ih := iT_b n (fun e he => h e (by omega))
    have hn := h n (by omega)
    have E : iT t a (n + 1) = iT t a n + (t (a + n)).toInt := rfl
    omega
theorem sTot_int {t : Nat → Int32} {a : Nat} : ∀ n, n ≤ 56 → tOk t a n → (sTot t a n).toInt = iT t a n
  | 0, _, _ => by show (0:Int32).toInt = 0; decide
  | n + 1, h9, h => by
    have ih := sTot_int n (by omega) (fun e he => h e (by omega))
    have hb := iT_b n (fun e he => h e (by omega))
    have hn := h n (by omega)
    have E : sTot t a (n + 1) = sTot t a n + t (a + n) := rfl
    have E2 : iT t a (n + 1) = iT t a n + (t (a + n)).toInt := rfl
    rw [E, E2, Int32.toInt_add, ih]
    apply Int.bmod_eq_of_le <;> omega
theorem vt_int {v t : Int32} (hv : 0 ≤ v.toInt ∧ v.toInt ≤ 5000) (ht : 0 ≤ t.toInt ∧ t.toInt ≤ 5017) : (v * t).toInt = v.toInt * t.toInt ∧ 0 ≤ v.toInt * t.toInt ∧ v.toInt * t.toInt ≤ 25085000 := by
  have h1 : 0 ≤ v.toInt * t.toInt := Int.mul_nonneg hv.1 ht.1
  have h2 : v.toInt * t.toInt ≤ 5000 * 5017 := Int.mul_le_mul hv.2 ht.2 ht.1 (by decide)
  refine ⟨?_, h1, by omega⟩
  rw [Int32.toInt_mul]
  apply Int.bmod_eq_of_le <;> omega
theorem q_int {v t T : Int32} (hv : 0 ≤ v.toInt ∧ v.toInt ≤ 5000) (ht : 0 ≤ t.toInt ∧ t.toInt ≤ 5017) : (v * t / T).toInt = v.toInt * t.toInt / T.toInt := by
  have h := vt_int hv ht
  have hne : v * t ≠ Int32.minValue := by
    intro e
    have e' := congrArg Int32.toInt e
    rw [h.1] at e'
    have : (Int32.minValue).toInt = -2147483648 := by decide
    omega
  rw [Int32.toInt_div_of_ne_left _ _ hne, h.1, Int.tdiv_eq_ediv_of_nonneg h.2.1]
theorem iQ_b {t : Nat → Int32} {v T : Int} {a : Nat} (hv : 0 ≤ v) (hT : 0 < T) : ∀ n, tOk t a n → 0 ≤ iQ t v T a n ∧ 0 ≤ v * iT t a n - T * iQ t v T a n ∧ v * iT t a n - T * iQ t v T a n ≤ n * (T - 1)
  | 0, _ => by simp [iQ, iT]
  | n + 1, h => by
    have ih := iQ_b hv hT n (fun e he => h e (by omega))
    have hn := h n (by omega)
    have E : iQ t v T a (n + 1) = iQ t v T a n + v * (t (a + n)).toInt / T := rfl
    have E2 : iT t a (n + 1) = iT t a n + (t (a + n)).toInt := rfl
    have h1 : 0 ≤ v * (t (a + n)).toInt := Int.mul_nonneg hv hn.1
    have h2 := Int.mul_ediv_add_emod (v * (t (a + n)).toInt) T
    have h3 := Int.emod_nonneg (v * (t (a + n)).toInt) (show T ≠ 0 by omega)
    have h4 := Int.emod_lt_of_pos (v * (t (a + n)).toInt) hT
    have h5 : 0 ≤ v * (t (a + n)).toInt / T := Int.ediv_nonneg h1 (by omega)
    rw [E, E2, Int.mul_add, Int.mul_add]
    have h6 : ((n + 1 : Nat) : Int) * (T - 1) = n * (T - 1) + (T - 1) := by
      rw [Int.natCast_add, Int.add_mul]
      simp
    rw [h6]
    refine ⟨by omega, by omega, by omega⟩
theorem sLf_int {t : Nat → Int32} {v tot : Int32} {a : Nat} (hv : 0 ≤ v.toInt ∧ v.toInt ≤ 5000) (hT : 0 < tot.toInt) : ∀ n, tOk t a n → iQ t v.toInt tot.toInt a n ≤ 1000000 → (sLf t v tot a n).toInt = v.toInt - iQ t v.toInt tot.toInt a n
  | 0, _, _ => by simp [sLf, iQ]
  | n + 1, h, hq => by
    have hn := h n (by omega)
    have hb := iQ_b (a := a) hv.1 hT n (fun e he => h e (by omega))
    have E : iQ t v.toInt tot.toInt a (n + 1) = iQ t v.toInt tot.toInt a n + v.toInt * (t (a + n)).toInt / tot.toInt := rfl
    have h5 : 0 ≤ v.toInt * (t (a + n)).toInt / tot.toInt := Int.ediv_nonneg (Int.mul_nonneg hv.1 hn.1) (by omega)
    have ih := sLf_int hv hT n (fun e he => h e (by omega)) (by omega)
    have E3 : sLf t v tot a (n + 1) = sLf t v tot a n - v * t (a + n) / tot := rfl
    rw [E3, Int32.toInt_sub, ih, q_int hv hn, E]
    rw [Int.bmod_eq_of_le (by omega) (by omega)]
    omega
/-- what is left to be given away: no more than the days -/
theorem left_b {t : Nat → Int32} {v : Int32} {a n : Nat} (hv : 0 ≤ v.toInt ∧ v.toInt ≤ 5000) (h9 : n ≤ 56) (ht : tOk t a n) (hT : 0 < (sTot t a n).toInt) : ∃ l, l ≤ n ∧ sLf t v (sTot t a n) a n = nI l := by
  have hb := iQ_b (a := a) hv.1 hT n ht
  have hs := sTot_int n h9 ht
  rw [← hs] at hb
  generalize hTT : (sTot t a n).toInt = T at *
  generalize hQ : iQ t v.toInt T a n = Q at *
  have h1 : v.toInt * T - T * Q = T * (v.toInt - Q) := by rw [Int.mul_sub, Int.mul_comm v.toInt T]
  rw [h1] at hb
  have h2 : 0 ≤ v.toInt - Q := by
    rcases Int.lt_or_le (v.toInt - Q) 0 with h | h
    · have := Int.mul_le_mul_of_nonneg_left (show v.toInt - Q ≤ -1 by omega) (show 0 ≤ T by omega)
      omega
    · exact h
  have h3 : v.toInt - Q ≤ n := by
    rcases Int.lt_or_le n (v.toInt - Q) with h | h
    · have h4 := Int.mul_le_mul_of_nonneg_left (show (n : Int) + 1 ≤ v.toInt - Q by omega) (show 0 ≤ T by omega)
      rw [Int.mul_add, Int.mul_comm T n] at h4
      have h5 : (n : Int) * (T - 1) = n * T - n := by rw [Int.mul_sub, Int.mul_one]
      omega
    · exact h
  have h6 := sLf_int (t := t) (v := v) (tot := sTot t a n) (a := a) hv (by omega) n ht (by rw [hTT, hQ]; omega)
  rw [hTT, hQ] at h6
  refine ⟨(v.toInt - Q).toNat, by omega, ?_⟩
  apply Int32.toInt_inj.mp
  rw [h6, nI_toInt (by omega)]
  omega
