/-! ===== plain facts: loops, ints ===== -/
theorem lp_run {σ β : Type} {step : σ → (σ → Option β) → Option β} (P : σ → Prop) (μ : σ → Nat) (R : Option β) (h : ∀ s k, P s → (∀ s', P s' → μ s' < μ s → k s' = R) → step s k = R) : ∀ n s, P s → μ s < n → lp step n s = R := by
  intro n
  induction n with
  | zero => intro s _ h9; exact absurd h9 (Nat.not_lt_zero _)
  | succ n ih =>
    intro s hs h9
    rw [lp_succ]
    exact h s _ hs (fun s' h1 h2 => ih s' h1 (by omega))
theorem lp_for {σ β : Type} {step : σ → (σ → Option β) → Option β} (st : Nat → σ) (R : Option β) (b : Nat) (hs : ∀ i k, i < b → k (st (i + 1)) = R → step (st i) k = R) (he : ∀ k, step (st b) k = R) : ∀ n i, i ≤ b → b - i < n → lp step n (st i) = R := by
  intro n
  induction n with
  | zero => intro i _ h9; exact absurd h9 (Nat.not_lt_zero _)
  | succ n ih =>
    intro i hi h9
    rw [lp_succ]
    by_cases e : i = b
    · subst e; exact he _
    · exact hs i _ (by omega) (ih (i + 1) (by omega) (by omega))
theorem xinb_false {j : Int32} {n : Nat} (h : j < 0 ∨ nI n ≤ j) (hn : n < 2 ^ 31) : xinb j n = false := by
  cases e : xinb j n with
  | false => rfl
  | true =>
    obtain ⟨k, hk, rfl⟩ := vp_in_of (xinb_in e) hn
    rcases h with h | h
    · exact absurd h (nI_pos (by omega))
    · exact absurd h (nI_ge hk hn)
theorem nI_inj {a b : Nat} (ha : a < 2 ^ 31) (hb : b < 2 ^ 31) (h : nI a = nI b) : a = b := (nI_eq ha hb).mp h
theorem nI_ne {a b : Nat} (ha : a < 2 ^ 31) (hb : b < 2 ^ 31) (h : a ≠ b) : ¬ nI a = nI b := fun e => h (nI_inj ha hb e)
theorem nI_nm1 {a : Nat} (ha : a < 2 ^ 31) : ¬ nI a = -1 := by
  intro e
  have h1 := nI_pos (n := a) ha
  rw [e] at h1
  exact h1 (by decide)
theorem i_tri (x : Int32) {n : Nat} (hn : n < 2 ^ 31) : x < 0 ∨ nI n ≤ x ∨ ∃ j : Nat, j < n ∧ x = nI j := pk_ix x hn
theorem i_le_of_not_lt {a b : Int32} (h : ¬ a < b) : b ≤ a := Int32.not_lt.mp h
theorem i_lt_of_not_le {a b : Int32} (h : ¬ a ≤ b) : b < a := Int32.not_le.mp h
theorem i_not_le_of_lt {a b : Int32} (h : a < b) : ¬ b ≤ a := Int32.not_le.mpr h
theorem i_not_lt_of_le {a b : Int32} (h : a ≤ b) : ¬ b < a := Int32.not_lt.mpr h
theorem some_bind {α β : Type} (a : α) (f : α → Option β) : (some a).bind f = f a := Eq.trans rfl rfl
theorem bd_at {σ β : Type} (e : σ) (K : σ → Option β) : bd e K = K e := Eq.trans rfl rfl
theorem jn_at {σ β : Type} (K : σ → Option β) (B : (σ → Option β) → Option β) : jn K B = B K := Eq.trans rfl rfl
theorem nI_56 (k d : Nat) : (56:Int32) * nI k + nI d = nI (56 * k + d) := by
  show nI 56 * nI k + nI d = _
  rw [pk_mul, nI_add]
/-! ===== the reference's functions, as plain ones of its memory: places k, days d are Nats ===== -/
theorem isIn_1 {v a b : Int32} {M : xM} (h1 : ¬ v < a) (h2 : ¬ b < v) : fX10_isIn v a b M = some 1 := by
  unfold fX10_isIn
  rw [if_neg h1, if_neg h2]
theorem isIn_0 {v a b : Int32} {M : xM} (h : v < a ∨ b < v) : fX10_isIn v a b M = some 0 := by
  unfold fX10_isIn
  by_cases h1 : v < a
  · rw [if_pos h1]
  · rw [if_neg h1, if_pos (h.resolve_left h1)]
theorem at_nI (k d : Nat) (M : xM) : fX10_at (nI k) (nI d) M = some (nI (56 * k + d)) := by
  unfold fX10_at
  rw [nI_56]
abbrev sm : Type := Nat → Nat → Int32
/-- a gauge lies there -/
def sGb (m : sm) (k : Nat) : Bool := !(m 171 k == -1) && !(m 171 k == 5)
theorem sGb_1 {m : sm} {k : Nat} (h : sGb m k = true) : ¬ m 171 k = -1 ∧ ¬ m 171 k = 5 := by
  simpa [sGb] using h
theorem sGb_0 {m : sm} {k : Nat} (h : sGb m k = false) : m 171 k = -1 ∨ m 171 k = 5 := by
  by_cases h1 : m 171 k = -1
  · exact Or.inl h1
  · right
    simpa [sGb, h1] using h
theorem sGb_of {m : sm} {k : Nat} (h1 : ¬ m 171 k = -1) (h2 : ¬ m 171 k = 5) : sGb m k = true := by
  simp [sGb, h1, h2]
theorem isGauge_1 {k : Nat} {M : xM} (hk : k < 16) (h : sGb M.1 k = true) : fX10_isGauge (nI k) M = some 1 := by
  have hb : xinb (nI k) 16 = true := xinb_nI hk (by decide)
  have hc : (nI k).toNatClampNeg = k := nI_clamp (by omega)
  have h := sGb_1 h
  unfold fX10_isGauge
  simp only [hb, hc, h.1, h.2, ↓reduceIte]
theorem isGauge_0 {k : Nat} {M : xM} (hk : k < 16) (h : sGb M.1 k = false) : fX10_isGauge (nI k) M = some 0 := by
  have hb : xinb (nI k) 16 = true := xinb_nI hk (by decide)
  have hc : (nI k).toNatClampNeg = k := nI_clamp (by omega)
  unfold fX10_isGauge
  simp only [hb, hc, ↓reduceIte]
  by_cases h1 : M.1 171 k = -1
  · simp only [h1, ↓reduceIte]
  · have h2 := (sGb_0 h).resolve_left h1
    simp only [h2, ↓reduceIte]; split <;> rfl
/-- the latest of the first n entries that was put in for a place and day up to t; -1 -/
def sHd (m : sm) (k d : Nat) (t : Int32) : Nat → Int32
  | 0 => -1
  | i + 1 => if m 181 i = nI k ∧ m 182 i = nI d ∧ ¬ t < m 184 i then nI i else sHd m k d t i
theorem byHand_eq {k d h : Nat} {t : Int32} {M : xM} (hh : M.1 170 14 = nI h) (h9 : h ≤ 100) : fX10_byHand (nI k) (nI d) t M = some (sHd M.1 k d t h) := by
  unfold fX10_byHand
  refine lp_for (fun i => (sHd M.1 k d t i, nI i)) _ h (fun i kk hi hk => ?_) (fun kk => ?_) xfu 0 (Nat.zero_le _) (by unfold xfu; omega)
  · have h1 : ¬ nI h ≤ nI i := nI_ge hi (by omega)
    have hb : xinb (nI i) 100 = true := xinb_nI (by omega) (by decide)
    have hc : (nI i).toNatClampNeg = i := nI_clamp (by omega)
    simp only [hh, h1, hb, hc, ↓reduceIte, nI_1] at hk ⊢
    by_cases e1 : M.1 181 i = nI k
    · by_cases e2 : M.1 182 i = nI d
      · by_cases e3 : t < M.1 184 i
        · simpa only [e1, e2, e3, sHd, ↓reduceIte, not_true, and_false] using hk
        · simpa only [e1, e2, e3, sHd, ↓reduceIte, not_false_eq_true, and_true] using hk
      · simpa only [e1, e2, sHd, ↓reduceIte, false_and, and_false] using hk
    · simpa only [e1, sHd, ↓reduceIte, false_and] using hk
  · have h1 : nI h ≤ nI h := Int32.le_refl _
    simp only [hh, h1, ↓reduceIte]
def sTip (m : sm) (k d : Nat) : Int32 :=
  let v := m 177 (56 * k + d) * m 174 k
  let w := if d = 0 ∨ m 178 (56 * k + d) = -1 ∨ m 178 (56 * k + (d - 1)) = -1 then v else v + m 174 k * (m 178 (56 * k + d) - m 178 (56 * k + (d - 1))) / 8
  if 0 ≤ w then w else 0
theorem tipped_eq {k d : Nat} {M : xM} (hk : k < 16) (hd : d < 56) : fX10_tipped (nI k) (nI d) M = some (sTip M.1 k d) := by
  have hb : xinb (nI k) 16 = true := xinb_nI hk (by decide)
  have hc : (nI k).toNatClampNeg = k := nI_clamp (by omega)
  have hb2 : xinb (nI (56 * k + d)) 896 = true := xinb_nI (by omega) (by decide)
  have hc2 : (nI (56 * k + d)).toNatClampNeg = 56 * k + d := nI_clamp (by omega)
  unfold fX10_tipped sTip
  rcases Nat.eq_zero_or_pos d with rfl | hp
  · have h0 : nI 0 ≤ 0 := by decide
    simp only [at_nI, some_bind, hb, hc, hb2, hc2, bd, jn, h0, ↓reduceIte, true_or]
    split <;> rfl
  · have h0 : ¬ nI d ≤ 0 := nI_nle hp (by omega)
    have hd1 : nI d - 1 = nI (d - 1) := by
      obtain ⟨j, rfl⟩ : ∃ j, d = j + 1 := ⟨d - 1, by omega⟩
      exact nI_pred j
    have hb3 : xinb (nI (56 * k + (d - 1))) 896 = true := xinb_nI (by omega) (by decide)
    have hc3 : (nI (56 * k + (d - 1))).toNatClampNeg = 56 * k + (d - 1) := nI_clamp (by omega)
    have h8 : ¬ (8:Int32) = 0 := by decide
    have hd0 : ¬ d = 0 := by omega
    simp only [at_nI, some_bind, hb, hc, hb2, hc2, bd, jn, h0, hd1, hb3, hc3, h8, hd0, ↓reduceIte, false_or]
    by_cases e1 : M.1 178 (56 * k + d) = -1
    · simp only [e1, ↓reduceIte, true_or]; split <;> rfl
    · by_cases e2 : M.1 178 (56 * k + (d - 1)) = -1
      · simp only [e1, e2, ↓reduceIte, or_true]; split <;> rfl
      · simp only [e1, e2, ↓reduceIte, or_self]; split <;> rfl
