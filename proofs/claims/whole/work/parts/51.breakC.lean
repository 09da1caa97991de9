/-! ===== the class's breaks ===== -/
theorem sSm_s (r : Nat → Int64) (a n : Nat) : sSm r a (n + 1) = sSm r a n + r (a + n) := rfl
theorem sAm_s (A B : Nat → Int64) (ta tb : Int64) (a n : Nat) : sAm A B ta tb a (n + 1) = sAm A B ta tb a n + lAbs (if tb = 0 then A (a + n) else A (a + n) * tb - B (a + n) * ta) := rfl
theorem sSm_cong {r r' : Nat → Int64} {a : Nat} (n : Nat) : (∀ w, w < a + n → r w = r' w) → sSm r a n = sSm r' a n := by
  induction n with
  | zero => intro _; rfl
  | succ n ih =>
    intro h
    rw [sSm_s, sSm_s, ih (fun w hw => h w (by omega)), h (a + n) (by omega)]
theorem sAm_cong {A B A' B' : Nat → Int64} {ta tb : Int64} {a : Nat} (n : Nat) : (∀ w, w < a + n → A w = A' w ∧ B w = B' w) → sAm A B ta tb a n = sAm A' B' ta tb a n := by
  induction n with
  | zero => intro _; rfl
  | succ n ih =>
    intro h
    rw [sAm_s, sAm_s, ih (fun w hw => h w (by omega)), (h (a + n) (by omega)).1, (h (a + n) (by omega)).2]
theorem sAp_cong {A B A' B' : Nat → Int64} {a n : Nat} (h : ∀ w, w < a + n → A w = A' w ∧ B w = B' w) : sAp A B a n = sAp A' B' a n := by
  unfold sAp
  rw [sSm_cong n (fun w hw => (h w hw).2), sSm_cong n (fun w hw => (h w hw).1), sAm_cong n h]
theorem sSm_b {r : Nat → Int64} {a : Nat} (n : Nat) : n ≤ 8 → (∀ w, w < a + n → 0 ≤ (r w).toInt ∧ (r w).toInt ≤ 140476) → 0 ≤ (sSm r a n).toInt ∧ (sSm r a n).toInt ≤ 140476 * n := by
  induction n with
  | zero =>
    intro _ _
    show 0 ≤ (0:Int64).toInt ∧ (0:Int64).toInt ≤ 140476 * ((0 : Nat) : Int)
    decide
  | succ n ih =>
    intro hn h
    have ih := ih (by omega) (fun w hw => h w (by omega))
    have hh := h (a + n) (by omega)
    rw [sSm_s, Int64.toInt_add, Int.bmod_eq_of_le (by omega) (by omega)]
    omega
theorem sAm_0 {A B : Nat → Int64} {ta : Int64} {a : Nat} (n : Nat) : (∀ w, w < a + n → 0 ≤ (A w).toInt) → sAm A B ta 0 a n = sSm A a n := by
  induction n with
  | zero => intro _; rfl
  | succ n ih =>
    intro h
    have hh := h (a + n) (by omega)
    have z0 : (0:Int64).toInt = 0 := by decide
    rw [sAm_s, sSm_s, ih (fun w hw => h w (by omega)), if_pos rfl]
    have : (0:Int64) ≤ A (a + n) := by
      rw [Int64.le_iff_toInt_le, z0]
      exact hh
    unfold lAbs
    rw [if_pos this]
theorem abs_q (x : Int64) : (if 0 < x then x else -x) = lAbs x := by
  unfold lAbs
  by_cases h : 0 < x
  · rw [if_pos h, if_pos (Int64.le_of_lt h)]
  · rw [if_neg h]
    by_cases h1 : 0 ≤ x
    · rw [if_pos h1]
      have z0 : (0:Int64).toInt = 0 := by decide
      have : x = 0 := by
        rw [Int64.lt_iff_toInt_lt, z0] at h
        rw [Int64.le_iff_toInt_le, z0] at h1
        apply Int64.toInt_inj.mp
        omega
      rw [this]
      decide
    · rw [if_neg h1]
abbrev wA (m : sm) : Nat → Int64 := fun w => (m 168 w).toInt64
abbrev wB (m : sm) : Nat → Int64 := fun w => (m 169 w).toInt64
abbrev wPos (m : sm) : Prop := ∀ w, w < 8 → (0 ≤ (m 168 w).toInt ∧ (m 168 w).toInt ≤ 140476) ∧ 0 ≤ (m 169 w).toInt ∧ (m 169 w).toInt ≤ 140476
theorem part_eq {a b : Nat} {M : xM} (hab : a ≤ b + 1) (hb : b < 8) (hW : wPos M.1) : fX1_missesOfPart (nI a) (nI b) M = some (sAp (wA M.1) (wB M.1) a (b + 1 - a)) := by
  have hst : (if (0:Int32) < nI a then nI a else 0) = nI a := by
    by_cases h : (0:Int32) < nI a
    · rw [if_pos h]
    · rw [if_neg h]
      exact Int32.le_antisymm (nI_pos' (by omega)) (Int32.not_lt.mp h)
  unfold fX1_missesOfPart
  simp only [hst, bd_at]
  refine lp_for (fun e => (sSm (wA M.1) a e, sSm (wB M.1) a e, nI (a + e))) _ (b + 1 - a) (fun e kk he hkk => ?_) (fun kk => ?_) xfu 0 (Nat.zero_le _) (by unfold xfu; omega)
  · have g1 : ¬ nI b < nI (a + e) := nI_nlt (by omega) (by omega)
    have g2 : ¬ (8:Int32) ≤ nI (a + e) := nI_ge (b := 8) (by omega) (by decide)
    have hwb : xinb (nI (a + e)) 8 = true := xinb_nI (by omega) (by decide)
    have hwc : (nI (a + e)).toNatClampNeg = a + e := nI_clamp (by omega)
    simp only [jn_at, g1, g2, hwb, hwc, ↓reduceIte, nI_1]
    exact hkk
  · have g1 : nI b < nI (a + (b + 1 - a)) := nI_lt (by omega) (by omega)
    simp only [jn_at, g1, ↓reduceIte, lg_cmp_gt]
    have hbB := sSm_b (r := wB M.1) (a := a) (b + 1 - a) (by omega) (fun w hw => by
      show 0 ≤ ((M.1 169 w).toInt64).toInt ∧ ((M.1 169 w).toInt64).toInt ≤ 140476
      rw [Int32.toInt_toInt64]
      exact (hW w (by omega)).2)
    have z0 : (0:Int64).toInt = 0 := by decide
    unfold sAp
    by_cases e1 : sSm (wB M.1) a (b + 1 - a) = 0
    · have g2 : ¬ (0:Int64) < sSm (wB M.1) a (b + 1 - a) := by rw [e1]; decide
      rw [if_neg g2, if_pos e1, e1, sAm_0 _ (fun w hw => by
        show 0 ≤ ((M.1 168 w).toInt64).toInt
        rw [Int32.toInt_toInt64]
        exact (hW w (by omega)).1.1)]
    · have g2 : (0:Int64) < sSm (wB M.1) a (b + 1 - a) := by
        rw [Int64.lt_iff_toInt_lt, z0]
        have : ¬ (sSm (wB M.1) a (b + 1 - a)).toInt = 0 := fun h => e1 (Int64.toInt_inj.mp (by rw [h, z0]))
        omega
      rw [if_pos g2, if_neg e1]
      generalize sSm (wA M.1) a (b + 1 - a) = ta
      generalize hTB : sSm (wB M.1) a (b + 1 - a) = tb at e1
      refine lp_for (fun e => (sAm (wA M.1) (wB M.1) ta tb a e, nI (a + e))) _ (b + 1 - a) (fun e kk2 he hkk => ?_) (fun kk2 => ?_) xfu 0 (Nat.zero_le _) (by unfold xfu; omega)
      · have g3 : ¬ nI b < nI (a + e) := nI_nlt (by omega) (by omega)
        have g4 : ¬ (8:Int32) ≤ nI (a + e) := nI_ge (b := 8) (by omega) (by decide)
        have hwb : xinb (nI (a + e)) 8 = true := xinb_nI (by omega) (by decide)
        have hwc : (nI (a + e)).toNatClampNeg = a + e := nI_clamp (by omega)
        rw [sAm_s, if_neg e1] at hkk
        simp only [g3, g4, hwb, hwc, bd_at, abs_q, ↓reduceIte, nI_1]
        exact hkk
      · simp only [g1, e1, ↓reduceIte]
/-- what both parts come to -/
def sG (m : sm) (k x w : Nat) : Int64 := sAp (fun w => sWk m k w true 7) (fun w => sWk m k w false 7) 0 w + sAp (fun w => sWk m k w true 7) (fun w => sWk m k w false 7) w (x - w)
theorem missesAt_eq {m : sm} {k x w : Nat} {M : xM} (hw : 1 ≤ w) (hwx : w + 1 ≤ x) (hx : x ≤ 8) (hW : wPos M.1) (hA : ∀ w, w < 8 → wA M.1 w = sWk m k w true 7 ∧ wB M.1 w = sWk m k w false 7) : fX1_missesAt (nI w) (nI (x - 1)) M = some (sG m k x w) := by
  unfold fX1_missesAt
  have h1 : nI w - 1 = nI (w - 1) := by
    obtain ⟨j, rfl⟩ : ∃ j, w = j + 1 := ⟨w - 1, by omega⟩
    exact nI_pred j
  have p1 := part_eq (a := 0) (b := w - 1) (M := M) (by omega) (by omega) hW
  have p2 := part_eq (a := w) (b := x - 1) (M := M) (by omega) (by omega) hW
  rw [h1, show ((0:Int32)) = nI 0 from rfl, p1, p2, some_bind, some_bind]
  unfold sG
  rw [show w - 1 + 1 - 0 = w by omega, show x - 1 + 1 - w = x - w by omega]
  rw [sAp_cong (A := wA M.1) (B := wB M.1) (A' := fun w => sWk m k w true 7) (B' := fun w => sWk m k w false 7) (fun v hv => hA v (by omega)), sAp_cong (A := wA M.1) (B := wB M.1) (a := w) (A' := fun w => sWk m k w true 7) (B' := fun w => sWk m k w false 7) (fun v hv => hA v (by omega))]
/-! ===== the least of 1 .. n, upwards and downwards ===== -/
def sUp (G : Nat → Int64) : Nat → Option Nat
  | 0 => none
  | n + 1 => match sUp G n with
    | none => some (n + 1)
    | some b => if G b ≤ G (n + 1) then some b else some (n + 1)
def sDn (G : Nat → Int64) (L : Nat) : Nat → Option Nat
  | 0 => none
  | j + 1 => match sDn G L j with
    | none => some (L - j)
    | some b => if G b < G (L - j) then some b else some (L - j)
theorem sUp_s (G : Nat → Int64) (n : Nat) : sUp G (n + 1) = match sUp G n with | none => some (n + 1) | some b => if G b ≤ G (n + 1) then some b else some (n + 1) := rfl
theorem sDn_s (G : Nat → Int64) (L j : Nat) : sDn G L (j + 1) = match sDn G L j with | none => some (L - j) | some b => if G b < G (L - j) then some b else some (L - j) := rfl
theorem l_le (a b : Int64) : a ≤ b ↔ a.toInt ≤ b.toInt := Int64.le_iff_toInt_le
theorem l_lt (a b : Int64) : a < b ↔ a.toInt < b.toInt := Int64.lt_iff_toInt_lt
theorem sUp_is (G : Nat → Int64) (n : Nat) : 1 ≤ n → ∃ b, sUp G n = some b ∧ 1 ≤ b ∧ b ≤ n ∧ (∀ w, 1 ≤ w → w ≤ n → (G b).toInt ≤ (G w).toInt) ∧ ∀ w, 1 ≤ w → w < b → (G b).toInt < (G w).toInt := by
  induction n with
  | zero => intro h; exact absurd h (by omega)
  | succ n ih =>
    intro _
    rw [sUp_s]
    by_cases h0 : n = 0
    · subst h0
      exact ⟨1, rfl, by omega, by omega, fun w h1 h2 => by rw [show w = 1 by omega]; exact Int.le_refl _, fun w h1 h2 => absurd h2 (by omega)⟩
    · obtain ⟨b, h1, h2, h3, h4, h5⟩ := ih (by omega)
      rw [h1]
      show ∃ c, (if G b ≤ G (n + 1) then some b else some (n + 1)) = some c ∧ _
      by_cases e : G b ≤ G (n + 1)
      · rw [if_pos e]
        rw [l_le] at e
        refine ⟨b, rfl, h2, by omega, fun w a1 a2 => ?_, h5⟩
        by_cases e2 : w = n + 1
        · rw [e2]; exact e
        · exact h4 w a1 (by omega)
      · rw [if_neg e]
        rw [l_le] at e
        refine ⟨n + 1, rfl, by omega, by omega, fun w a1 a2 => ?_, fun w a1 a2 => ?_⟩
        · by_cases e2 : w = n + 1
          · rw [e2]; exact Int.le_refl _
          · have := h4 w a1 (by omega)
            omega
        · have := h4 w a1 (by omega)
          omega
theorem sDn_is (G : Nat → Int64) (L : Nat) (j : Nat) : 1 ≤ j → j ≤ L → ∃ b, sDn G L j = some b ∧ L - j + 1 ≤ b ∧ b ≤ L ∧ (∀ w, L - j + 1 ≤ w → w ≤ L → (G b).toInt ≤ (G w).toInt) ∧ ∀ w, L - j + 1 ≤ w → w < b → (G b).toInt < (G w).toInt := by
  induction j with
  | zero => intro h; exact absurd h (by omega)
  | succ j ih =>
    intro _ hj
    rw [sDn_s]
    by_cases h0 : j = 0
    · subst h0
      exact ⟨L, rfl, by omega, by omega, fun w h1 h2 => by rw [show w = L by omega]; exact Int.le_refl _, fun w h1 h2 => absurd h2 (by omega)⟩
    · obtain ⟨b, h1, h2, h3, h4, h5⟩ := ih (by omega) (by omega)
      rw [h1]
      show ∃ c, (if G b < G (L - j) then some b else some (L - j)) = some c ∧ _
      by_cases e : G b < G (L - j)
      · rw [if_pos e]
        rw [l_lt] at e
        refine ⟨b, rfl, by omega, by omega, fun w a1 a2 => ?_, fun w a1 a2 => ?_⟩
        · by_cases e2 : w = L - j
          · rw [e2]; omega
          · exact h4 w (by omega) (by omega)
        · by_cases e2 : w = L - j
          · rw [e2]; exact e
          · exact h5 w (by omega) a2
      · rw [if_neg e]
        rw [l_lt] at e
        refine ⟨L - j, rfl, by omega, by omega, fun w a1 a2 => ?_, fun w a1 a2 => absurd a2 (by omega)⟩
        by_cases e2 : w = L - j
        · rw [e2]; exact Int.le_refl _
        · have := h4 w (by omega) a2
          omega
theorem up_dn (G : Nat → Int64) (L : Nat) : sUp G L = sDn G L L := by
  by_cases h0 : L = 0
  · subst h0; rfl
  · obtain ⟨b, h1, h2, h3, h4, h5⟩ := sUp_is G L (by omega)
    obtain ⟨c, g1, g2, g3, g4, g5⟩ := sDn_is G L L (by omega) (Nat.le_refl _)
    rw [h1, g1]
    have a1 := h4 c (by omega) g3
    have a2 := g4 b (by omega) h3
    rcases Nat.lt_trichotomy b c with h | h | h
    · have := g5 b (by omega) h
      omega
    · rw [h]
    · have := h5 c (by omega) h
      omega
theorem lastW_eq {n : Nat} {M : xM} (hn : n ≤ 56) (h : M.1 1 3 = nI n) : fX6_lastWholeWeek M = some (nI (n / 7) - 1) := by
  unfold fX6_lastWholeWeek
  have h70 : ¬ (7:Int32) = 0 := by decide
  have h7 : nI n / (7:Int32) = nI (n / 7) := pk_div (d := 7) (by omega) (by decide) (by decide)
  rw [if_neg h70, h, h7]
theorem least_eq {m : sm} {k x : Nat} {M : xM} (hx : x ≤ 8) (hW : wPos M.1) (hA : ∀ w, w < 8 → wA M.1 w = sWk m k w true 7 ∧ wB M.1 w = sWk m k w false 7) : fX1_leastBreak (nI x - 1) M = some (oI (sUp (sG m k x) (x - 1))) := by
  unfold fX1_leastBreak
  have h0 : nI x - 1 < (1:Int32) ∨ 2 ≤ x := by
    by_cases h : 2 ≤ x
    · exact Or.inr h
    · have : x = 0 ∨ x = 1 := by omega
      rcases this with rfl | rfl
      · exact Or.inl (by decide)
      · exact Or.inl (by decide)
  by_cases h2 : 2 ≤ x
  · have hp : nI x - 1 = nI (x - 1) := by
      obtain ⟨j, rfl⟩ : ∃ j, x = j + 1 := ⟨x - 1, by omega⟩
      exact nI_pred j
    rw [hp]
    refine lp_for (fun e => (oI (sUp (sG m k x) e), (match sUp (sG m k x) e with | none => 0 | some b => sG m k x b), nI (e + 1))) _ (x - 1) (fun e kk he hkk => ?_) (fun kk => ?_) xfu 0 (Nat.zero_le _) (by unfold xfu; omega)
    · have g1 : ¬ nI (x - 1) < nI (e + 1) := nI_nlt (by omega) (by omega)
      have g2 : ¬ (8:Int32) ≤ nI (e + 1) := nI_ge (b := 8) (by omega) (by decide)
      have hm := missesAt_eq (m := m) (k := k) (x := x) (w := e + 1) (M := M) (by omega) (by omega) hx hW hA
      rw [sUp_s] at hkk
      simp only [g1, g2, hm, some_bind, ↓reduceIte, nI_1, lg_cmp_ge]
      cases h1 : sUp (sG m k x) e with
      | none =>
        rw [h1] at hkk
        simp only [oI, ↓reduceIte] at hkk ⊢
        exact hkk
      | some b =>
        have hb : b < 2 ^ 31 := by
          by_cases he0 : e = 0
          · subst he0; exact absurd h1 (by simp [sUp])
          · obtain ⟨c, c1, c2, c3, -⟩ := sUp_is (sG m k x) e (by omega)
            rw [c1] at h1
            have := Option.some.inj h1
            omega
        have hb1 : ¬ nI b = -1 := nI_nm1 hb
        rw [h1] at hkk
        simp only [oI, hb1, ↓reduceIte] at hkk ⊢
        by_cases e2 : sG m k x b ≤ sG m k x (e + 1)
        · simp only [e2, ↓reduceIte] at hkk ⊢
          exact hkk
        · simp only [e2, ↓reduceIte] at hkk ⊢
          exact hkk
    · have g1 : nI (x - 1) < nI (x - 1 + 1) := nI_lt (by omega) (by omega)
      simp only [g1, ↓reduceIte]
  · have g1 := h0.resolve_right h2
    have hx1 : x - 1 = 0 := by omega
    rw [hx1]
    show lp _ (999 + 1) _ = _
    rw [lp_succ]
    simp only [g1, ↓reduceIte]
    rfl
