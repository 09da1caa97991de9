/-! ===== flow, weeks ===== -/
abbrev sWf (m : sm) : Prop := sH m ∧ sN m ∧ ∀ k, k < 16 → sF m k
theorem sWf_c {m m' : sm} (e : sEq m m') (h : sWf m) : sWf m' := by
  obtain ⟨h1, ⟨a, h2, h3⟩, h4⟩ := h
  refine ⟨sH_c e h1, ⟨a, h2, (e 170 15 (by decide)).trans h3⟩, fun k hk => ?_⟩
  obtain ⟨b, h5, h6⟩ := h4 k hk
  exact ⟨b, h5, (e 175 k (by decide)).trans h6⟩
def sFl (m : sm) (v : Nat) (day : Int32) : Nat → Int64
  | 0 => 0
  | j + 1 => if m 185 j = 0 ∨ sRain m v (day - nI j) = -1 then sFl m v day j else sFl m v day j + (sRain m v (day - nI j)).toInt64 * (m 185 j).toInt64
theorem sFl_c {m m' : sm} (e : sEq m m') (v : Nat) (day : Int32) : ∀ n, sFl m' v day n = sFl m v day n
  | 0 => rfl
  | n + 1 => by simp only [sFl, sFl_c e v day n, sRain_c e, e 185 _ (by decide)]
abbrev sLongR (M : xM) (v : Int64) (o : Option (Int64 × xM)) : Prop := ∃ M' : xM, o = some (v, M') ∧ sEq M.1 M'.1
theorem flow0_eq {v : Nat} {day : Int32} {M : xM} (hv : v < 8) (hw : sWf M.1) : sLongR M (sFl M.1 v day 8) (fX10_flow0 (nI v) day M) := by
  unfold fX10_flow0
  refine lp_post (Q := sLongR M (sFl M.1 v day 8)) (fun s => ∃ (i : Nat) (N : xM), i ≤ 8 ∧ s = (sFl M.1 v day i, nI i, N) ∧ sEq M.1 N.1) (fun s => 8 - s.2.1.toNatClampNeg) ?_ xfu _ ⟨0, M, by omega, rfl, fun _ _ _ => rfl⟩ (by unfold xfu; show 8 - _ < 1000; omega)
  rintro s kk ⟨i, N, hi, rfl, he⟩ hkk
  by_cases e5 : i = 8
  · subst e5
    have g1 : (8:Int32) ≤ nI 8 := by decide
    simp only [g1, ↓reduceIte]
    exact ⟨N, rfl, he⟩
  · have hi : i < 8 := by omega
    have g1 : ¬ (8:Int32) ≤ nI i := nI_ge (b := 8) hi (by decide)
    have hb : xinb (nI i) 8 = true := xinb_nI (by omega) (by decide)
    have hc4 : (nI i).toNatClampNeg = i := nI_clamp (by omega)
    have hc5 : (nI (i + 1)).toNatClampNeg = i + 1 := nI_clamp (by omega)
    have hs : sFl M.1 v day (i + 1) = if M.1 185 i = 0 ∨ sRain M.1 v (day - nI i) = -1 then sFl M.1 v day i else sFl M.1 v day i + (sRain M.1 v (day - nI i)).toInt64 * (M.1 185 i).toInt64 := rfl
    simp only [g1, hb, hc4, jn_at, bd_at, ↓reduceIte, nI_1, Int64.add_zero, he 185 _ (show 185 < 187 by decide)]
    by_cases e1 : M.1 185 i = 0
    · simp only [e1, ↓reduceIte]
      exact hkk _ ⟨i + 1, N, by omega, by rw [hs, if_pos (Or.inl e1)], he⟩ (by simp only [hc4, hc5]; omega)
    · simp only [e1, ↓reduceIte]
      have hwN := sWf_c he hw
      obtain ⟨N1, h1, h2⟩ := rain0_eq (M := N) (day := day - nI i) hv hwN.1 hwN.2.1 hwN.2.2
      simp only [h1, some_bind, sRain_c he, h2 185 _ (show 185 < 187 by decide), he 185 _ (show 185 < 187 by decide)]
      by_cases e2 : sRain M.1 v (day - nI i) = -1
      · simp only [e2, ↓reduceIte]
        exact hkk _ ⟨i + 1, N1, by omega, by rw [hs, if_pos (Or.inr e2)], sEq_t he h2⟩ (by simp only [hc4, hc5]; omega)
      · simp only [e2, ↓reduceIte]
        exact hkk _ ⟨i + 1, N1, by omega, by rw [hs, if_neg (by simp [e1, e2])], sEq_t he h2⟩ (by simp only [hc4, hc5]; omega)
/-- a loop of which only something is told if it ends -/
theorem lp_part {σ β : Type} {step : σ → (σ → Option β) → Option β} (P : σ → Prop) (Q : Option β → Prop) (h0 : Q none) (h : ∀ s k, P s → (∀ s', P s' → Q (k s')) → Q (step s k)) : ∀ n s, P s → Q (lp step n s) := by
  intro n
  induction n with
  | zero => intro s _; exact h0
  | succ n ih =>
    intro s hs
    rw [lp_succ]
    exact h s _ hs (fun s' h1 => ih s' h1)
abbrev s2R (L : Nat → Nat → Int64) (o : Option (Int32 × xM)) : Prop := ∀ q, o = some q → q.2.2 = L
theorem s2R_none (L : Nat → Nat → Int64) : s2R L none := fun q h => absurd h (by simp)
theorem s2R_bind {α : Type} {L : Nat → Nat → Int64} {o : Option α} {f : α → Option (Int32 × xM)} (h : ∀ a, s2R L (f a)) : s2R L (o.bind f) := by
  cases o with
  | none => exact s2R_none L
  | some a => exact h a
theorem s2R_ite {L : Nat → Nat → Int64} {c : Prop} [Decidable c] {a b : Option (Int32 × xM)} (h1 : s2R L a) (h2 : s2R L b) : s2R L (if c then a else b) := by
  split
  · exact h1
  · exact h2
theorem rows_2 {p : Int32} {M : xM} : s2R M.2 (fX10_rows p M) := by
  unfold fX10_rows
  refine lp_part (fun s => s.2.2.2 = M.2) (s2R M.2) (s2R_none _) ?_ xfu _ rfl
  rintro ⟨n, q, N⟩ kk hN hkk
  refine s2R_ite (fun q h => ?_) (s2R_ite (hkk _ hN) (s2R_bind fun v5 => s2R_ite (hkk _ hN) ?_))
  · rw [← Option.some.inj h]; exact hN
  · refine lp_part (fun s => s.2.2 = M.2) (s2R M.2) (s2R_none _) ?_ xfu _ hN
    rintro ⟨a, N2⟩ kk2 hN2 hkk2
    have hfin : s2R M.2 (if xinb a 16 then bd (xw N2 187 a.toNatClampNeg q) fun m25 => kk (n + 1, q + 1, m25) else none) := s2R_ite (hkk _ hN2) (s2R_none _)
    rw [jn_at]
    refine s2R_ite hfin (s2R_ite (s2R_ite (s2R_ite (s2R_bind fun v15 => s2R_ite (s2R_ite (s2R_bind fun v18 => s2R_ite hfin (s2R_ite (s2R_ite (hkk2 _ hN2) (s2R_none _)) (s2R_none _))) (s2R_none _)) (s2R_none _)) (s2R_none _)) (s2R_none _)) (s2R_none _))
