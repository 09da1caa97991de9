/-! ===== the class's nearest trusted one, and sums ===== -/
theorem find_sIns {f : Nat → Int32} {P : Nat → Bool} {q : Nat} : ∀ L : List Nat, L.Pairwise (fun a b => f a ≤ f b) → (sIns f q L).find? P = if P q = true then (match L.find? P with | none => some q | some y => if f y ≤ f q then some y else some q) else L.find? P
  | [], _ => by
    unfold sIns
    rw [List.find?_cons]
    cases h : P q <;> simp
  | y :: L, hL => by
    have hL' := List.pairwise_cons.mp hL
    have hs : sIns f q (y :: L) = if f q < f y then q :: y :: L else y :: sIns f q L := rfl
    rw [hs]
    by_cases e1 : f q < f y
    · rw [if_pos e1, List.find?_cons]
      cases h : P q with
      | false => simp
      | true =>
        simp only [↓reduceIte]
        cases h2 : (y :: L).find? P with
        | none => rfl
        | some z =>
          have hz := List.mem_of_find?_eq_some h2
          have : ¬ f z ≤ f q := by
            rcases List.mem_cons.mp hz with rfl | hz
            · exact Int32.not_le.mpr e1
            · intro h3
              exact Int32.not_le.mpr e1 (Int32.le_trans (hL'.1 z hz) h3)
          simp only [this, ↓reduceIte]
    · rw [if_neg e1, List.find?_cons, List.find?_cons]
      cases h : P y with
      | true =>
        have : f y ≤ f q := Int32.not_lt.mp e1
        cases h3 : P q <;> simp [this]
      | false =>
        simp only []
        exact find_sIns L hL'.2
theorem find_rows {m : sm} {k : Nat} {P : Nat → Bool} (hP : ∀ q, q < 16 → P q = true → ¬ q = k ∧ sGb m q = true) : ∀ n, n ≤ 16 → (sRows m k n).find? P = sOw P (fun q => sDs m q k) n
  | 0, _ => rfl
  | n + 1, hn => by
    have ih := find_rows hP n (by omega)
    have e1 : sRows m k (n + 1) = if n = k ∨ sGb m n = false then sRows m k n else sIns (fun y => sDs m y k) n (sRows m k n) := rfl
    have e2 : sOw P (fun q => sDs m q k) (n + 1) = if P n = false then sOw P (fun q => sDs m q k) n else match sOw P (fun q => sDs m q k) n with | none => some n | some b => if sDs m b k ≤ sDs m n k then some b else some n := rfl
    rw [e1, e2, ← ih]
    by_cases h1 : n = k ∨ sGb m n = false
    · rw [if_pos h1]
      have : P n = false := by
        cases h2 : P n with
        | false => rfl
        | true =>
          have := hP n (by omega) h2
          rcases h1 with h1 | h1
          · exact absurd h1 this.1
          · rw [this.2] at h1; exact absurd h1 (by simp)
      rw [if_pos this]
    · rw [if_neg h1, find_sIns _ (sRows_sorted m k n)]
      cases h2 : P n <;> simp
theorem sOw_s (P : Nat → Bool) (f : Nat → Int32) (n : Nat) : sOw P f (n + 1) = if P n = false then sOw P f n else match sOw P f n with | none => some n | some b => if f b ≤ f n then some b else some n := rfl
theorem sOw_cong {P : Nat → Bool} {f g : Nat → Int32} (h : ∀ q, q < 16 → P q = true → f q = g q) (n : Nat) : n ≤ 16 → sOw P f n = sOw P g n := by
  induction n with
  | zero => intro _; rfl
  | succ n ih =>
    intro hn
    have ih := ih (by omega)
    rw [sOw_s, sOw_s, ih]
    cases h1 : P n with
    | false => rw [if_pos rfl, if_pos rfl]
    | true =>
      rw [if_neg (by simp), if_neg (by simp)]
      cases h2 : sOw P g n with
      | none => rfl
      | some b =>
        have h3 := sOw_lt n h2
        have h4 := h n (by omega) h1
        have h5 := h b (by omega) h3.2
        show (if f b ≤ f n then some b else some n) = if g b ≤ g n then some b else some n
        rw [h4, h5]
theorem through_eq {q a u : Nat} {t : Nat → Int32} {M : xM} (hq : q < 16) (hau : a ≤ u) (hu : u < 56) (ht : ∀ d, d < 56 → M.1 (107 + 1 + q) d = t d) : fX0_isTrustedThrough (nI q) (nI a) (nI u) M = some (if sAll t a (u + 1 - a) = true then 1 else 0) := by
  have hb : xinb (nI q) 16 = true := xinb_nI hq (by decide)
  have hc : (nI q).toNatClampNeg = q := nI_clamp (by omega)
  unfold fX0_isTrustedThrough
  refine lp_run (fun s => ∃ e, e ≤ u + 1 - a ∧ s = nI (a + e) ∧ sAll t a e = true) (fun s => 57 - s.toNatClampNeg) _ ?_ xfu _ ⟨0, by omega, rfl, rfl⟩ (by unfold xfu; show 57 - _ < 1000; omega)
  rintro s kk ⟨e, he, rfl, hs⟩ hkk
  by_cases e1 : e = u + 1 - a
  · have g1 : nI u < nI (a + e) := nI_lt (by omega) (by omega)
    rw [e1] at hs
    simp only [g1, hs, ↓reduceIte]
  · have g1 : ¬ nI u < nI (a + e) := nI_nlt (by omega) (by omega)
    have hb2 : xinb (nI (a + e)) 56 = true := xinb_nI (by omega) (by decide)
    have hc2 : (nI (a + e)).toNatClampNeg = a + e := nI_clamp (by omega)
    have hc3 : (nI (a + (e + 1))).toNatClampNeg = a + (e + 1) := nI_clamp (by omega)
    have hs1 : sAll t a (e + 1) = (sAll t a e && !(t (a + e) == -1)) := rfl
    simp only [g1, hb, hc, hb2, hc2, ht (a + e) (by omega), ↓reduceIte, nI_1]
    by_cases e2 : t (a + e) = -1
    · have : sAll t a (u + 1 - a) = false := sAll_mono (e := e + 1) (by rw [hs1, e2]; simp) (by omega)
      simp only [e2, this, ↓reduceIte, reduceCtorEq]
    · simp only [e2, ↓reduceIte]
      exact hkk _ ⟨e + 1, by omega, rfl, by rw [hs1, hs]; simp [e2]⟩ (by rw [hc2]; show 57 - (nI (a + (e + 1))).toNatClampNeg < _; rw [hc3]; omega)
theorem sumT_eq {q a u : Nat} {t : Nat → Int32} {M : xM} (hq : q < 16) (hau : a ≤ u) (hu : u < 56) (ht : ∀ d, d < 56 → M.1 (107 + 1 + q) d = t d) : fX0_sumTrusted (nI q) (nI a) (nI u) M = some (sTot t a (u + 1 - a)) := by
  have hb : xinb (nI q) 16 = true := xinb_nI hq (by decide)
  have hc : (nI q).toNatClampNeg = q := nI_clamp (by omega)
  unfold fX0_sumTrusted
  refine lp_for (fun e => (sTot t a e, nI (a + e))) _ (u + 1 - a) (fun e kk he hkk => ?_) (fun kk => ?_) xfu 0 (Nat.zero_le _) (by unfold xfu; omega)
  · have g1 : ¬ nI u < nI (a + e) := nI_nlt (by omega) (by omega)
    have hb2 : xinb (nI (a + e)) 56 = true := xinb_nI (by omega) (by decide)
    have hc2 : (nI (a + e)).toNatClampNeg = a + e := nI_clamp (by omega)
    simp only [g1, hb, hc, hb2, hc2, ht (a + e) (by omega), bd_at, ↓reduceIte, nI_1]
    exact hkk
  · have g1 : nI u < nI (a + (u + 1 - a)) := nI_lt (by omega) (by omega)
    simp only [g1, ↓reduceIte]
abbrev CTr (m : sm) : Prop := ∀ q d, q < 16 → d < 56 → m (107 + 1 + q) d = sTr m q d
theorem sTr_g {m : sm} {k d : Nat} (h : ¬ sTr m k d = -1) : sGb m k = true ∧ ¬ m 171 k = 3 := by
  have h1 : ¬ sR m k d = -1 := by
    intro e
    refine h ?_
    unfold sTr
    rw [if_pos e]
  refine ⟨sR_g h1, fun e => h1 ?_⟩
  unfold sR sRaw
  rw [if_pos (Or.inr (Or.inl e))]
theorem nearC_eq {k a u : Nat} {M : xM} (hk : k < 16) (hau : a ≤ u) (hu : u < 56) (hP : CPl M.1) (hT : CTr M.1) (hk3 : M.1 171 k = 3) : fX0_nearestTrusted (nI k) (nI a) (nI u) M = some (oI (sBy M.1 k a u)) := by
  have hb : xinb (nI k) 16 = true := xinb_nI hk (by decide)
  have hc : (nI k).toNatClampNeg = k := nI_clamp (by omega)
  have h10 : ¬ (1:Int32) = 0 := by decide
  have hPg : ∀ q, q < 16 → sAll (sTr M.1 q) a (u + 1 - a) = true → ¬ q = k ∧ sGb M.1 q = true := by
    intro q hq h
    have h1 : ¬ sTr M.1 q a = -1 := by
      intro e
      have : sAll (sTr M.1 q) a (u + 1 - a) = false := sAll_mono (e := 0 + 1) (by show (sAll (sTr M.1 q) a 0 && !(sTr M.1 q (a + 0) == -1)) = false; rw [Nat.add_zero, e]; simp) (by omega)
      rw [this] at h
      exact absurd h (by simp)
    have h2 := sTr_g h1
    exact ⟨fun e => h2.2 (e ▸ hk3), h2.1⟩
  have hne : ¬ M.1 171 k = -1 := by rw [hk3]; decide
  unfold sBy
  rw [find_rows hPg 16 (Nat.le_refl _)]
  have hf : ∀ q, q < 16 → sAll (sTr M.1 q) a (u + 1 - a) = true → (fun q => (M.1 (8 + 4 * k) 1 - M.1 (8 + 4 * q) 1) * (M.1 (8 + 4 * k) 1 - M.1 (8 + 4 * q) 1) + (M.1 (8 + 4 * k) 2 - M.1 (8 + 4 * q) 2) * (M.1 (8 + 4 * k) 2 - M.1 (8 + 4 * q) 2)) q = sDs M.1 q k := by
    intro q hq h
    have := cdist_eq hq hk hP (sGb_1 (hPg q hq h).2).1 hne
    unfold fX9_squaredDistance at this
    exact Option.some.inj this
  rw [← sOw_cong hf 16 (Nat.le_refl _)]
  unfold fX0_nearestTrusted
  simp only [hb, hc, ↓reduceIte]
  generalize hF : (fun q => (M.1 (8 + 4 * k) 1 - M.1 (8 + 4 * q) 1) * (M.1 (8 + 4 * k) 1 - M.1 (8 + 4 * q) 1) + (M.1 (8 + 4 * k) 2 - M.1 (8 + 4 * q) 2) * (M.1 (8 + 4 * k) 2 - M.1 (8 + 4 * q) 2)) = F
  have hFq : ∀ q, fX9_squaredDistance (M.1 (8 + 4 * k) 1) (M.1 (8 + 4 * k) 2) q M = some (F q) := by
    intro q
    rw [← hF]
    rfl
  refine lp_for (fun q => (oI (sOw (fun q => sAll (sTr M.1 q) a (u + 1 - a)) F q), (match sOw (fun q => sAll (sTr M.1 q) a (u + 1 - a)) F q with | none => 0 | some b => F b), nI q)) _ 16 (fun q kk hq hkk => ?_) (fun kk => ?_) xfu 0 (by decide) (by unfold xfu; omega)
  · have g1 : ¬ (16:Int32) ≤ nI q := nI_ge (b := 16) hq (by decide)
    have hbq : xinb (nI q) 16 = true := xinb_nI hq (by decide)
    have hcq : (nI q).toNatClampNeg = q := nI_clamp (by omega)
    have hs : sOw (fun q => sAll (sTr M.1 q) a (u + 1 - a)) F (q + 1) = if sAll (sTr M.1 q) a (u + 1 - a) = false then sOw (fun q => sAll (sTr M.1 q) a (u + 1 - a)) F q else match sOw (fun q => sAll (sTr M.1 q) a (u + 1 - a)) F q with | none => some q | some b => if F b ≤ F q then some b else some q := rfl
    rw [hs] at hkk
    simp only [g1, hbq, hcq, hFq, some_bind, jn_at, ↓reduceIte, nI_1, through_eq hq hau hu (fun d hd => hT q d hq hd)]
    cases h1 : sOw (fun q => sAll (sTr M.1 q) a (u + 1 - a)) F q with
    | none =>
      rw [h1] at hkk
      rcases Bool.eq_false_or_eq_true (sAll (sTr M.1 q) a (u + 1 - a)) with e1 | e1
      · simp only [e1, oI, h10, ↓reduceIte, reduceCtorEq] at hkk ⊢
        exact hkk
      · simp only [e1, oI, ↓reduceIte, reduceCtorEq] at hkk ⊢
        exact hkk
    | some b =>
      have hb16 := (sOw_lt q h1).1
      have hb1 : ¬ nI b = -1 := nI_nm1 (by omega)
      rw [h1] at hkk
      simp only [oI, hb1, ↓reduceIte] at hkk ⊢
      by_cases e2 : F b ≤ F q
      · simp only [e2, ↓reduceIte] at hkk ⊢
        rcases Bool.eq_false_or_eq_true (sAll (sTr M.1 q) a (u + 1 - a)) with e1 | e1
        · simp only [e1, ↓reduceIte, reduceCtorEq] at hkk ⊢
          exact hkk
        · simp only [e1, ↓reduceIte, reduceCtorEq] at hkk ⊢
          exact hkk
      · simp only [e2, ↓reduceIte] at hkk ⊢
        rcases Bool.eq_false_or_eq_true (sAll (sTr M.1 q) a (u + 1 - a)) with e1 | e1
        · simp only [e1, h10, ↓reduceIte, reduceCtorEq] at hkk ⊢
          exact hkk
        · simp only [e1, ↓reduceIte, reduceCtorEq] at hkk ⊢
          exact hkk
  · have g1 : (16:Int32) ≤ nI 16 := by decide
    simp only [g1, ↓reduceIte]
