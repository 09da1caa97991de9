/-! ===== the world at the start ===== -/
def cI : Option xPw := (fX9_init (cnew xL0)).bind fun q3 => if q3.1 = 170 then fX10_init (cnew q3) else none
def cH (f : xPw → Bool) : Bool := match cI with | none => false | some q => f q
/-- all of the first n are so -/
def aL (n : Nat) (f : Nat → Bool) : Bool := (List.range n).all f
theorem aL_at {n : Nat} {f : Nat → Bool} (h : aL n f = true) {i : Nat} (hi : i < n) : f i = true := List.all_eq_true.mp h i (List.mem_range.mpr hi)
theorem cI_0 : cH (fun q => (q.1 == 191) && xdone q) = true := by decide +kernel
theorem cI_1 : cH (fun q => aL 800 (fun s => q.2.1.1 186 s == 0)) = true := by decide +kernel
theorem cI_2 : cH (fun q => aL 8 (fun v => (q.2.1.1 (148 + 2 * v) 1 == 0) && aL 100 (fun s => q.2.1.1 (148 + 2 * v + 1) s == 0))) = true := by decide +kernel
theorem cI_3 : cH (fun q => aL 16 (fun k => (q.2.1.1 (8 + 4 * k) 0 == -1) && ((q.2.1.1 (8 + 4 * k) 5 == 0) && ((q.2.1.1 171 k == -1) && ((q.2.1.1 175 k == 0) && aL 56 (fun d => (q.2.1.1 (8 + 4 * k + 1) d == -1) && ((q.2.1.1 (8 + 4 * k + 2) d == -1) && (q.2.1.1 (8 + 4 * k + 3) d == -1)))))))) = true := by decide +kernel
theorem cI_4 : cH (fun q => aL 16 (fun k => aL 56 (fun d => (q.2.1.1 (73 + 1 + k) d == -1) && ((q.2.1.1 (90 + 1 + k) d == 0) && ((q.2.1.1 (107 + 1 + k) d == -1) && (q.2.1.1 (124 + 1 + k) d == -1)))))) = true := by decide +kernel
theorem cI_5 : cH (fun q => (q.2.1.1 1 3 == 0) && ((q.2.1.1 3 3 == 0) && ((q.2.1.1 1 4 == 0) && ((q.2.1.1 72 6 == 0) && ((q.2.1.1 170 14 == 0) && ((q.2.1.1 170 15 == 0) && (aL 4 (fun j => q.2.1.1 7 j == q.2.1.1 170 (16 + j)) && aL 8 (fun j => q.2.1.1 7 (4 + j) == q.2.1.1 185 j)))))))) = true := by decide +kernel
theorem cH_at {f : xPw → Bool} {q : xPw} (hq : cI = some q) (h : cH f = true) : f q = true := by
  unfold cH at h
  rw [hq] at h
  exact h
theorem cI_q : ∃ q, cI = some q := by
  have h := cI_0
  unfold cH at h
  cases hc : cI with
  | none => rw [hc] at h; exact absurd h (by simp)
  | some q => exact ⟨q, rfl⟩
theorem sMn_zero {m : sm} {v : Nat} (n : Nat) : (∀ s, s < n → m 186 (100 * v + s) = 0) → sMn m v n = 0 := by
  induction n with
  | zero => intro _; rfl
  | succ n ih =>
    intro h
    rw [sMn_s, if_pos (h n (by omega)), ih (fun s hs => h s (by omega))]
theorem Inv_0 {q : xPw} (hq : cI = some q) : Inv q.2.1.1 0 := by
  obtain ⟨m, hm⟩ : ∃ m, m = q.2.1.1 := ⟨_, rfl⟩
  have h1 : ∀ s, s < 800 → m 186 s = 0 := fun s hs => by
    have := aL_at (cH_at hq cI_1) hs
    rw [hm]; simpa using this
  have h2 : ∀ v, v < 8 → m (148 + 2 * v) 1 = 0 ∧ ∀ s, s < 100 → m (148 + 2 * v + 1) s = 0 := fun v hv => by
    have := aL_at (cH_at hq cI_2) hv
    simp only [Bool.and_eq_true] at this
    rw [hm]
    refine ⟨by simpa using this.1, fun s hs => ?_⟩
    have h := aL_at this.2 hs
    simpa using h
  have h3 : ∀ k, k < 16 → m (8 + 4 * k) 0 = -1 ∧ m (8 + 4 * k) 5 = 0 ∧ m 171 k = -1 ∧ m 175 k = 0 ∧ ∀ d, d < 56 → m (8 + 4 * k + 1) d = -1 ∧ m (8 + 4 * k + 2) d = -1 ∧ m (8 + 4 * k + 3) d = -1 := fun k hk => by
    have := aL_at (cH_at hq cI_3) hk
    simp only [Bool.and_eq_true] at this
    rw [hm]
    refine ⟨by simpa using this.1, by simpa using this.2.1, by simpa using this.2.2.1, by simpa using this.2.2.2.1, fun d hd => ?_⟩
    have h := aL_at this.2.2.2.2 hd
    simp only [Bool.and_eq_true] at h
    exact ⟨by simpa using h.1, by simpa using h.2.1, by simpa using h.2.2⟩
  have h4 : ∀ k d, k < 16 → d < 56 → m (73 + 1 + k) d = -1 ∧ m (90 + 1 + k) d = 0 ∧ m (107 + 1 + k) d = -1 ∧ m (124 + 1 + k) d = -1 := fun k d hk hd => by
    have h := aL_at (aL_at (cH_at hq cI_4) hk) hd
    simp only [Bool.and_eq_true] at h
    rw [hm]
    exact ⟨by simpa using h.1, by simpa using h.2.1, by simpa using h.2.2.1, by simpa using h.2.2.2⟩
  have h5 : m 1 3 = 0 ∧ m 3 3 = 0 ∧ m 1 4 = 0 ∧ m 72 6 = 0 ∧ m 170 14 = 0 ∧ m 170 15 = 0 ∧ (∀ j, j < 4 → m 7 j = m 170 (16 + j)) ∧ ∀ j, j < 8 → m 7 (4 + j) = m 185 j := by
    have h := cH_at hq cI_5
    simp only [Bool.and_eq_true] at h
    rw [hm]
    refine ⟨by simpa using h.1, by simpa using h.2.1, by simpa using h.2.2.1, by simpa using h.2.2.2.1, by simpa using h.2.2.2.2.1, by simpa using h.2.2.2.2.2.1, fun j hj => ?_, fun j hj => ?_⟩
    · have := aL_at h.2.2.2.2.2.2.1 hj
      simpa using this
    · have := aL_at h.2.2.2.2.2.2.2 hj
      simpa using this
  rw [← hm]
  have hg : ∀ k, k < 16 → sGb m k = false := fun k hk => by unfold sGb; rw [(h3 k hk).2.2.1]; rfl
  have hR : ∀ k d, k < 16 → sR m k d = -1 := fun k d hk => by
    unfold sR sRaw
    rw [if_pos (Or.inl (hg k hk))]
  have hne : ∀ k, k < 16 → ¬ m 171 k = 3 := fun k hk => by rw [(h3 k hk).2.2.1]; decide
  refine ⟨NInv.mk' ?_ ⟨0, by omega, h5.2.2.2.2.2.1⟩ (fun k hk => ?_) ⟨0, by omega, h5.2.2.2.2.1, h5.2.1, fun i hi => absurd hi (by omega), fun k d hk hd => ((h3 k hk).2.2.2.2 d hd).2.2, fun i hi => absurd hi (by omega), fun i hi => absurd hi (by omega)⟩ ⟨h5.2.2.2.2.2.2.1 0 (by omega), h5.2.2.2.2.2.2.1 1 (by omega), h5.2.2.2.2.2.2.1 2 (by omega), h5.2.2.2.2.2.2.1 3 (by omega), h5.2.2.2.2.2.2.2⟩ (fun v hv => ⟨?_, fun x y hx hy => ?_⟩) (fun j hj => Or.inl (h1 j hj)), fun k d hk hd _ => h4 k d hk hd, 0, Nat.le_refl _, h5.2.2.1, h5.2.2.2.1, fun _ k d hk hd => ?_⟩
  · rw [h5.1, h5.2.2.2.2.2.1]
  · have e := h3 k hk
    refine ⟨by rw [e.1, e.2.2.1], fun x => absurd e.2.2.1 x, fun d hd x => absurd e.2.2.1 x, Or.inl e.2.2.1, fun d hd x => absurd ((hg k hk).symm.trans x) (by simp), fun d hd x => absurd ((hg k hk).symm.trans x) (by simp), fun _ => ⟨e.2.1, fun d hd => ⟨(e.2.2.2.2 d hd).1, (e.2.2.2.2 d hd).2.1⟩⟩, fun x => absurd e.2.2.1 x, ⟨0, by omega, e.2.2.2.1⟩, fun x => absurd e.2.2.1 x⟩
  · rw [(h2 v hv).1, sMn_zero 100 (fun s hs => h1 _ (by omega))]
    rfl
  · rw [(h2 v hv).2 _ (by omega), h1 _ (by omega)]
  · have e := h4 k d hk hd
    unfold sTd
    rw [hR k d hk, sDo_no (hR k d hk), sTr_no (hR k d hk), if_neg (hne k hk)]
    exact e
theorem init_ok : ∃ q3 q6, fX9_init (cnew xL0) = some q3 ∧ q3.1 = 170 ∧ fX10_init (cnew q3) = some q6 ∧ q6.1 = 191 ∧ xdone q6 = true ∧ Inv q6.2.1.1 0 := by
  obtain ⟨q, hq⟩ := cI_q
  have h0 := cH_at hq cI_0
  simp only [Bool.and_eq_true] at h0
  have hi := Inv_0 hq
  unfold cI at hq
  cases h9 : fX9_init (cnew xL0) with
  | none => rw [h9] at hq; exact absurd hq (by simp)
  | some q3 =>
    rw [h9, some_bind] at hq
    by_cases e : q3.1 = 170
    · rw [if_pos e] at hq
      exact ⟨q3, q, rfl, e, hq, by simpa using h0.1, h0.2, hi⟩
    · rw [if_neg e] at hq
      exact absurd hq (by simp)
