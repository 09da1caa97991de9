/-! ===== what holds, place by place ===== -/
def PI (m : sm) (k : Nat) : Prop := m (8 + 4 * k) 0 = m 171 k ∧ (¬ m 171 k = -1 → m (8 + 4 * k) 1 = m 172 k ∧ m (8 + 4 * k) 2 = m 173 k ∧ m (8 + 4 * k) 3 = m 174 k ∧ m (8 + 4 * k) 4 = m 175 k ∧ m (8 + 4 * k) 5 = m 176 k) ∧ (∀ d, d < 56 → ¬ m 171 k = -1 → m (8 + 4 * k + 1) d = m 177 (56 * k + d) ∧ (m 171 k = 1 → m (8 + 4 * k + 2) d = m 178 (56 * k + d)) ∧ (m 171 k = 2 → m (8 + 4 * k + 2) d = m 179 (56 * k + d)) ∧ (m 171 k = 4 → m (8 + 4 * k + 2) d = m 180 (56 * k + d))) ∧ (m 171 k = -1 ∨ ∃ c, c ≤ 5 ∧ m 171 k = nI c) ∧ (∀ d, d < 56 → sGb m k = true → (nI d < m 175 k ∨ ¬ nI d ≤ m 170 15) → m 177 (56 * k + d) = -1 ∧ m 178 (56 * k + d) = -1 ∧ m 179 (56 * k + d) = -1 ∧ m 180 (56 * k + d) = -1) ∧ (∀ d, d < 56 → sGb m k = true → (-1 ≤ (m 177 (56 * k + d)).toInt ∧ (m 177 (56 * k + d)).toInt ≤ 5000) ∧ (-1 ≤ (m 178 (56 * k + d)).toInt ∧ (m 178 (56 * k + d)).toInt ≤ 7) ∧ (-1 ≤ (m 179 (56 * k + d)).toInt ∧ (m 179 (56 * k + d)).toInt ≤ 5000) ∧ (-1 ≤ (m 180 (56 * k + d)).toInt ∧ (m 180 (56 * k + d)).toInt ≤ 250) ∧ (m 171 k = 1 ∨ m 171 k = 4 → (m 177 (56 * k + d)).toInt ≤ 250) ∧ (0 ≤ (m 174 k).toInt ∧ (m 174 k).toInt ≤ 20)) ∧ (m 171 k = -1 → m (8 + 4 * k) 5 = 0 ∧ ∀ d, d < 56 → m (8 + 4 * k + 1) d = -1 ∧ m (8 + 4 * k + 2) d = -1) ∧ (¬ m 171 k = -1 → (∃ a, a < 10 ∧ m 172 k = nI a) ∧ ∃ b, b < 10 ∧ m 173 k = nI b) ∧ sF m k ∧ (¬ m 171 k = -1 → m 175 k ≤ m 170 15)
theorem NInv.pi {m : sm} (h : NInv m) {k : Nat} (hk : k < 16) : PI m k := ⟨h.pl.1 k hk, h.pl.2 k hk, fun d hd => h.rd k d hk hd, h.wk k hk, fun d hd => h.wr k d hk hd, fun d hd => h.wb k d hk hd, h.em k hk, h.wx k hk, h.wf k hk, h.wt k hk⟩
theorem NInv.mk' {m : sm} (h1 : m 1 3 = m 170 15) (h2 : sN m) (h3 : ∀ k, k < 16 → PI m k) (h4 : ∃ h, h ≤ 100 ∧ CLog2 m h) (h5 : CRu m) (h6 : CVl m) (h7 : WS m) : NInv m :=
  ⟨⟨h1, ⟨fun k hk => (h3 k hk).1, fun k hk => (h3 k hk).2.1⟩, fun k d hk hd => (h3 k hk).2.2.1 d hd, fun k hk => (h3 k hk).2.2.2.1, fun k d hk hd => (h3 k hk).2.2.2.2.1 d hd, h2⟩, h4, h5, fun k d hk hd => (h3 k hk).2.2.2.2.2.1 d hd, fun k hk => (h3 k hk).2.2.2.2.2.2.1, fun k hk => (h3 k hk).2.2.2.2.2.2.2.1, ⟨fun k hk => (h3 k hk).2.2.2.2.2.2.2.2.1, fun k hk => (h3 k hk).2.2.2.2.2.2.2.2.2⟩, h6, h7⟩
/-- nothing of place k has changed -/
abbrev pE (m m' : sm) (k : Nat) : Prop := (∀ j i, 8 + 4 * k ≤ j → j ≤ 8 + 4 * k + 2 → m' j i = m j i) ∧ (∀ j, 171 ≤ j → j ≤ 176 → m' j k = m j k) ∧ (∀ j d, 177 ≤ j → j ≤ 180 → d < 56 → m' j (56 * k + d) = m j (56 * k + d))
theorem PI_e {m m' : sm} {k : Nat} (e : pE m m' k) (et : m' 170 15 = m 170 15) (h : PI m k) : PI m' k := by
  obtain ⟨e1, e2, e3⟩ := e
  have hg : sGb m' k = sGb m k := by unfold sGb; rw [e2 171 (by omega) (by omega)]
  obtain ⟨h1, h2, h3, h4, h5, h6, h7, h8, ⟨f, h9, h9'⟩, h10⟩ := h
  refine ⟨?_, fun hne => ?_, fun d hd hne => ?_, ?_, fun d hd hgg hx => ?_, fun d hd hgg => ?_, fun hne => ?_, fun hne => ?_, ⟨f, h9, ?_⟩, fun hne => ?_⟩
  · rw [e1 _ _ (by omega) (by omega), e2 171 (by omega) (by omega)]; exact h1
  · rw [e2 171 (by omega) (by omega)] at hne
    rw [e1 (8 + 4 * k) 1 (by omega) (by omega), e1 (8 + 4 * k) 2 (by omega) (by omega), e1 (8 + 4 * k) 3 (by omega) (by omega), e1 (8 + 4 * k) 4 (by omega) (by omega), e1 (8 + 4 * k) 5 (by omega) (by omega), e2 172 (by omega) (by omega), e2 173 (by omega) (by omega), e2 174 (by omega) (by omega), e2 175 (by omega) (by omega), e2 176 (by omega) (by omega)]
    exact h2 hne
  · rw [e2 171 (by omega) (by omega)] at hne ⊢
    rw [e1 (8 + 4 * k + 1) d (by omega) (by omega), e1 (8 + 4 * k + 2) d (by omega) (by omega), e3 177 d (by omega) (by omega) hd, e3 178 d (by omega) (by omega) hd, e3 179 d (by omega) (by omega) hd, e3 180 d (by omega) (by omega) hd]
    exact h3 d hd hne
  · rw [e2 171 (by omega) (by omega)]; exact h4
  · rw [hg] at hgg
    rw [e2 175 (by omega) (by omega), et] at hx
    rw [e3 177 d (by omega) (by omega) hd, e3 178 d (by omega) (by omega) hd, e3 179 d (by omega) (by omega) hd, e3 180 d (by omega) (by omega) hd]
    exact h5 d hd hgg hx
  · rw [hg] at hgg
    rw [e2 171 (by omega) (by omega), e2 174 (by omega) (by omega), e3 177 d (by omega) (by omega) hd, e3 178 d (by omega) (by omega) hd, e3 179 d (by omega) (by omega) hd, e3 180 d (by omega) (by omega) hd]
    exact h6 d hd hgg
  · rw [e2 171 (by omega) (by omega)] at hne
    refine ⟨?_, fun d hd => ?_⟩
    · rw [e1 _ _ (by omega) (by omega)]; exact (h7 hne).1
    · rw [e1 _ _ (by omega) (by omega), e1 _ _ (by omega) (by omega)]; exact (h7 hne).2 d hd
  · rw [e2 171 (by omega) (by omega)] at hne
    rw [e2 172 (by omega) (by omega), e2 173 (by omega) (by omega)]
    exact h8 hne
  · rw [e2 175 (by omega) (by omega)]; exact h9'
  · rw [e2 171 (by omega) (by omega)] at hne
    rw [e2 175 (by omega) (by omega), et]
    exact h10 hne
/-- nothing of the log has changed, nor where and when gauges lie -/
abbrev lE (m m' : sm) : Prop := (∀ j i, 3 ≤ j → j ≤ 6 → m' j i = m j i) ∧ (∀ k d, k < 16 → d < 56 → m' (8 + 4 * k + 3) d = m (8 + 4 * k + 3) d) ∧ (∀ j i, 181 ≤ j → j ≤ 184 → m' j i = m j i) ∧ (∀ k, k < 16 → m' 171 k = m 171 k ∧ m' 175 k = m 175 k) ∧ m' 170 14 = m 170 14 ∧ m' 170 15 = m 170 15
theorem sHl_e {m m' : sm} (e : ∀ j i, 181 ≤ j → j ≤ 184 → m' j i = m j i) (k d : Nat) : ∀ n, sHl m' k d n = sHl m k d n
  | 0 => rfl
  | n + 1 => by simp only [sHl, sHl_e e k d n, e 181 n (by decide) (by decide), e 182 n (by decide) (by decide)]
theorem CLog2_e {m m' : sm} {a : Nat} (e : lE m m') (h : CLog2 m a) : CLog2 m' a := by
  obtain ⟨e1, e2, e3, e4, e5, e6⟩ := e
  obtain ⟨h1, h2, h3, h4, h5, h6⟩ := h
  refine ⟨e5.trans h1, (e1 3 3 (by omega) (by omega)).trans h2, fun i hi => ?_, fun k d hk hd => ?_, fun i hi => ?_, fun i hi => ?_⟩
  · rw [e1 4 i (by omega) (by omega), e1 5 i (by omega) (by omega), e1 6 i (by omega) (by omega), e3 181 i (by omega) (by omega), e3 182 i (by omega) (by omega), e3 183 i (by omega) (by omega), e3 184 i (by omega) (by omega)]
    refine ⟨(h3 i hi).1, (h3 i hi).2.1, fun k d hk hd x1 x2 => ?_⟩
    rw [sHl_e e3]
    exact (h3 i hi).2.2 k d hk hd x1 x2
  · rw [e2 k d hk hd, sHl_e e3]
    exact h4 k d hk hd
  · rw [e3 181 i (by omega) (by omega), e3 182 i (by omega) (by omega), e3 184 i (by omega) (by omega), e6]
    refine ⟨(h5 i hi).1, fun k hk x1 => ?_⟩
    have hg : sGb m' k = sGb m k := by unfold sGb; rw [(e4 k hk).1]
    rw [hg, (e4 k hk).1, (e4 k hk).2]
    exact (h5 i hi).2 k hk x1
  · rw [e3 183 i (by omega) (by omega)]
    exact h6 i hi
theorem CRu_e {m m' : sm} (e7 : ∀ i, m' 7 i = m 7 i) (e1 : ∀ i, 16 ≤ i → m' 170 i = m 170 i) (e8 : ∀ i, m' 185 i = m 185 i) (h : CRu m) : CRu m' := by
  obtain ⟨h1, h2, h3, h4, h5⟩ := h
  refine ⟨?_, ?_, ?_, ?_, fun j hj => ?_⟩
  · rw [e7, e1 _ (by omega)]; exact h1
  · rw [e7, e1 _ (by omega)]; exact h2
  · rw [e7, e1 _ (by omega)]; exact h3
  · rw [e7, e1 _ (by omega)]; exact h4
  · rw [e7, e8]; exact h5 j hj
theorem sMn_e {m m' : sm} (e : ∀ i, m' 186 i = m 186 i) (v : Nat) : ∀ n, sMn m' v n = sMn m v n
  | 0 => rfl
  | n + 1 => by simp only [sMn, sMn_e e v n, e]
theorem CVl_e {m m' : sm} (e1 : ∀ j i, 148 ≤ j → j ≤ 163 → m' j i = m j i) (e2 : ∀ i, m' 186 i = m 186 i) (h : CVl m) : CVl m' := by
  intro v hv
  refine ⟨?_, fun x y hx hy => ?_⟩
  · rw [e1 _ _ (by omega) (by omega), sMn_e e2]; exact (h v hv).1
  · rw [e1 _ _ (by omega) (by omega), e2]; exact (h v hv).2 x y hx hy
theorem WS_e {m m' : sm} (e2 : ∀ i, m' 186 i = m 186 i) (h : WS m) : WS m' := fun j hj => by
  rw [e2]; exact h j hj
theorem BF_e {m m' : sm} (e : ∀ j i, 73 ≤ j → j < 141 → m' j i = m j i) (et : m' 170 15 = m 170 15) (h : BF m) : BF m' := fun k d hk hd hf => by
  rw [et] at hf
  rw [e _ _ (by omega) (by omega), e _ _ (by omega) (by omega), e _ _ (by omega) (by omega), e _ _ (by omega) (by omega)]
  exact h k d hk hd hf
theorem BC_1 {m m' : sm} {c : Nat} (h1 : m' 1 4 = m 1 4 + 1) (h2 : m' 72 6 = m 72 6) (h : BC m c) : BC m' (c + 1) := by
  obtain ⟨w, hw, a1, a2, -⟩ := h
  exact ⟨w, by omega, by rw [h1, a1, nI_1], h2.trans a2, fun h => absurd h (by omega)⟩
/-- a call that changes something of place p alone (and maybe of the log) -/
theorem Inv_1 {m m' : sm} {c p : Nat} (hp : p < 16) (h : Inv m c) (hf : ∀ j i, ¬ (1 = j ∧ i = 4) → ¬ (3 ≤ j ∧ j ≤ 6) → ¬ (8 + 4 * p ≤ j ∧ j ≤ 8 + 4 * p + 3) → ¬ (171 ≤ j ∧ j ≤ 176 ∧ i = p) → ¬ (177 ≤ j ∧ j ≤ 180 ∧ 56 * p ≤ i ∧ i < 56 * p + 56) → ¬ (181 ≤ j ∧ j ≤ 184) → ¬ (j = 170 ∧ i = 14) → m' j i = m j i) (h1 : m' 1 4 = m 1 4 + 1) (hP : PI m' p) (hL : ∃ h, h ≤ 100 ∧ CLog2 m' h) : Inv m' (c + 1) := by
  obtain ⟨hI, hBF, hBC⟩ := h
  have et : m' 170 15 = m 170 15 := hf _ _ (by omega) (by omega) (by omega) (by omega) (by omega) (by omega) (by omega)
  refine ⟨NInv.mk' ?_ ?_ (fun k hk => ?_) hL (CRu_e (fun i => ?_) (fun i hi => ?_) (fun i => ?_) hI.ru) (CVl_e (fun j i a b => ?_) (fun i => ?_) hI.vl) (WS_e (fun i => ?_) hI.ws), BF_e (fun j i a b => ?_) et hBF, BC_1 h1 ?_ hBC⟩
  · rw [hf 1 3 (by omega) (by omega) (by omega) (by omega) (by omega) (by omega) (by omega), et]
    exact hI.net.1
  · obtain ⟨n, a1, a2⟩ := hI.n
    exact ⟨n, a1, et.trans a2⟩
  · by_cases e : k = p
    · rw [e]; exact hP
    · refine PI_e ⟨fun j i a b => ?_, fun j a b => ?_, fun j d a b hd => ?_⟩ et (hI.pi hk)
      · exact hf _ _ (by omega) (by omega) (by omega) (by omega) (by omega) (by omega) (by omega)
      · exact hf _ _ (by omega) (by omega) (by omega) (by omega) (by omega) (by omega) (by omega)
      · exact hf _ _ (by omega) (by omega) (by omega) (by omega) (by omega) (by omega) (by omega)
  · exact hf _ _ (by omega) (by omega) (by omega) (by omega) (by omega) (by omega) (by omega)
  · exact hf _ _ (by omega) (by omega) (by omega) (by omega) (by omega) (by omega) (by omega)
  · exact hf _ _ (by omega) (by omega) (by omega) (by omega) (by omega) (by omega) (by omega)
  · exact hf _ _ (by omega) (by omega) (by omega) (by omega) (by omega) (by omega) (by omega)
  · exact hf _ _ (by omega) (by omega) (by omega) (by omega) (by omega) (by omega) (by omega)
  · exact hf _ _ (by omega) (by omega) (by omega) (by omega) (by omega) (by omega) (by omega)
  · exact hf _ _ (by omega) (by omega) (by omega) (by omega) (by omega) (by omega) (by omega)
  · exact hf _ _ (by omega) (by omega) (by omega) (by omega) (by omega) (by omega) (by omega)
