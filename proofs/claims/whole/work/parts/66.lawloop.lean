/-! ===== the law: every call answers alike ===== -/
abbrev lQ (o : Option (Int32 × xM)) : Prop := ∃ M, o = some ((1:Int32), M)
theorem br0 {o9 o10 : Option Int32} {N : xM} (kk : xM → Option (Int32 × xM)) (h : aR0 o9 o10) (hk : lQ (kk N)) : lQ (o9.bind fun v => o10.bind fun w => if v = w then kk N else some ((0:Int32), N)) := by
  obtain ⟨v, h1, h2⟩ := h
  rw [h1, h2, some_bind, some_bind, if_pos rfl]
  exact hk
theorem br1 {c : Nat} {o9 : Option (Int32 × xM)} {f : xM → Option Int32} (kk : xM → Option (Int32 × xM)) (h : aR1 c o9 f) (hk : ∀ (N : xM) c', c' ≤ c + 1 → Inv N.1 c' → lQ (kk N)) : lQ (o9.bind fun q => (f q.2).bind fun w => if q.1 = w then kk q.2 else some ((0:Int32), q.2)) := by
  obtain ⟨v, M1, h1, h2, c', h3, h4⟩ := h
  rw [h1, some_bind]
  show lQ ((f M1).bind fun w => if v = w then kk M1 else some ((0:Int32), M1))
  rw [h2, some_bind, if_pos rfl]
  exact hk M1 c' h3 h4
theorem br2 {c : Nat} {o9 : Option (Int32 × xM)} {f : xM → Option (Int32 × xM)} (kk : xM → Option (Int32 × xM)) (h : aR2 c o9 f) (hk : ∀ (N : xM) c', c' ≤ c + 1 → Inv N.1 c' → lQ (kk N)) : lQ (o9.bind fun q => (f q.2).bind fun r => if q.1 = r.1 then kk r.2 else some ((0:Int32), r.2)) := by
  obtain ⟨v, M1, M2, h1, h2, c', h3, h4⟩ := h
  rw [h1, some_bind]
  show lQ ((f M1).bind fun r => if v = r.1 then kk r.2 else some ((0:Int32), r.2))
  rw [h2, some_bind]
  show lQ (if v = v then kk M2 else some ((0:Int32), M2))
  rw [if_pos rfl]
  exact hk M2 c' h3 h4
theorem brL {c : Nat} {o9 : Option (Int64 × xM)} {f : xM → Option (Int64 × xM)} (kk : xM → Option (Int32 × xM)) (h : aRL c o9 f) (hk : ∀ (N : xM) c', c' ≤ c + 1 → Inv N.1 c' → lQ (kk N)) : lQ (o9.bind fun q => (f q.2).bind fun r => if lg_cmp q.1 r.1 = 0 then kk r.2 else some ((0:Int32), r.2)) := by
  obtain ⟨v, M1, M2, h1, h2, c', h3, h4⟩ := h
  rw [h1, some_bind]
  show lQ ((f M1).bind fun r => if lg_cmp v r.1 = 0 then kk r.2 else some ((0:Int32), r.2))
  rw [h2, some_bind]
  show lQ (if lg_cmp v v = 0 then kk M2 else some ((0:Int32), M2))
  rw [if_pos ((lg_cmp_eq v v).mpr rfl)]
  exact hk M2 c' h3 h4
theorem lQ_ite {c : Prop} [Decidable c] {a b : Option (Int32 × xM)} (h1 : c → lQ a) (h2 : ¬ c → lQ b) : lQ (if c then a else b) := by
  by_cases h : c
  · rw [if_pos h]; exact h1 h
  · rw [if_neg h]; exact h2 h
theorem nI_p2 (a : Nat) : nI a + 2 = nI (a + 2) := by
  show nI a + nI 2 = _
  rw [nI_add]
theorem nI_p3 (a : Nat) : nI a + 3 = nI (a + 3) := by
  show nI a + nI 3 = _
  rw [nI_add]
theorem nI_p4 (a : Nat) : nI a + 4 = nI (a + 4) := by
  show nI a + nI 4 = _
  rw [nI_add]
theorem nI_p5 (a : Nat) : nI a + 5 = nI (a + 5) := by
  show nI a + nI 5 = _
  rw [nI_add]
theorem nI_p6 (a : Nat) : nI a + 6 = nI (a + 6) := by
  show nI a + nI 6 = _
  rw [nI_add]
set_option maxRecDepth 100000 in
set_option maxHeartbeats 4000000 in
theorem law_ok (n : Nat) (xs : Nat → Int32) (h : n ≤ 3072) : ∃ M, fL_law n xs xL0 = some ((1:Int32), M) := by
  obtain ⟨q3, q6, i1, i2, i3, i4, i5, i6⟩ := init_ok
  unfold fL_law
  rw [if_pos (show xL0.1 = 0 from rfl), bd_at, i1, some_bind, if_pos i2, bd_at, i3, some_bind, if_pos ⟨i4, i5⟩, bd_at]
  refine lp_post (Q := lQ) (fun s => ∃ (i c : Nat) (N : xM), 6 * i ≤ n + 5 ∧ c ≤ i ∧ s = (nI (6 * i), N) ∧ Inv N.1 c) (fun s => (3100 - s.1.toNatClampNeg) / 6) ?_ xfu _ ⟨0, 0, q6.2.1, by omega, by omega, rfl, i6⟩ (by unfold xfu; show (3100 - _) / 6 < 1000; omega)
  rintro s kk ⟨i, c, N, h1, h2, rfl, h0⟩ hkk
  have hI := h0.1
  by_cases e : Int32.ofNat n - 6 < nI (6 * i)
  · simp only [e, ↓reduceIte]
    exact ⟨N, rfl⟩
  · have hn : 6 * i + 6 ≤ n := by
      have h9 : (nI n - nI 6).toInt = (n : Int) - (6 : Nat) := pk_sub_toInt (by omega) (by omega)
      have h8 : ¬ (nI n - nI 6).toInt < (nI (6 * i)).toInt := fun h => e (Int32.lt_iff_toInt_lt.mpr h)
      rw [h9, nI_toInt (by omega)] at h8
      omega
    have b0 : xinb (nI (6 * i)) n = true := xinb_nI (by omega) (by omega)
    have b1 : xinb (nI (6 * i) + 1) n = true := by rw [nI_1]; exact xinb_nI (by omega) (by omega)
    have b2 : xinb (nI (6 * i) + 2) n = true := by rw [nI_p2]; exact xinb_nI (by omega) (by omega)
    have b3 : xinb (nI (6 * i) + 3) n = true := by rw [nI_p3]; exact xinb_nI (by omega) (by omega)
    have b4 : xinb (nI (6 * i) + 4) n = true := by rw [nI_p4]; exact xinb_nI (by omega) (by omega)
    have b5 : xinb (nI (6 * i) + 5) n = true := by rw [nI_p5]; exact xinb_nI (by omega) (by omega)
    have b6 : nI (6 * i) + 6 = nI (6 * (i + 1)) := by rw [nI_p6]; rfl
    have hc : c < 2 ^ 31 := by omega
    have go : ∀ (N : xM) c', c' ≤ c + 1 → Inv N.1 c' → lQ (kk (nI (6 * (i + 1)), N)) := fun N c' h3 h4 => hkk _ ⟨i + 1, c', N, by omega, by omega, rfl, h4⟩ (by
      show (3100 - (nI (6 * (i + 1))).toNatClampNeg) / 6 < (3100 - (nI (6 * i)).toNatClampNeg) / 6
      rw [nI_clamp (by omega), nI_clamp (by omega)]
      omega)
    have same : lQ (kk (nI (6 * (i + 1)), N)) := go N c (by omega) h0
    simp only [e, b0, b1, b2, b3, b4, b5, b6, bd_at, jn_at, ↓reduceIte]
    refine lQ_ite (fun _ => br2 (fun N => kk (nI (6 * (i + 1)), N)) (put_ok h0) go) (fun _ => ?_)
    refine lQ_ite (fun _ => br2 (fun N => kk (nI (6 * (i + 1)), N)) (lift_ok h0) go) (fun _ => ?_)
    refine lQ_ite (fun _ => br0 (fun N => kk (nI (6 * (i + 1)), N)) (look_ok hI) same) (fun _ => ?_)
    refine lQ_ite (fun _ => br2 (fun N => kk (nI (6 * (i + 1)), N)) (read_ok h0) go) (fun _ => ?_)
    refine lQ_ite (fun _ => br2 (fun N => kk (nI (6 * (i + 1)), N)) (full_ok h0) go) (fun _ => ?_)
    refine lQ_ite (fun _ => br2 (fun N => kk (nI (6 * (i + 1)), N)) (melt_ok h0) go) (fun _ => ?_)
    refine lQ_ite (fun _ => br2 (fun N => kk (nI (6 * (i + 1)), N)) (other_ok h0) go) (fun _ => ?_)
    refine lQ_ite (fun _ => br2 (fun N => kk (nI (6 * (i + 1)), N)) (hand_ok h0) go) (fun _ => ?_)
    refine lQ_ite (fun _ => br2 (fun N => kk (nI (6 * (i + 1)), N)) (close_ok h0) go) (fun _ => ?_)
    refine lQ_ite (fun _ => br0 (fun N => kk (nI (6 * (i + 1)), N)) (today_ok hI) same) (fun _ => ?_)
    refine lQ_ite (fun _ => br2 (fun N => kk (nI (6 * (i + 1)), N)) (set_ok h0) go) (fun _ => ?_)
    refine lQ_ite (fun _ => br0 (fun N => kk (nI (6 * (i + 1)), N)) (raw_ok hI) same) (fun _ => ?_)
    refine lQ_ite (fun _ => br0 (fun N => kk (nI (6 * (i + 1)), N)) (known_ok hI) same) (fun _ => ?_)
    refine lQ_ite (fun _ => br1 (fun N => kk (nI (6 * (i + 1)), N)) (why_ok hc h0) go) (fun _ => ?_)
    refine lQ_ite (fun _ => br2 (fun N => kk (nI (6 * (i + 1)), N)) (state_ok hc h0) go) (fun _ => ?_)
    refine lQ_ite (fun _ => br2 (fun N => kk (nI (6 * (i + 1)), N)) (number_ok hc h0) go) (fun _ => ?_)
    refine lQ_ite (fun _ => br2 (fun N => kk (nI (6 * (i + 1)), N)) (from_ok hc h0) go) (fun _ => ?_)
    refine lQ_ite (fun _ => br1 (fun N => kk (nI (6 * (i + 1)), N)) (part_ok hc h0) go) (fun _ => ?_)
    refine lQ_ite (fun _ => br1 (fun N => kk (nI (6 * (i + 1)), N)) (squares_ok hc h0) go) (fun _ => ?_)
    refine lQ_ite (fun _ => ?_) (fun _ => ?_)
    · by_cases e4 : xs (nI (6 * i) + 4).toNatClampNeg = 0
      · simp only [e4, ↓reduceIte]
        exact br2 (fun N => kk (nI (6 * (i + 1)), N)) (valley_ok (Or.inl rfl) h0) go
      · simp only [e4, ↓reduceIte]
        exact br2 (fun N => kk (nI (6 * (i + 1)), N)) (valley_ok (Or.inr rfl) h0) go
    refine lQ_ite (fun _ => br2 (fun N => kk (nI (6 * (i + 1)), N)) (rain_ok hc h0) go) (fun _ => ?_)
    refine lQ_ite (fun _ => br2 (fun N => kk (nI (6 * (i + 1)), N)) (mean_ok hc h0) go) (fun _ => ?_)
    refine lQ_ite (fun _ => brL (fun N => kk (nI (6 * (i + 1)), N)) (flow_ok hc h0) go) (fun _ => ?_)
    refine lQ_ite (fun _ => br2 (fun N => kk (nI (6 * (i + 1)), N)) (ahead_ok hc h0) go) (fun _ => ?_)
    refine lQ_ite (fun _ => br2 (fun N => kk (nI (6 * (i + 1)), N)) (week_ok hc h0) go) (fun _ => ?_)
    refine lQ_ite (fun _ => br2 (fun N => kk (nI (6 * (i + 1)), N)) (cleft_ok hc h0) go) (fun _ => ?_)
    refine lQ_ite (fun _ => brL (fun N => kk (nI (6 * (i + 1)), N)) (misses_ok hc h0) go) (fun _ => ?_)
    exact same
