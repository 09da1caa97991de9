/-! ===== full, other, melt ===== -/
def kfv (m : sm) (k : Nat) (kd : Int32) : Int32 := if gf m k = 0 then (if m 171 k = kd then 0 else -2) else gf m k
theorem kfv_0 {m : sm} {k : Nat} {kd : Int32} (h : kfv m k kd = 0) : gf m k = 0 ∧ m 171 k = kd := by
  unfold kfv at h
  by_cases e : gf m k = 0
  · rw [if_pos e] at h
    by_cases e2 : m 171 k = kd
    · exact ⟨e, e2⟩
    · rw [if_neg e2] at h
      exact absurd h i_m2
  · rw [if_neg e] at h
    exact absurd h e
theorem kindF_nI {k : Nat} {kd : Int32} {M : xM} (hk : k < 16) (hP : CPl M.1) : fX9_kindFault (nI k) kd M = some (kfv M.1 k kd) := by
  have hb : xinb (nI k) 16 = true := xinb_nI hk (by decide)
  have hc : (nI k).toNatClampNeg = k := nI_clamp (by omega)
  unfold fX9_kindFault kfv
  rw [gaugeF_nI hk hP]
  simp only [some_bind, hb, hc, hP.1 k hk, ↓reduceIte]
  by_cases e : gf M.1 k = 0
  · rw [if_pos e, if_pos e]
    by_cases e2 : M.1 171 k = kd
    · rw [if_pos e2, if_pos e2, e]
    · rw [if_neg e2, if_neg e2]
  · rw [if_neg e, if_neg e]
theorem kindF_out {p kd : Int32} {M : xM} (h : p < 0 ∨ 16 ≤ p) : fX9_kindFault p kd M = some (-1) := by
  unfold fX9_kindFault
  rw [gaugeF_out h]
  simp only [some_bind, i_m1, ↓reduceIte]
theorem failsK {k : Nat} {kd : Int32} {M : xM} (hk : k < 16) (hK : WK M.1) (hd : kd = 1 ∨ kd = 2 ∨ kd = 4) : fX10_fails (nI k) kd kd M = some (kfv M.1 k kd) := by
  rw [fails_nI hk]
  unfold kfv gf
  rcases hK k hk with h | ⟨c, hc, h⟩
  · rw [h]
    rcases hd with rfl | rfl | rfl <;> decide
  · rw [h]
    have : c = 0 ∨ c = 1 ∨ c = 2 ∨ c = 3 ∨ c = 4 ∨ c = 5 := by omega
    rcases hd with rfl | rfl | rfl <;> rcases this with rfl | rfl | rfl | rfl | rfl | rfl <;> decide
/-- the second reading of today is set -/
theorem Inv_sec {M M2 : xM} {c k n j0 : Nat} {v : Int32} (hk : k < 16) (hn : n < 56) (h0 : Inv M.1 c) (hnn : M.1 170 15 = nI n) (hgb : sGb M.1 k = true) (hj0 : (j0 = 178 ∧ M.1 171 k = 1 ∧ 0 ≤ v.toInt ∧ v.toInt ≤ 7) ∨ (j0 = 180 ∧ M.1 171 k = 4 ∧ 0 ≤ v.toInt ∧ v.toInt ≤ 250)) (hall : ∀ j i, ¬ (j = 8 + 4 * k + 2 ∧ i = n) → ¬ (j = 1 ∧ i = 4) → ¬ (j = j0 ∧ i = 56 * k + n) → M2.1 j i = M.1 j i) (h1 : M2.1 (8 + 4 * k + 2) n = v) (h2 : M2.1 j0 (56 * k + n) = v) (h3 : M2.1 1 4 = M.1 1 4 + 1) : Inv M2.1 (c + 1) := by
  have hI := h0.1
  have hne := (sGb_1 hgb).1
  have hwb := hI.wb k n hk hn hgb
  have hrd := hI.rd k n hk hn hne
  have hkn : M.1 171 k = 1 ∨ M.1 171 k = 4 := by
    rcases hj0 with ⟨-, h, -⟩ | ⟨-, h, -⟩
    · exact Or.inl h
    · exact Or.inr h
  refine Inv_2 hk h0 (fun j i a1 a2 a3 a4 a5 => hall j i (by omega) (by omega) (by omega)) h3 (PI_day (hI.pi hk) hgb hn hnn ?_ (fun i hi => ?_) (fun j a b => ?_) ?_ (fun d hd hdn => ⟨?_, ?_, ?_, ?_, ?_, ?_⟩) ⟨?_, ?_, ?_, ?_⟩ ⟨?_, ?_, ?_, ?_, ?_⟩)
  · exact hall _ _ (by omega) (by omega) (by omega)
  · exact hall _ _ (by omega) (by omega) (by omega)
  · exact hall _ _ (by omega) (by omega) (by omega)
  · rw [hall (8 + 4 * k) 5 (by omega) (by omega) (by omega), hall 176 k (by omega) (by omega) (by omega)]
    exact (hI.pl.2 k hk hne).2.2.2.2
  · exact hall _ _ (by omega) (by omega) (by omega)
  · exact hall _ _ (by omega) (by omega) (by omega)
  · exact hall _ _ (by omega) (by omega) (by omega)
  · exact hall _ _ (by omega) (by omega) (by omega)
  · exact hall _ _ (by omega) (by omega) (by omega)
  · exact hall _ _ (by omega) (by omega) (by omega)
  · rw [hall (8 + 4 * k + 1) n (by omega) (by omega) (by omega), hall 177 _ (by omega) (by omega) (by omega)]
    exact hrd.1
  · intro h
    rcases hj0 with ⟨e, -, -⟩ | ⟨-, h', -⟩
    · rw [e] at h2; rw [h1, h2]
    · rw [h] at h'; exact absurd h' (by decide)
  · intro h
    rcases hj0 with ⟨-, h', -⟩ | ⟨-, h', -⟩
    · rw [h] at h'; exact absurd h' (by decide)
    · rw [h] at h'; exact absurd h' (by decide)
  · intro h
    rcases hj0 with ⟨-, h', -⟩ | ⟨e, -, -⟩
    · rw [h] at h'; exact absurd h' (by decide)
    · rw [e] at h2; rw [h1, h2]
  · rw [hall 177 _ (by omega) (by omega) (by omega)]; exact hwb.1
  · rcases hj0 with ⟨e, -, h⟩ | ⟨e, -, h⟩
    · rw [e] at h2; rw [h2]; omega
    · rw [hall 178 _ (by omega) (by omega) (by omega)]; exact hwb.2.1
  · rw [hall 179 _ (by omega) (by omega) (by omega)]; exact hwb.2.2.1
  · rcases hj0 with ⟨e, -, h⟩ | ⟨e, -, h⟩
    · rw [hall 180 _ (by omega) (by omega) (by omega)]; exact hwb.2.2.2.1
    · rw [e] at h2; rw [h2]; omega
  · intro h
    rw [hall 177 _ (by omega) (by omega) (by omega)]
    exact hwb.2.2.2.2.1 h
theorem note9 {k n : Nat} {v most : Int32} {M : xM} (hk : k < 16) (hn : n < 56) (h13 : M.1 1 3 = nI n) (h1 : ¬ v < 0) (h2 : ¬ most < v) : ∃ M1 : xM, fX9_noteSecond (nI k) v most M = some (1, M1) ∧ (∀ j i, ¬ (j = 8 + 4 * k + 2 ∧ i = n) → ¬ (j = 1 ∧ i = 4) → M1.1 j i = M.1 j i) ∧ M1.1 (8 + 4 * k + 2) n = v ∧ M1.1 1 4 = M.1 1 4 + 1 := by
  have hb : xinb (nI k) 16 = true := xinb_nI hk (by decide)
  have hc : (nI k).toNatClampNeg = k := nI_clamp (by omega)
  have hnb : xinb (nI n) 56 = true := xinb_nI hn (by decide)
  have hnc : (nI n).toNatClampNeg = n := nI_clamp (by omega)
  unfold fX9_noteSecond
  simp only [some_bind, bd_at, hb, hc, hnb, hnc, h13, isDay_nI hn, i_10, h1, h2, ↓reduceIte]
  refine ⟨_, rfl, fun j i b1 b2 => ?_, ?_, ?_⟩
  · rw [xv_ne (by omega), xv_ne (by omega)]
  · rw [xv_ne (by omega), xv_eq]
  · rw [xv_eq, xv_ne (by omega)]
theorem note9_bad {k n : Nat} {v most : Int32} {M : xM} (h13 : M.1 1 3 = nI n) (bad : v < 0 ∨ most < v ∨ n = 56) : fX9_noteSecond (nI k) v most M = some (-1, M) := by
  unfold fX9_noteSecond
  by_cases b1 : v < 0
  · rw [if_pos b1]
  · by_cases b2 : most < v
    · rw [if_neg b1, if_pos b2]
    · have b3 : n = 56 := bad.elim (fun h => absurd h b1) (fun h => h.elim (fun h => absurd h b2) id)
      rw [if_neg b1, if_neg b2, h13, b3, isDay_out (Or.inr (by decide)), some_bind, if_pos rfl]
theorem full_ok {p v : Int32} {M : xM} {c : Nat} (h0 : Inv M.1 c) : aR2 c (fX9_full p v M) (fX10_full p v) := by
  have hI := h0.1
  obtain ⟨n, hn, hnn⟩ := hI.n
  have h13 : M.1 1 3 = nI n := by rw [hI.net.1]; exact hnn
  unfold fX9_full
  rcases place_tri p with h | ⟨k, hk, rfl⟩
  · rw [kindF_out h]
    simp only [some_bind, i_m1, ↓reduceIte]
    exact ⟨_, _, M, rfl, by unfold fX10_full; simp only [fails_out h, some_bind, i_m1, ↓reduceIte], c, by omega, h0⟩
  · rw [kindF_nI hk hI.pl]
    by_cases e : kfv M.1 k 1 = 0
    · obtain ⟨e1, e2⟩ := kfv_0 e
      rw [e]
      simp only [some_bind, ↓reduceIte]
      by_cases bad : v < 0 ∨ (7:Int32) < v ∨ n = 56
      · rw [note9_bad h13 bad, some_bind]
        refine ⟨_, _, M, rfl, ?_, c, by omega, h0⟩
        show fX10_full (nI k) v M = some (-1, M)
        unfold fX10_full
        rw [failsK hk hI.wk (Or.inl rfl), e]
        simp only [some_bind, hnn, ↓reduceIte]
        by_cases b3 : n = 56
        · rw [if_pos (by rw [b3]; rfl)]
        · rw [if_neg (show ¬ nI n = 56 from nI_ne (b := 56) (by omega) (by decide) b3), isIn_0 (bad.elim Or.inl (fun h => h.elim Or.inr (fun h => absurd h b3)))]
          simp only [some_bind, ↓reduceIte]
      · have b1 : ¬ v < 0 := fun h => bad (Or.inl h)
        have b2 : ¬ (7:Int32) < v := fun h => bad (Or.inr (Or.inl h))
        have hn : n < 56 := by
          have : ¬ n = 56 := fun h => bad (Or.inr (Or.inr h))
          omega
        obtain ⟨M1, c1, c2, c3, c4⟩ := note9 (most := 7) hk hn h13 b1 b2
        rw [c1, some_bind]
        have hnb : xinb (nI (56 * k + n)) 896 = true := xinb_nI (by omega) (by decide)
        have hnc : (nI (56 * k + n)).toNatClampNeg = 56 * k + n := nI_clamp (by omega)
        have hK1 : WK M1.1 := fun q hq => by
          rw [c2 171 q (by omega) (by omega)]; exact hI.wk q hq
        have hkf : kfv M1.1 k 1 = 0 := by
          unfold kfv gf at e ⊢
          rw [c2 171 k (by omega) (by omega)]; exact e
        have hnn1 : M1.1 170 15 = nI n := (c2 170 15 (by omega) (by omega)).trans hnn
        have g56 : ¬ nI n = 56 := nI_ne (b := 56) (by omega) (by decide) (by omega)
        refine ⟨1, M1, xw M1 178 (56 * k + n) v, rfl, ?_, c + 1, Nat.le_refl _, ?_⟩
        · unfold fX10_full
          rw [failsK hk hK1 (Or.inl rfl), hkf]
          simp only [some_bind, hnn1, g56, isIn_1 (M := M1) b1 b2, i_10, at_nI, hnb, hnc, bd_at, ↓reduceIte]
        · refine Inv_sec (j0 := 178) (v := v) hk hn h0 hnn (gf_0.mp e1) (Or.inl ⟨rfl, e2, ?_⟩) (fun j i a1 a2 a3 => ?_) ?_ xv_eq ?_
          · rw [Int32.lt_iff_toInt_lt] at b1 b2
            have : (0:Int32).toInt = 0 := by decide
            have : (7:Int32).toInt = 7 := by decide
            omega
          · rw [xv_ne (by omega)]
            exact c2 j i a1 a2
          · rw [xv_ne (by omega)]
            exact c3
          · rw [xv_ne (by omega)]
            exact c4
    · simp only [some_bind, e, ↓reduceIte]
      exact ⟨_, _, M, rfl, by unfold fX10_full; simp only [failsK hk hI.wk (Or.inl rfl), some_bind, e, ↓reduceIte], c, by omega, h0⟩
theorem other_ok {p v : Int32} {M : xM} {c : Nat} (h0 : Inv M.1 c) : aR2 c (fX9_other p v M) (fX10_other p v) := by
  have hI := h0.1
  obtain ⟨n, hn, hnn⟩ := hI.n
  have h13 : M.1 1 3 = nI n := by rw [hI.net.1]; exact hnn
  unfold fX9_other
  rcases place_tri p with h | ⟨k, hk, rfl⟩
  · rw [kindF_out h]
    simp only [some_bind, i_m1, ↓reduceIte]
    exact ⟨_, _, M, rfl, by unfold fX10_other; simp only [fails_out h, some_bind, i_m1, ↓reduceIte], c, by omega, h0⟩
  · rw [kindF_nI hk hI.pl]
    by_cases e : kfv M.1 k 4 = 0
    · obtain ⟨e1, e2⟩ := kfv_0 e
      rw [e]
      simp only [some_bind, ↓reduceIte]
      by_cases bad : v < 0 ∨ (250:Int32) < v ∨ n = 56
      · rw [note9_bad h13 bad, some_bind]
        refine ⟨_, _, M, rfl, ?_, c, by omega, h0⟩
        show fX10_other (nI k) v M = some (-1, M)
        unfold fX10_other
        rw [failsK hk hI.wk (Or.inr (Or.inr rfl)), e]
        simp only [some_bind, hnn, ↓reduceIte]
        by_cases b3 : n = 56
        · rw [if_pos (by rw [b3]; rfl)]
        · rw [if_neg (show ¬ nI n = 56 from nI_ne (b := 56) (by omega) (by decide) b3), isIn_0 (bad.elim Or.inl (fun h => h.elim Or.inr (fun h => absurd h b3)))]
          simp only [some_bind, ↓reduceIte]
      · have b1 : ¬ v < 0 := fun h => bad (Or.inl h)
        have b2 : ¬ (250:Int32) < v := fun h => bad (Or.inr (Or.inl h))
        have hn : n < 56 := by
          have : ¬ n = 56 := fun h => bad (Or.inr (Or.inr h))
          omega
        obtain ⟨M1, c1, c2, c3, c4⟩ := note9 (most := 250) hk hn h13 b1 b2
        rw [c1, some_bind]
        have hnb : xinb (nI (56 * k + n)) 896 = true := xinb_nI (by omega) (by decide)
        have hnc : (nI (56 * k + n)).toNatClampNeg = 56 * k + n := nI_clamp (by omega)
        have hK1 : WK M1.1 := fun q hq => by
          rw [c2 171 q (by omega) (by omega)]; exact hI.wk q hq
        have hkf : kfv M1.1 k 4 = 0 := by
          unfold kfv gf at e ⊢
          rw [c2 171 k (by omega) (by omega)]; exact e
        have hnn1 : M1.1 170 15 = nI n := (c2 170 15 (by omega) (by omega)).trans hnn
        have g56 : ¬ nI n = 56 := nI_ne (b := 56) (by omega) (by decide) (by omega)
        refine ⟨1, M1, xw M1 180 (56 * k + n) v, rfl, ?_, c + 1, Nat.le_refl _, ?_⟩
        · unfold fX10_other
          rw [failsK hk hK1 (Or.inr (Or.inr rfl)), hkf]
          simp only [some_bind, hnn1, g56, isIn_1 (M := M1) b1 b2, i_10, at_nI, hnb, hnc, bd_at, ↓reduceIte]
        · refine Inv_sec (j0 := 180) (v := v) hk hn h0 hnn (gf_0.mp e1) (Or.inr ⟨rfl, e2, ?_⟩) (fun j i a1 a2 a3 => ?_) ?_ xv_eq ?_
          · rw [Int32.lt_iff_toInt_lt] at b1 b2
            have : (0:Int32).toInt = 0 := by decide
            have : (250:Int32).toInt = 250 := by decide
            omega
          · rw [xv_ne (by omega)]
            exact c2 j i a1 a2
          · rw [xv_ne (by omega)]
            exact c3
          · rw [xv_ne (by omega)]
            exact c4
    · simp only [some_bind, e, ↓reduceIte]
      exact ⟨_, _, M, rfl, by unfold fX10_other; simp only [failsK hk hI.wk (Or.inr (Or.inr rfl)), some_bind, e, ↓reduceIte], c, by omega, h0⟩
/-- what has melted so far -/
theorem melted_eq {x : Int32} (h : -1 ≤ x.toInt) : (if 0 < x then x else 0) = if x = -1 then 0 else x := by
  have z0 : (0:Int32).toInt = 0 := by decide
  have z1 : (-1:Int32).toInt = -1 := by decide
  by_cases e : x = -1
  · subst e; decide
  · rw [if_neg e]
    by_cases e2 : 0 < x
    · rw [if_pos e2]
    · rw [if_neg e2]
      rw [Int32.lt_iff_toInt_lt] at e2
      have : ¬ x.toInt = -1 := fun h => e (Int32.toInt_inj.mp (by rw [h, z1]))
      apply Int32.toInt_inj.mp
      omega
theorem melt_ok {p v : Int32} {M : xM} {c : Nat} (h0 : Inv M.1 c) : aR2 c (fX9_melt p v M) (fX10_melt p v) := by
  have hI := h0.1
  obtain ⟨n, hn, hnn⟩ := hI.n
  have h13 : M.1 1 3 = nI n := by rw [hI.net.1]; exact hnn
  unfold fX9_melt
  rcases place_tri p with h | ⟨k, hk, rfl⟩
  · rw [kindF_out h]
    simp only [some_bind, i_m1, ↓reduceIte]
    exact ⟨_, _, M, rfl, by unfold fX10_melt; simp only [fails_out h, some_bind, i_m1, ↓reduceIte], c, by omega, h0⟩
  · have hb : xinb (nI k) 16 = true := xinb_nI hk (by decide)
    have hc : (nI k).toNatClampNeg = k := nI_clamp (by omega)
    rw [kindF_nI hk hI.pl]
    by_cases e : kfv M.1 k 2 = 0
    · obtain ⟨e1, e2⟩ := kfv_0 e
      have hgb := gf_0.mp e1
      have hne := (sGb_1 hgb).1
      have hly := (hI.pl.2 k hk hne).2.2.2.2
      rw [e]
      simp only [some_bind, hb, hc, ↓reduceIte]
      have stop : ∀ o : Option (Int32 × xM), o = some (-1, M) → fX10_melt (nI k) v M = some (-1, M) → aR2 c o (fX10_melt (nI k) v) := fun o h1 h2 => ⟨-1, M, M, h1, h2, c, by omega, h0⟩
      have f10 : fX10_fails (nI k) 2 2 M = some 0 := by rw [failsK hk hI.wk (Or.inr (Or.inl rfl)), e]
      have p5000 : (5000:Int32).toInt = 5000 := by decide
      have p1 : (1:Int32).toInt = 1 := by decide
      have p0 : (0:Int32).toInt = 0 := by decide
      by_cases b1 : v < 1
      · refine stop _ (by rw [if_pos b1]) ?_
        unfold fX10_melt
        simp only [f10, some_bind, isIn_0 (M := M) (show v < 1 ∨ (5000:Int32) < v from Or.inl b1), ↓reduceIte]
        split <;> rfl
      · by_cases b2 : v ≤ 5000
        · rw [if_neg b1, if_pos b2]
          have b2' := Int32.not_lt.mpr b2
          by_cases b3 : n = 56
          · refine stop _ ?_ ?_
            · unfold fX7_meltAway
              rw [h13, b3, isDay_out (Or.inr (by decide))]
              simp only [some_bind, ↓reduceIte]
            · unfold fX10_melt
              have g : nI n = 56 := by rw [b3]; rfl
              simp only [f10, some_bind, hnn, g, ↓reduceIte]
          · have hn : n < 56 := by omega
            have g56 : ¬ nI n = 56 := nI_ne (b := 56) (by omega) (by decide) b3
            have hnb : xinb (nI n) 56 = true := xinb_nI hn (by decide)
            have hnc : (nI n).toNatClampNeg = n := nI_clamp (by omega)
            have hnb2 : xinb (nI (56 * k + n)) 896 = true := xinb_nI (by omega) (by decide)
            have hnc2 : (nI (56 * k + n)).toNatClampNeg = 56 * k + n := nI_clamp (by omega)
            have hwb := hI.wb k n hk hn hgb
            have hrd := hI.rd k n hk hn hne
            have hsec := hrd.2.2.1 e2
            have hmx := melted_eq hwb.2.2.1.1
            by_cases b4 : M.1 176 k < v
            · refine stop _ ?_ ?_
              · unfold fX7_meltAway
                simp only [h13, isDay_nI hn, some_bind, i_10, hnb, bd_at, hly, b4, ↓reduceIte]
              · unfold fX10_melt
                simp only [f10, some_bind, hnn, g56, isIn_1 (M := M) b1 b2', i_10, hb, hc, Int32.not_le.mpr b4, ↓reduceIte]
            · have b4' := Int32.not_lt.mp b4
              obtain ⟨s, hs⟩ : ∃ s, s = (if M.1 179 (56 * k + n) = -1 then 0 else M.1 179 (56 * k + n)) := ⟨_, rfl⟩
              have hsb : 0 ≤ s.toInt ∧ s.toInt ≤ 5000 := by
                rw [hs]
                split
                · rw [p0]; omega
                · rename_i h
                  exact ⟨i_neg1 h hwb.2.2.1.1, hwb.2.2.1.2⟩
              rw [← hs] at hmx
              have vb : 1 ≤ v.toInt ∧ v.toInt ≤ 5000 := by
                rw [Int32.lt_iff_toInt_lt] at b1
                rw [Int32.le_iff_toInt_le] at b2
                omega
              have hsv : (s + v).toInt = s.toInt + v.toInt := by
                rw [Int32.toInt_add]
                apply Int.bmod_eq_of_le <;> omega
              by_cases b5 : s + v ≤ 5000
              · have hlv : (M.1 176 k - v).toInt = (M.1 176 k).toInt - v.toInt := by
                  rw [Int32.le_iff_toInt_le] at b4'
                  have := Int32.toInt_lt (M.1 176 k)
                  rw [Int32.toInt_sub]
                  apply Int.bmod_eq_of_le <;> omega
                have hlm : ¬ M.1 176 k - v = -1 := by
                  intro h
                  rw [h] at hlv
                  rw [Int32.le_iff_toInt_le] at b4'
                  have : (-1:Int32).toInt = -1 := by decide
                  omega
                have hx2 : ∀ w : Int32, (xw (xw M (8 + 4 * k) 5 w) (8 + 4 * k + 2) n (s + v)).1 (8 + 4 * k) 5 = w := fun w => by
                  rw [xv_ne (by omega), xv_eq]
                have m9 : fX7_meltAway k (nI n) v M = some (M.1 176 k - v, xw (xw M (8 + 4 * k) 5 (M.1 176 k - v)) (8 + 4 * k + 2) n (s + v)) := by
                  unfold fX7_meltAway
                  simp only [isDay_nI hn, some_bind, i_10, hnb, hnc, bd_at, hly, b4, hsec, hmx, b5, hx2, ↓reduceIte]
                rw [h13, m9]
                simp only [some_bind, hlm, bd_at, ↓reduceIte]
                obtain ⟨M1, hM1⟩ : ∃ M1, M1 = xw (xw (xw M (8 + 4 * k) 5 (M.1 176 k - v)) (8 + 4 * k + 2) n (s + v)) 1 4 ((xw (xw M (8 + 4 * k) 5 (M.1 176 k - v)) (8 + 4 * k + 2) n (s + v)).1 1 4 + 1) := ⟨_, rfl⟩
                rw [← hM1]
                have c2 : ∀ j i, ¬ (j = 8 + 4 * k ∧ i = 5) → ¬ (j = 8 + 4 * k + 2 ∧ i = n) → ¬ (j = 1 ∧ i = 4) → M1.1 j i = M.1 j i := fun j i a1 a2 a3 => by
                  rw [hM1, xv_ne (by omega), xv_ne (by omega), xv_ne (by omega)]
                have c3 : M1.1 (8 + 4 * k) 5 = M.1 176 k - v := by rw [hM1, xv_ne (by omega), xv_ne (by omega), xv_eq]
                have c4 : M1.1 (8 + 4 * k + 2) n = s + v := by rw [hM1, xv_ne (by omega), xv_eq]
                have c5 : M1.1 1 4 = M.1 1 4 + 1 := by rw [hM1, xv_eq, xv_ne (by omega), xv_ne (by omega)]
                have hK1 : WK M1.1 := fun q hq => by
                  rw [c2 171 q (by omega) (by omega) (by omega)]; exact hI.wk q hq
                have hkf : kfv M1.1 k 2 = 0 := by
                  unfold kfv gf at e ⊢
                  rw [c2 171 k (by omega) (by omega) (by omega)]; exact e
                have hnn1 : M1.1 170 15 = nI n := (c2 170 15 (by omega) (by omega) (by omega)).trans hnn
                have h176 : M1.1 176 k = M.1 176 k := c2 176 k (by omega) (by omega) (by omega)
                have h179 : M1.1 179 (56 * k + n) = M.1 179 (56 * k + n) := c2 179 _ (by omega) (by omega) (by omega)
                have hy15 : (xw M1 176 k (M.1 176 k - v)).1 170 15 = nI n := by rw [xv_ne (by omega)]; exact hnn1
                have hy6 : (xw (xw M1 176 k (M.1 176 k - v)) 179 (56 * k + n) (s + v)).1 176 k = M.1 176 k - v := by rw [xv_ne (by omega), xv_eq]
                have m10 : fX10_melt (nI k) v M1 = some (M.1 176 k - v, xw (xw M1 176 k (M.1 176 k - v)) 179 (56 * k + n) (s + v)) := by
                  unfold fX10_melt
                  rw [failsK hk hK1 (Or.inr (Or.inl rfl)), hkf]
                  simp only [some_bind, hnn1, g56, isIn_1 (M := M1) b1 b2', i_10, hb, hc, h176, b4', at_nI, hnb2, hnc2, jn_at, bd_at, h179, hy15, hy6, ↓reduceIte]
                  by_cases e9 : M.1 179 (56 * k + n) = -1
                  · rw [if_pos e9] at hs
                    rw [if_pos e9, ← hs, if_pos b5, hy6]
                  · rw [if_neg e9] at hs
                    rw [if_neg e9, ← hs, if_pos b5, hy6]
                refine ⟨_, M1, _, rfl, m10, c + 1, Nat.le_refl _, ?_⟩
                have hall : ∀ j i, ¬ (j = 8 + 4 * k ∧ i = 5) → ¬ (j = 8 + 4 * k + 2 ∧ i = n) → ¬ (j = 1 ∧ i = 4) → ¬ (j = 176 ∧ i = k) → ¬ (j = 179 ∧ i = 56 * k + n) → (xw (xw M1 176 k (M.1 176 k - v)) 179 (56 * k + n) (s + v)).1 j i = M.1 j i := fun j i a1 a2 a3 a4 a5 => by
                  rw [xv_ne (by omega), xv_ne (by omega)]
                  exact c2 j i a1 a2 a3
                refine Inv_2 hk h0 (fun j i a1 a2 a3 a4 a5 => hall j i (by omega) (by omega) (by omega) (by omega) (by omega)) ?_ (PI_day (hI.pi hk) hgb hn hnn ?_ (fun i hi => ?_) (fun j a b => ?_) ?_ (fun d hd hdn => ⟨?_, ?_, ?_, ?_, ?_, ?_⟩) ⟨?_, ?_, ?_, ?_⟩ ⟨?_, ?_, ?_, ?_, ?_⟩)
                · rw [xv_ne (by omega), xv_ne (by omega)]; exact c5
                · exact hall _ _ (by omega) (by omega) (by omega) (by omega) (by omega)
                · exact hall _ _ (by omega) (by omega) (by omega) (by omega) (by omega)
                · exact hall _ _ (by omega) (by omega) (by omega) (by omega) (by omega)
                · rw [hy6, xv_ne (by omega), xv_ne (by omega)]; exact c3
                · exact hall _ _ (by omega) (by omega) (by omega) (by omega) (by omega)
                · exact hall _ _ (by omega) (by omega) (by omega) (by omega) (by omega)
                · exact hall _ _ (by omega) (by omega) (by omega) (by omega) (by omega)
                · exact hall _ _ (by omega) (by omega) (by omega) (by omega) (by omega)
                · exact hall _ _ (by omega) (by omega) (by omega) (by omega) (by omega)
                · exact hall _ _ (by omega) (by omega) (by omega) (by omega) (by omega)
                · rw [hall (8 + 4 * k + 1) n (by omega) (by omega) (by omega) (by omega) (by omega), hall 177 _ (by omega) (by omega) (by omega) (by omega) (by omega)]
                  exact hrd.1
                · intro h
                  rw [e2] at h; exact absurd h (by decide)
                · intro _
                  rw [xv_ne (by omega), xv_ne (by omega), c4, xv_eq]
                · intro h
                  rw [e2] at h; exact absurd h (by decide)
                · rw [hall 177 _ (by omega) (by omega) (by omega) (by omega) (by omega)]; exact hwb.1
                · rw [hall 178 _ (by omega) (by omega) (by omega) (by omega) (by omega)]; exact hwb.2.1
                · rw [xv_eq, hsv]
                  rw [Int32.le_iff_toInt_le, hsv] at b5
                  omega
                · rw [hall 180 _ (by omega) (by omega) (by omega) (by omega) (by omega)]; exact hwb.2.2.2.1
                · intro h
                  rw [hall 177 _ (by omega) (by omega) (by omega) (by omega) (by omega)]
                  exact hwb.2.2.2.2.1 h
              · refine stop _ ?_ ?_
                · unfold fX7_meltAway
                  simp only [h13, isDay_nI hn, some_bind, i_10, hnb, hnc, bd_at, hly, b4, hsec, hmx, b5, ↓reduceIte]
                · unfold fX10_melt
                  simp only [f10, some_bind, hnn, g56, isIn_1 (M := M) b1 b2', i_10, hb, hc, b4', at_nI, hnb2, hnc2, jn_at, ↓reduceIte]
                  by_cases e9 : M.1 179 (56 * k + n) = -1
                  · rw [if_pos e9] at hs
                    rw [if_pos e9, ← hs, if_neg b5]
                  · rw [if_neg e9] at hs
                    rw [if_neg e9, ← hs, if_neg b5]
        · refine stop _ (by rw [if_neg b1, if_neg b2]) ?_
          unfold fX10_melt
          simp only [f10, some_bind, isIn_0 (M := M) (show v < 1 ∨ (5000:Int32) < v from Or.inr (Int32.not_le.mp b2)), ↓reduceIte]
          split <;> rfl
    · simp only [some_bind, e, ↓reduceIte]
      exact ⟨_, _, M, rfl, by unfold fX10_melt; simp only [failsK hk hI.wk (Or.inr (Or.inl rfl)), some_bind, e, ↓reduceIte], c, by omega, h0⟩
