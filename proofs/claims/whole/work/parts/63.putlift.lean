/-! ===== put and lift keep what holds ===== -/
theorem kd_tri (x : Int32) : (x < 0 ∨ (5:Int32) < x) ∨ ∃ k : Nat, k ≤ 5 ∧ x = nI k := by
  rcases i_tri x (n := 6) (by decide) with h | h | ⟨k, hk, h⟩
  · exact Or.inl (Or.inl h)
  · exact Or.inl (Or.inr (gt_of_ge (a := 6) h (by decide)))
  · exact Or.inr ⟨k, by omega, h⟩
theorem Inv_put {M M2 : xM} {c k kd x y n : Nat} {z : Int32} (hk : k < 16) (hkd : kd ≤ 5) (hx : x < 10) (hy : y < 10) (hz : kd = 1 ∨ kd = 4 → ¬ z < 1 ∧ z ≤ 20) (hn : n ≤ 56) (hnn : M.1 170 15 = nI n) (he : M.1 171 k = -1) (h0 : Inv M.1 c) (hall : ∀ j i, ¬ (j = 8 + 4 * k ∧ i < 5) → ¬ (j = 1 ∧ i = 4) → ¬ (171 ≤ j ∧ j ≤ 176 ∧ i = k) → ¬ (177 ≤ j ∧ j ≤ 180 ∧ 56 * k ≤ i ∧ i < 56 * k + 56) → M2.1 j i = M.1 j i) (h9 : M2.1 (8 + 4 * k) 0 = nI kd ∧ M2.1 (8 + 4 * k) 1 = nI x ∧ M2.1 (8 + 4 * k) 2 = nI y ∧ M2.1 (8 + 4 * k) 3 = szOf kd z ∧ M2.1 (8 + 4 * k) 4 = fiOf kd n) (h14 : M2.1 1 4 = M.1 1 4 + 1) (h10 : M2.1 171 k = nI kd ∧ M2.1 172 k = nI x ∧ M2.1 173 k = nI y ∧ M2.1 174 k = szOf kd z ∧ M2.1 175 k = fiOf kd n ∧ M2.1 176 k = 0) (hr : ∀ d, d < 56 → M2.1 177 (56 * k + d) = -1 ∧ M2.1 178 (56 * k + d) = -1 ∧ M2.1 179 (56 * k + d) = -1 ∧ M2.1 180 (56 * k + d) = -1) : Inv M2.1 (c + 1) := by
  have hI := h0.1
  have hem := hI.em k hk he
  have et : M2.1 170 15 = M.1 170 15 := hall _ _ (by omega) (by omega) (by omega) (by omega)
  have hne : ¬ nI kd = -1 := nI_nm1 (by omega)
  have m1 : -1 ≤ (-1:Int32).toInt ∧ (-1:Int32).toInt ≤ 5000 := by decide
  obtain ⟨h, h9', hl⟩ := hI.2.1
  refine Inv_1 hk h0 (fun j i a1 a2 a3 a4 a5 a6 a7 => hall j i (by omega) (by omega) (by omega) (by omega)) h14 ⟨?_, fun _ => ?_, fun d hd _ => ?_, ?_, fun d hd _ _ => hr d hd, fun d hd _ => ?_, fun h => ?_, fun _ => ?_, ?_, fun _ => ?_⟩ ⟨h, h9', ?_⟩
  · rw [h9.1, h10.1]
  · rw [h9.2.1, h9.2.2.1, h9.2.2.2.1, h9.2.2.2.2, h10.2.1, h10.2.2.1, h10.2.2.2.1, h10.2.2.2.2.1, h10.2.2.2.2.2]
    exact ⟨rfl, rfl, rfl, rfl, by rw [hall _ _ (by omega) (by omega) (by omega) (by omega)]; exact hem.1⟩
  · have hrd := hr d hd
    rw [hall (8 + 4 * k + 1) d (by omega) (by omega) (by omega) (by omega), hall (8 + 4 * k + 2) d (by omega) (by omega) (by omega) (by omega), (hem.2 d hd).1, (hem.2 d hd).2, hrd.1, hrd.2.1, hrd.2.2.1, hrd.2.2.2]
    exact ⟨rfl, fun _ => rfl, fun _ => rfl, fun _ => rfl⟩
  · rw [h10.1]
    exact Or.inr ⟨kd, hkd, rfl⟩
  · have hrd := hr d hd
    rw [hrd.1, hrd.2.1, hrd.2.2.1, hrd.2.2.2, h10.2.2.2.1]
    have z1 : (-1:Int32).toInt = -1 := by decide
    rw [z1]
    refine ⟨by omega, by omega, by omega, by omega, fun _ => by omega, ?_⟩
    unfold szOf
    by_cases e : kd = 1 ∨ kd = 4
    · rw [if_pos e]
      have := hz e
      rw [Int32.lt_iff_toInt_lt, Int32.le_iff_toInt_le, show (1:Int32).toInt = 1 from by decide, show (20:Int32).toInt = 20 from by decide] at this
      omega
    · rw [if_neg e]; decide
  · rw [h10.1] at h
    exact absurd h hne
  · rw [h10.2.1, h10.2.2.1]
    exact ⟨⟨x, hx, rfl⟩, y, hy, rfl⟩
  · unfold fiOf at h10
    by_cases e : kd = 5
    · rw [if_pos e] at h10
      exact ⟨0, by omega, h10.2.2.2.2.1⟩
    · rw [if_neg e] at h10
      exact ⟨n, hn, h10.2.2.2.2.1⟩
  · rw [h10.2.2.2.2.1, et, hnn]
    unfold fiOf
    by_cases e : kd = 5
    · rw [if_pos e]; exact nI_le (a := 0) (by omega) (by omega)
    · rw [if_neg e]; exact Int32.le_refl _
  · obtain ⟨l1, l2, l3, l4, l5, l6⟩ := hl
    have h3 : ∀ j i, 181 ≤ j → j ≤ 184 → M2.1 j i = M.1 j i := fun j i a b => hall _ _ (by omega) (by omega) (by omega) (by omega)
    refine ⟨?_, ?_, fun i hi => ?_, fun q d hq hd => ?_, fun i hi => ?_, fun i hi => ?_⟩
    · rw [hall _ _ (by omega) (by omega) (by omega) (by omega)]; exact l1
    · rw [hall _ _ (by omega) (by omega) (by omega) (by omega)]; exact l2
    · rw [hall 4 i (by omega) (by omega) (by omega) (by omega), hall 5 i (by omega) (by omega) (by omega) (by omega), hall 6 i (by omega) (by omega) (by omega) (by omega), h3 181 i (by omega) (by omega), h3 182 i (by omega) (by omega), h3 183 i (by omega) (by omega), h3 184 i (by omega) (by omega)]
      refine ⟨(l3 i hi).1, (l3 i hi).2.1, fun q d hq hd x1 x2 => ?_⟩
      rw [sHl_e h3]
      exact (l3 i hi).2.2 q d hq hd x1 x2
    · rw [hall _ _ (by omega) (by omega) (by omega) (by omega), sHl_e h3]
      exact l4 q d hq hd
    · rw [h3 181 i (by omega) (by omega), h3 182 i (by omega) (by omega), h3 184 i (by omega) (by omega), et]
      refine ⟨(l5 i hi).1, fun q hq x => ?_⟩
      have ho := (l5 i hi).2 q hq x
      have hqk : ¬ q = k := by
        intro e
        rw [e] at ho
        exact (sGb_1 ho.1).1 he
      have e1 : M2.1 171 q = M.1 171 q := hall _ _ (by omega) (by omega) (by omega) (by omega)
      have e2 : M2.1 175 q = M.1 175 q := hall _ _ (by omega) (by omega) (by omega) (by omega)
      have hg : sGb M2.1 q = sGb M.1 q := by unfold sGb; rw [e1]
      rw [hg, e1, e2]
      exact ho
    · rw [h3 183 i (by omega) (by omega)]
      exact l6 i hi
theorem put_ok {p kd x y z : Int32} {M : xM} {c : Nat} (h0 : Inv M.1 c) : aR2 c (fX9_put p kd x y z M) (fX10_put p kd x y z) := by
  have hI := h0.1
  obtain ⟨n, hn, hnn⟩ := hI.n
  have h13 : M.1 1 3 = nI n := by rw [hI.net.1]; exact hnn
  have stop : fX9_put p kd x y z M = some (-1, M) → fX10_put p kd x y z M = some (-1, M) → aR2 c (fX9_put p kd x y z M) (fX10_put p kd x y z) := fun h1 h2 => ⟨-1, M, M, h1, h2, c, by omega, h0⟩
  rcases place_tri p with h | ⟨k, hk, rfl⟩
  · refine stop ?_ ?_
    · unfold fX9_put
      rw [isPlace_out h]
      simp only [some_bind, ↓reduceIte]
    · unfold fX10_put
      simp only [jn_at, isIn_place_out h, some_bind, ↓reduceIte, ite_self]
  · have hb : xinb (nI k) 16 = true := xinb_nI hk (by decide)
    have hc : (nI k).toNatClampNeg = k := nI_clamp (by omega)
    have hk0 := hI.pl.1 k hk
    by_cases he : M.1 171 k = -1
    · rcases kd_tri kd with h | ⟨e, hkd, rfl⟩
      · refine stop ?_ ?_
        · unfold fX9_put
          rw [isPlace_nI hk]
          simp only [some_bind, i_10, ↓reduceIte]
          by_cases h1 : kd < 0
          · rw [if_pos h1]
          · rw [if_neg h1, if_pos (h.resolve_left h1)]
        · unfold fX10_put
          simp only [jn_at, isIn_place hk, isIn_0 (M := M) h, some_bind, i_10, hb, hc, he, ↓reduceIte, ite_self]
      · have g1 : ¬ nI e < 0 := nI_pos (by omega)
        have g2 : ¬ (5:Int32) < nI e := nI_nlt (a := 5) (by omega) (by decide)
        have s1 : nI e = 1 ↔ e = 1 := nI_eq (b := 1) (by omega) (by decide)
        have s4 : nI e = 4 ↔ e = 4 := nI_eq (b := 4) (by omega) (by decide)
        rcases sq_tri x with h | ⟨a, ha, rfl⟩
        · refine stop ?_ ?_
          · unfold fX9_put
            rw [isPlace_nI hk, isSq_x h]
            simp only [some_bind, i_10, g1, g2, ↓reduceIte]
          · unfold fX10_put
            simp only [jn_at, isIn_place hk, isIn_1 (M := M) g1 g2, isIn_09_out h, some_bind, i_10, hb, hc, he, ↓reduceIte, ite_self]
        · rcases sq_tri y with h | ⟨b, hb', rfl⟩
          · refine stop ?_ ?_
            · unfold fX9_put
              rw [isPlace_nI hk, isSq_y ha h]
              simp only [some_bind, i_10, g1, g2, ↓reduceIte]
            · unfold fX10_put
              simp only [jn_at, isIn_place hk, isIn_1 (M := M) g1 g2, isIn_09 ha, isIn_09_out h, some_bind, i_10, hb, hc, he, ↓reduceIte, ite_self]
          · by_cases hz : (e = 1 ∨ e = 4) ∧ ¬ (¬ z < 1 ∧ z ≤ 20)
            · have hz2 : z < 1 ∨ (20:Int32) < z := by
                by_cases h1 : z < 1
                · exact Or.inl h1
                · exact Or.inr (Int32.not_le.mp (fun h2 => hz.2 ⟨h1, h2⟩))
              refine stop ?_ ?_
              · unfold fX9_put
                simp only [isPlace_nI hk, isSq_1 ha hb', hasSize_eq, jn_at, some_bind, i_10, g1, g2, s1, s4, if_pos hz.1, ↓reduceIte]
                by_cases h1 : z < 1
                · rw [if_pos h1]
                · have h2 : ¬ z ≤ 20 := fun h2 => hz.2 ⟨h1, h2⟩
                  rw [if_neg h1, if_neg h2]
              · unfold fX10_put
                by_cases e1 : e = 1
                · have q1 := s1.mpr e1
                  have g5 : fX10_isIn z 1 20 M = some 0 := isIn_0 hz2
                  have gk : fX10_isIn (nI e) 0 5 M = some 1 := isIn_1 g1 g2
                  simp only [jn_at, isIn_place hk, gk, isIn_09 ha, isIn_09 hb', g5, if_pos q1, some_bind, i_10, hb, hc, he, ↓reduceIte]
                · have q1 : ¬ nI e = 1 := fun h => e1 (s1.mp h)
                  have q4 : nI e = 4 := s4.mpr (hz.1.resolve_left e1)
                  have g5 : fX10_isIn z 1 20 M = some 0 := isIn_0 hz2
                  have gk : fX10_isIn (nI e) 0 5 M = some 1 := isIn_1 g1 g2
                  simp only [jn_at, isIn_place hk, gk, isIn_09 ha, isIn_09 hb', g5, if_neg q1, if_pos q4, some_bind, i_10, hb, hc, he, ↓reduceIte]
            · have hz' : e = 1 ∨ e = 4 → ¬ z < 1 ∧ z ≤ 20 := fun h => by
                by_cases h2 : ¬ z < 1 ∧ z ≤ 20
                · exact h2
                · exact absurd ⟨h, h2⟩ hz
              obtain ⟨M1, c1, c2, c3, c4⟩ := put9 (z := z) hk hkd ha hb' hz' h13 (by rw [hk0]; exact he)
              obtain ⟨M2, d1, d2, d3, d4⟩ := put10 (M := M1) (n := n) hk hkd ha hb' hz' (by rw [c2 170 15 (by omega) (by omega)]; exact hnn) (by rw [c2 171 k (by omega) (by omega)]; exact he)
              refine ⟨nI k, M1, M2, c1, d1, c + 1, Nat.le_refl _, ?_⟩
              refine Inv_put (kd := e) (x := a) (y := b) (n := n) (z := z) hk hkd ha hb' hz' hn hnn he h0 (fun j i a1 a2 a3 a4 => (d2 j i a3 a4).trans (c2 j i a1 a2)) ⟨?_, ?_, ?_, ?_, ?_⟩ ?_ d3 d4
              · rw [d2 _ _ (by omega) (by omega)]; exact c3.1
              · rw [d2 _ _ (by omega) (by omega)]; exact c3.2.1
              · rw [d2 _ _ (by omega) (by omega)]; exact c3.2.2.1
              · rw [d2 _ _ (by omega) (by omega)]; exact c3.2.2.2.1
              · rw [d2 _ _ (by omega) (by omega)]; exact c3.2.2.2.2
              · rw [d2 _ _ (by omega) (by omega)]; exact c4
    · refine stop ?_ ?_
      · unfold fX9_put
        rw [isPlace_nI hk]
        simp only [some_bind, i_10, jn_at, hasSize_eq, hb, hc, hk0, he, ↓reduceIte, ite_self]
        by_cases g1 : kd < 0
        · rw [if_pos g1]
        · by_cases g2 : 5 < kd
          · rw [if_neg g1, if_pos g2]
          · rw [if_neg g1, if_neg g2]
            rcases sq_tri x with h | ⟨a, ha, rfl⟩
            · rw [isSq_x h, some_bind]
            · rcases sq_tri y with h | ⟨b, hb', rfl⟩
              · rw [isSq_y ha h, some_bind]
              · rw [isSq_1 ha hb', some_bind]
      · unfold fX10_put
        simp only [jn_at, isIn_place hk, some_bind, i_10, hb, hc, he, ↓reduceIte, ite_self]
theorem clear9 {k : Nat} {M : xM} : ∃ M1 : xM, fX7_clear k M = some M1 ∧ (∀ j i, ¬ (j = 8 + 4 * k ∧ (i = 0 ∨ i = 5)) → ¬ (8 + 4 * k + 1 ≤ j ∧ j ≤ 8 + 4 * k + 3 ∧ i < 56) → M1.1 j i = M.1 j i) ∧ M1.1 (8 + 4 * k) 0 = -1 ∧ M1.1 (8 + 4 * k) 5 = 0 ∧ ∀ d, d < 56 → M1.1 (8 + 4 * k + 1) d = -1 ∧ M1.1 (8 + 4 * k + 2) d = -1 ∧ M1.1 (8 + 4 * k + 3) d = -1 := by
  unfold fX7_clear
  simp only [bd_at]
  obtain ⟨A, a1, a2, a3, a4⟩ := fill_eq (a := 8 + 4 * k + 1) (n := 56) (v := -1) (M := xw (xw M (8 + 4 * k) 0 (-1)) (8 + 4 * k) 5 0) (by decide)
  rw [a1, some_bind]
  obtain ⟨B, b1, b2, b3, b4⟩ := fill_eq (a := 8 + 4 * k + 2) (n := 56) (v := -1) (M := A) (by decide)
  rw [b1, some_bind]
  obtain ⟨C, c1, c2, c3, c4⟩ := fill_eq (a := 8 + 4 * k + 3) (n := 56) (v := -1) (M := B) (by decide)
  rw [c1, some_bind]
  refine ⟨C, rfl, fun j i x1 x2 => ?_, ?_, ?_, fun d hd => ⟨?_, ?_, ?_⟩⟩
  · rw [c4 j i (by omega), b4 j i (by omega), a4 j i (by omega), xv_ne (by omega), xv_ne (by omega)]
  · rw [c4 _ _ (by omega), b4 _ _ (by omega), a4 _ _ (by omega), xv_ne (by omega), xv_eq]
  · rw [c4 _ _ (by omega), b4 _ _ (by omega), a4 _ _ (by omega), xv_eq]
  · rw [c4 _ _ (by omega), b4 _ _ (by omega)]; exact a3 d hd
  · rw [c4 _ _ (by omega)]; exact b3 d hd
  · exact c3 d hd
abbrev li10 (M : xM) (k h : Nat) (v : Int32) (o : Option (Int32 × xM)) : Prop := ∃ M1 : xM, o = some (v, M1) ∧ (∀ j i, ¬ (j = 171 ∧ i = k) → ¬ (j = 181 ∧ i < h) → M1.1 j i = M.1 j i) ∧ M1.1 171 k = -1 ∧ ∀ i, i < h → M1.1 181 i = if M.1 181 i = nI k then -1 else M.1 181 i
theorem lift10 {k h : Nat} {M : xM} (hk : k < 16) (hK : WK M.1) (h9 : h ≤ 100) (h14 : M.1 170 14 = nI h) (hne : ¬ M.1 171 k = -1) : li10 M k h (M.1 171 k) (fX10_lift (nI k) M) := by
  have hb : xinb (nI k) 16 = true := xinb_nI hk (by decide)
  have hc : (nI k).toNatClampNeg = k := nI_clamp (by omega)
  unfold fX10_lift
  rw [fails05 hk hK]
  simp only [some_bind, hne, hb, hc, bd_at, ↓reduceIte]
  refine lp_post (Q := li10 M k h (M.1 171 k)) (fun s => ∃ (e : Nat) (N : xM), e ≤ h ∧ s = (nI e, N) ∧ (∀ j i, ¬ (j = 171 ∧ i = k) → ¬ (j = 181 ∧ i < e) → N.1 j i = M.1 j i) ∧ N.1 171 k = -1 ∧ ∀ i, i < e → N.1 181 i = if M.1 181 i = nI k then -1 else M.1 181 i) (fun s => 101 - s.1.toNatClampNeg) ?_ xfu _ ⟨0, _, by omega, rfl, fun j i a b => by rw [xv_ne (by omega)], xv_eq, fun i hi => absurd hi (by omega)⟩ (by unfold xfu; show 101 - _ < 1000; omega)
  rintro s kk ⟨e, N, h1, rfl, h2, h3, h4⟩ hkk
  have h14' : N.1 170 14 = nI h := (h2 170 14 (by omega) (by omega)).trans h14
  by_cases e1 : e = h
  · have g : N.1 170 14 ≤ nI e := by rw [h14', e1]; exact Int32.le_refl _
    simp only [g, ↓reduceIte]
    subst e1
    exact ⟨N, rfl, h2, h3, h4⟩
  · have g : ¬ N.1 170 14 ≤ nI e := by rw [h14']; exact nI_ge (by omega) (by omega)
    have heb : xinb (nI e) 100 = true := xinb_nI (by omega) (by decide)
    have hec : (nI e).toNatClampNeg = e := nI_clamp (by omega)
    have hec1 : (nI (e + 1)).toNatClampNeg = e + 1 := nI_clamp (by omega)
    have h181 : N.1 181 e = M.1 181 e := h2 181 e (by omega) (by omega)
    simp only [g, heb, hec, h181, bd_at, ↓reduceIte, nI_1]
    by_cases e2 : M.1 181 e = nI k
    · rw [if_pos e2]
      refine hkk _ ⟨e + 1, _, by omega, rfl, fun j i a b => ?_, ?_, fun i hi => ?_⟩ (by simp only [hec, hec1]; omega)
      · rw [xv_ne (by omega)]
        exact h2 j i a (by omega)
      · rw [xv_ne (by omega)]; exact h3
      · by_cases e3 : i = e
        · subst e3
          rw [xv_eq, if_pos e2]
        · rw [xv_ne (by omega)]
          exact h4 i (by omega)
    · rw [if_neg e2]
      refine hkk _ ⟨e + 1, N, by omega, rfl, fun j i a b => h2 j i a (by omega), h3, fun i hi => ?_⟩ (by simp only [hec, hec1]; omega)
      by_cases e3 : i = e
      · subst e3
        rw [if_neg e2]
        exact h181
      · exact h4 i (by omega)
theorem lift_ok {p : Int32} {M : xM} {c : Nat} (h0 : Inv M.1 c) : aR2 c (fX9_lift p M) (fX10_lift p) := by
  have hI := h0.1
  obtain ⟨h, h9, hL⟩ := hI.2.1
  unfold fX9_lift
  rcases place_tri p with hp | ⟨k, hk, rfl⟩
  · rw [isPlace_out hp]
    simp only [some_bind, ↓reduceIte]
    exact ⟨_, _, M, rfl, by unfold fX10_lift; simp only [fails_out hp, some_bind, i_m1, ↓reduceIte], c, by omega, h0⟩
  · have hb : xinb (nI k) 16 = true := xinb_nI hk (by decide)
    have hc : (nI k).toNatClampNeg = k := nI_clamp (by omega)
    have hk0 := hI.pl.1 k hk
    rw [isPlace_nI hk]
    simp only [some_bind, i_10, hb, hc, hk0, bd_at, ↓reduceIte]
    by_cases he : M.1 171 k = -1
    · rw [if_pos he]
      exact ⟨_, _, M, rfl, by unfold fX10_lift; simp only [fails05 hk hI.wk, he, some_bind, i_m1, ↓reduceIte], c, by omega, h0⟩
    · rw [if_neg he]
      obtain ⟨A, a1, a2, a3, a4, a5⟩ := clear9 (k := k) (M := M)
      rw [a1, some_bind]
      obtain ⟨M1, hM1⟩ : ∃ M1, M1 = xw A 1 4 (A.1 1 4 + 1) := ⟨_, rfl⟩
      rw [← hM1]
      have c2 : ∀ j i, ¬ (j = 8 + 4 * k ∧ (i = 0 ∨ i = 5)) → ¬ (8 + 4 * k + 1 ≤ j ∧ j ≤ 8 + 4 * k + 3 ∧ i < 56) → ¬ (j = 1 ∧ i = 4) → M1.1 j i = M.1 j i := fun j i x1 x2 x3 => by
        rw [hM1, xv_ne (by omega)]
        exact a2 j i x1 x2
      have c3 : M1.1 (8 + 4 * k) 0 = -1 := by rw [hM1, xv_ne (by omega)]; exact a3
      have c4 : M1.1 (8 + 4 * k) 5 = 0 := by rw [hM1, xv_ne (by omega)]; exact a4
      have c5 : ∀ d, d < 56 → M1.1 (8 + 4 * k + 1) d = -1 ∧ M1.1 (8 + 4 * k + 2) d = -1 ∧ M1.1 (8 + 4 * k + 3) d = -1 := fun d hd => by
        rw [hM1, xv_ne (by omega), xv_ne (by omega), xv_ne (by omega)]
        exact a5 d hd
      have c6 : M1.1 1 4 = M.1 1 4 + 1 := by rw [hM1, xv_eq, a2 1 4 (by omega) (by omega)]
      have hK1 : WK M1.1 := fun q hq => by
        rw [c2 171 q (by omega) (by omega) (by omega)]; exact hI.wk q hq
      obtain ⟨M2, d1, d2, d3, d4⟩ := lift10 (M := M1) (h := h) hk hK1 h9 ((c2 170 14 (by omega) (by omega) (by omega)).trans hL.1) (by rw [c2 171 k (by omega) (by omega) (by omega)]; exact he)
      rw [c2 171 k (by omega) (by omega) (by omega)] at d1
      refine ⟨_, M1, M2, rfl, d1, c + 1, Nat.le_refl _, ?_⟩
      have hall : ∀ j i, ¬ (j = 8 + 4 * k ∧ (i = 0 ∨ i = 5)) → ¬ (8 + 4 * k + 1 ≤ j ∧ j ≤ 8 + 4 * k + 3 ∧ i < 56) → ¬ (j = 1 ∧ i = 4) → ¬ (j = 171 ∧ i = k) → ¬ (j = 181 ∧ i < h) → M2.1 j i = M.1 j i := fun j i x1 x2 x3 x4 x5 => (d2 j i x4 x5).trans (c2 j i x1 x2 x3)
      have h181 : ∀ i, i < h → M2.1 181 i = if M.1 181 i = nI k then -1 else M.1 181 i := fun i hi => by
        rw [d4 i hi, c2 181 i (by omega) (by omega) (by omega)]
      have hgk : sGb M2.1 k = false := by unfold sGb; rw [d3]; rfl
      have hsl : ∀ q d i, q < 16 → i ≤ h → sHl M2.1 q d i = if q = k then -1 else sHl M.1 q d i := by
        intro q d i hq
        induction i with
        | zero => intro _; rw [show sHl M2.1 q d 0 = -1 from rfl, show sHl M.1 q d 0 = -1 from rfl]; split <;> rfl
        | succ i ih =>
          intro hi
          have ih := ih (by omega)
          have x182 : M2.1 182 i = M.1 182 i := hall _ _ (by omega) (by omega) (by omega) (by omega) (by omega)
          rw [sHl_s, sHl_s, ih, h181 i (by omega), x182]
          by_cases e : q = k
          · rw [if_pos e, if_pos e, if_neg]
            rintro ⟨y, -⟩
            by_cases e2 : M.1 181 i = nI k
            · rw [if_pos e2] at y
              exact nI_nm1 (a := q) (by omega) y.symm
            · rw [if_neg e2] at y
              exact e2 (by rw [y, e])
          · rw [if_neg e, if_neg e]
            by_cases e2 : M.1 181 i = nI k
            · rw [if_pos e2, if_neg (fun y => nI_nm1 (a := q) (by omega) y.1.symm), if_neg (fun y => e (nI_inj (by omega) (by omega) (e2.symm.trans y.1)).symm)]
            · rw [if_neg e2]
      refine Inv_1 hk h0 (fun j i b1 b2 b3 b4 b5 b6 b7 => hall j i (by omega) (by omega) (by omega) (by omega) (by omega)) ?_ ⟨?_, fun x => absurd d3 x, fun d hd x => absurd d3 x, Or.inl d3, fun d hd x => absurd (hgk.symm.trans x) (by simp), fun d hd x => absurd (hgk.symm.trans x) (by simp), fun _ => ⟨?_, fun d hd => ⟨?_, ?_⟩⟩, fun x => absurd d3 x, ?_, fun x => absurd d3 x⟩ ⟨h, h9, ?_, ?_, fun i hi => ?_, fun q d hq hd => ?_, fun i hi => ?_, fun i hi => ?_⟩
      · rw [d2 1 4 (by omega) (by omega)]; exact c6
      · rw [d2 _ _ (by omega) (by omega), c3, d3]
      · rw [d2 _ _ (by omega) (by omega)]; exact c4
      · rw [d2 _ _ (by omega) (by omega)]; exact (c5 d hd).1
      · rw [d2 _ _ (by omega) (by omega)]; exact (c5 d hd).2.1
      · obtain ⟨f, f1, f2⟩ := hI.wf k hk
        exact ⟨f, f1, (hall _ _ (by omega) (by omega) (by omega) (by omega) (by omega)).trans f2⟩
      · rw [hall _ _ (by omega) (by omega) (by omega) (by omega) (by omega)]; exact hL.1
      · rw [hall _ _ (by omega) (by omega) (by omega) (by omega) (by omega)]; exact hL.2.1
      · have hh := hL.2.2.1 i hi
        rw [hall 4 i (by omega) (by omega) (by omega) (by omega) (by omega), hall 5 i (by omega) (by omega) (by omega) (by omega) (by omega), hall 6 i (by omega) (by omega) (by omega) (by omega) (by omega), hall 182 i (by omega) (by omega) (by omega) (by omega) (by omega), hall 183 i (by omega) (by omega) (by omega) (by omega) (by omega), hall 184 i (by omega) (by omega) (by omega) (by omega) (by omega), h181 i hi]
        refine ⟨hh.1, hh.2.1, fun q d hq hd x1 x2 => ?_⟩
        by_cases e2 : M.1 181 i = nI k
        · rw [if_pos e2] at x1
          exact absurd x1.symm (nI_nm1 (by omega))
        · rw [if_neg e2] at x1
          have hqk : ¬ q = k := fun e => e2 (by rw [x1, e])
          rw [hsl q d i hq (by omega), if_neg hqk]
          exact hh.2.2 q d hq hd x1 x2
      · rw [hsl q d h hq (Nat.le_refl _)]
        by_cases e : q = k
        · subst e
          rw [if_pos rfl, d2 _ _ (by omega) (by omega)]
          exact (c5 d hd).2.2
        · rw [if_neg e, hall _ _ (by omega) (by omega) (by omega) (by omega) (by omega)]
          exact hL.2.2.2.1 q d hq hd
      · have hh := hL.2.2.2.2.1 i hi
        rw [hall 182 i (by omega) (by omega) (by omega) (by omega) (by omega), hall 184 i (by omega) (by omega) (by omega) (by omega) (by omega), hall 170 15 (by omega) (by omega) (by omega) (by omega) (by omega), h181 i hi]
        refine ⟨hh.1, fun q hq x => ?_⟩
        by_cases e2 : M.1 181 i = nI k
        · rw [if_pos e2] at x
          exact absurd x.symm (nI_nm1 (by omega))
        · rw [if_neg e2] at x
          have hqk : ¬ q = k := fun e => e2 (by rw [x, e])
          have e1 : M2.1 171 q = M.1 171 q := hall _ _ (by omega) (by omega) (by omega) (by omega) (by omega)
          have e3 : M2.1 175 q = M.1 175 q := hall _ _ (by omega) (by omega) (by omega) (by omega) (by omega)
          have hg : sGb M2.1 q = sGb M.1 q := by unfold sGb; rw [e1]
          rw [hg, e1, e3]
          exact hh.2 q hq x
      · rw [hall 183 i (by omega) (by omega) (by omega) (by omega) (by omega)]
        exact hL.2.2.2.2.2 i hi
