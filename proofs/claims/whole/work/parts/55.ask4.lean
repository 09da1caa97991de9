/-! ===== the calls that ask: weeks and breaks ===== -/
theorem failsS_out {p : Int32} {M : xM} (h : p < 0 ∨ 16 ≤ p) : fX10_failsStore p M = some (-1) := by
  unfold fX10_failsStore
  rw [fails_out h]
  simp only [some_bind, i_m1, ↓reduceIte]
theorem failsS_nI {k : Nat} {M : xM} (hk : k < 16) (hK : WK M.1) : fX10_failsStore (nI k) M = some (gfd M.1 k) := by
  have hb : xinb (nI k) 16 = true := xinb_nI hk (by decide)
  have hc : (nI k).toNatClampNeg = k := nI_clamp (by omega)
  unfold fX10_failsStore gfd
  rw [fails04 hk hK]
  simp only [some_bind, hb, hc, ↓reduceIte]
  by_cases e1 : gf M.1 k = 0
  · by_cases e2 : M.1 171 k = 3
    · simp only [e1, e2, ↓reduceIte, and_self]
    · simp only [e1, e2, ↓reduceIte, and_false]
  · simp only [e1, ↓reduceIte, false_and]
theorem gfd_k {m m' : sm} (e : sK m m') (k : Nat) : gfd m' k = gfd m k := by
  unfold gfd gf
  rw [e 171 k (by decide)]
theorem qE_w {M M' : xM} (h : ∀ j i, (j < 165 ∨ 170 ≤ j) → M'.1 j i = M.1 j i) : qE M.1 M'.1 := fun j i hj => h j i (by omega)
theorem sw_pos {m : sm} {M : xM} {k : Nat} (hI : NInv m) (hk : k < 16) (h : ∀ w, w < 8 → M.1 168 w = sWI m k w true 7 ∧ M.1 169 w = sWI m k w false 7) : wPos M.1 ∧ ∀ w, w < 8 → wA M.1 w = sWk m k w true 7 ∧ wB M.1 w = sWk m k w false 7 := by
  refine ⟨fun w hw => ?_, fun w hw => ?_⟩
  · have a1 := (sWI_wk (own := true) hI hk hw 7 (by decide)).1
    have a2 := (sWI_wk (own := false) hI hk hw 7 (by decide)).1
    rw [(h w hw).1, (h w hw).2]
    omega
  · have a1 := (sWI_wk (own := true) hI hk hw 7 (by decide)).2
    have a2 := (sWI_wk (own := false) hI hk hw 7 (by decide)).2
    show (M.1 168 w).toInt64 = _ ∧ (M.1 169 w).toInt64 = _
    rw [(h w hw).1, (h w hw).2]
    exact ⟨a1, a2⟩
theorem week_ok {p w what : Int32} {M : xM} {c : Nat} (hc : c < 2 ^ 31) (h0 : Inv M.1 c) : aR2 c (fX9_week p w what M) (fX10_week p w what) := by
  have hI := h0.1
  unfold fX9_week fX10_week
  rcases place_tri p with h | ⟨k, hk, rfl⟩
  · rw [dailyF_out h]
    simp only [some_bind, i_m1, ↓reduceIte]
    exact ⟨_, _, M, rfl, by simp only [failsS_out h, some_bind, i_m1, ↓reduceIte], c, by omega, h0⟩
  · rw [dailyF_nI hk hI.pl]
    by_cases e : gfd M.1 k = 0
    · simp only [some_bind, e, ↓reduceIte]
      rcases va_tri w with h | ⟨x, hx, rfl⟩
      · refine ⟨-1, M, M, ?_, by simp only [failsS_nI hk hI.wk, e, isIn_07_out h, some_bind, ↓reduceIte], c, by omega, h0⟩
        rcases h with h | h
        · rw [if_pos h]
        · by_cases h2 : w < 0
          · rw [if_pos h2]
          · rw [if_neg h2, if_pos h]
      · rw [if_neg (nI_pos (by omega)), if_neg (show ¬ (8:Int32) ≤ nI x from nI_ge (b := 8) hx (by decide))]
        by_cases e1 : what < 0
        · rw [if_pos e1]
          exact ⟨-1, M, M, rfl, by simp only [failsS_nI hk hI.wk, e, isIn_07 hx, isIn_0 (M := M) (show what < 0 ∨ (1:Int32) < what from Or.inl e1), some_bind, i_10, ↓reduceIte], c, by omega, h0⟩
        · rw [if_neg e1]
          by_cases e2 : what ≤ 1
          · rw [if_pos e2]
            have hdg := gfd_0.mp e
            obtain ⟨M1, a1, a2, a3, a4, a5⟩ := openBooks_eq hc h0
            have hK := sK_n (nE_142 a5)
            have hI1 := a3.1
            have hne1 : ¬ M1.1 171 k = -1 := by rw [hK 171 k (by decide)]; exact (sGb_1 hdg.1).1
            obtain ⟨M2, b1, b2, b3, b4⟩ := sumWeeks_eq hk hI1 a4 hne1
            have hE := qE_w b4
            have hK2 := sK_n (nE_q hE)
            have hI2 := NInv_n (nE_q hE) hI1
            have e' : gfd M2.1 k = 0 := by rw [gfd_k hK2, gfd_k hK]; exact e
            have hxb : xinb (nI x) 8 = true := xinb_nI hx (by decide)
            have hxc : (nI x).toNatClampNeg = x := nI_clamp (by omega)
            have w1 := (sWI_wk (own := true) hI1 hk hx 7 (by decide)).2
            have w2 := (sWI_wk (own := false) hI1 hk hx 7 (by decide)).2
            rw [a1, some_bind, b1, some_bind]
            have h01 : what = 0 ∨ what = 1 := by
              obtain ⟨j, hj, rfl⟩ := nI_of2 (M := 1) (n := 1) (by decide) e1 e2
              have : j = 0 ∨ j = 1 := by omega
              rcases this with rfl | rfl
              · exact Or.inl rfl
              · exact Or.inr rfl
            rcases h01 with rfl | rfl
            · obtain ⟨M3, c1, c2, c3⟩ := weekOf_eq (own := true) (M := M2) hk hx hI2.h
              simp only [↓reduceIte] at c1
              rw [sWk_k hK2, ← w1] at c1
              simp only [hxb, hxc, (b3 x hx).1, ↓reduceIte]
              exact ⟨_, _, M3, rfl, by simp only [failsS_nI hk hI2.wk, e', isIn_07 hx, isIn_1 (M := M2) (v := 0) (show ¬ (0:Int32) < 0 by decide) (show ¬ (1:Int32) < 0 by decide), some_bind, jn_at, i_10, c1, Int32.toInt32_toInt64, ↓reduceIte], c, by omega, Inv_q (qE_t hE (qE_s c2)) a3⟩
            · obtain ⟨M3, c1, c2, c3⟩ := weekOf_eq (own := false) (M := M2) hk hx hI2.h
              simp only [↓reduceIte, reduceCtorEq] at c1
              rw [sWk_k hK2, ← w2] at c1
              simp only [hxb, hxc, i_10, (b3 x hx).2, ↓reduceIte]
              exact ⟨_, _, M3, rfl, by simp only [failsS_nI hk hI2.wk, e', isIn_07 hx, isIn_1 (M := M2) (v := 1) (show ¬ (1:Int32) < 0 by decide) (show ¬ (1:Int32) < 1 by decide), some_bind, jn_at, i_10, c1, Int32.toInt32_toInt64, ↓reduceIte], c, by omega, Inv_q (qE_t hE (qE_s c2)) a3⟩
          · rw [if_neg e2]
            exact ⟨-1, M, M, rfl, by simp only [failsS_nI hk hI.wk, e, isIn_07 hx, isIn_0 (M := M) (show what < 0 ∨ (1:Int32) < what from Or.inr (Int32.not_le.mp e2)), some_bind, i_10, ↓reduceIte], c, by omega, h0⟩
    · simp only [some_bind, e, ↓reduceIte]
      exact ⟨_, _, M, rfl, by simp only [failsS_nI hk hI.wk, some_bind, e, ↓reduceIte], c, by omega, h0⟩
theorem ap_G {m : sm} {k x w : Nat} {L : Nat → Nat → Int64} (hx : x ≤ 8) (hw : w ≤ x) (h : ∀ w, w < 8 → L 189 w = sWk m k w true 7 ∧ L 190 w = sWk m k w false 7) : sAp (L 189) (L 190) 0 (w - 0) + sAp (L 189) (L 190) w (x - w) = sG m k x w := by
  unfold sG
  rw [Nat.sub_zero, sAp_cong (A := L 189) (B := L 190) (A' := fun w => sWk m k w true 7) (B' := fun w => sWk m k w false 7) (fun v hv => h v (by omega)), sAp_cong (A := L 189) (B := L 190) (a := w) (A' := fun w => sWk m k w true 7) (B' := fun w => sWk m k w false 7) (fun v hv => h v (by omega))]
theorem cleft_ok {p : Int32} {M : xM} {c : Nat} (hc : c < 2 ^ 31) (h0 : Inv M.1 c) : aR2 c (fX9_cleft p M) (fX10_cleft p) := by
  have hI := h0.1
  have h70 : ¬ (7:Int32) = 0 := by decide
  unfold fX9_cleft
  rcases place_tri p with h | ⟨k, hk, rfl⟩
  · rw [dailyF_out h]
    simp only [some_bind, i_m1, ↓reduceIte]
    exact ⟨_, _, M, rfl, by unfold fX10_cleft; simp only [failsS_out h, some_bind, i_m1, ↓reduceIte], c, by omega, h0⟩
  · rw [dailyF_nI hk hI.pl]
    by_cases e : gfd M.1 k = 0
    · simp only [some_bind, e, ↓reduceIte]
      have hdg := gfd_0.mp e
      obtain ⟨M1, a1, a2, a3, a4, a5⟩ := openBooks_eq hc h0
      have hK := sK_n (nE_142 a5)
      have hI1 := a3.1
      have hne1 : ¬ M1.1 171 k = -1 := by rw [hK 171 k (by decide)]; exact (sGb_1 hdg.1).1
      obtain ⟨M2, b1, b2, b3, b4⟩ := sumWeeks_eq hk hI1 a4 hne1
      have hE := qE_w b4
      have hK2 := sK_n (nE_q hE)
      have hI2 := NInv_n (nE_q hE) hI1
      have e' : gfd M2.1 k = 0 := by rw [gfd_k hK2, gfd_k hK]; exact e
      obtain ⟨n, hn, hnn⟩ := hI2.n
      have hn1 : M2.1 1 3 = nI n := by rw [hI2.net.1]; exact hnn
      have hx8 : n / 7 ≤ 8 := by omega
      obtain ⟨hW, hA⟩ := sw_pos hI1 hk b3
      rw [a1, some_bind, b1, some_bind, lastW_eq hn hn1, some_bind, least_eq (m := M1.1) (k := k) hx8 hW hA, some_bind]
      obtain ⟨M3, c1, c2, c3⟩ := weeks_eq (M := M2) hk hI2.h
      have hL : ∀ w, w < 8 → M3.2 189 w = sWk M1.1 k w true 7 ∧ M3.2 190 w = sWk M1.1 k w false 7 := fun w hw => by
        have := c3 w hw
        rw [sWk_k hK2, sWk_k hK2] at this
        exact this
      have hn3 : M3.1 170 15 = nI n := (c2 170 15 (by decide)).trans hnn
      have h7 : nI n / (7:Int32) = nI (n / 7) := pk_div (d := 7) (by omega) (by decide) (by decide)
      refine ⟨_, _, M3, rfl, ?_, c, by omega, Inv_q (qE_t hE (qE_s c2)) a3⟩
      unfold fX10_cleft
      simp only [failsS_nI hk hI2.wk, e', c1, some_bind, bd_at, h70, hn3, h7, ↓reduceIte]
      generalize n / 7 = x at hx8
      by_cases hx0 : x = 0
      · subst hx0
        show lp _ (999 + 1) _ = _
        rw [lp_succ]
        have g1 : nI 0 - 1 < (1:Int32) := by decide
        simp only [g1, ↓reduceIte]
        rfl
      · have hp : nI x - 1 = nI (x - 1) := by
          obtain ⟨j, rfl⟩ : ∃ j, x = j + 1 := ⟨x - 1, by omega⟩
          exact nI_pred j
        rw [hp, up_dn]
        refine lp_run (fun s => ∃ j, j ≤ x - 1 ∧ s = (oI (sDn (sG M1.1 k x) (x - 1) j), nI (x - 1 - j))) (fun s => s.2.toNatClampNeg) _ ?_ xfu _ ⟨0, by omega, rfl⟩ (by unfold xfu; show (nI (x - 1)).toNatClampNeg < 1000; rw [nI_clamp (by omega)]; omega)
        rintro s kk ⟨j, hj, rfl⟩ hkk
        by_cases ej : j = x - 1
        · have g1 : nI (x - 1 - j) < (1:Int32) := by rw [ej, Nat.sub_self]; decide
          simp only [g1, ↓reduceIte]
          rw [ej]
        · obtain ⟨t, ht⟩ : ∃ t, x - 1 - j = t + 1 := ⟨x - 1 - j - 1, by omega⟩
          have ht2 : x - 1 - (j + 1) = t := by omega
          have g1 : ¬ nI (t + 1) < (1:Int32) := nI_nlt (a := t + 1) (b := 1) (by omega) (by omega)
          have htc : (nI t).toNatClampNeg = t := nI_clamp (by omega)
          have htc1 : (nI (t + 1)).toNatClampNeg = t + 1 := nI_clamp (by omega)
          have hds := sDn_s (sG M1.1 k x) (x - 1) j
          have hkk' : ∀ v : Int32, v = oI (sDn (sG M1.1 k x) (x - 1) (j + 1)) → kk (v, nI t) = some (oI (sDn (sG M1.1 k x) (x - 1) (x - 1)), M3) := fun v hv => hkk _ ⟨j + 1, by omega, by rw [hv, ht2]⟩ (by simp only [ht, htc, htc1]; omega)
          rw [ht] at hds
          simp only [ht, g1, pk_m1, ↓reduceIte]
          cases h1 : sDn (sG M1.1 k x) (x - 1) j with
          | none =>
            simp only [oI, ↓reduceIte]
            refine hkk' _ ?_
            rw [hds, h1]
            rfl
          | some b =>
            have hb : t + 1 < b ∧ b ≤ x - 1 := by
              by_cases hj0 : j = 0
              · subst hj0; exact absurd h1 (by simp [sDn])
              · obtain ⟨c, d1, d2, d3, -⟩ := sDn_is (sG M1.1 k x) (x - 1) j (by omega) (by omega)
                rw [d1] at h1
                have := Option.some.inj h1
                omega
            have hb1 : ¬ nI b = -1 := nI_nm1 (by omega)
            have q1 : fX10_apart 0 (nI (t + 1)) M3 = some (sAp (M3.2 189) (M3.2 190) 0 (t + 1 - 0)) := apart_eq (a := 0) (by omega) (by omega)
            have q2 : fX10_apart (nI (t + 1)) (nI x) M3 = some (sAp (M3.2 189) (M3.2 190) (t + 1) (x - (t + 1))) := apart_eq (by omega) hx8
            have q3 : fX10_apart 0 (nI b) M3 = some (sAp (M3.2 189) (M3.2 190) 0 (b - 0)) := apart_eq (a := 0) (by omega) (by omega)
            have q4 : fX10_apart (nI b) (nI x) M3 = some (sAp (M3.2 189) (M3.2 190) b (x - b)) := apart_eq (by omega) hx8
            simp only [oI, hb1, q1, q2, q3, q4, some_bind, ↓reduceIte, lg_cmp_gt]
            rw [ap_G (w := t + 1) hx8 (by omega) hL, ap_G (w := b) hx8 (by omega) hL]
            rw [h1] at hds
            simp only [] at hds
            by_cases e2 : sG M1.1 k x b < sG M1.1 k x (t + 1)
            · rw [if_pos e2] at hds ⊢
              exact hkk' _ (by rw [hds]; rfl)
            · rw [if_neg e2] at hds ⊢
              exact hkk' _ (by rw [hds]; rfl)
    · simp only [some_bind, e, ↓reduceIte]
      exact ⟨_, _, M, rfl, by unfold fX10_cleft; simp only [failsS_nI hk hI.wk, some_bind, e, ↓reduceIte], c, by omega, h0⟩
theorem misses_ok {p w : Int32} {M : xM} {c : Nat} (hc : c < 2 ^ 31) (h0 : Inv M.1 c) : aRL c (fX9_misses p w M) (fX10_misses p w) := by
  have hI := h0.1
  have h70 : ¬ (7:Int32) = 0 := by decide
  unfold fX9_misses fX10_misses
  rcases place_tri p with h | ⟨k, hk, rfl⟩
  · rw [dailyF_out h]
    simp only [some_bind, i_m1, ↓reduceIte]
    exact ⟨_, _, M, rfl, by simp only [failsS_out h, some_bind, i_m1, ↓reduceIte], c, by omega, h0⟩
  · rw [dailyF_nI hk hI.pl]
    by_cases e : gfd M.1 k = 0
    · obtain ⟨n, hn, hnn⟩ := hI.n
      have hn1 : M.1 1 3 = nI n := by rw [hI.net.1]; exact hnn
      have h7 : nI n / (7:Int32) = nI (n / 7) := pk_div (d := 7) (by omega) (by decide) (by decide)
      have hx8 : n / 7 ≤ 8 := by omega
      simp only [some_bind, e, lastW_eq hn hn1, ↓reduceIte]
      by_cases e1 : w < 1
      · rw [if_pos e1]
        exact ⟨_, _, M, rfl, by simp only [failsS_nI hk hI.wk, e, h70, hnn, h7, isIn_0 (M := M) (show w < 1 ∨ nI (n / 7) - 1 < w from Or.inl e1), some_bind, ↓reduceIte], c, by omega, h0⟩
      · rw [if_neg e1]
        by_cases e2 : w ≤ nI (n / 7) - 1
        · rw [if_pos e2]
          have hx2 : 2 ≤ n / 7 := by
            by_cases h : 2 ≤ n / 7
            · exact h
            · exfalso
              have : n / 7 = 0 ∨ n / 7 = 1 := by omega
              have h1 := Int32.not_lt.mp e1
              rcases this with h2 | h2
              · rw [h2] at e2
                exact absurd (Int32.le_trans h1 e2) (by decide)
              · rw [h2] at e2
                exact absurd (Int32.le_trans h1 e2) (by decide)
          have hp : nI (n / 7) - 1 = nI (n / 7 - 1) := by
            obtain ⟨j, hj⟩ : ∃ j, n / 7 = j + 1 := ⟨n / 7 - 1, by omega⟩
            rw [hj]
            exact nI_pred j
          have hw0 : ¬ w < 0 := by
            intro h
            rw [Int32.lt_iff_toInt_lt] at h e1
            have z0 : (0:Int32).toInt = 0 := by decide
            have z1 : (1:Int32).toInt = 1 := by decide
            omega
          rw [hp] at e2
          obtain ⟨x, hx, rfl⟩ := nI_of2 (M := nI (n / 7 - 1)) (n := n / 7 - 1) (nI_toInt (by omega)) hw0 e2
          have hx1 : 1 ≤ x := by
            rcases Nat.eq_zero_or_pos x with h | h
            · subst h; exact absurd (by decide) e1
            · exact h
          have hdg := gfd_0.mp e
          obtain ⟨M1, a1, a2, a3, a4, a5⟩ := openBooks_eq hc h0
          have hK := sK_n (nE_142 a5)
          have hI1 := a3.1
          have hne1 : ¬ M1.1 171 k = -1 := by rw [hK 171 k (by decide)]; exact (sGb_1 hdg.1).1
          obtain ⟨M2, b1, b2, b3, b4⟩ := sumWeeks_eq hk hI1 a4 hne1
          have hE := qE_w b4
          have hK2 := sK_n (nE_q hE)
          have hI2 := NInv_n (nE_q hE) hI1
          have e' : gfd M2.1 k = 0 := by rw [gfd_k hK2, gfd_k hK]; exact e
          have hnn2 : M2.1 170 15 = nI n := by rw [hK2 170 15 (by decide), hK 170 15 (by decide)]; exact hnn
          have hn2 : M2.1 1 3 = nI n := by rw [hI2.net.1]; exact hnn2
          obtain ⟨hW, hA⟩ := sw_pos hI1 hk b3
          rw [a1, some_bind, b1, some_bind, lastW_eq hn hn2, some_bind, hp, missesAt_eq (m := M1.1) (k := k) hx1 (by omega) hx8 hW hA, some_bind]
          obtain ⟨M3, c1, c2, c3⟩ := weeks_eq (M := M2) hk hI2.h
          have hL : ∀ w, w < 8 → M3.2 189 w = sWk M1.1 k w true 7 ∧ M3.2 190 w = sWk M1.1 k w false 7 := fun w hw => by
            have := c3 w hw
            rw [sWk_k hK2, sWk_k hK2] at this
            exact this
          have hn3 : M3.1 170 15 = nI n := (c2 170 15 (by decide)).trans hnn2
          have q1 : fX10_apart 0 (nI x) M3 = some (sAp (M3.2 189) (M3.2 190) 0 (x - 0)) := apart_eq (a := 0) (by omega) (by omega)
          have q2 : fX10_apart (nI x) (nI (n / 7)) M3 = some (sAp (M3.2 189) (M3.2 190) x (n / 7 - x)) := apart_eq (by omega) hx8
          have q3 : fX10_isIn (nI x) 1 (nI (n / 7 - 1)) M2 = some 1 := isIn_1 e1 (Int32.not_lt.mpr e2)
          exact ⟨_, _, M3, rfl, by simp only [failsS_nI hk hI2.wk, e', h70, hnn2, hn3, h7, hp, q1, q2, q3, c1, some_bind, i_10, ↓reduceIte, ap_G (w := x) hx8 (by omega) hL], c, by omega, Inv_q (qE_t hE (qE_s c2)) a3⟩
        · rw [if_neg e2]
          exact ⟨_, _, M, rfl, by simp only [failsS_nI hk hI.wk, e, h70, hnn, h7, isIn_0 (M := M) (show w < 1 ∨ nI (n / 7) - 1 < w from Or.inr (Int32.not_le.mp e2)), some_bind, ↓reduceIte], c, by omega, h0⟩
    · simp only [some_bind, e, ↓reduceIte]
      exact ⟨_, _, M, rfl, by simp only [failsS_nI hk hI.wk, some_bind, e, ↓reduceIte], c, by omega, h0⟩
