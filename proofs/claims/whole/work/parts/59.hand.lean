/-! ===== hand ===== -/
theorem sHl_s (m : sm) (k d n : Nat) : sHl m k d (n + 1) = if m 181 n = nI k ∧ m 182 n = nI d then nI n else sHl m k d n := rfl
theorem sHl_lt {m m' : sm} {k d : Nat} (n : Nat) : (∀ i, i < n → m' 181 i = m 181 i ∧ m' 182 i = m 182 i) → sHl m' k d n = sHl m k d n := by
  induction n with
  | zero => intro _; rfl
  | succ n ih =>
    intro h
    rw [sHl_s, sHl_s, ih (fun i hi => h i (by omega)), (h n (by omega)).1, (h n (by omega)).2]
theorem fails05 {k : Nat} {M : xM} (hk : k < 16) (hK : WK M.1) : fX10_fails (nI k) 0 5 M = some (if M.1 171 k = -1 then -1 else 0) := by
  rw [fails_nI hk]
  rcases hK k hk with h | ⟨c, hc, h⟩
  · rw [if_pos h, if_pos h]
  · rw [h]
    have : c = 0 ∨ c = 1 ∨ c = 2 ∨ c = 3 ∨ c = 4 ∨ c = 5 := by omega
    rcases this with rfl | rfl | rfl | rfl | rfl | rfl <;> decide
/-- the log of the reference has one entry more -/
theorem CLog2_app {m m' : sm} {h k d n : Nat} {v : Int32} (hk : k < 16) (hd : d < 56) (h9 : h < 100) (hL : CLog2 m h) (hg : sDg m k) (hn : n ≤ 56) (hnn : m 170 15 = nI n) (hdf : ¬ nI d < m 175 k) (hdn : d ≤ n) (hv : -1 ≤ v.toInt ∧ v.toInt ≤ 5000) (b1 : m' 170 14 = nI (h + 1)) (b2 : m' 3 3 = nI (h + 1)) (b3 : m' 4 h = v ∧ m' 5 h = nI n ∧ m' 6 h = m (8 + 4 * k + 3) d ∧ m' 181 h = nI k ∧ m' 182 h = nI d ∧ m' 183 h = v ∧ m' 184 h = nI n) (b4 : ∀ j i, i < h → (4 ≤ j ∧ j ≤ 6 ∨ 181 ≤ j ∧ j ≤ 184) → m' j i = m j i) (b5 : m' (8 + 4 * k + 3) d = nI h) (b6 : ∀ q e, q < 16 → e < 56 → ¬ (q = k ∧ e = d) → m' (8 + 4 * q + 3) e = m (8 + 4 * q + 3) e) (b7 : ∀ q, q < 16 → m' 171 q = m 171 q ∧ m' 175 q = m 175 q) (b8 : m' 170 15 = m 170 15) : CLog2 m' (h + 1) := by
  obtain ⟨h1, h2, h3, h4, h5, h6⟩ := hL
  have hsl : ∀ q e i, i ≤ h → sHl m' q e i = sHl m q e i := fun q e i hi => sHl_lt i (fun x hx => ⟨b4 181 x (by omega) (by omega), b4 182 x (by omega) (by omega)⟩)
  have hgb : ∀ q, q < 16 → sGb m' q = sGb m q := fun q hq => by unfold sGb; rw [(b7 q hq).1]
  refine ⟨b1, b2, fun i hi => ?_, fun q e hq he => ?_, fun i hi => ?_, fun i hi => ?_⟩
  · by_cases e : i = h
    · subst e
      rw [b3.1, b3.2.1, b3.2.2.1, b3.2.2.2.1, b3.2.2.2.2.1, b3.2.2.2.2.2.1, b3.2.2.2.2.2.2]
      refine ⟨rfl, rfl, fun q e hq he x1 x2 => ?_⟩
      have y1 := nI_inj (by omega) (by omega) x1
      have y2 := nI_inj (by omega) (by omega) x2
      subst y1
      subst y2
      rw [h4 k d hk hd, hsl k d i (Nat.le_refl _)]
    · have hi : i < h := by omega
      rw [b4 4 i hi (by omega), b4 5 i hi (by omega), b4 6 i hi (by omega), b4 181 i hi (by omega), b4 182 i hi (by omega), b4 183 i hi (by omega), b4 184 i hi (by omega)]
      refine ⟨(h3 i hi).1, (h3 i hi).2.1, fun q e hq he x1 x2 => ?_⟩
      rw [hsl q e i (by omega)]
      exact (h3 i hi).2.2 q e hq he x1 x2
  · rw [sHl_s, b3.2.2.2.1, b3.2.2.2.2.1, hsl q e h (Nat.le_refl _)]
    by_cases x : q = k ∧ e = d
    · obtain ⟨rfl, rfl⟩ := x
      rw [b5, if_pos ⟨rfl, rfl⟩]
    · rw [b6 q e hq he x, if_neg (fun y => x ⟨(nI_inj (by omega) (by omega) y.1).symm, (nI_inj (by omega) (by omega) y.2).symm⟩)]
      exact h4 q e hq he
  · by_cases e : i = h
    · subst e
      rw [b3.2.2.2.1, b3.2.2.2.2.1, b3.2.2.2.2.2.2, b8, hnn]
      refine ⟨⟨n, hn, rfl, Int32.le_refl _⟩, fun q hq x => ?_⟩
      have y := nI_inj (by omega) (by omega) x
      subst y
      rw [hgb k hk, (b7 k hk).1, (b7 k hk).2]
      exact ⟨hg.1, hg.2, d, hd, rfl, hdf, nI_le hdn (by omega)⟩
    · have hi : i < h := by omega
      rw [b4 181 i hi (by omega), b4 182 i hi (by omega), b4 184 i hi (by omega), b8]
      refine ⟨(h5 i hi).1, fun q hq x => ?_⟩
      rw [hgb q hq, (b7 q hq).1, (b7 q hq).2]
      exact (h5 i hi).2 q hq x
  · by_cases e : i = h
    · subst e
      rw [b3.2.2.2.2.2.1]
      exact hv
    · rw [b4 183 i (by omega) (by omega)]
      exact h6 i (by omega)
theorem hand_ok {p day v : Int32} {M : xM} {c : Nat} (h0 : Inv M.1 c) : aR2 c (fX9_hand p day v M) (fX10_hand p day v) := by
  have hI := h0.1
  obtain ⟨n, hn, hnn⟩ := hI.n
  obtain ⟨h, h9, hL⟩ := hI.2.1
  have h13 : M.1 1 3 = nI n := by rw [hI.net.1]; exact hnn
  have h14 := hL.1
  have h33 := hL.2.1
  unfold fX9_hand
  rcases place_tri p with hp | ⟨k, hk, rfl⟩
  · rw [dailyF_out hp]
    simp only [some_bind, i_m1, ↓reduceIte]
    exact ⟨_, _, M, rfl, by unfold fX10_hand; simp only [fails_out hp, some_bind, jn_at, i_m1, ↓reduceIte], c, by omega, h0⟩
  · have hb : xinb (nI k) 16 = true := xinb_nI hk (by decide)
    have hc : (nI k).toNatClampNeg = k := nI_clamp (by omega)
    rw [dailyF_nI hk hI.pl]
    -- what the reference answers for the place
    have f10 : ∀ N : xM, N.1 171 k = M.1 171 k → WK N.1 → ∀ X : Option (Int32 × xM), (gfd M.1 k = 0 → (jn (fun (s14 : Int32) =>
          (fX10_isIn day (N.1 175 k) s14 N).bind fun v16 =>
          if v16 = 0 then
            some ((-1:Int32), N)
          else
            (fX10_isIn v (-1:Int32) (5000:Int32) N).bind fun v18 =>
            if v18 = 0 then
              some ((-1:Int32), N)
            else
              if (N.1 170 14) = (100:Int32) then
                some ((-1:Int32), N)
              else
                if xinb (N.1 170 14) 100 then
                  bd (xw N 181 (N.1 170 14).toNatClampNeg (nI k)) fun m22 =>
                  if xinb (m22.1 170 14) 100 then
                    bd (xw m22 182 (m22.1 170 14).toNatClampNeg day) fun m25 =>
                    if xinb (m25.1 170 14) 100 then
                      bd (xw m25 183 (m25.1 170 14).toNatClampNeg v) fun m28 =>
                      if xinb (m28.1 170 14) 100 then
                        bd (xw m28 184 (m28.1 170 14).toNatClampNeg (m28.1 170 15)) fun m31 =>
                        bd (xw m31 170 14 ((m31.1 170 14) + (1:Int32))) fun m33 =>
                        some ((m33.1 170 14), m33)
                      else none
                    else none
                  else none
                else none)
        (fun (kk13 : Int32 → Option (Int32 × xM)) =>
          if (55:Int32) ≤ (N.1 170 15) then
            kk13 (55:Int32)
          else
            kk13 (N.1 170 15))) = X) → (¬ gfd M.1 k = 0 → X = some (gfd M.1 k, N)) → fX10_hand (nI k) day v N = X := by
      intro N hN hKN X hX1 hX2
      unfold fX10_hand
      rw [fails05 hk hKN, hN]
      unfold gfd gf at hX1 hX2
      by_cases e1 : M.1 171 k = -1
      · rw [if_pos e1] at hX1 hX2
        have : ¬ ((-1:Int32) = 0 ∧ M.1 171 k = 3) := fun h => absurd h.1 i_m1
        rw [if_neg this] at hX2
        simp only [e1, some_bind, jn_at, i_m1, ↓reduceIte]
        exact (hX2 i_m1).symm
      · by_cases e3 : M.1 171 k = 3
        · have e5 : ¬ (3:Int32) = 5 := by decide
          have e6 : ¬ (3:Int32) = -1 := by decide
          simp only [e3, e5, e6, i_m2, ↓reduceIte, and_self, not_false_eq_true, forall_const] at hX2
          simp only [e3, e6, hN, some_bind, jn_at, hb, hc, i_m2, ↓reduceIte]
          exact hX2.symm
        · by_cases e5 : M.1 171 k = 5
          · have e6 : ¬ (5:Int32) = -1 := by decide
            have e7 : ¬ (5:Int32) = 3 := by decide
            simp only [e5, e6, e7, i_m2, ↓reduceIte, and_false, not_false_eq_true, forall_const] at hX2
            simp only [e5, e6, e7, hN, some_bind, jn_at, hb, hc, i_m2, ↓reduceIte]
            exact hX2.symm
          · simp only [e1, e3, e5, ↓reduceIte, and_false, forall_const] at hX1
            simp only [e1, e3, e5, hN, some_bind, hb, hc, ↓reduceIte]
            rw [jn_at]
            exact hX1
    by_cases e : gfd M.1 k = 0
    · have hdg := gfd_0.mp e
      have hne := (sGb_1 hdg.1).1
      have hfi := (hI.pl.2 k hk hne).2.2.2.1
      simp only [some_bind, e, hb, hc, ↓reduceIte]
      have stop : ∀ o : Option (Int32 × xM), o = some (-1, M) → fX10_hand (nI k) day v M = some (-1, M) → aR2 c o (fX10_hand (nI k) day v) := fun o h1 h2 => ⟨-1, M, M, h1, h2, c, by omega, h0⟩
      have p5000 : (5000:Int32).toInt = 5000 := by decide
      have pm1 : (-1:Int32).toInt = -1 := by decide
      have p0 : (0:Int32).toInt = 0 := by decide
      have p55 : (55:Int32).toInt = 55 := by decide
      -- the last day that can be
      have hlast : (if (55:Int32) ≤ nI n then (55:Int32) else nI n) = nI (min 55 n) := by
        by_cases x : 55 ≤ n
        · rw [if_pos (show (55:Int32) ≤ nI n from nI_le (a := 55) x (by omega)), Nat.min_eq_left x]; rfl
        · rw [if_neg (show ¬ (55:Int32) ≤ nI n from nI_ge (b := 55) (by omega) (by decide)), Nat.min_eq_right (by omega)]
      have ref : ∀ (N : xM), N.1 171 k = M.1 171 k → N.1 175 k = M.1 175 k → N.1 170 15 = nI n → WK N.1 → ∀ X : Option (Int32 × xM), ((fX10_isIn day (M.1 175 k) (nI (min 55 n)) N).bind fun v16 => if v16 = 0 then some (-1, N) else (fX10_isIn v (-1) 5000 N).bind fun v18 => if v18 = 0 then some (-1, N) else if N.1 170 14 = 100 then some (-1, N) else if xinb (N.1 170 14) 100 then
                  bd (xw N 181 (N.1 170 14).toNatClampNeg (nI k)) fun m22 =>
                  if xinb (m22.1 170 14) 100 then
                    bd (xw m22 182 (m22.1 170 14).toNatClampNeg day) fun m25 =>
                    if xinb (m25.1 170 14) 100 then
                      bd (xw m25 183 (m25.1 170 14).toNatClampNeg v) fun m28 =>
                      if xinb (m28.1 170 14) 100 then
                        bd (xw m28 184 (m28.1 170 14).toNatClampNeg (m28.1 170 15)) fun m31 =>
                        bd (xw m31 170 14 ((m31.1 170 14) + (1:Int32))) fun m33 =>
                        some ((m33.1 170 14), m33)
                      else none
                    else none
                  else none
                else none) = X → fX10_hand (nI k) day v N = X := by
        intro N a1 a2 a3 a4 X hX
        refine f10 N a1 a4 X (fun _ => ?_) (fun h => absurd e h)
        rw [jn_at, a2, a3]
        rw [← hlast] at hX
        by_cases x : (55:Int32) ≤ nI n
        · rw [if_pos x] at hX ⊢; exact hX
        · rw [if_neg x] at hX ⊢; exact hX
      by_cases b1 : v < -1
      · refine stop _ (by rw [if_pos b1]) (ref M rfl rfl hnn hI.wk _ ?_)
        rw [isIn_0 (M := M) (show v < -1 ∨ (5000:Int32) < v from Or.inl b1)]
        by_cases x : day < M.1 175 k ∨ nI (min 55 n) < day
        · rw [isIn_0 x, some_bind, if_pos rfl]
        · rw [isIn_1 (fun h => x (Or.inl h)) (fun h => x (Or.inr h)), some_bind, if_neg i_10, some_bind, if_pos rfl]
      · by_cases b2 : 5000 < v
        · refine stop _ (by rw [if_neg b1, if_pos b2]) (ref M rfl rfl hnn hI.wk _ ?_)
          rw [isIn_0 (M := M) (show v < -1 ∨ (5000:Int32) < v from Or.inr b2)]
          by_cases x : day < M.1 175 k ∨ nI (min 55 n) < day
          · rw [isIn_0 x, some_bind, if_pos rfl]
          · rw [isIn_1 (fun h => x (Or.inl h)) (fun h => x (Or.inr h)), some_bind, if_neg i_10, some_bind, if_pos rfl]
        · rw [if_neg b1, if_neg b2]
          have hvb : -1 ≤ v.toInt ∧ v.toInt ≤ 5000 := by
            rw [Int32.lt_iff_toInt_lt] at b1 b2
            omega
          by_cases bd : ∃ d, d < 56 ∧ day = nI d ∧ ¬ nI d < M.1 175 k ∧ d ≤ n
          · obtain ⟨d, hd, rfl, hdf, hdn⟩ := bd
            have hdb : xinb (nI d) 56 = true := xinb_nI hd (by decide)
            have hdc : (nI d).toNatClampNeg = d := nI_clamp (by omega)
            have hle : nI d ≤ nI n := nI_le hdn (by omega)
            have hin : ∀ N : xM, fX10_isIn (nI d) (M.1 175 k) (nI (min 55 n)) N = some 1 := fun N => isIn_1 hdf (nI_nlt (by omega) (by omega))
            have hin2 : ∀ N : xM, fX10_isIn v (-1) 5000 N = some 1 := fun N => isIn_1 b1 b2
            rw [isDay_nI hd]
            simp only [some_bind, i_10, hfi, hdf, h13, hle, hdb, hdc, ↓reduceIte]
            by_cases hfull : h = 100
            · have ap : ∀ x : Int32, fX3_append v (nI n) x M = some (-1, M) := fun x => by
                unfold fX3_append
                rw [h33, hfull, if_neg (by decide)]
              refine stop _ ?_ (ref M rfl rfl hnn hI.wk _ ?_)
              · rw [ap, some_bind, if_pos rfl]
              · rw [hin, some_bind, if_neg i_10, hin2, some_bind, if_neg i_10, h14, hfull, if_pos (by decide)]
            · have h99 : h < 100 := by omega
              have g1 : nI h < (100:Int32) := nI_lt (b := 100) h99 (by decide)
              have hhb : xinb (nI h) 100 = true := xinb_nI h99 (by decide)
              have hhc : (nI h).toNatClampNeg = h := nI_clamp (by omega)
              have y1 : ∀ w : Int32, (xw M 4 h w).1 3 3 = nI h := fun w => by rw [xv_ne (by omega)]; exact h33
              have y2 : ∀ w x : Int32, (xw (xw M 4 h w) 5 h x).1 3 3 = nI h := fun w x => by rw [xv_ne (by omega)]; exact y1 w
              have y3 : ∀ w x y : Int32, (xw (xw (xw M 4 h w) 5 h x) 6 h y).1 3 3 = nI h := fun w x y => by rw [xv_ne (by omega)]; exact y2 w x
              have y4 : ∀ (N : xM) (w : Int32), (xw N 3 3 w).1 3 3 = w := fun N w => xv_eq
              have ap : fX3_append v (nI n) (M.1 (8 + 4 * k + 3) d) M = some (nI h, xw (xw (xw (xw M 4 h v) 5 h (nI n)) 6 h (M.1 (8 + 4 * k + 3) d)) 3 3 (nI (h + 1))) := by
                unfold fX3_append
                simp only [h33, g1, hhb, hhc, bd_at, y1, y2, y3, y4, nI_1, nI_pred, ↓reduceIte]
              have hnm : ¬ nI h = -1 := nI_nm1 (by omega)
              rw [ap]
              simp only [some_bind, hnm, bd_at, nI_1, ↓reduceIte]
              obtain ⟨M1, hM1⟩ : ∃ M1, M1 = xw (xw (xw (xw (xw (xw M 4 h v) 5 h (nI n)) 6 h (M.1 (8 + 4 * k + 3) d)) 3 3 (nI (h + 1))) (8 + 4 * k + 3) d (nI h)) 1 4 ((xw (xw (xw (xw (xw M 4 h v) 5 h (nI n)) 6 h (M.1 (8 + 4 * k + 3) d)) 3 3 (nI (h + 1))) (8 + 4 * k + 3) d (nI h)).1 1 4 + 1) := ⟨_, rfl⟩
              rw [← hM1]
              have c0 : ∀ j i, ¬ (j = 4 ∧ i = h) → ¬ (j = 5 ∧ i = h) → ¬ (j = 6 ∧ i = h) → ¬ (j = 3 ∧ i = 3) → ¬ (j = 8 + 4 * k + 3 ∧ i = d) → ¬ (j = 1 ∧ i = 4) → M1.1 j i = M.1 j i := fun j i a1 a2 a3 a4 a5 a6 => by
                rw [hM1, xv_ne (by omega), xv_ne (by omega), xv_ne (by omega), xv_ne (by omega), xv_ne (by omega), xv_ne (by omega)]
              have c1 : M1.1 4 h = v := by rw [hM1, xv_ne (by omega), xv_ne (by omega), xv_ne (by omega), xv_ne (by omega), xv_ne (by omega), xv_eq]
              have c2 : M1.1 5 h = nI n := by rw [hM1, xv_ne (by omega), xv_ne (by omega), xv_ne (by omega), xv_ne (by omega), xv_eq]
              have c3 : M1.1 6 h = M.1 (8 + 4 * k + 3) d := by rw [hM1, xv_ne (by omega), xv_ne (by omega), xv_ne (by omega), xv_eq]
              have c4 : M1.1 3 3 = nI (h + 1) := by rw [hM1, xv_ne (by omega), xv_ne (by omega), xv_eq]
              have c5 : M1.1 (8 + 4 * k + 3) d = nI h := by rw [hM1, xv_ne (by omega), xv_eq]
              have c6 : M1.1 1 4 = M.1 1 4 + 1 := by rw [hM1, xv_eq, xv_ne (by omega), xv_ne (by omega), xv_ne (by omega), xv_ne (by omega), xv_ne (by omega)]
              have hK1 : WK M1.1 := fun q hq => by
                rw [c0 171 q (by omega) (by omega) (by omega) (by omega) (by omega) (by omega)]; exact hI.wk q hq
              have n14 : M1.1 170 14 = nI h := (c0 170 14 (by omega) (by omega) (by omega) (by omega) (by omega) (by omega)).trans h14
              have n15 : M1.1 170 15 = nI n := (c0 170 15 (by omega) (by omega) (by omega) (by omega) (by omega) (by omega)).trans hnn
              obtain ⟨M2, hM2⟩ : ∃ M2, M2 = xw (xw (xw (xw (xw M1 181 h (nI k)) 182 h (nI d)) 183 h v) 184 h (nI n)) 170 14 (nI (h + 1)) := ⟨_, rfl⟩
              have z1 : ∀ w : Int32, (xw M1 181 h w).1 170 14 = nI h := fun w => by rw [xv_ne (by omega)]; exact n14
              have z2 : ∀ w x : Int32, (xw (xw M1 181 h w) 182 h x).1 170 14 = nI h := fun w x => by rw [xv_ne (by omega)]; exact z1 w
              have z3 : ∀ w x y : Int32, (xw (xw (xw M1 181 h w) 182 h x) 183 h y).1 170 14 = nI h := fun w x y => by rw [xv_ne (by omega)]; exact z2 w x
              have z3' : ∀ w x y : Int32, (xw (xw (xw M1 181 h w) 182 h x) 183 h y).1 170 15 = nI n := fun w x y => by rw [xv_ne (by omega), xv_ne (by omega), xv_ne (by omega)]; exact n15
              have z4 : ∀ w x y z : Int32, (xw (xw (xw (xw M1 181 h w) 182 h x) 183 h y) 184 h z).1 170 14 = nI h := fun w x y z => by rw [xv_ne (by omega)]; exact z3 w x y
              have z5 : ∀ (N : xM) (w : Int32), (xw N 170 14 w).1 170 14 = w := fun N w => xv_eq
              have g100 : ¬ nI h = 100 := nI_ne (b := 100) (by omega) (by decide) hfull
              have r10 : fX10_hand (nI k) (nI d) v M1 = some (nI (h + 1), M2) := by
                refine ref M1 (c0 171 k (by omega) (by omega) (by omega) (by omega) (by omega) (by omega)) (c0 175 k (by omega) (by omega) (by omega) (by omega) (by omega) (by omega)) n15 hK1 _ ?_
                rw [hin, some_bind, if_neg i_10, hin2, some_bind, if_neg i_10]
                simp only [n14, g100, hhb, hhc, bd_at, z1, z2, z3, z3', z4, z5, nI_1, ↓reduceIte]
                rw [hM2]
              refine ⟨nI (h + 1), M1, M2, rfl, r10, c + 1, Nat.le_refl _, ?_⟩
              have d0 : ∀ j i, ¬ (181 ≤ j ∧ j ≤ 184 ∧ i = h) → ¬ (j = 170 ∧ i = 14) → M2.1 j i = M1.1 j i := fun j i a1 a2 => by
                rw [hM2, xv_ne (by omega), xv_ne (by omega), xv_ne (by omega), xv_ne (by omega), xv_ne (by omega)]
              have dd : ∀ j i, ¬ (181 ≤ j ∧ j ≤ 184 ∧ i = h) → ¬ (j = 170 ∧ i = 14) → ¬ (4 ≤ j ∧ j ≤ 6 ∧ i = h) → ¬ (j = 3 ∧ i = 3) → ¬ (j = 8 + 4 * k + 3 ∧ i = d) → ¬ (j = 1 ∧ i = 4) → M2.1 j i = M.1 j i := fun j i a1 a2 a3 a4 a5 a6 => (d0 j i a1 a2).trans (c0 j i (by omega) (by omega) (by omega) a4 a5 a6)
              refine Inv_1 hk h0 (fun j i a1 a2 a3 a4 a5 a6 a7 => dd j i (by omega) (by omega) (by omega) (by omega) (by omega) (by omega)) ?_ ?_ ⟨h + 1, by omega, ?_⟩
              · rw [d0 1 4 (by omega) (by omega)]; exact c6
              · refine PI_e ⟨fun j i a b => ?_, fun j a b => ?_, fun j d a b hd => ?_⟩ ?_ (hI.pi hk)
                · exact dd _ _ (by omega) (by omega) (by omega) (by omega) (by omega) (by omega)
                · exact dd _ _ (by omega) (by omega) (by omega) (by omega) (by omega) (by omega)
                · exact dd _ _ (by omega) (by omega) (by omega) (by omega) (by omega) (by omega)
                · exact dd _ _ (by omega) (by omega) (by omega) (by omega) (by omega) (by omega)
              · refine CLog2_app (n := n) (v := v) hk hd h99 hL hdg hn hnn hdf hdn hvb ?_ ?_ ⟨?_, ?_, ?_, ?_, ?_, ?_, ?_⟩ (fun j i a b => ?_) ?_ (fun q e hq he x => ?_) (fun q hq => ⟨?_, ?_⟩) ?_
                · rw [hM2, xv_eq]
                · rw [d0 3 3 (by omega) (by omega)]; exact c4
                · rw [d0 4 h (by omega) (by omega)]; exact c1
                · rw [d0 5 h (by omega) (by omega)]; exact c2
                · rw [d0 6 h (by omega) (by omega)]; exact c3
                · rw [hM2, xv_ne (by omega), xv_ne (by omega), xv_ne (by omega), xv_ne (by omega), xv_eq]
                · rw [hM2, xv_ne (by omega), xv_ne (by omega), xv_ne (by omega), xv_eq]
                · rw [hM2, xv_ne (by omega), xv_ne (by omega), xv_eq]
                · rw [hM2, xv_ne (by omega), xv_eq]
                · exact dd _ _ (by omega) (by omega) (by omega) (by omega) (by omega) (by omega)
                · rw [d0 _ _ (by omega) (by omega)]; exact c5
                · exact dd _ _ (by omega) (by omega) (by omega) (by omega) (by omega) (by omega)
                · exact dd _ _ (by omega) (by omega) (by omega) (by omega) (by omega) (by omega)
                · exact dd _ _ (by omega) (by omega) (by omega) (by omega) (by omega) (by omega)
                · exact dd _ _ (by omega) (by omega) (by omega) (by omega) (by omega) (by omega)
          · -- the day can't be
            have hno : day < M.1 175 k ∨ nI (min 55 n) < day := by
              by_cases x : day < M.1 175 k
              · exact Or.inl x
              · right
                rcases day_tri day with hx | ⟨d, hd, rfl⟩
                · have : 56 ≤ day := by
                    rcases hx with hx | hx
                    · exfalso
                      have := wf_pos hI hk
                      rw [Int32.lt_iff_toInt_lt] at this x hx
                      omega
                    · exact hx
                  rw [Int32.le_iff_toInt_le, show (56:Int32).toInt = 56 from by decide] at this
                  rw [Int32.lt_iff_toInt_lt, nI_toInt (by omega)]
                  omega
                · have : ¬ d ≤ n := fun h => bd ⟨d, hd, rfl, x, h⟩
                  exact nI_lt (by omega) (by omega)
            refine stop _ ?_ (ref M rfl rfl hnn hI.wk _ (by rw [isIn_0 hno, some_bind, if_pos rfl]))
            rcases day_tri day with hx | ⟨d, hd, rfl⟩
            · rw [isDay_out hx, some_bind, if_pos rfl]
            · rw [isDay_nI hd, some_bind, if_neg i_10, hfi]
              by_cases x : nI d < M.1 175 k
              · rw [if_pos x]
              · rw [if_neg x, h13]
                have : ¬ d ≤ n := fun h => bd ⟨d, hd, rfl, x, h⟩
                rw [if_neg (nI_ge (by omega) (by omega))]
    · simp only [some_bind, e, ↓reduceIte]
      exact ⟨_, _, M, rfl, f10 M rfl hI.wk _ (fun h => absurd h e) (fun _ => rfl), c, by omega, h0⟩
