/-! ===== the books read nothing of valleys ===== -/
abbrev sV (m m' : sm) : Prop := ∀ j i, 170 ≤ j ∧ j < 186 → m' j i = m j i
theorem sGb_v {m m' : sm} (e : sV m m') (k : Nat) : sGb m' k = sGb m k := by
  unfold sGb
  rw [e 171 k (by decide)]
theorem sHd_v {m m' : sm} (e : sV m m') (k d : Nat) (t : Int32) : ∀ n, sHd m' k d t n = sHd m k d t n
  | 0 => rfl
  | n + 1 => by
    simp only [sHd, sHd_v e k d t n, e 181 n (by decide), e 182 n (by decide), e 184 n (by decide)]
theorem sHi_v {m m' : sm} (e : sV m m') (k d : Nat) (t : Int32) : sHi m' k d t = sHi m k d t := by
  unfold sHi sHn
  rw [sHd_v e, e 170 14 (by decide)]
theorem sTip_v {m m' : sm} (e : sV m m') (k d : Nat) : sTip m' k d = sTip m k d := by
  simp only [sTip, e 177 _ (by decide), e 174 _ (by decide), e 178 _ (by decide)]
theorem sRaw_v {m m' : sm} (e : sV m m') (k d : Nat) (t : Int32) : sRaw m' k d t = sRaw m k d t := by
  simp only [sRaw, sGb_v e, sTip_v e, sHi_v e, e 171 _ (by decide), e 175 _ (by decide), e 170 _ (by decide), e 183 _ (by decide), e 177 _ (by decide), e 179 _ (by decide), e 180 _ (by decide), e 174 _ (by decide)]
theorem sFar_v {m m' : sm} (e : sV m m') (q : Nat) (x y : Int32) : sFar m' q x y = sFar m q x y := by
  simp only [sFar, e 172 _ (by decide), e 173 _ (by decide)]
theorem sDs_v {m m' : sm} (e : sV m m') (q k : Nat) : sDs m' q k = sDs m q k := by
  unfold sDs
  rw [sFar_v e, e 172 _ (by decide), e 173 _ (by decide)]
theorem sDl_v {m m' : sm} (e : sV m m') (k d : Nat) : ∀ q, sDl m' k d q = sDl m k d q
  | 0 => rfl
  | q + 1 => by
    simp only [sDl, sDl_v e k d q, sGb_v e, sDs_v e, sRaw_v e, e 170 _ (by decide)]
theorem sDo_v {m m' : sm} (e : sV m m') (k d : Nat) : sDo m' k d = sDo m k d := by
  simp only [sDo, sDo3, sDl_v e, sRaw_v e, sHi_v e, e 170 _ (by decide), e 171 _ (by decide), e 177 _ (by decide), e 180 _ (by decide)]
theorem sTr_v {m m' : sm} (e : sV m m') (k d : Nat) : sTr m' k d = sTr m k d := by
  simp only [sTr, sDo_v e, sRaw_v e]
theorem sRows_v {m m' : sm} (e : sV m m') (k : Nat) : ∀ n, sRows m' k n = sRows m k n
  | 0 => rfl
  | n + 1 => by
    unfold sRows
    simp only [sRows_v e k n, sGb_v e, sDs_v e]
theorem sOn_v {m m' : sm} (e : sV m m') (k : Nat) : ∀ n, sOn m' k n = sOn m k n
  | 0 => rfl
  | n + 1 => by simp only [sOn, sOn_v e k n, e 177 _ (by decide)]
theorem sRO_v {m m' : sm} (e : sV m m') (k d : Nat) : sRO m' k d = sRO m k d := by
  simp only [sRO, sOn_v e, e 171 _ (by decide), e 175 _ (by decide)]
theorem sSn_v {m m' : sm} (e : sV m m') (k f : Nat) : ∀ n, sSn m' k f n = sSn m k f n
  | 0 => rfl
  | n + 1 => by simp only [sSn, sSn_v e k f n, e 177 _ (by decide)]
theorem sBy_v {m m' : sm} (e : sV m m') (k a u : Nat) : sBy m' k a u = sBy m k a u := by
  have h : ∀ y, sTr m' y = sTr m y := fun y => funext fun d => sTr_v e y d
  simp only [sBy, sRows_v e, h]
theorem sSpr_v {m m' : sm} (e : sV m m') (k d : Nat) : sSpr m' k d = sSpr m k d := by
  have h : ∀ y, sTr m' y = sTr m y := fun y => funext fun d => sTr_v e y d
  simp only [sSpr, sRO_v e, sBy_v e, sSn_v e, sFt, h, e 177 _ (by decide), e 175 _ (by decide)]
theorem sTd_v {m m' : sm} (e : sV m m') (k d : Nat) : sTd m' k d = sTd m k d := by
  unfold sTd
  rw [e 171 k (by decide), sSpr_v e, sTr_v e]
theorem BV_v {m m' : sm} (e : sV m m') (eb : ∀ j i, 73 ≤ j → j < 141 → m' j i = m j i) (h : BV m) : BV m' := by
  intro k d hk hd
  have hh := h k d hk hd
  rw [eb _ _ (by omega) (by omega), eb _ _ (by omega) (by omega), eb _ _ (by omega) (by omega), eb _ _ (by omega) (by omega), sR, sRaw_v e, sDo_v e, sTr_v e, sTd_v e]
  exact hh
/-! ===== valley ===== -/
theorem sMn_s (m : sm) (v n : Nat) : sMn m v (n + 1) = if m 186 (100 * v + n) = 0 then sMn m v n else sMn m v n + 1 := rfl
theorem sMn_lt {m m' : sm} {v : Nat} (n : Nat) : (∀ i, i < n → m' 186 (100 * v + i) = m 186 (100 * v + i)) → sMn m' v n = sMn m v n := by
  induction n with
  | zero => intro _; rfl
  | succ n ih =>
    intro h
    rw [sMn_s, sMn_s, ih (fun i hi => h i (by omega)), h n (by omega)]
/-- one square more or less -/
theorem sMn_up {m m' : sm} {v s : Nat} (n : Nat) (hs : s < n) (ho : ∀ i, i < n → ¬ i = s → m' 186 (100 * v + i) = m 186 (100 * v + i)) (h0 : m 186 (100 * v + s) = 0) (h1 : ¬ m' 186 (100 * v + s) = 0) : sMn m' v n = sMn m v n + 1 := by
  induction n with
  | zero => exact absurd hs (by omega)
  | succ n ih =>
    rw [sMn_s, sMn_s]
    by_cases e : n = s
    · subst e
      rw [sMn_lt n (fun i hi => ho i (by omega) (by omega)), if_neg h1, if_pos h0]
    · rw [ih (by omega) (fun i hi hx => ho i (by omega) hx), ho n (by omega) e]
      by_cases e2 : m 186 (100 * v + n) = 0
      · rw [if_pos e2, if_pos e2]
      · rw [if_neg e2, if_neg e2]
theorem boo_nar {b : Int32} (h : b = 0 ∨ b = 1) : vp_nar .boolean b = b := by
  rcases h with rfl | rfl
  · rfl
  · rfl
theorem Inv_val {m m' : sm} {c v x y : Nat} {b : Int32} (hv : v < 8) (hx : x < 10) (hy : y < 10) (hb : b = 0 ∨ b = 1) (h0 : Inv m c) (hf : ∀ j i, ¬ (j = 148 + 2 * v ∧ i = 1) → ¬ (j = 148 + 2 * v + 1 ∧ i = x + 10 * y) → ¬ (j = 186 ∧ i = 100 * v + (10 * x + y)) → m' j i = m j i) (h1 : m' (148 + 2 * v) 1 = nI (sMn m' v 100)) (h2 : m' (148 + 2 * v + 1) (x + 10 * y) = b) (h3 : m' 186 (100 * v + (10 * x + y)) = b) : Inv m' c := by
  obtain ⟨hI, hBF, w, hw, a1, a2, a3⟩ := h0
  obtain ⟨a, h9, hl⟩ := hI.2.1
  have et : m' 170 15 = m 170 15 := hf _ _ (by omega) (by omega) (by omega)
  refine ⟨NInv.mk' ?_ ?_ (fun k hk => PI_e ⟨fun j i a b => ?_, fun j a b => ?_, fun j d a b hd => ?_⟩ et (hI.pi hk)) ⟨a, h9, CLog2_e ⟨fun j i b1 b2 => ?_, fun k d hk hd => ?_, fun j i b1 b2 => ?_, fun k hk => ⟨?_, ?_⟩, ?_, et⟩ hl⟩ (CRu_e (fun i => ?_) (fun i hi => ?_) (fun i => ?_) hI.ru) (fun u hu => ⟨?_, fun p q hp hq => ?_⟩) (fun j hj => ?_), BF_e (fun j i a b => ?_) et hBF, w, hw, ?_, ?_, fun h => BV_v (fun j i h => ?_) (fun j i a b => ?_) (a3 h)⟩
  · rw [hf 1 3 (by omega) (by omega) (by omega), et]; exact hI.net.1
  · obtain ⟨n, e1, e2⟩ := hI.n
    exact ⟨n, e1, et.trans e2⟩
  · exact hf _ _ (by omega) (by omega) (by omega)
  · exact hf _ _ (by omega) (by omega) (by omega)
  · exact hf _ _ (by omega) (by omega) (by omega)
  · exact hf _ _ (by omega) (by omega) (by omega)
  · exact hf _ _ (by omega) (by omega) (by omega)
  · exact hf _ _ (by omega) (by omega) (by omega)
  · exact hf _ _ (by omega) (by omega) (by omega)
  · exact hf _ _ (by omega) (by omega) (by omega)
  · exact hf _ _ (by omega) (by omega) (by omega)
  · exact hf _ _ (by omega) (by omega) (by omega)
  · exact hf _ _ (by omega) (by omega) (by omega)
  · exact hf _ _ (by omega) (by omega) (by omega)
  · by_cases e : u = v
    · rw [e]; exact h1
    · rw [hf _ _ (by omega) (by omega) (by omega), (hI.vl u hu).1, sMn_lt 100 (fun i hi => (hf _ _ (by omega) (by omega) (by omega)))]
  · by_cases e : u = v ∧ p = x ∧ q = y
    · obtain ⟨rfl, rfl, rfl⟩ := e
      rw [h2, h3]
    · rw [hf (148 + 2 * u + 1) _ (by omega) (by omega) (by omega), hf 186 _ (by omega) (by omega) (by omega)]
      exact (hI.vl u hu).2 p q hp hq
  · by_cases e : j = 100 * v + (10 * x + y)
    · rw [e, h3]; exact hb
    · rw [hf _ _ (by omega) (by omega) (by omega)]
      exact hI.ws j hj
  · exact hf _ _ (by omega) (by omega) (by omega)
  · rw [hf _ _ (by omega) (by omega) (by omega)]; exact a1
  · rw [hf _ _ (by omega) (by omega) (by omega)]; exact a2
  · exact hf _ _ (by omega) (by omega) (by omega)
  · exact hf _ _ (by omega) (by omega) (by omega)
theorem valley_ok {v x y b : Int32} {M : xM} {c : Nat} (hb : b = 0 ∨ b = 1) (h0 : Inv M.1 c) : aR2 c (fX9_valley v x y b M) (fX10_valley v x y b) := by
  have hI := h0.1
  unfold fX9_valley
  rcases va_tri v with h | ⟨a, ha, rfl⟩
  · rw [isVa_out h]
    simp only [some_bind, ↓reduceIte]
    exact ⟨_, _, M, rfl, by unfold fX10_valley; simp only [isIn_07_out h, some_bind, ↓reduceIte], c, by omega, h0⟩
  · rcases sq_tri x with h | ⟨p, hp, rfl⟩
    · rw [isVa_1 ha, isSq_x h]
      simp only [some_bind, i_10, ↓reduceIte]
      exact ⟨_, _, M, rfl, by unfold fX10_valley; simp only [isIn_07 ha, isIn_09_out h, some_bind, i_10, ↓reduceIte], c, by omega, h0⟩
    · rcases sq_tri y with h | ⟨q, hq, rfl⟩
      · rw [isVa_1 ha, isSq_y hp h]
        simp only [some_bind, i_10, ↓reduceIte]
        exact ⟨_, _, M, rfl, by unfold fX10_valley; simp only [isIn_07 ha, isIn_09 hp, isIn_09_out h, some_bind, i_10, ↓reduceIte], c, by omega, h0⟩
      · have hab : xinb (nI a) 8 = true := xinb_nI ha (by decide)
        have hac : (nI a).toNatClampNeg = a := nI_clamp (by omega)
        have e1 : nI p + nI q * (10:Int32) = nI (p + 10 * q) := by
          show nI p + nI q * nI 10 = _
          rw [pk_mul, nI_add, Nat.mul_comm q 10]
        have e2 : (100:Int32) * nI a + (10:Int32) * nI p + nI q = nI (100 * a + (10 * p + q)) := by
          show nI 100 * nI a + nI 10 * nI p + nI q = _
          rw [pk_mul, pk_mul, nI_add, nI_add, Nat.add_assoc]
        have g1 : ¬ nI (p + 10 * q) < 0 := nI_pos (by omega)
        have g2 : ¬ (100:Int32) ≤ nI (p + 10 * q) := nI_ge (b := 100) (by omega) (by decide)
        have hsb : xinb (nI (p + 10 * q)) 100 = true := xinb_nI (by omega) (by decide)
        have hsc : (nI (p + 10 * q)).toNatClampNeg = p + 10 * q := nI_clamp (by omega)
        have hrb : xinb (nI (100 * a + (10 * p + q))) 800 = true := xinb_nI (by omega) (by decide)
        have hrc : (nI (100 * a + (10 * p + q))).toNatClampNeg = 100 * a + (10 * p + q) := nI_clamp (by omega)
        have hV := hI.vl a ha
        have hhas := hV.2 p q hp hq
        have r10 : ∀ N : xM, fX10_valley (nI a) (nI p) (nI q) b N = some (nI (sMn (xw N 186 (100 * a + (10 * p + q)) b).1 a 100), xw N 186 (100 * a + (10 * p + q)) b) := by
          intro N
          unfold fX10_valley
          simp only [isIn_07 ha, isIn_09 hp, isIn_09 hq, some_bind, i_10, e2, hrb, hrc, boo_nar hb, bd_at, many_eq ha, ↓reduceIte]
        rw [isVa_1 ha, isSq_1 hp hq]
        simp only [some_bind, i_10, hab, hac, e1, ↓reduceIte]
        by_cases e3 : M.1 186 (100 * a + (10 * p + q)) = b
        · have c9 : fX8_change a (nI (p + 10 * q)) b M = some (nI (sMn M.1 a 100), M) := by
            unfold fX8_change
            simp only [g1, g2, hsb, hsc, hhas, e3, hV.1, ↓reduceIte]
          rw [c9, some_bind]
          have hsame : sMn (xw M 186 (100 * a + (10 * p + q)) b).1 a 100 = sMn M.1 a 100 := sMn_lt 100 (fun i hi => by
            rw [xw_at]
            by_cases e : 186 = 186 ∧ 100 * a + i = 100 * a + (10 * p + q)
            · rw [if_pos e, e.2, e3]
            · rw [if_neg e])
          refine ⟨_, M, _, rfl, by rw [r10, hsame], c, by omega, ?_⟩
          refine Inv_val (v := a) (x := p) (y := q) (b := b) ha hp hq hb h0 (fun j i b1 b2 b3 => xv_ne (by omega)) ?_ ?_ xv_eq
          · rw [hsame, xv_ne (by omega)]; exact hV.1
          · rw [xv_ne (by omega), hhas]; exact e3
        · have w4 : ∀ z : Int32, (xw M (148 + 2 * a + 1) (p + 10 * q) z).1 (148 + 2 * a) 1 = nI (sMn M.1 a 100) := fun z => by
            rw [xv_ne (by omega)]; exact hV.1
          have w5 : ∀ (N : xM) (z : Int32), (xw N (148 + 2 * a) 1 z).1 (148 + 2 * a) 1 = z := fun N z => xv_eq
          have c9 : fX8_change a (nI (p + 10 * q)) b M = some (nI (sMn M.1 a 100) + (if b = 0 then -1 else 1), xw (xw M (148 + 2 * a + 1) (p + 10 * q) b) (148 + 2 * a) 1 (nI (sMn M.1 a 100) + (if b = 0 then -1 else 1))) := by
            unfold fX8_change
            simp only [g1, g2, hsb, hsc, hhas, e3, boo_nar hb, bd_at, jn_at, w4, w5, ↓reduceIte]
            by_cases e4 : b = 0
            · rw [if_pos e4, if_pos e4]
            · rw [if_neg e4, if_neg e4]
          rw [c9, some_bind]
          obtain ⟨M1, hM1⟩ : ∃ M1, M1 = xw (xw M (148 + 2 * a + 1) (p + 10 * q) b) (148 + 2 * a) 1 (nI (sMn M.1 a 100) + (if b = 0 then -1 else 1)) := ⟨_, rfl⟩
          rw [← hM1]
          have f1 : ∀ j i, ¬ (j = 148 + 2 * a ∧ i = 1) → ¬ (j = 148 + 2 * a + 1 ∧ i = p + 10 * q) → M1.1 j i = M.1 j i := fun j i b1 b2 => by
            rw [hM1, xv_ne (by omega), xv_ne (by omega)]
          have f2 : M1.1 (148 + 2 * a) 1 = nI (sMn M.1 a 100) + (if b = 0 then -1 else 1) := by rw [hM1, xv_eq]
          have f3 : M1.1 (148 + 2 * a + 1) (p + 10 * q) = b := by rw [hM1, xv_ne (by omega), xv_eq]
          have hml := sMn_le M.1 a 100
          have hcnt : nI (sMn (xw M1 186 (100 * a + (10 * p + q)) b).1 a 100) = nI (sMn M.1 a 100) + (if b = 0 then -1 else 1) := by
            have ho : ∀ i, i < 100 → ¬ i = 10 * p + q → (xw M1 186 (100 * a + (10 * p + q)) b).1 186 (100 * a + i) = M.1 186 (100 * a + i) := fun i hi hx => by
              rw [xv_ne (by omega)]
              exact f1 _ _ (by omega) (by omega)
            have hold := hI.ws (100 * a + (10 * p + q)) (by omega)
            rcases hb with hb | hb
            · subst hb
              have hu := sMn_up (m := (xw M1 186 (100 * a + (10 * p + q)) 0).1) (m' := M.1) (v := a) (s := 10 * p + q) 100 (by omega) (fun i hi hx => (ho i hi hx).symm) xv_eq e3
              rw [if_pos rfl, hu]
              exact (pk_m1 _).symm
            · subst hb
              have hz : M.1 186 (100 * a + (10 * p + q)) = 0 := hold.resolve_right e3
              have hu := sMn_up (m := M.1) (m' := (xw M1 186 (100 * a + (10 * p + q)) 1).1) (v := a) (s := 10 * p + q) 100 (by omega) ho hz (by rw [xv_eq]; decide)
              rw [if_neg (by decide), hu, nI_1]
          refine ⟨_, M1, _, rfl, by rw [r10, hcnt], c, by omega, ?_⟩
          refine Inv_val (v := a) (x := p) (y := q) (b := b) ha hp hq hb h0 (fun j i b1 b2 b3 => by rw [xv_ne (by omega)]; exact f1 j i b1 b2) ?_ ?_ xv_eq
          · rw [hcnt, xv_ne (by omega)]; exact f2
          · rw [xv_ne (by omega)]; exact f3
