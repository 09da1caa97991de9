/-! ===== set ===== -/
theorem Inv_set {m m' : sm} {c j : Nat} {v : Int32} (hj : j < 12) (h0 : Inv m c) (hf : ∀ a i, ¬ (a = 7 ∧ i = j) → ¬ (a = 1 ∧ i = 4) → ¬ (j < 4 ∧ a = 170 ∧ i = 16 + j) → ¬ (4 ≤ j ∧ a = 185 ∧ i = j - 4) → m' a i = m a i) (h1 : m' 1 4 = m 1 4 + 1) (h2 : m' 7 j = v) (h3 : j < 4 → m' 170 (16 + j) = v) (h4 : 4 ≤ j → m' 185 (j - 4) = v) : Inv m' (c + 1) := by
  obtain ⟨hI, hBF, hBC⟩ := h0
  obtain ⟨a, h9, hl⟩ := hI.2.1
  have et : m' 170 15 = m 170 15 := hf _ _ (by omega) (by omega) (by omega) (by omega)
  have hu : ∀ i, i < 4 → m 7 i = m 170 (16 + i) → m' 7 i = m' 170 (16 + i) := fun i hi h => by
    by_cases e : i = j
    · rw [e, h2, h3 (by omega)]
    · rw [hf _ _ (by omega) (by omega) (by omega) (by omega), hf _ _ (by omega) (by omega) (by omega) (by omega)]
      exact h
  refine ⟨NInv.mk' ?_ ?_ (fun k hk => PI_e ⟨fun b i x y => ?_, fun b x y => ?_, fun b d x y hd => ?_⟩ et (hI.pi hk)) ⟨a, h9, CLog2_e ⟨fun b i b1 b2 => ?_, fun k d hk hd => ?_, fun b i b1 b2 => ?_, fun k hk => ⟨?_, ?_⟩, ?_, et⟩ hl⟩ ⟨hu 0 (by omega) hI.ru.1, hu 1 (by omega) hI.ru.2.1, hu 2 (by omega) hI.ru.2.2.1, hu 3 (by omega) hI.ru.2.2.2.1, fun i hi => ?_⟩ (CVl_e (fun b i x y => ?_) (fun i => ?_) hI.vl) (WS_e (fun i => ?_) hI.ws), BF_e (fun b i x y => ?_) et hBF, BC_1 h1 ?_ hBC⟩
  · rw [hf 1 3 (by omega) (by omega) (by omega) (by omega), et]; exact hI.net.1
  · obtain ⟨n, e1, e2⟩ := hI.n
    exact ⟨n, e1, et.trans e2⟩
  · exact hf _ _ (by omega) (by omega) (by omega) (by omega)
  · exact hf _ _ (by omega) (by omega) (by omega) (by omega)
  · exact hf _ _ (by omega) (by omega) (by omega) (by omega)
  · exact hf _ _ (by omega) (by omega) (by omega) (by omega)
  · exact hf _ _ (by omega) (by omega) (by omega) (by omega)
  · exact hf _ _ (by omega) (by omega) (by omega) (by omega)
  · exact hf _ _ (by omega) (by omega) (by omega) (by omega)
  · exact hf _ _ (by omega) (by omega) (by omega) (by omega)
  · exact hf _ _ (by omega) (by omega) (by omega) (by omega)
  · by_cases e : 4 + i = j
    · rw [show i = j - 4 by omega, h4 (by omega), show 4 + (j - 4) = j by omega, h2]
    · rw [hf _ _ (by omega) (by omega) (by omega) (by omega), hf 185 _ (by omega) (by omega) (by omega) (by omega)]
      exact hI.ru.2.2.2.2 i hi
  · exact hf _ _ (by omega) (by omega) (by omega) (by omega)
  · exact hf _ _ (by omega) (by omega) (by omega) (by omega)
  · exact hf _ _ (by omega) (by omega) (by omega) (by omega)
  · exact hf _ _ (by omega) (by omega) (by omega) (by omega)
  · exact hf _ _ (by omega) (by omega) (by omega) (by omega)
theorem set10_4 {j : Nat} {v : Int32} {M : xM} (h1 : 4 ≤ j) (h2 : j < 12) : fX10_set (nI j) v M = if v < 0 ∨ (1000:Int32) < v then some (0, M) else some (1, xw M 185 (j - 4) v) := by
  have a0 : ¬ nI j = 0 := nI_ne (b := 0) (by omega) (by decide) (by omega)
  have a1 : ¬ nI j = 1 := nI_ne (b := 1) (by omega) (by decide) (by omega)
  have a2 : ¬ nI j = 2 := nI_ne (b := 2) (by omega) (by decide) (by omega)
  have a3 : ¬ nI j = 3 := nI_ne (b := 3) (by omega) (by decide) (by omega)
  have b1 : ¬ nI j < 4 := nI_nlt (a := j) (b := 4) (by omega) (by omega)
  have b2 : ¬ (11:Int32) < nI j := nI_nlt (a := 11) (by omega) (by decide)
  have e4 : nI j - 4 = nI (j - 4) := pk_sub (b := 4) h1
  have hb : xinb (nI (j - 4)) 8 = true := xinb_nI (by omega) (by decide)
  have hc : (nI (j - 4)).toNatClampNeg = j - 4 := nI_clamp (by omega)
  unfold fX10_set
  simp only [jn_at, a0, a1, a2, a3, isIn_1 (M := M) b1 b2, some_bind, i_10, e4, hb, hc, bd_at, ↓reduceIte]
  by_cases h : v < 0 ∨ (1000:Int32) < v
  · rw [isIn_0 h, some_bind, if_pos rfl, if_pos h]
  · rw [isIn_1 (fun x => h (Or.inl x)) (fun x => h (Or.inr x)), some_bind, if_neg i_10, if_neg h]
theorem set10_no {p v : Int32} {M : xM} (h : p < 0 ∨ 12 ≤ p) : fX10_set p v M = some (0, M) := by
  have a : ∀ i : Int32, (0 ≤ i.toInt ∧ i.toInt < 12) → ¬ p = i := fun i hi e => by
    rw [e] at h
    rw [Int32.lt_iff_toInt_lt, Int32.le_iff_toInt_le] at h
    have z0 : (0:Int32).toInt = 0 := by decide
    have z1 : (12:Int32).toInt = 12 := by decide
    omega
  have b : p < 4 ∨ (11:Int32) < p := by
    rw [Int32.lt_iff_toInt_lt, Int32.lt_iff_toInt_lt]
    rw [Int32.lt_iff_toInt_lt, Int32.le_iff_toInt_le] at h
    have z0 : (0:Int32).toInt = 0 := by decide
    have z1 : (12:Int32).toInt = 12 := by decide
    have z2 : (4:Int32).toInt = 4 := by decide
    have z3 : (11:Int32).toInt = 11 := by decide
    omega
  unfold fX10_set
  simp only [jn_at, a 0 (by decide), a 1 (by decide), a 2 (by decide), a 3 (by decide), isIn_0 (M := M) b, some_bind, ↓reduceIte]
theorem set10_3 {j : Nat} {v lo hi : Int32} {M : xM} (h : (j = 0 ∧ lo = 0 ∧ hi = 5000) ∨ (j = 1 ∧ lo = 0 ∧ hi = 200) ∨ (j = 2 ∧ lo = 1 ∧ hi = 5000) ∨ (j = 3 ∧ lo = 0 ∧ hi = 100)) : fX10_set (nI j) v M = if v < lo ∨ hi < v then some (0, M) else some (1, xw M 170 (16 + j) v) := by
  have q01 : ¬ nI 0 = 1 := by decide
  have q02 : ¬ nI 0 = 2 := by decide
  have q03 : ¬ nI 0 = 3 := by decide
  have q00 : nI 0 = 0 := by decide
  have q10 : ¬ nI 1 = 0 := by decide
  have q11 : nI 1 = 1 := by decide
  have q12 : ¬ nI 1 = 2 := by decide
  have q13 : ¬ nI 1 = 3 := by decide
  have q20 : ¬ nI 2 = 0 := by decide
  have q21 : ¬ nI 2 = 1 := by decide
  have q22 : nI 2 = 2 := by decide
  have q23 : ¬ nI 2 = 3 := by decide
  have q30 : ¬ nI 3 = 0 := by decide
  have q31 : ¬ nI 3 = 1 := by decide
  have q32 : ¬ nI 3 = 2 := by decide
  have q33 : nI 3 = 3 := by decide
  have b0 : fX10_isIn (nI 0) 4 11 M = some 0 := isIn_0 (Or.inl (by decide))
  have b1 : fX10_isIn (nI 1) 4 11 M = some 0 := isIn_0 (Or.inl (by decide))
  have b2 : fX10_isIn (nI 2) 4 11 M = some 0 := isIn_0 (Or.inl (by decide))
  have b3 : fX10_isIn (nI 3) 4 11 M = some 0 := isIn_0 (Or.inl (by decide))
  unfold fX10_set
  rcases h with ⟨rfl, rfl, rfl⟩ | ⟨rfl, rfl, rfl⟩ | ⟨rfl, rfl, rfl⟩ | ⟨rfl, rfl, rfl⟩
  · by_cases h : v < 0 ∨ (5000:Int32) < v
    · rw [if_pos h]
      simp only [jn_at, if_pos q00, if_neg q01, if_neg q02, if_neg q03, isIn_0 (M := M) h, b0, some_bind, ↓reduceIte]
    · rw [if_neg h]
      simp only [jn_at, if_pos q00, isIn_1 (M := M) (fun x => h (Or.inl x)) (fun x => h (Or.inr x)), bd_at, some_bind, i_10, ↓reduceIte]
  · by_cases h : v < 0 ∨ (200:Int32) < v
    · rw [if_pos h]
      simp only [jn_at, if_neg q10, if_pos q11, if_neg q12, if_neg q13, isIn_0 (M := M) h, b1, some_bind, ↓reduceIte]
    · rw [if_neg h]
      simp only [jn_at, if_neg q10, if_pos q11, isIn_1 (M := M) (fun x => h (Or.inl x)) (fun x => h (Or.inr x)), bd_at, some_bind, i_10, ↓reduceIte]
  · by_cases h : v < 1 ∨ (5000:Int32) < v
    · rw [if_pos h]
      simp only [jn_at, if_neg q20, if_neg q21, if_pos q22, if_neg q23, isIn_0 (M := M) h, b2, some_bind, ↓reduceIte]
    · rw [if_neg h]
      simp only [jn_at, if_neg q20, if_neg q21, if_pos q22, isIn_1 (M := M) (fun x => h (Or.inl x)) (fun x => h (Or.inr x)), bd_at, some_bind, i_10, ↓reduceIte]
  · by_cases h : v < 0 ∨ (100:Int32) < v
    · rw [if_pos h]
      simp only [jn_at, if_neg q30, if_neg q31, if_neg q32, if_pos q33, isIn_0 (M := M) h, b3, some_bind, ↓reduceIte]
    · rw [if_neg h]
      simp only [jn_at, if_neg q30, if_neg q31, if_neg q32, if_pos q33, isIn_1 (M := M) (fun x => h (Or.inl x)) (fun x => h (Or.inr x)), bd_at, some_bind, i_10, ↓reduceIte]
theorem set9_j {j : Nat} {v : Int32} {M : xM} (hj : j < 12) : fX9_set (nI j) v M = if v < xRL j ∨ xRM j < v then some (0, M) else some (1, xw (xw M 7 j v) 1 4 ((xw M 7 j v).1 1 4 + 1)) := by
  have hb : xinb (nI j) 12 = true := xinb_nI hj (by decide)
  have hc : (nI j).toNatClampNeg = j := nI_clamp (by omega)
  unfold fX9_set
  rw [if_neg (nI_pos (by omega)), if_neg (show ¬ (12:Int32) ≤ nI j from nI_ge (b := 12) hj (by decide))]
  simp only [hb, hc, bd_at, ↓reduceIte]
  by_cases h1 : v < xRL j
  · rw [if_pos h1, if_pos (Or.inl h1)]
  · rw [if_neg h1]
    by_cases h2 : v ≤ xRM j
    · rw [if_pos h2, if_neg (fun h => h.elim h1 (Int32.not_lt.mpr h2))]
    · rw [if_neg h2, if_pos (Or.inr (Int32.not_le.mp h2))]
theorem set10_j {j : Nat} {v : Int32} {M : xM} (hj : j < 12) : fX10_set (nI j) v M = if v < xRL j ∨ xRM j < v then some (0, M) else some (1, if j < 4 then xw M 170 (16 + j) v else xw M 185 (j - 4) v) := by
  by_cases h4 : j < 4
  · rw [if_pos h4]
    have : j = 0 ∨ j = 1 ∨ j = 2 ∨ j = 3 := by omega
    refine set10_3 ?_
    rcases this with rfl | rfl | rfl | rfl
    · exact Or.inl ⟨rfl, rfl, rfl⟩
    · exact Or.inr (Or.inl ⟨rfl, rfl, rfl⟩)
    · exact Or.inr (Or.inr (Or.inl ⟨rfl, rfl, rfl⟩))
    · exact Or.inr (Or.inr (Or.inr ⟨rfl, rfl, rfl⟩))
  · have hr : xRL j = 0 ∧ xRM j = 1000 := by
      have : j = 4 ∨ j = 5 ∨ j = 6 ∨ j = 7 ∨ j = 8 ∨ j = 9 ∨ j = 10 ∨ j = 11 := by omega
      rcases this with rfl | rfl | rfl | rfl | rfl | rfl | rfl | rfl <;> exact ⟨rfl, rfl⟩
    rw [if_neg h4, hr.1, hr.2]
    exact set10_4 (by omega) hj
theorem set_ok {p v : Int32} {M : xM} {c : Nat} (h0 : Inv M.1 c) : aR2 c (fX9_set p v M) (fX10_set p v) := by
  rcases i_tri p (n := 12) (by decide) with h | h | ⟨j, hj, rfl⟩
  · exact ⟨0, M, M, by unfold fX9_set; rw [if_pos h], set10_no (Or.inl h), c, by omega, h0⟩
  · have h2 : (12:Int32) ≤ p := h
    refine ⟨0, M, M, ?_, set10_no (Or.inr h2), c, by omega, h0⟩
    unfold fX9_set
    by_cases h1 : p < 0
    · rw [if_pos h1]
    · rw [if_neg h1, if_pos h2]
  · rw [set9_j hj]
    by_cases h : v < xRL j ∨ xRM j < v
    · rw [if_pos h]
      exact ⟨0, M, M, rfl, by rw [set10_j hj, if_pos h], c, by omega, h0⟩
    · rw [if_neg h]
      refine ⟨1, _, _, rfl, by rw [set10_j hj, if_neg h], c + 1, Nat.le_refl _, ?_⟩
      by_cases h4 : j < 4
      · rw [if_pos h4]
        refine Inv_set (v := v) hj h0 (fun a i b1 b2 b3 b4 => ?_) ?_ ?_ (fun _ => xv_eq) (fun h => absurd h (by omega))
        · rw [xv_ne (by omega), xv_ne (by omega), xv_ne (by omega)]
        · rw [xv_ne (by omega), xv_eq, xv_ne (by omega)]
        · rw [xv_ne (by omega), xv_ne (by omega), xv_eq]
      · rw [if_neg h4]
        refine Inv_set (v := v) hj h0 (fun a i b1 b2 b3 b4 => ?_) ?_ ?_ (fun h => absurd h h4) (fun _ => xv_eq)
        · rw [xv_ne (by omega), xv_ne (by omega), xv_ne (by omega)]
        · rw [xv_ne (by omega), xv_eq, xv_ne (by omega)]
        · rw [xv_ne (by omega), xv_ne (by omega), xv_eq]
