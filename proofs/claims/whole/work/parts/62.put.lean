/-! ===== put, lift ===== -/
def szOf (kd : Nat) (z : Int32) : Int32 := if kd = 1 ∨ kd = 4 then z else 0
def fiOf (kd n : Nat) : Int32 := if kd = 5 then 0 else nI n
theorem put9 {k kd x y n : Nat} {z : Int32} {M : xM} (hk : k < 16) (hkd : kd ≤ 5) (hx : x < 10) (hy : y < 10) (hz : kd = 1 ∨ kd = 4 → ¬ z < 1 ∧ z ≤ 20) (h13 : M.1 1 3 = nI n) (he : M.1 (8 + 4 * k) 0 = -1) : ∃ M1 : xM, fX9_put (nI k) (nI kd) (nI x) (nI y) z M = some (nI k, M1) ∧ (∀ j i, ¬ (j = 8 + 4 * k ∧ i < 5) → ¬ (j = 1 ∧ i = 4) → M1.1 j i = M.1 j i) ∧ (M1.1 (8 + 4 * k) 0 = nI kd ∧ M1.1 (8 + 4 * k) 1 = nI x ∧ M1.1 (8 + 4 * k) 2 = nI y ∧ M1.1 (8 + 4 * k) 3 = szOf kd z ∧ M1.1 (8 + 4 * k) 4 = fiOf kd n) ∧ M1.1 1 4 = M.1 1 4 + 1 := by
  have hb : xinb (nI k) 16 = true := xinb_nI hk (by decide)
  have hc : (nI k).toNatClampNeg = k := nI_clamp (by omega)
  have g1 : ¬ nI kd < 0 := nI_pos (by omega)
  have g2 : ¬ (5:Int32) < nI kd := nI_nlt (a := 5) (by omega) (by decide)
  have s1 : nI kd = 1 ↔ kd = 1 := nI_eq (b := 1) (by omega) (by decide)
  have s4 : nI kd = 4 ↔ kd = 4 := nI_eq (b := 4) (by omega) (by decide)
  have s5 : nI kd = 5 ↔ kd = 5 := nI_eq (b := 5) (by omega) (by decide)
  have bring : ∀ a b : Int32, a = szOf kd z → b = fiOf kd n → ∃ M1 : xM, ((fX7_bring k (nI kd) (nI x) (nI y) a b M).bind fun q22 => bd (xw q22 1 4 ((q22.1 1 4) + (1:Int32))) fun m23 => some (nI k, m23)) = some (nI k, M1) ∧ (∀ j i, ¬ (j = 8 + 4 * k ∧ i < 5) → ¬ (j = 1 ∧ i = 4) → M1.1 j i = M.1 j i) ∧ (M1.1 (8 + 4 * k) 0 = nI kd ∧ M1.1 (8 + 4 * k) 1 = nI x ∧ M1.1 (8 + 4 * k) 2 = nI y ∧ M1.1 (8 + 4 * k) 3 = szOf kd z ∧ M1.1 (8 + 4 * k) 4 = fiOf kd n) ∧ M1.1 1 4 = M.1 1 4 + 1 := by
    intro a b ha hb
    unfold fX7_bring
    simp only [bd_at, some_bind]
    refine ⟨_, rfl, fun j i b1 b2 => ?_, ⟨?_, ?_, ?_, ?_, ?_⟩, ?_⟩
    · rw [xv_ne (by omega), xv_ne (by omega), xv_ne (by omega), xv_ne (by omega), xv_ne (by omega), xv_ne (by omega)]
    · rw [xv_ne (by omega), xv_ne (by omega), xv_ne (by omega), xv_ne (by omega), xv_ne (by omega), xv_eq]
    · rw [xv_ne (by omega), xv_ne (by omega), xv_ne (by omega), xv_ne (by omega), xv_eq]
    · rw [xv_ne (by omega), xv_ne (by omega), xv_ne (by omega), xv_eq]
    · rw [xv_ne (by omega), xv_ne (by omega), xv_eq, ha]
    · rw [xv_ne (by omega), xv_eq, hb]
    · rw [xv_eq, xv_ne (by omega), xv_ne (by omega), xv_ne (by omega), xv_ne (by omega), xv_ne (by omega)]
  unfold fX9_put
  simp only [isPlace_nI hk, isSq_1 hx hy, hasSize_eq, jn_at, some_bind, i_10, g1, g2, hb, hc, he, h13, s1, s4, s5, ↓reduceIte]
  by_cases e1 : kd = 1 ∨ kd = 4
  · have hz := hz e1
    have e5 : ¬ kd = 5 := by omega
    simp only [if_pos e1, i_10, hz.1, hz.2, e5, ↓reduceIte]
    exact bring z (nI n) (if_pos e1).symm (if_neg e5).symm
  · simp only [if_neg e1, ↓reduceIte]
    by_cases e5 : kd = 5
    · rw [if_pos e5]
      exact bring 0 0 (if_neg e1).symm (if_pos e5).symm
    · rw [if_neg e5]
      exact bring 0 (nI n) (if_neg e1).symm (if_neg e5).symm
abbrev pu10 (M : xM) (k kd x y n : Nat) (z : Int32) (o : Option (Int32 × xM)) : Prop := ∃ M1 : xM, o = some (nI k, M1) ∧ (∀ j i, ¬ (171 ≤ j ∧ j ≤ 176 ∧ i = k) → ¬ (177 ≤ j ∧ j ≤ 180 ∧ 56 * k ≤ i ∧ i < 56 * k + 56) → M1.1 j i = M.1 j i) ∧ (M1.1 171 k = nI kd ∧ M1.1 172 k = nI x ∧ M1.1 173 k = nI y ∧ M1.1 174 k = szOf kd z ∧ M1.1 175 k = fiOf kd n ∧ M1.1 176 k = 0) ∧ ∀ d, d < 56 → M1.1 177 (56 * k + d) = -1 ∧ M1.1 178 (56 * k + d) = -1 ∧ M1.1 179 (56 * k + d) = -1 ∧ M1.1 180 (56 * k + d) = -1
theorem put10 {k kd x y n : Nat} {z : Int32} {M : xM} (hk : k < 16) (hkd : kd ≤ 5) (hx : x < 10) (hy : y < 10) (hz : kd = 1 ∨ kd = 4 → ¬ z < 1 ∧ z ≤ 20) (hn : M.1 170 15 = nI n) (he : M.1 171 k = -1) : pu10 M k kd x y n z (fX10_put (nI k) (nI kd) (nI x) (nI y) z M) := by
  have hb : xinb (nI k) 16 = true := xinb_nI hk (by decide)
  have hc : (nI k).toNatClampNeg = k := nI_clamp (by omega)
  have g1 : fX10_isIn (nI kd) 0 5 M = some 1 := isIn_1 (nI_pos (by omega)) (show ¬ (5:Int32) < nI kd from nI_nlt (a := 5) (by omega) (by decide))
  have s1 : nI kd = 1 ↔ kd = 1 := nI_eq (b := 1) (by omega) (by decide)
  have s4 : nI kd = 4 ↔ kd = 4 := nI_eq (b := 4) (by omega) (by decide)
  have s5 : nI kd = 5 ↔ kd = 5 := nI_eq (b := 5) (by omega) (by decide)
  have loop : ∀ N : xM, (∀ j i, ¬ (171 ≤ j ∧ j ≤ 176 ∧ i = k) → N.1 j i = M.1 j i) → (N.1 171 k = nI kd ∧ N.1 172 k = nI x ∧ N.1 173 k = nI y ∧ N.1 174 k = szOf kd z ∧ N.1 175 k = fiOf kd n ∧ N.1 176 k = 0) → pu10 M k kd x y n z (lp (fun (s46 : (Int32 × xM)) (kk47 : (Int32 × xM) → Option (Int32 × xM)) =>
                                    if (56:Int32) ≤ s46.1 then
                                      some (nI k, s46.2)
                                    else
                                      (fX10_at (nI k) s46.1 s46.2).bind fun v49 =>
                                      if xinb v49 896 then
                                        bd (xw s46.2 177 v49.toNatClampNeg (-1:Int32)) fun m51 =>
                                        (fX10_at (nI k) s46.1 m51).bind fun v53 =>
                                        if xinb v53 896 then
                                          bd (xw m51 178 v53.toNatClampNeg (-1:Int32)) fun m55 =>
                                          (fX10_at (nI k) s46.1 m55).bind fun v57 =>
                                          if xinb v57 896 then
                                            bd (xw m55 179 v57.toNatClampNeg (-1:Int32)) fun m59 =>
                                            (fX10_at (nI k) s46.1 m59).bind fun v61 =>
                                            if xinb v61 896 then
                                              bd (xw m59 180 v61.toNatClampNeg (-1:Int32)) fun m63 =>
                                              kk47 ((s46.1 + 1), m63)
                                            else none
                                          else none
                                        else none
                                      else none) xfu ((0:Int32), N)) := by
    intro N hN hF
    refine lp_post (Q := pu10 M k kd x y n z) (fun s => ∃ (e : Nat) (N' : xM), e ≤ 56 ∧ s = (nI e, N') ∧ (∀ j i, ¬ (171 ≤ j ∧ j ≤ 176 ∧ i = k) → ¬ (177 ≤ j ∧ j ≤ 180 ∧ 56 * k ≤ i ∧ i < 56 * k + 56) → N'.1 j i = M.1 j i) ∧ (N'.1 171 k = nI kd ∧ N'.1 172 k = nI x ∧ N'.1 173 k = nI y ∧ N'.1 174 k = szOf kd z ∧ N'.1 175 k = fiOf kd n ∧ N'.1 176 k = 0) ∧ ∀ d, d < e → N'.1 177 (56 * k + d) = -1 ∧ N'.1 178 (56 * k + d) = -1 ∧ N'.1 179 (56 * k + d) = -1 ∧ N'.1 180 (56 * k + d) = -1) (fun s => 57 - s.1.toNatClampNeg) ?_ xfu _ ⟨0, N, by omega, rfl, fun j i a b => hN j i a, hF, fun d h => absurd h (by omega)⟩ (by unfold xfu; show 57 - _ < 1000; omega)
    rintro s kk ⟨e, N', h1, rfl, h2, h3, h4⟩ hkk
    by_cases e1 : e = 56
    · subst e1
      have g : (56:Int32) ≤ nI 56 := by decide
      simp only [g, ↓reduceIte]
      exact ⟨N', rfl, h2, h3, h4⟩
    · have g : ¬ (56:Int32) ≤ nI e := nI_ge (b := 56) (by omega) (by decide)
      have hec : (nI e).toNatClampNeg = e := nI_clamp (by omega)
      have hec1 : (nI (e + 1)).toNatClampNeg = e + 1 := nI_clamp (by omega)
      have hab : xinb (nI (56 * k + e)) 896 = true := xinb_nI (by omega) (by decide)
      have hac : (nI (56 * k + e)).toNatClampNeg = 56 * k + e := nI_clamp (by omega)
      simp only [g, at_nI, some_bind, hab, hac, bd_at, ↓reduceIte, nI_1]
      refine hkk _ ⟨e + 1, _, by omega, rfl, fun j i a b => ?_, ⟨?_, ?_, ?_, ?_, ?_, ?_⟩, fun d hd => ?_⟩ (by simp only [hec, hec1]; omega)
      · rw [xv_ne (by omega), xv_ne (by omega), xv_ne (by omega), xv_ne (by omega)]
        exact h2 j i a b
      · rw [xv_ne (by omega), xv_ne (by omega), xv_ne (by omega), xv_ne (by omega)]; exact h3.1
      · rw [xv_ne (by omega), xv_ne (by omega), xv_ne (by omega), xv_ne (by omega)]; exact h3.2.1
      · rw [xv_ne (by omega), xv_ne (by omega), xv_ne (by omega), xv_ne (by omega)]; exact h3.2.2.1
      · rw [xv_ne (by omega), xv_ne (by omega), xv_ne (by omega), xv_ne (by omega)]; exact h3.2.2.2.1
      · rw [xv_ne (by omega), xv_ne (by omega), xv_ne (by omega), xv_ne (by omega)]; exact h3.2.2.2.2.1
      · rw [xv_ne (by omega), xv_ne (by omega), xv_ne (by omega), xv_ne (by omega)]; exact h3.2.2.2.2.2
      · by_cases e2 : d = e
        · subst e2
          refine ⟨?_, ?_, ?_, ?_⟩
          · rw [xv_ne (by omega), xv_ne (by omega), xv_ne (by omega), xv_eq]
          · rw [xv_ne (by omega), xv_ne (by omega), xv_eq]
          · rw [xv_ne (by omega), xv_eq]
          · rw [xv_eq]
        · have := h4 d (by omega)
          refine ⟨?_, ?_, ?_, ?_⟩
          · rw [xv_ne (by omega), xv_ne (by omega), xv_ne (by omega), xv_ne (by omega)]; exact this.1
          · rw [xv_ne (by omega), xv_ne (by omega), xv_ne (by omega), xv_ne (by omega)]; exact this.2.1
          · rw [xv_ne (by omega), xv_ne (by omega), xv_ne (by omega), xv_ne (by omega)]; exact this.2.2.1
          · rw [xv_ne (by omega), xv_ne (by omega), xv_ne (by omega), xv_ne (by omega)]; exact this.2.2.2
  have made : ∀ a b : Int32, a = szOf kd z → b = fiOf kd n → ∀ N : xM, N = xw (xw (xw (xw (xw (xw M 171 k (nI kd)) 172 k (nI x)) 173 k (nI y)) 174 k a) 175 k b) 176 k 0 → (∀ j i, ¬ (171 ≤ j ∧ j ≤ 176 ∧ i = k) → N.1 j i = M.1 j i) ∧ (N.1 171 k = nI kd ∧ N.1 172 k = nI x ∧ N.1 173 k = nI y ∧ N.1 174 k = szOf kd z ∧ N.1 175 k = fiOf kd n ∧ N.1 176 k = 0) := by
    intro a b ha hb N hN
    refine ⟨fun j i h => ?_, ?_, ?_, ?_, ?_, ?_, ?_⟩
    · rw [hN, xv_ne (by omega), xv_ne (by omega), xv_ne (by omega), xv_ne (by omega), xv_ne (by omega), xv_ne (by omega)]
    · rw [hN, xv_ne (by omega), xv_ne (by omega), xv_ne (by omega), xv_ne (by omega), xv_ne (by omega), xv_eq]
    · rw [hN, xv_ne (by omega), xv_ne (by omega), xv_ne (by omega), xv_ne (by omega), xv_eq]
    · rw [hN, xv_ne (by omega), xv_ne (by omega), xv_ne (by omega), xv_eq]
    · rw [hN, xv_ne (by omega), xv_ne (by omega), xv_eq, ha]
    · rw [hN, xv_ne (by omega), xv_eq, hb]
    · rw [hN, xv_eq]
  have t15 : ∀ a : Int32, (xw (xw (xw (xw M 171 k (nI kd)) 172 k (nI x)) 173 k (nI y)) 174 k a).1 170 15 = nI n := fun a => by
    rw [xv_ne (by omega), xv_ne (by omega), xv_ne (by omega), xv_ne (by omega)]; exact hn
  unfold fX10_put
  by_cases e1 : kd = 1 ∨ kd = 4
  · have hz := hz e1
    have e5 : ¬ kd = 5 := by omega
    have g5 : fX10_isIn z 1 20 M = some 1 := isIn_1 hz.1 (Int32.not_lt.mpr hz.2)
    have fin : ∀ N : xM, N = xw (xw (xw (xw (xw (xw M 171 k (nI kd)) 172 k (nI x)) 173 k (nI y)) 174 k z) 175 k (nI n)) 176 k 0 → _ := fun N hN => loop N (made z (nI n) (if_pos e1).symm (if_neg e5).symm N hN).1 (made z (nI n) (if_pos e1).symm (if_neg e5).symm N hN).2
    rcases e1 with e1 | e1
    · subst e1
      have q1 : nI 1 = 1 := by decide
      have q5 : ¬ nI 1 = 5 := by decide
      simp only [jn_at, q1, ↓reduceIte, i_10]
      rw [q1] at t15 g1 fin q5
      simp only [isIn_place hk, isIn_09 hx, isIn_09 hy, g1, g5, some_bind, i_10, hb, hc, he, bd_at, t15, q5, ↓reduceIte]
      exact fin _ rfl
    · subst e1
      have q1 : ¬ nI 4 = 1 := by decide
      have q4 : nI 4 = 4 := by decide
      have q5 : ¬ nI 4 = 5 := by decide
      have q41 : ¬ (4:Int32) = 1 := by decide
      simp only [jn_at, q4, q41, ↓reduceIte, i_10]
      rw [q4] at t15 g1 fin q5
      simp only [isIn_place hk, isIn_09 hx, isIn_09 hy, g1, g5, some_bind, i_10, hb, hc, he, bd_at, t15, q5, ↓reduceIte]
      exact fin _ rfl
  · have n1 : ¬ nI kd = 1 := fun h => e1 (Or.inl (s1.mp h))
    have n4 : ¬ nI kd = 4 := fun h => e1 (Or.inr (s4.mp h))
    simp only [jn_at, n1, n4, ↓reduceIte]
    simp only [isIn_place hk, isIn_09 hx, isIn_09 hy, g1, some_bind, i_10, hb, hc, he, bd_at, t15, s5, ↓reduceIte]
    by_cases e5 : kd = 5
    · rw [if_pos e5]
      have := made 0 0 (if_neg e1).symm (if_pos e5).symm _ rfl
      exact loop _ this.1 this.2
    · rw [if_neg e5]
      have := made 0 (nI n) (if_neg e1).symm (if_neg e5).symm _ rfl
      exact loop _ this.1 this.2
