/-- what two places have told on the same past days -/
def sPast (m : sm) (k x : Nat) : Nat → Int64 × Int64
  | 0 => (0, 0)
  | e + 1 => if sTr m k e = -1 ∨ sTr m x e = -1 then sPast m k x e else ((sPast m k x e).1 + (sTr m k e).toInt64, (sPast m k x e).2 + (sTr m x e).toInt64)
theorem sPast_c {m m' : sm} (e : sEq m m') (k x : Nat) : ∀ n, sPast m' k x n = sPast m k x n
  | 0 => rfl
  | n + 1 => by simp only [sPast, sPast_c e k x n, sTr_c e]
/-- the day, and today with the last day as bound -/
abbrev sNow (m : sm) : Nat := (m 170 15).toNatClampNeg
abbrev sN (m : sm) : Prop := ∃ n, n ≤ 56 ∧ m 170 15 = nI n
def sW (v : Int32) : Int32 := if v = 0 then 288 else if 1 ≤ 144 / v then 144 / v else 1
def sRat (m : sm) (k x : Nat) : Int64 × Int64 := if (sPast m k x (sNow m)).2 = 0 then (1, 1) else sPast m k x (sNow m)
def sMs (m : sm) (k d : Nat) (r : Int64 × Int64) (x : Nat) : Int64 × Int64 :=
  (r.1 + (sTr m x d).toInt64 * (sRat m k x).1 * 1000 / (sRat m k x).2 * (sW (sDs m x k)).toInt64, r.2 + (sW (sDs m x k)).toInt64)
def sMay (m : sm) (k d : Nat) : Bool := !(m 171 k == 3) && !(decide (nI d < m 175 k)) && decide (nI d ≤ m 170 15) && (sTr m k d == -1)
def sMend (m : sm) (k d : Nat) : Int32 :=
  if sMay m k d = false ∨ sBys m k d = [] then -1
  else (((sBys m k d).foldl (sMs m k d) (0, 0)).1 / (((sBys m k d).foldl (sMs m k d) (0, 0)).2 * 1000)).toInt32
theorem sRat_c {m m' : sm} (e : sEq m m') (k x : Nat) : sRat m' k x = sRat m k x := by
  simp only [sRat, sNow, sPast_c e, e 170 _ (by decide)]
theorem sMs_c {m m' : sm} (e : sEq m m') (k d : Nat) : sMs m' k d = sMs m k d := by
  funext r x
  simp only [sMs, sTr_c e, sRat_c e, sDs_c e]
theorem sMay_c {m m' : sm} (e : sEq m m') (k d : Nat) : sMay m' k d = sMay m k d := by
  simp only [sMay, sTr_c e, e 171 _ (by decide), e 175 _ (by decide), e 170 _ (by decide)]
theorem sMend_c {m m' : sm} (e : sEq m m') (k d : Nat) : sMend m' k d = sMend m k d := by
  simp only [sMend, sMay_c e, sBys_c e, sMs_c e]
theorem sW_bound (v : Int32) : 1 ≤ (sW v).toInt ∧ (sW v).toInt ≤ 288 := by
  unfold sW
  by_cases h : v = 0
  · rw [if_pos h]; decide
  · rw [if_neg h]
    by_cases h1 : 1 ≤ 144 / v
    · rw [if_pos h1]
      rw [Int32.le_iff_toInt_le] at h1
      have e1 : (1:Int32).toInt = 1 := by decide
      rw [e1] at h1
      refine ⟨h1, ?_⟩
      clear h1
      have e2 : (144 / v).toInt = (144:Int32).toInt.tdiv v.toInt := Int32.toInt_div_of_ne_left _ _ (by decide)
      rw [e2]
      have e3 : (144:Int32).toInt = 144 := by decide
      rw [e3]
      have h4 : (Int.tdiv 144 v.toInt).natAbs = (144:Int).natAbs / v.toInt.natAbs := Int.natAbs_tdiv 144 v.toInt
      have h5 : (144:Int).natAbs / v.toInt.natAbs ≤ 144 := Nat.div_le_self _ _
      omega
    · rw [if_neg h1]; decide
/-- the sum of the weights of at most four -/
theorem sMs_sum (m : sm) (k d : Nat) : ∀ (L : List Nat) (r : Int64 × Int64) (a : Nat), 0 ≤ r.2.toInt → r.2.toInt ≤ 288 * a → a + L.length ≤ 4 → (r.2.toInt + L.length ≤ (L.foldl (sMs m k d) r).2.toInt ∧ (L.foldl (sMs m k d) r).2.toInt ≤ 288 * 4)
  | [], r, a, h0, h, h4 => by
    simp only [List.foldl_nil, List.length_nil] at *
    omega
  | x :: L, r, a, h0, h, h4 => by
    simp only [List.foldl_cons, List.length_cons] at *
    have hw := sW_bound (sDs m x k)
    have e1 : (sMs m k d r x).2.toInt = r.2.toInt + (sW (sDs m x k)).toInt := by
      show (r.2 + (sW (sDs m x k)).toInt64).toInt = _
      rw [Int64.toInt_add, Int32.toInt_toInt64]
      apply Int.bmod_eq_of_le <;> omega
    have := sMs_sum m k d L (sMs m k d r x) (a + 1) (by omega) (by omega) (by omega)
    omega
theorem sMs_ne {m : sm} {k d : Nat} {L : List Nat} (h : ¬ L = []) (h4 : L.length ≤ 4) : ¬ (L.foldl (sMs m k d) (0, 0)).2 * 1000 = 0 := by
  have hl : 0 < L.length := List.length_pos_iff.mpr h
  have h1 := sMs_sum m k d L (0, 0) 0 (by decide) (by decide) (by omega)
  have e0 : ((0, 0) : Int64 × Int64).2.toInt = 0 := by decide
  rw [e0] at h1
  intro e
  have e2 := congrArg Int64.toInt e
  rw [Int64.toInt_mul] at e2
  have e3 : (1000:Int64).toInt = 1000 := by decide
  have e4 : (0:Int64).toInt = 0 := by decide
  rw [e3, e4] at e2
  rw [Int.bmod_eq_of_le (by omega) (by omega)] at e2
  omega
theorem mayMend_eq {k d : Nat} {M : xM} (hk : k < 16) (hd : d < 56) (hh : sH M.1) : fX10_mayMend (nI k) (nI d) M = some (if sMay M.1 k d = true then 1 else 0) := by
  have hb : xinb (nI k) 16 = true := xinb_nI hk (by decide)
  have hc : (nI k).toNatClampNeg = k := nI_clamp (by omega)
  have h10 : ¬ (1:Int32) = 0 := by decide
  unfold fX10_mayMend sMay
  by_cases e1 : M.1 171 k = 3
  · simp [hb, hc, e1]
  · by_cases e2 : nI d < M.1 175 k
    · simp only [hb, hc, e1, ↓reduceIte]
      rw [isIn_0 (Or.inl e2)]
      simp [some_bind, e2]
    · simp only [hb, hc, e1, ↓reduceIte]
      rw [isIn_1 e2 (show ¬ (55:Int32) < nI d from nI_nlt (b := d) (a := 55) (by omega) (by decide))]
      simp only [some_bind, h10, ↓reduceIte]
      by_cases e3 : M.1 170 15 < nI d
      · have e3' : ¬ nI d ≤ M.1 170 15 := Int32.not_le.mpr e3
        simp [e3, e3']
      · have e3' : nI d ≤ M.1 170 15 := Int32.not_lt.mp e3
        rw [trusted_eq hk hd hh]
        by_cases e4 : sTr M.1 k d = -1
        · simp [some_bind, e1, e2, e3, e3', e4]
        · simp [some_bind, e1, e2, e3, e3', e4]
abbrev sIntR (M : xM) (v : Int32) (o : Option (Int32 × xM)) : Prop := ∃ M' : xM, o = some (v, M') ∧ sEq M.1 M'.1
theorem mended_eq {k d : Nat} {M : xM} (hk : k < 16) (hd : d < 56) (hh : sH M.1) (hn : sN M.1) : sIntR M (sMend M.1 k d) (fX10_mended (nI k) (nI d) M) := by
  have hb : xinb (nI k) 16 = true := xinb_nI hk (by decide)
  have hc : (nI k).toNatClampNeg = k := nI_clamp (by omega)
  have h10 : ¬ (1:Int32) = 0 := by decide
  obtain ⟨n, hn9, hn⟩ := hn
  have hnn : sNow M.1 = n := by unfold sNow; rw [hn, nI_clamp (by omega)]
  unfold fX10_mended
  rw [mayMend_eq hk hd hh, some_bind]
  rcases Bool.eq_false_or_eq_true (sMay M.1 k d) with hm | hm
  · rw [if_pos hm]
    simp only [h10, ↓reduceIte]
    obtain ⟨M1, hr, he, h188⟩ := bys_eq (M := M) hk hd hh
    rw [hr, some_bind]
    have hl := sBys_len M.1 k d
    have hmm := fun y => sBys_mem (m := M.1) (k := k) (d := d) (y := y)
    have hq : ∀ q, sMend M.1 k d = q ↔ (if sBys M.1 k d = [] then -1 else (((sBys M.1 k d).foldl (sMs M.1 k d) (0, 0)).1 / (((sBys M.1 k d).foldl (sMs M.1 k d) (0, 0)).2 * 1000)).toInt32) = q := by
      intro q
      unfold sMend
      rw [hm]
      simp only [reduceCtorEq, false_or]
    rw [show sMend M.1 k d = (if sBys M.1 k d = [] then -1 else (((sBys M.1 k d).foldl (sMs M.1 k d) (0, 0)).1 / (((sBys M.1 k d).foldl (sMs M.1 k d) (0, 0)).2 * 1000)).toInt32) from (hq _).mpr rfl]
    clear hq
    generalize hL : sBys M.1 k d = L at *
    by_cases hL0 : L = []
    · subst hL0
      have g1 : nI ([] : List Nat).length = 0 := by decide
      simp only [g1, ↓reduceIte]
      exact ⟨M1, rfl, he⟩
    · have hlp : 0 < L.length := List.length_pos_iff.mpr hL0
      have g1 : ¬ nI L.length = 0 := nI_ne (b := 0) (by omega) (by decide) (by omega)
      simp only [g1, hL0, ↓reduceIte]
      refine ⟨M1, ?_, he⟩
      refine lp_for (fun i => (((L.take i).foldl (sMs M.1 k d) (0, 0)).1, ((L.take i).foldl (sMs M.1 k d) (0, 0)).2, nI i)) _ L.length (fun i kk hi hkk => ?_) (fun kk => ?_) xfu 0 (Nat.zero_le _) (by unfold xfu; omega)
      · have g2 : ¬ nI L.length ≤ nI i := nI_ge hi (by omega)
        have hb4 : xinb (nI i) 4 = true := xinb_nI (by omega) (by decide)
        have hc4 : (nI i).toNatClampNeg = i := nI_clamp (by omega)
        obtain ⟨x, hx⟩ : ∃ x, L[i]? = some x := ⟨L[i], List.getElem?_eq_getElem hi⟩
        have hx16 := (hmm x (List.mem_of_getElem? hx)).1
        have hrow := h188 i x hx
        have htk : (L.take (i + 1)).foldl (sMs M.1 k d) (0, 0) = sMs M.1 k d ((L.take i).foldl (sMs M.1 k d) (0, 0)) x := by
          rw [List.take_add_one, hx, List.foldl_append]
          rfl
        rw [htk] at hkk
        generalize (L.take i).foldl (sMs M.1 k d) (0, 0) = r at hkk ⊢
        simp only [g2, hb4, hc4, hrow, bd, ↓reduceIte]
        refine lp_for (fun e => ((sPast M.1 k x e).1, (sPast M.1 k x e).2, nI e)) _ n (fun e kk2 hen hkk2 => ?_) (fun kk2 => ?_) xfu 0 (Nat.zero_le _) (by unfold xfu; omega)
        · have g3 : ¬ M1.1 170 15 ≤ nI e := by rw [he 170 15 (by decide), hn]; exact nI_ge hen (by omega)
          have g4 : ¬ (56:Int32) ≤ nI e := nI_ge (b := 56) (by omega) (by decide)
          simp only [jn, g3, g4, ↓reduceIte]
          rw [trusted_eq hk (by omega) (sH_c he hh), trusted_eq hx16 (by omega) (sH_c he hh)]
          simp only [some_bind, sTr_c he, nI_1, Int64.add_zero]
          simp only [sPast] at hkk2
          by_cases e1 : sTr M.1 k e = -1
          · simpa only [e1, ↓reduceIte, true_or] using hkk2
          · by_cases e2 : sTr M.1 x e = -1
            · simpa only [e1, e2, ↓reduceIte, or_true] using hkk2
            · simpa only [e1, e2, ↓reduceIte, or_self] using hkk2
        · have g3 : M1.1 170 15 ≤ nI n := by rw [he 170 15 (by decide), hn]; exact Int32.le_refl _
          simp only [jn, g3, hb, hc, ↓reduceIte, far_eq hx16, some_bind, nI_1]
          rw [trusted_eq hx16 hd (sH_c he hh), some_bind, sTr_c he, sFar_c he, he 172 _ (by decide), he 173 _ (by decide)]
          have hw : ∀ K : Int32 → Option (Int32 × xM), (if sFar M.1 x (M.1 172 k) (M.1 173 k) = 0 then K 288 else if sFar M.1 x (M.1 172 k) (M.1 173 k) = 0 then none else if 1 ≤ 144 / sFar M.1 x (M.1 172 k) (M.1 173 k) then if sFar M.1 x (M.1 172 k) (M.1 173 k) = 0 then none else K (144 / sFar M.1 x (M.1 172 k) (M.1 173 k)) else K 1) = K (sW (sDs M.1 x k)) := by
            intro K
            unfold sW sDs
            by_cases e1 : sFar M.1 x (M.1 172 k) (M.1 173 k) = 0
            · simp only [e1, ↓reduceIte]
            · by_cases e2 : 1 ≤ 144 / sFar M.1 x (M.1 172 k) (M.1 173 k)
              · simp only [e1, e2, ↓reduceIte]
              · simp only [e1, e2, ↓reduceIte]
          have hrat : sRat M.1 k x = if (sPast M.1 k x n).2 = 0 then (1, 1) else sPast M.1 k x n := by
            unfold sRat
            rw [hnn]
          by_cases e5 : (sPast M.1 k x n).2 = 0
          · have e5' : lg_cmp (sPast M.1 k x n).2 0 = 0 := (lg_cmp_eq _ _).mpr e5
            have e6 : ¬ (1:Int64) = 0 := by decide
            simp only [e5', e6, ↓reduceIte]
            refine Eq.trans (hw (fun w => (some (sTr M.1 x d)).bind fun v48 => kk (r.1 + v48.toInt64 * 1 * 1000 / 1 * w.toInt64, r.2 + w.toInt64, nI (i + 1)))) ?_
            simpa only [some_bind, sMs, hrat, e5, ↓reduceIte] using hkk
          · have e5' : ¬ lg_cmp (sPast M.1 k x n).2 0 = 0 := fun h => e5 ((lg_cmp_eq _ _).mp h)
            simp only [e5', e5, ↓reduceIte]
            refine Eq.trans (hw (fun w => (some (sTr M.1 x d)).bind fun v48 => kk (r.1 + v48.toInt64 * (sPast M.1 k x n).1 * 1000 / (sPast M.1 k x n).2 * w.toInt64, r.2 + w.toInt64, nI (i + 1)))) ?_
            simpa only [some_bind, sMs, hrat, e5, ↓reduceIte] using hkk
      · have g2 : nI L.length ≤ nI L.length := Int32.le_refl _
        have g3 := sMs_ne (m := M.1) (k := k) (d := d) hL0 hl
        simp only [g2, List.take_length, g3, ↓reduceIte]
  · rw [hm]
    simp only [reduceCtorEq, ↓reduceIte]
    refine ⟨M, ?_, fun _ _ _ => rfl⟩
    unfold sMend
    simp only [hm, true_or, ↓reduceIte]
