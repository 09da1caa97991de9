/-- the nearest that are no stores -/
def sNb (m : sm) (k : Nat) : List Nat := ((sRows m k 16).filter (fun y => !(m 171 y == 3))).take 4
theorem sNb_c {m m' : sm} (e : sEq m m') (k : Nat) : sNb m' k = sNb m k := by
  simp only [sNb, sRows_c e, e 171 _ (by decide)]
def sDay (m : sm) (k d : Nat) : Bool := !(sTr m k d == -1) && (sNb m k).all (fun y => !(sTr m y d == -1))
def sNs (m : sm) (k d : Nat) : Int64 := (sNb m k).foldl (fun a y => a + (sTr m y d).toInt64) 0
theorem sDay_c {m m' : sm} (e : sEq m m') (k d : Nat) : sDay m' k d = sDay m k d := by
  simp only [sDay, sNb_c e, sTr_c e]
theorem sNs_c {m m' : sm} (e : sEq m m') (k d : Nat) : sNs m' k d = sNs m k d := by
  simp only [sNs, sNb_c e, sTr_c e]
/-- what the first n days of a week give: own or the neighbours' -/
def sWk (m : sm) (k w : Nat) (own : Bool) : Nat → Int64
  | 0 => 0
  | n + 1 => if sDay m k (7 * w + n) = false then sWk m k w own n else sWk m k w own n + (if own = true then (sTr m k (7 * w + n)).toInt64 else sNs m k (7 * w + n))
theorem sWk_c {m m' : sm} (e : sEq m m') (k w : Nat) (own : Bool) : ∀ n, sWk m' k w own n = sWk m k w own n
  | 0 => rfl
  | n + 1 => by simp only [sWk, sWk_c e k w own n, sDay_c e, sTr_c e, sNs_c e]
abbrev sLong2R (M : xM) (v : Int64) (o : Option (Int64 × xM)) : Prop := ∃ M' : xM, o = some (v, M') ∧ sEq M.1 M'.1 ∧ M'.2 = M.2
theorem weekOf_eq {k w : Nat} {own : Bool} {M : xM} (hk : k < 16) (hw : w < 8) (hh : sH M.1) : sLong2R M (sWk M.1 k w own 7) (fX10_weekOf (nI k) (nI w) (if own = true then 1 else 0) M) := by
  have h10 : ¬ (1:Int32) = 0 := by decide
  unfold fX10_weekOf
  have h7 : (7:Int32) * nI w = nI (7 * w) := by
    show nI 7 * nI w = _
    rw [pk_mul]
  have h77 : nI (7 * w) + (7:Int32) = nI (7 * w + 7) := by
    show nI (7 * w) + nI 7 = _
    rw [nI_add]
  rw [bd_at]
  simp only [h7, h77]
  refine lp_post (Q := sLong2R M (sWk M.1 k w own 7)) (fun s => ∃ (i : Nat) (N : xM), i ≤ 7 ∧ s = (sWk M.1 k w own i, nI (7 * w + i), N) ∧ sEq M.1 N.1 ∧ N.2 = M.2) (fun s => 64 - s.2.1.toNatClampNeg) ?_ xfu _ ⟨0, M, by omega, rfl, fun _ _ _ => rfl, rfl⟩ (by unfold xfu; show 64 - _ < 1000; omega)
  rintro s kk ⟨i, N, hi, rfl, he, h2⟩ hkk
  by_cases e5 : i = 7
  · subst e5
    have g1 : nI (7 * w + 7) ≤ nI (7 * w + 7) := Int32.le_refl _
    simp only [g1, ↓reduceIte]
    exact ⟨N, rfl, he, h2⟩
  · have hi : i < 7 := by omega
    have g1 : ¬ nI (7 * w + 7) ≤ nI (7 * w + i) := nI_ge (by omega) (by omega)
    have hc4 : (nI (7 * w + i)).toNatClampNeg = 7 * w + i := nI_clamp (by omega)
    have hc5 : (nI (7 * w + (i + 1))).toNatClampNeg = 7 * w + (i + 1) := nI_clamp (by omega)
    have hd : 7 * w + i < 56 := by omega
    have hs : sWk M.1 k w own (i + 1) = if sDay M.1 k (7 * w + i) = false then sWk M.1 k w own i else sWk M.1 k w own i + (if own = true then (sTr M.1 k (7 * w + i)).toInt64 else sNs M.1 k (7 * w + i)) := rfl
    simp only [g1, ↓reduceIte]
    obtain ⟨N1, h3, h4, h187⟩ := rows_eq (M := N) hk
    have h5 : N1.2 = M.2 := (rows_2 _ h3).trans h2
    have he1 := sEq_t he h4
    rw [sRows_c he] at h3 h187
    have hT : ∀ {y : Nat}, y < 16 → fX10_trusted (nI y) (nI (7 * w + i)) N1 = some (sTr M.1 y (7 * w + i)) := fun h => by
      rw [trusted_eq h hd (sH_c he1 hh), sTr_c he1]
    rw [h3, some_bind]
    simp only [hT hk, some_bind, nI_1]
    have hl := sRows_len M.1 k 16
    have hm := fun y => sRows_mem (m := M.1) (k := k) (y := y) 16
    have hNb : ∀ A B : List Nat, sRows M.1 k 16 = A ++ B → sNb M.1 k = ((A.filter (fun y => !(M.1 171 y == 3))) ++ (B.filter (fun y => !(M.1 171 y == 3)))).take 4 := by
      intro A B h
      unfold sNb
      rw [h, List.filter_append]
    generalize hL : sRows M.1 k 16 = L at *
    generalize hd8 : 7 * w + i = d at *
    generalize hW : sWk M.1 k w own i = W at *
    -- the inner loop, over the rows
    have inner : ∀ K : Unit, sLong2R M (sWk M.1 k w own 7) (lp (fun (s11 : (Int32 × Int32 × Int64 × Int32)) (kk12 : (Int32 × Int32 × Int64 × Int32) → Option (Int64 × xM)) =>
          jn (fun (s14 : Unit) =>
            if s11.2.1 = 0 then
              kk (W, nI (d + 1), N1)
            else
              if (if own = true then (1:Int32) else 0) = 0 then
                bd (W + s11.2.2.1) fun x32 =>
                kk (x32, nI (d + 1), N1)
              else
                (fX10_trusted (nI k) (nI d) N1).bind fun v34 =>
                bd (W + v34.toInt64) fun x35 =>
                kk (x35, nI (d + 1), N1))
          (fun (kk13 : Unit → Option (Int64 × xM)) =>
            if nI L.length ≤ s11.2.2.2 then
              kk13 ()
            else
              if (4:Int32) ≤ s11.1 then
                kk13 ()
              else
                if xinb s11.2.2.2 16 then
                  if xinb (N1.1 187 s11.2.2.2.toNatClampNeg) 16 then
                    if (N1.1 171 (N1.1 187 s11.2.2.2.toNatClampNeg).toNatClampNeg) = (3:Int32) then
                      kk12 (s11.1, s11.2.1, s11.2.2.1, (s11.2.2.2 + 1))
                    else
                      if xinb s11.2.2.2 16 then
                        (fX10_trusted (N1.1 187 s11.2.2.2.toNatClampNeg) (nI d) N1).bind fun v21 =>
                        jn (fun (s23 : Int32) =>
                          bd (s11.2.2.1 + v21.toInt64) fun x28 =>
                          kk12 ((s11.1 + 1), s23, x28, (s11.2.2.2 + 1)))
                        (fun (kk22 : Int32 → Option (Int64 × xM)) =>
                          jn (fun (s25 : Unit) =>
                            kk22 (0:Int32))
                          (fun (kk24 : Unit → Option (Int64 × xM)) =>
                            if s11.2.1 = 0 then
                              kk24 ()
                            else
                              if v21 = (-1:Int32) then
                                kk24 ()
                              else
                                kk22 (1:Int32)))
                      else none
                  else none
                else none)) xfu ((0:Int32), (if sTr M.1 k d = -1 then 0 else 1), (0:Int64), (0:Int32))) := by
      intro _
      refine lp_post (Q := sLong2R M (sWk M.1 k w own 7)) (fun s => ∃ A B, L = A ++ B ∧ (A.filter (fun y => !(M.1 171 y == 3))).length ≤ 4 ∧ s = (nI (A.filter (fun y => !(M.1 171 y == 3))).length, (if (!(sTr M.1 k d == -1) && (A.filter (fun y => !(M.1 171 y == 3))).all (fun y => !(sTr M.1 y d == -1))) = true then 1 else 0), (A.filter (fun y => !(M.1 171 y == 3))).foldl (fun a y => a + (sTr M.1 y d).toInt64) 0, nI A.length)) (fun s => 16 - s.2.2.2.toNatClampNeg) ?_ xfu _ ⟨[], L, rfl, by simp, by simp <;> decide⟩ (by unfold xfu; show 16 - _ < 1000; omega)
      rintro s kk2 ⟨A, B, hAB, h4l, rfl⟩ hkk2
      have hlen : A.length + B.length = L.length := by rw [hAB, List.length_append]
      have hB1 := hNb A B hAB
      have hkk2' := fun s' => hkk2 s'
      clear hkk2
      generalize hF : A.filter (fun y => !(M.1 171 y == 3)) = F at *
      have fin : sNb M.1 k = F → sLong2R M (sWk M.1 k w own 7) (if (if (!(sTr M.1 k d == -1) && F.all (fun y => !(sTr M.1 y d == -1))) = true then (1:Int32) else 0) = 0 then kk (W, nI (d + 1), N1) else if (if own = true then (1:Int32) else 0) = 0 then bd (W + F.foldl (fun a y => a + (sTr M.1 y d).toInt64) 0) fun x32 => kk (x32, nI (d + 1), N1) else (fX10_trusted (nI k) (nI d) N1).bind fun v34 => bd (W + v34.toInt64) fun x35 => kk (x35, nI (d + 1), N1)) := by
        intro hNF
        have hsd : sDay M.1 k d = (!(sTr M.1 k d == -1) && F.all (fun y => !(sTr M.1 y d == -1))) := by unfold sDay; rw [hNF]
        have hns : sNs M.1 k d = F.foldl (fun a y => a + (sTr M.1 y d).toInt64) 0 := by unfold sNs; rw [hNF]
        rw [← hsd, ← hns]
        have hgo : ∀ x, x = sWk M.1 k w own (i + 1) → sLong2R M (sWk M.1 k w own 7) (kk (x, nI (d + 1), N1)) := fun x hx => hkk _ ⟨i + 1, N1, by omega, by rw [hx, ← hd8]; rfl, he1, h5⟩ (by show 64 - (nI (d + 1)).toNatClampNeg < 64 - (nI d).toNatClampNeg; rw [nI_clamp (by omega), nI_clamp (by omega)]; omega)
        rcases Bool.eq_false_or_eq_true (sDay M.1 k d) with e1 | e1
        · simp only [e1, h10, ↓reduceIte, bd_at, reduceCtorEq] at hs ⊢
          cases own with
          | false => simp only [↓reduceIte, reduceCtorEq] at hs ⊢; exact hgo _ hs.symm
          | true =>
            simp only [h10, ↓reduceIte, hT hk, some_bind] at hs ⊢
            exact hgo _ hs.symm
        · simp only [e1, ↓reduceIte, reduceCtorEq] at hs ⊢
          exact hgo _ hs.symm
      rw [jn_at]
      cases B with
      | nil =>
        have g2 : nI L.length ≤ nI A.length := by rw [hAB, List.append_nil]; exact Int32.le_refl _
        simp only [g2, ↓reduceIte]
        refine fin ?_
        rw [hB1]
        simp only [List.filter_nil, List.append_nil]
        exact List.take_of_length_le h4l
      | cons b B =>
        simp only [List.length_cons] at hlen
        have g2 : ¬ nI L.length ≤ nI A.length := nI_ge (by omega) (by omega)
        simp only [g2, ↓reduceIte]
        by_cases e4 : F.length = 4
        · have g3 : (4:Int32) ≤ nI F.length := by rw [e4]; decide
          simp only [g3, ↓reduceIte]
          refine fin ?_
          rw [hB1, List.take_append_of_le_length (by omega), List.take_of_length_le h4l]
        · have g3 : ¬ (4:Int32) ≤ nI F.length := nI_ge (b := 4) (by omega) (by decide)
          have hb : xinb (nI A.length) 16 = true := xinb_nI (by omega) (by decide)
          have hc : (nI A.length).toNatClampNeg = A.length := nI_clamp (by omega)
          have hc3 : (nI (A.length + 1)).toNatClampNeg = A.length + 1 := nI_clamp (by omega)
          have hbr : N1.1 187 A.length = nI b := h187 A.length b (by rw [hAB]; simp)
          have hb16 := (hm b (by rw [hAB]; simp)).1
          have hbb : xinb (nI b) 16 = true := xinb_nI hb16 (by decide)
          have hbc : (nI b).toNatClampNeg = b := nI_clamp (by omega)
          have hAl : (A ++ [b]).length = A.length + 1 := by simp
          have hAB' : L = (A ++ [b]) ++ B := by rw [hAB]; simp
          simp only [g3, hb, hc, hbr, hbb, hbc, he1 171 _ (show 171 < 187 by decide), ↓reduceIte, nI_1]
          by_cases e6 : M.1 171 b = 3
          · have hF' : (A ++ [b]).filter (fun y => !(M.1 171 y == 3)) = F := by
              rw [List.filter_append, hF]
              simp [e6]
            simp only [e6, ↓reduceIte]
            exact hkk2' _ ⟨A ++ [b], B, hAB', by rw [hF']; exact h4l, by rw [hF', hAl]⟩ (by simp only [hc]; show 16 - (nI (A.length + 1)).toNatClampNeg < _; rw [hc3]; omega)
          · have hF' : (A ++ [b]).filter (fun y => !(M.1 171 y == 3)) = F ++ [b] := by
              rw [List.filter_append, hF]
              simp [e6]
            have hFl : (F ++ [b]).length = F.length + 1 := by simp
            simp only [e6, hT hb16, some_bind, jn_at, bd_at, ↓reduceIte]
            have hgo : ∀ x : Int32, x = (if (!(sTr M.1 k d == -1) && (F ++ [b]).all (fun y => !(sTr M.1 y d == -1))) = true then 1 else 0) → sLong2R M (sWk M.1 k w own 7) (kk2 (nI (F.length + 1), x, List.foldl (fun a y => a + (sTr M.1 y d).toInt64) 0 F + (sTr M.1 b d).toInt64, nI (A.length + 1))) := fun x hx => hkk2' _ ⟨A ++ [b], B, hAB', by rw [hF', hFl]; omega, by rw [hF', hFl, hAl, hx, List.foldl_append]; rfl⟩ (by simp only [hc]; show 16 - (nI (A.length + 1)).toNatClampNeg < _; rw [hc3]; omega)
            rcases Bool.eq_false_or_eq_true (!(sTr M.1 k d == -1) && F.all (fun y => !(sTr M.1 y d == -1))) with e7 | e7
            · simp only [e7, h10, ↓reduceIte]
              by_cases e8 : sTr M.1 b d = -1
              · simp only [e8, ↓reduceIte]
                have := hgo 0 (by rw [List.all_append, ← Bool.and_assoc, e7]; simp [e8])
                simpa only [e8] using this
              · simp only [e8, ↓reduceIte]
                exact hgo 1 (by rw [List.all_append, ← Bool.and_assoc, e7]; simp [e8])
            · simp only [e7, ↓reduceIte, reduceCtorEq]
              exact hgo 0 (by rw [List.all_append, ← Bool.and_assoc, e7]; simp)
    rw [jn_at]
    by_cases e9 : sTr M.1 k d = -1
    · simp only [e9, hT hk, some_bind, ↓reduceIte] at inner ⊢
      exact inner ()
    · simp only [e9, hT hk, some_bind, ↓reduceIte] at inner ⊢
      exact inner ()
