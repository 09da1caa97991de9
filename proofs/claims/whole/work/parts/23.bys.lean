/-- those by which a day is or would be mended -/
def sBys (m : sm) (k d : Nat) : List Nat := ((sRows m k 16).filter (fun y => !(sTr m y d == -1))).take 4
theorem sBys_c {m m' : sm} (e : sEq m m') (k d : Nat) : sBys m' k d = sBys m k d := by
  unfold sBys
  rw [sRows_c e]
  simp only [sTr_c e]
theorem sBys_mem {m : sm} {k d y : Nat} (h : y ∈ sBys m k d) : y < 16 ∧ ¬ y = k ∧ sGb m y = true ∧ ¬ sTr m y d = -1 := by
  unfold sBys at h
  have h1 := List.mem_filter.mp (List.mem_of_mem_take h)
  have h2 := sRows_mem 16 h1.1
  exact ⟨h2.1, h2.2.1, h2.2.2, by simpa using h1.2⟩
theorem sBys_len (m : sm) (k d : Nat) : (sBys m k d).length ≤ 4 := by
  unfold sBys
  rw [List.length_take]
  omega
abbrev sBysR (M : xM) (k d : Nat) (o : Option (Int32 × xM)) : Prop := ∃ M' : xM, o = some (nI (sBys M.1 k d).length, M') ∧ sEq M.1 M'.1 ∧ sHas (M'.1 188) (sBys M.1 k d)
theorem bys_eq {k d : Nat} {M : xM} (hk : k < 16) (hd : d < 56) (hh : sH M.1) : sBysR M k d (fX10_bys (nI k) (nI d) M) := by
  unfold fX10_bys
  obtain ⟨M0, hr, he0, h187⟩ := rows_eq (M := M) hk
  rw [hr]
  simp only [some_bind]
  have hl := sRows_len M.1 k 16
  have hm := fun y => sRows_mem (m := M.1) (k := k) (y := y) 16
  have hB0 : ∀ A B : List Nat, sRows M.1 k 16 = A ++ B → sBys M.1 k d = ((A.filter (fun y => !(sTr M.1 y d == -1))) ++ (B.filter (fun y => !(sTr M.1 y d == -1)))).take 4 := by
    intro A B h
    unfold sBys
    rw [h, List.filter_append]
  generalize hL : sRows M.1 k 16 = L at *
  refine lp_post (Q := sBysR M k d) (fun s => ∃ A B N, L = A ++ B ∧ s = (nI (A.filter (fun y => !(sTr M.1 y d == -1))).length, nI A.length, N) ∧ sEq M.1 N.1 ∧ sHas (N.1 187) L ∧ sHas (N.1 188) (A.filter (fun y => !(sTr M.1 y d == -1))) ∧ (A.filter (fun y => !(sTr M.1 y d == -1))).length ≤ 4) (fun s => 16 - s.2.1.toNatClampNeg) ?_ xfu _ ⟨[], L, M0, rfl, rfl, he0, h187, fun i y h => absurd h (by simp), by simp⟩ (by unfold xfu; show 16 - _ < 1000; omega)
  rintro s kk ⟨A, B, N, hAB, rfl, he, h7, h8, h4⟩ hkk
  have hlen : A.length + B.length = L.length := by rw [hAB, List.length_append]
  have hB1 := hB0 A B hAB
  have hkk' := fun s' => hkk s'
  clear hkk
  generalize hF : A.filter (fun y => !(sTr M.1 y d == -1)) = F at *
  cases B with
  | nil =>
    have g1 : nI L.length ≤ nI A.length := by rw [hAB, List.append_nil]; exact Int32.le_refl _
    simp only [g1, ↓reduceIte]
    have : sBys M.1 k d = F := by
      rw [hB1]
      simp only [List.filter_nil, List.append_nil]
      exact List.take_of_length_le h4
    exact ⟨N, by rw [this], he, by rw [this]; exact h8⟩
  | cons b B =>
    simp only [List.length_cons] at hlen
    have g1 : ¬ nI L.length ≤ nI A.length := nI_ge (by omega) (by omega)
    simp only [g1, ↓reduceIte]
    by_cases e4 : F.length = 4
    · have g2 : (4:Int32) ≤ nI F.length := by rw [e4]; decide
      simp only [g2, ↓reduceIte]
      have : sBys M.1 k d = F := by
        rw [hB1, List.take_append_of_le_length (by omega), List.take_of_length_le h4]
      exact ⟨N, by rw [this], he, by rw [this]; exact h8⟩
    · have g2 : ¬ (4:Int32) ≤ nI F.length := nI_ge (b := 4) (by omega) (by decide)
      have hb : xinb (nI A.length) 16 = true := xinb_nI (by omega) (by decide)
      have hc : (nI A.length).toNatClampNeg = A.length := nI_clamp (by omega)
      have hb2 : xinb (nI F.length) 4 = true := xinb_nI (by omega) (by decide)
      have hc2 : (nI F.length).toNatClampNeg = F.length := nI_clamp (by omega)
      have hc3 : (nI (A.length + 1)).toNatClampNeg = A.length + 1 := nI_clamp (by omega)
      have hbr : N.1 187 A.length = nI b := h7 A.length b (by rw [hAB]; simp)
      have hb16 := (hm b (by rw [hAB]; simp)).1
      have hAl : (A ++ [b]).length = A.length + 1 := by simp
      have hAB' : L = (A ++ [b]) ++ B := by rw [hAB]; simp
      simp only [g2, hb, hc, hbr, ↓reduceIte, nI_1]
      rw [trusted_eq hb16 hd (sH_c he hh)]
      simp only [some_bind, sTr_c he]
      by_cases e5 : sTr M.1 b d = -1
      · have hF' : (A ++ [b]).filter (fun y => !(sTr M.1 y d == -1)) = F := by
          rw [List.filter_append, hF]
          simp [e5]
        simp only [e5, ↓reduceIte]
        exact hkk' _ ⟨A ++ [b], B, N, hAB', by rw [hF', hAl], he, h7, by rw [hF']; exact h8, by rw [hF']; exact h4⟩ (by simp only [hc, hc3]; omega)
      · have hF' : (A ++ [b]).filter (fun y => !(sTr M.1 y d == -1)) = F ++ [b] := by
          rw [List.filter_append, hF]
          simp [e5]
        have hFl : (F ++ [b]).length = F.length + 1 := by simp
        simp only [e5, hb2, hc2, bd, ↓reduceIte]
        refine hkk' _ ⟨A ++ [b], B, xw N 188 F.length (nI b), hAB', by rw [hF', hFl, hAl], sEq_w he (by decide), ?_, ?_, by rw [hF', hFl]; omega⟩ (by simp only [hc, hc3]; omega)
        · intro i y hy
          rw [xw_at, if_neg (by omega)]
          exact h7 i y hy
        · rw [hF']
          intro i y hy
          rw [xw_at]
          by_cases e6 : i = F.length
          · subst e6
            rw [if_pos ⟨rfl, rfl⟩]
            simp only [List.getElem?_append_right (Nat.le_refl _), Nat.sub_self, List.getElem?_cons_zero, Option.some.injEq] at hy
            rw [hy]
          · rw [if_neg (by omega)]
            have hi : i < F.length := by
              rcases Nat.lt_or_ge i (F ++ [b]).length with h | h
              · omega
              · rw [List.getElem?_eq_none h] at hy; exact absurd hy (by simp)
            rw [List.getElem?_append_left hi] at hy
            exact h8 i y hy
