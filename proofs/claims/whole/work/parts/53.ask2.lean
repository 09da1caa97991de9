/-! ===== the calls that ask: states, numbers, who mends, squares ===== -/
theorem gatherM {k d : Nat} {M : xM} (hk : k < 16) (hd : d < 56) (hI : NInv M.1) (hV : BV M.1) (hg : sDg M.1 k) (ht : sTr M.1 k d = -1) : ∃ L, gaR M k L (fX5_gather (nI k) (nI d) M) ∧ L.length ≤ 4 ∧ (L = [] ↔ sMend M.1 k d = -1) := by
  by_cases e4 : nI d < M.1 175 k
  · refine ⟨[], gather_early hk hI.pl hg e4, by decide, ?_⟩
    have hm : sMend M.1 k d = -1 := by
      unfold sMend sMay
      rw [if_pos (Or.inl (by simp [e4]))]
    exact ⟨fun _ => hm, fun _ => rfl⟩
  · refine ⟨sBys M.1 k d, gather_in hk hd hI hV hg e4, sBys_len M.1 k d, ?_⟩
    by_cases e5 : nI d ≤ M.1 170 15
    · have hmay : sMay M.1 k d = true := by
        unfold sMay
        simp [hg.2, e4, e5, ht]
      have hm : sMend M.1 k d = sMv M.1 k d (sBys M.1 k d) := by
        unfold sMend sMv
        rw [hmay]
        simp only [reduceCtorEq, false_or]
      rw [hm]
      constructor
      · intro h
        unfold sMv
        rw [if_pos h]
      · intro h
        by_cases hL : sBys M.1 k d = []
        · exact hL
        · exact absurd h (sMv_pos hI hk hd (fun y hy => ⟨(sBys_mem hy).1, (sBys_mem hy).2.2.2⟩) (sBys_len M.1 k d) hL)
    · have hm : sMend M.1 k d = -1 := by
        unfold sMend sMay
        rw [if_pos (Or.inl (by simp [e5]))]
      exact ⟨fun _ => hm, fun _ => sBys_fut e5⟩
theorem qE_g {M M' : xM} (h : ∀ j i, (j < 143 ∨ 146 ≤ j) → M'.1 j i = M.1 j i) : qE M.1 M'.1 := fun j i hj => h j i (by omega)
theorem sDo_raw {m : sm} {k d : Nat} (ht : sTr m k d = -1) : sDo m k d = 0 ↔ sR m k d = -1 := by
  constructor
  · intro h
    unfold sTr at ht
    by_cases e : sR m k d = -1
    · exact e
    · rw [if_neg e, if_pos h] at ht
      exact ht
  · exact sDo_no
theorem state_ok {p day : Int32} {M : xM} {c : Nat} (hc : c < 2 ^ 31) (h0 : Inv M.1 c) : aR2 c (fX9_state p day M) (fX10_state p day) := by
  have hI := h0.1
  unfold fX9_state fX10_state
  rcases place_tri p with h | ⟨k, hk, rfl⟩
  · rw [gaugeDF_out h]
    simp only [some_bind, i_m1, ↓reduceIte]
    exact ⟨_, _, _, rfl, by simp only [fails_out h, some_bind, i_m1, ↓reduceIte], c, by omega, h0⟩
  · by_cases e : gf M.1 k = 0
    · rcases day_tri day with hd | ⟨d, hd, rfl⟩
      · rw [gaugeDF_dout hk hI.pl e hd]
        simp only [some_bind, i_m1, ↓reduceIte]
        exact ⟨_, _, _, rfl, by simp only [fails04 hk hI.wk, e, isIn_day_out hd, some_bind, i_m1, ↓reduceIte], c, by omega, h0⟩
      · obtain ⟨M1, a1, a2, a3, a4, a5⟩ := openBooks_eq hc h0
        have hK := sK_n (nE_142 a5)
        have hg : sGb M.1 k = true := gf_0.mp e
        have hg1 : sGb M1.1 k = true := by rw [sGb_k hK]; exact hg
        have hI1 := a3.1
        have hkb : xinb (nI k) 16 = true := xinb_nI hk (by decide)
        have hkc : (nI k).toNatClampNeg = k := nI_clamp (by omega)
        have htl := sTl_td (d := d) hI1 hk
        rw [gaugeDF_in hk hd hI.pl e, a1]
        simp only [some_bind, ↓reduceIte, toldOf_nI hk hd, (a4 k d hk hd).2.2.2, hkb, hkc, hI1.pl.1 k hk]
        by_cases e3 : M1.1 171 k = 3
        · have hro : sTl M1.1 k d = (sRO M1.1 k d).isSome := by
            unfold sTl
            rw [hg1, if_pos e3, Bool.true_and]
          have hdo : sDo M1.1 k d = 0 := sDo_no (sR_store e3)
          by_cases e1 : sTd M1.1 k d = -1
          · obtain ⟨M2, b1, b2, b3, b4⟩ := gather_store (day := nI d) hk hI1.pl (fun h => h.2 e3)
            have hE := qE_g b4
            have h1 : sRO M1.1 k d = none := by
              rw [e1] at htl
              rw [hro] at htl
              cases h : sRO M1.1 k d with
              | none => rfl
              | some u => rw [h] at htl; exact absurd htl (by simp)
            have hdd : M2.1 (90 + 1 + k) d = 0 := by
              rw [hE _ _ (by omega), (a4 k d hk hd).2.1]
              exact hdo
            simp only [e1, b1, some_bind, ↓reduceIte, doubtOf_nI hk hd, hdd, show nI ([] : List Nat).length ≤ 0 from by decide]
            have hK2 := sK_n (nE_q hE)
            have hI2 := NInv_n (nE_q hE) hI1
            have e3' : M2.1 171 k = 3 := by rw [hK2 171 k (by decide)]; exact e3
            have hg2 : gf M2.1 k = 0 := by rw [gf_0, sGb_k hK2]; exact hg1
            exact ⟨_, _, _, rfl, by simp only [fails04 hk hI2.wk, hg2, isIn_day hd, some_bind, i_10, hkb, hkc, e3', readOn_eq hk hd, sRO_k hK2, h1, oI, ↓reduceIte], c, by omega, Inv_q hE a3⟩
          · have h1 : ∃ u, sRO M1.1 k d = some u := by
              have : (!(sTd M1.1 k d == -1)) = true := by simp [e1]
              rw [this, hro] at htl
              cases h : sRO M1.1 k d with
              | none => rw [h] at htl; exact absurd htl (by decide)
              | some u => exact ⟨u, rfl⟩
            obtain ⟨u, hu⟩ := h1
            have hu1 : ¬ nI u = -1 := nI_nm1 (by have := sRO_lt hu; omega)
            have hg2 : gf M1.1 k = 0 := gf_0.mpr hg1
            simp only [e1, e3, ↓reduceIte]
            exact ⟨_, _, _, rfl, by simp only [fails04 hk hI1.wk, hg2, isIn_day hd, some_bind, i_10, hkb, hkc, e3, readOn_eq hk hd, hu, oI, hu1, ↓reduceIte], c, by omega, a3⟩
        · have htd : sTd M1.1 k d = sTr M1.1 k d := by unfold sTd; rw [if_neg e3]
          rw [htd]
          by_cases e1 : sTr M1.1 k d = -1
          · obtain ⟨L, ⟨M2, b1, b2, b3, b4⟩, b5, b6⟩ := gatherM hk hd hI1 a4 ⟨hg1, e3⟩ e1
            have hE := qE_g b4
            have hK2 := sK_n (nE_q hE)
            have hI2 := NInv_n (nE_q hE) hI1
            have e3' : ¬ M2.1 171 k = 3 := by rw [hK2 171 k (by decide)]; exact e3
            have hg2 : gf M2.1 k = 0 := by rw [gf_0, sGb_k hK2]; exact hg1
            have e1' : sTr M2.1 k d = -1 := by rw [sTr_k hK2]; exact e1
            obtain ⟨M3, c1, c2⟩ := mended_eq (M := M2) hk hd hI2.h hI2.n
            rw [sMend_k hK2] at c1
            have hE3 := qE_t hE (qE_s c2)
            have hI3 := Inv_q hE3 a3
            simp only [e1, b1, some_bind, ↓reduceIte]
            by_cases eL : L = []
            · subst eL
              have hm := b6.mp rfl
              have hdd : M2.1 (90 + 1 + k) d = sDo M1.1 k d := by
                rw [hE _ _ (by omega)]
                exact (a4 k d hk hd).2.1
              have hr3 : sR M3.1 k d = sR M1.1 k d := by rw [sR, sRaw_c c2, sRaw_k hK2]
              simp only [doubtOf_nI hk hd, hdd, some_bind, show nI ([] : List Nat).length ≤ 0 from by decide, ↓reduceIte]
              by_cases e7 : sR M1.1 k d = -1
              · have e8 := (sDo_raw e1).mpr e7
                simp only [e8, ↓reduceIte]
                exact ⟨_, _, _, rfl, by simp only [fails04 hk hI2.wk, hg2, isIn_day hd, some_bind, i_10, hkb, hkc, e3', trusted_eq hk hd hI2.h, e1', c1, hm, raw0_eq hk hd hI3.1.h, hr3, e7, ↓reduceIte], c, by omega, hI3⟩
              · have e8 : ¬ sDo M1.1 k d = 0 := fun h => e7 ((sDo_raw e1).mp h)
                simp only [e8, ↓reduceIte]
                exact ⟨_, _, _, rfl, by simp only [fails04 hk hI2.wk, hg2, isIn_day hd, some_bind, i_10, hkb, hkc, e3', trusted_eq hk hd hI2.h, e1', c1, hm, raw0_eq hk hd hI3.1.h, hr3, e7, ↓reduceIte], c, by omega, hI3⟩
            · have hm : ¬ sMend M1.1 k d = -1 := fun h => eL (b6.mpr h)
              have hlp : 0 < L.length := List.length_pos_iff.mpr eL
              have g1 : ¬ nI L.length ≤ 0 := nI_nle hlp (by omega)
              simp only [g1, ↓reduceIte]
              exact ⟨_, _, _, rfl, by simp only [fails04 hk hI2.wk, hg2, isIn_day hd, some_bind, i_10, hkb, hkc, e3', trusted_eq hk hd hI2.h, e1', c1, hm, ↓reduceIte], c, by omega, hI3⟩
          · have hg2 : gf M1.1 k = 0 := gf_0.mpr hg1
            simp only [e1, e3, ↓reduceIte]
            exact ⟨_, _, _, rfl, by simp only [fails04 hk hI1.wk, hg2, isIn_day hd, some_bind, i_10, hkb, hkc, e3, trusted_eq hk hd hI1.h, e1, ↓reduceIte], c, by omega, a3⟩
    · rw [gaugeDF_no hk hI.pl e]
      simp only [some_bind, e, ↓reduceIte]
      exact ⟨_, _, _, rfl, by simp only [fails04 hk hI.wk, some_bind, e, ↓reduceIte], c, by omega, h0⟩
theorem number_ok {p day : Int32} {M : xM} {c : Nat} (hc : c < 2 ^ 31) (h0 : Inv M.1 c) : aR2 c (fX9_number p day M) (fX10_number p day) := by
  have hI := h0.1
  unfold fX9_number fX10_number
  rcases place_tri p with h | ⟨k, hk, rfl⟩
  · rw [gaugeDF_out h]
    simp only [some_bind, i_m1, ↓reduceIte]
    exact ⟨_, _, _, rfl, by simp only [fails_out h, some_bind, i_m1, ↓reduceIte], c, by omega, h0⟩
  · by_cases e : gf M.1 k = 0
    · rcases day_tri day with hd | ⟨d, hd, rfl⟩
      · rw [gaugeDF_dout hk hI.pl e hd]
        simp only [some_bind, i_m1, ↓reduceIte]
        exact ⟨_, _, _, rfl, by simp only [fails04 hk hI.wk, e, isIn_day_out hd, some_bind, i_m1, ↓reduceIte], c, by omega, h0⟩
      · obtain ⟨M1, a1, a2, a3, a4, a5⟩ := openBooks_eq hc h0
        have hK := sK_n (nE_142 a5)
        have hg1 : sGb M1.1 k = true := by rw [sGb_k hK]; exact gf_0.mp e
        have hI1 := a3.1
        have fin : ∀ M2 : xM, qE M1.1 M2.1 → ∃ M3, fX10_number (nI k) (nI d) M2 = some (sNum M1.1 k d, M3) ∧ Inv M3.1 c := by
          intro M2 hE
          have hK2 := sK_n (nE_q hE)
          have hI2 := NInv_n (nE_q hE) hI1
          have hg2 : gf M2.1 k = 0 := by rw [gf_0, sGb_k hK2]; exact hg1
          obtain ⟨M3, c1, c2⟩ := number0_eq (M := M2) hk hd hI2.h hI2.n (hI2.wf k hk)
          refine ⟨M3, ?_, Inv_q (qE_t hE (qE_s c2)) a3⟩
          unfold fX10_number
          simp only [fails04 hk hI2.wk, hg2, isIn_day hd, some_bind, i_10, c1, sNum_k hK2, ↓reduceIte]
        rw [gaugeDF_in hk hd hI.pl e, a1]
        simp only [some_bind, ↓reduceIte, toldOf_nI hk hd, (a4 k d hk hd).2.2.2]
        by_cases e1 : sTd M1.1 k d = -1
        · obtain ⟨M2, b1, b2, b3⟩ := mendC_eq hk hd hI1 a4 hg1 e1
          have hE := qE_g b3
          have hK2 := sK_n (nE_q hE)
          have hI2 := NInv_n (nE_q hE) hI1
          obtain ⟨M3, c1, c2⟩ := fin M2 hE
          have hnk : fX6_numberKnown (nI k) (nI d) 56 M2 = some (sR M1.1 k d) := by
            rw [numberKnown56 hk hd hI2.net hI2.log, sR, sRaw_k hK2]
          simp only [e1, b1, some_bind, ↓reduceIte]
          have hsn : sNum M1.1 k d = if (if M1.1 171 k = 3 then -1 else sMend M1.1 k d) = -1 then sR M1.1 k d else (if M1.1 171 k = 3 then -1 else sMend M1.1 k d) := by
            unfold sNum
            unfold sTd at e1
            by_cases e3 : M1.1 171 k = 3
            · rw [if_pos e3] at e1
              rw [if_pos e3, if_pos e3, if_pos rfl, e1]
              exact (sR_store e3).symm
            · rw [if_neg e3] at e1
              rw [if_neg e3, if_neg e3, if_pos e1]
          rw [hsn] at c1
          by_cases e5 : (if M1.1 171 k = 3 then -1 else sMend M1.1 k d) = -1
          · rw [if_pos e5] at c1
            simp only [e5, hnk, some_bind, ↓reduceIte]
            exact ⟨_, _, M3, rfl, c1, c, by omega, c2⟩
          · rw [if_neg e5] at c1
            rw [if_neg e5]
            exact ⟨_, _, M3, rfl, c1, c, by omega, c2⟩
        · obtain ⟨M3, c1, c2⟩ := fin M1 (fun _ _ _ => rfl)
          rw [sNum_td e1] at c1
          rw [if_neg e1]
          exact ⟨_, _, M3, rfl, c1, c, by omega, c2⟩
    · rw [gaugeDF_no hk hI.pl e]
      simp only [some_bind, e, ↓reduceIte]
      exact ⟨_, _, _, rfl, by simp only [fails04 hk hI.wk, some_bind, e, ↓reduceIte], c, by omega, h0⟩
/-- the same where stores are barred too -/
def gfd (m : sm) (k : Nat) : Int32 := if gf m k = 0 ∧ m 171 k = 3 then -2 else gf m k
theorem gfd_0 {m : sm} {k : Nat} : gfd m k = 0 ↔ sDg m k := by
  unfold gfd
  by_cases e : gf m k = 0 ∧ m 171 k = 3
  · rw [if_pos e]
    exact ⟨fun h => absurd h i_m2, fun h => absurd e.2 h.2⟩
  · rw [if_neg e, gf_0]
    exact ⟨fun h => ⟨h, fun h3 => e ⟨gf_0.mpr h, h3⟩⟩, fun h => h.1⟩
theorem dailyF_out {p : Int32} {M : xM} (h : p < 0 ∨ 16 ≤ p) : fX9_dailyGaugeFault p M = some (-1) := by
  unfold fX9_dailyGaugeFault
  rw [gaugeF_out h]
  simp only [some_bind, i_m1, ↓reduceIte]
theorem dailyF_nI {k : Nat} {M : xM} (hk : k < 16) (hP : CPl M.1) : fX9_dailyGaugeFault (nI k) M = some (gfd M.1 k) := by
  have hb : xinb (nI k) 16 = true := xinb_nI hk (by decide)
  have hc : (nI k).toNatClampNeg = k := nI_clamp (by omega)
  unfold fX9_dailyGaugeFault gfd
  rw [gaugeF_nI hk hP]
  simp only [some_bind, hb, hc, hP.1 k hk, ↓reduceIte]
  by_cases e1 : gf M.1 k = 0
  · by_cases e2 : M.1 171 k = 3
    · simp only [e1, e2, ↓reduceIte, and_self]
    · simp only [e1, e2, ↓reduceIte, and_false]
  · simp only [e1, ↓reduceIte, false_and]
theorem placeAt_none {c : Nat} {i : Int32} {f : Nat → Int32} {L : List Nat} {M : xM} (h : sCir M.1 c f L) (hi : i < 0 ∨ nI L.length ≤ i) : fX2_placeAt c i M = some (-1) := by
  unfold fX2_placeAt
  rw [h.2.1]
  by_cases e1 : i < 0
  · rw [if_pos e1]
  · rw [if_neg e1, if_pos (hi.resolve_left e1)]
theorem from_ok {p day i : Int32} {M : xM} {c : Nat} (hc : c < 2 ^ 31) (h0 : Inv M.1 c) : aR2 c (fX9_from p day i M) (fX10_from p day i) := by
  have hI := h0.1
  unfold fX9_from fX10_from
  rcases place_tri p with h | ⟨k, hk, rfl⟩
  · rw [dailyF_out h]
    simp only [some_bind, i_m1, ↓reduceIte]
    exact ⟨_, _, _, rfl, by simp only [fails_out h, some_bind, jn_at, i_m1, ↓reduceIte], c, by omega, h0⟩
  · have hkb : xinb (nI k) 16 = true := xinb_nI hk (by decide)
    have hkc : (nI k).toNatClampNeg = k := nI_clamp (by omega)
    rw [dailyF_nI hk hI.pl]
    by_cases e : gfd M.1 k = 0
    · have hdg := gfd_0.mp e
      have hgf : gf M.1 k = 0 := gf_0.mpr hdg.1
      obtain ⟨M1, a1, a2, a3, a4, a5⟩ := openBooks_eq hc h0
      have hK := sK_n (nE_142 a5)
      have hI1 := a3.1
      have hdg1 : sDg M1.1 k := ⟨by rw [sGb_k hK]; exact hdg.1, by rw [hK 171 k (by decide)]; exact hdg.2⟩
      simp only [some_bind, e, a1, ↓reduceIte]
      -- what is so if none count
      have none_ok : ∀ (M2 : xM) (f : Nat → Int32), qE M1.1 M2.1 → sCir M2.1 143 f [] → fX5_gather (nI k) day M1 = some (nI ([] : List Nat).length, M2) → (∀ M2 : xM, qE M1.1 M2.1 → (fX10_isIn day (M2.1 175 k) 55 M2 = some 0 ∨ (fX10_isIn day (M2.1 175 k) 55 M2 = some 1 ∧ ¬ day ≤ M2.1 170 15))) → aR2 c ((fX5_gather (nI k) day M1).bind fun q4 => (fX2_placeAt 143 i q4.2).bind fun v5 => some (v5, q4.2)) (fX10_from (nI k) day i) := by
        intro M2 f hE hcir hg hin
        have hK2 := sK_n (nE_q hE)
        have hI2 := NInv_n (nE_q hE) hI1
        have hg2 : gf M2.1 k = 0 := by rw [gf_0, sGb_k hK2]; exact hdg1.1
        have e3' : ¬ M2.1 171 k = 3 := by rw [hK2 171 k (by decide)]; exact hdg1.2
        have hres : fX10_from (nI k) day i M2 = some (-1, M2) := by
          unfold fX10_from
          rcases hin M2 hE with h | ⟨h, h'⟩
          · simp only [fails04 hk hI2.wk, hg2, some_bind, jn_at, i_10, hkb, hkc, e3', h, ↓reduceIte]
          · simp only [fails04 hk hI2.wk, hg2, some_bind, jn_at, i_10, hkb, hkc, e3', h, h', ↓reduceIte]
        rw [hg, some_bind]
        refine ⟨-1, M2, M2, ?_, hres, c, by omega, Inv_q hE a3⟩
        have hi : i < 0 ∨ nI ([] : List Nat).length ≤ i := by
          by_cases e1 : i < 0
          · exact Or.inl e1
          · exact Or.inr (Int32.not_lt.mp e1)
        rw [placeAt_none hcir hi, some_bind]
      by_cases ef : day < M1.1 175 k
      · obtain ⟨M2, b1, b2, b3, b4⟩ := gather_early hk hI1.pl hdg1 ef
        exact none_ok M2 _ (qE_g b4) b3 b1 (fun M3 hE => Or.inl (isIn_0 (Or.inl (by rw [sK_n (nE_q hE) 175 k (by decide)]; exact ef))))
      · rcases day_tri day with hd | ⟨d, hd, rfl⟩
        · obtain ⟨M2, b1, b2, b3, b4⟩ := gather_out hk hI1 hdg1 hd (Int32.not_lt.mp ef)
          have h56 : 56 ≤ day := by
            rcases hd with hd | hd
            · exfalso
              have := wf_pos hI1 hk
              rw [Int32.lt_iff_toInt_lt] at this ef hd
              omega
            · exact hd
          exact none_ok M2 _ (qE_g b4) b3 b1 (fun M3 hE => Or.inl (isIn_0 (Or.inr (gt_of_ge h56 (by decide)))))
        · obtain ⟨M2, b1, b2, b3, b4⟩ := gather_in hk hd hI1 a4 hdg1 ef
          have h55 : ¬ (55:Int32) < nI d := nI_nlt (b := d) (a := 55) (by omega) (by decide)
          by_cases e5 : nI d ≤ M1.1 170 15
          · have hE := qE_g b4
            have hK2 := sK_n (nE_q hE)
            have hI2 := NInv_n (nE_q hE) hI1
            have hg2 : gf M2.1 k = 0 := by rw [gf_0, sGb_k hK2]; exact hdg1.1
            have e3' : ¬ M2.1 171 k = 3 := by rw [hK2 171 k (by decide)]; exact hdg1.2
            have hin : fX10_isIn (nI d) (M2.1 175 k) 55 M2 = some 1 := isIn_1 (by rw [hK2 175 k (by decide)]; exact ef) h55
            have e5' : nI d ≤ M2.1 170 15 := by rw [hK2 170 15 (by decide)]; exact e5
            obtain ⟨M3, c1, c2, c3⟩ := bys_eq (M := M2) hk hd hI2.h
            have hby : sBys M2.1 k d = sBys M1.1 k d := sBys_k hK2 k d
            rw [hby] at c1 c3
            have hI3 := Inv_q (qE_t hE (qE_s c2)) a3
            have hl := sBys_len M1.1 k d
            rw [b1, some_bind]
            have start : ∀ v : Int32, ((fX10_isIn i 0 (nI (sBys M1.1 k d).length - 1) M3).bind fun v13 => if v13 = 0 then some (-1, M3) else if xinb i 4 = true then some (M3.1 188 i.toNatClampNeg, M3) else none) = some (v, M3) → fX10_from (nI k) (nI d) i M2 = some (v, M3) := by
              intro v hv
              unfold fX10_from
              simp only [fails04 hk hI2.wk, hg2, some_bind, jn_at, i_10, hkb, hkc, e3', hin, e5', c1, ↓reduceIte]
              exact hv
            by_cases e1 : i < 0
            · refine ⟨-1, M2, M3, by rw [placeAt_none b3 (Or.inl e1), some_bind], start _ ?_, c, by omega, hI3⟩
              rw [isIn_0 (Or.inl e1)]
              simp only [some_bind, ↓reduceIte]
            · by_cases e2 : nI (sBys M1.1 k d).length ≤ i
              · refine ⟨-1, M2, M3, by rw [placeAt_none b3 (Or.inr e2), some_bind], start _ ?_, c, by omega, hI3⟩
                have hlt : nI (sBys M1.1 k d).length - 1 < i := by
                  rw [Int32.le_iff_toInt_le, nI_toInt (by omega)] at e2
                  rw [Int32.lt_iff_toInt_lt, Int32.toInt_sub, nI_toInt (by omega), show (1:Int32).toInt = 1 from by decide, Int.bmod_eq_of_le (by omega) (by omega)]
                  omega
                rw [isIn_0 (Or.inr hlt)]
                simp only [some_bind, ↓reduceIte]
              · obtain ⟨j, hj, rfl⟩ := nI_of2 (x := i) (M := nI (sBys M1.1 k d).length) (n := (sBys M1.1 k d).length) (nI_toInt (by omega)) e1 (Int32.le_of_lt (Int32.not_le.mp e2))
                have hjl : j < (sBys M1.1 k d).length := by
                  rcases Nat.lt_or_ge j (sBys M1.1 k d).length with h | h
                  · exact h
                  · exact absurd (nI_le h (by omega)) e2
                obtain ⟨y, hy⟩ : ∃ y, (sBys M1.1 k d)[j]? = some y := ⟨(sBys M1.1 k d)[j], List.getElem?_eq_getElem hjl⟩
                refine ⟨nI y, M2, M3, by rw [placeAt_eq b3 hy, some_bind], start _ ?_, c, by omega, hI3⟩
                have hjb : xinb (nI j) 4 = true := xinb_nI (by omega) (by decide)
                have hjc : (nI j).toNatClampNeg = j := nI_clamp (by omega)
                have hlt : ¬ nI (sBys M1.1 k d).length - 1 < nI j := by
                  rw [Int32.lt_iff_toInt_lt, Int32.toInt_sub, nI_toInt (by omega), nI_toInt (by omega), show (1:Int32).toInt = 1 from by decide, Int.bmod_eq_of_le (by omega) (by omega)]
                  omega
                rw [isIn_1 e1 hlt]
                simp only [some_bind, i_10, hjb, hjc, c3 j y hy, ↓reduceIte]
          · have hnil := sBys_fut (k := k) e5
            rw [hnil] at b1 b3
            exact none_ok M2 _ (qE_g b4) b3 b1 (fun M3 hE => Or.inr ⟨isIn_1 (by rw [sK_n (nE_q hE) 175 k (by decide)]; exact ef) h55, by rw [sK_n (nE_q hE) 170 15 (by decide)]; exact e5⟩)
    · simp only [some_bind, e, ↓reduceIte]
      refine ⟨_, _, M, rfl, ?_, c, by omega, h0⟩
      · simp only [fails04 hk hI.wk, some_bind, jn_at, hkb, hkc, ↓reduceIte]
        unfold gfd at e ⊢
        by_cases e1 : gf M.1 k = 0
        · by_cases e2 : M.1 171 k = 3
          · simp only [e1, e2, i_m2, ↓reduceIte, and_self]
          · exact absurd (by simp only [e1, e2, and_false, ↓reduceIte]) e
        · simp only [e1, false_and, ↓reduceIte]
