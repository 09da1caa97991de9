/-! ===== the class writes its books ===== -/
theorem days_eq {n : Nat} {M : xM} (hn : n ≤ 56) (h1 : M.1 1 3 = nI n) : fX6_daysBegun M = some (nI (min (n + 1) 56)) := by
  unfold fX6_daysBegun
  rw [h1, nI_1]
  by_cases e : n = 56
  · subst e; rfl
  · have g : ¬ (56:Int32) < nI (n + 1) := nI_nlt (b := n + 1) (a := 56) (by omega) (by decide)
    rw [if_neg g, Nat.min_eq_left (by omega)]
def rw3 (v1 : Int32) (N : xM) : Option xM :=
          lp (fun (s8 : (Int32 × xM)) (kk9 : (Int32 × xM) → Option xM) =>
            if (16:Int32) ≤ s8.1 then
              bd (xw s8.2 72 6 (s8.2.1 1 4)) fun m11 =>
              some m11
            else
              if xinb s8.1 16 then
                if (s8.2.1 (8 + 4 * s8.1.toNatClampNeg) 0) = (3:Int32) then
                  (fX0_writeSpread s8.1 v1 s8.2).bind fun q15 =>
                  kk9 ((s8.1 + 1), q15)
                else
                  kk9 ((s8.1 + 1), s8.2)
              else none) xfu ((0:Int32), N)
def rw2 (v1 : Int32) (N : xM) : Option xM :=
      lp (fun (s5 : (Int32 × xM)) (kk6 : (Int32 × xM) → Option xM) =>
        if (16:Int32) ≤ s5.1 then
          rw3 v1 s5.2
        else
          lp (fun (s16 : (Int32 × xM)) (kk17 : (Int32 × xM) → Option xM) =>
            if v1 ≤ s16.1 then
              kk6 ((s5.1 + 1), s16.2)
            else
              (fX0_writeTrust s5.1 s16.1 s16.2).bind fun q19 =>
              kk17 ((s16.1 + 1), q19)) xfu ((0:Int32), s5.2)) xfu ((0:Int32), N)
def rw1 (v1 : Int32) (N : xM) : Option xM :=
  lp (fun (s2 : (Int32 × xM)) (kk3 : (Int32 × xM) → Option xM) =>
    if (16:Int32) ≤ s2.1 then
      rw2 v1 s2.2
    else
      lp (fun (s20 : (Int32 × xM)) (kk21 : (Int32 × xM) → Option xM) =>
        if v1 ≤ s20.1 then
          kk3 ((s2.1 + 1), s20.2)
        else
          if xinb s2.1 16 then
            (fX6_numberKnown s2.1 s20.1 (56:Int32) s20.2).bind fun v24 =>
            if xinb s20.1 56 then
              bd (xw s20.2 (73 + 1 + s2.1.toNatClampNeg) s20.1.toNatClampNeg v24) fun m26 =>
              kk21 ((s20.1 + 1), m26)
            else none
          else none) xfu ((0:Int32), s2.2)) xfu ((0:Int32), N)
theorem rewrite_rw (M : xM) : fX0_rewrite M = (fX6_daysBegun M).bind fun v1 => rw1 v1 M := by
  unfold fX0_rewrite rw1 rw2 rw3
  exact Eq.trans rfl rfl
/-- what the books say once they are written -/
abbrev rwR (M : xM) (o : Option xM) : Prop := ∃ M' : xM, o = some M' ∧ M'.2 = M.2 ∧ BV M'.1 ∧ M'.1 72 6 = M.1 1 4 ∧ ∀ j i, (j < 72 ∨ 142 ≤ j) → M'.1 j i = M.1 j i
theorem nE_142 {m m' : sm} (e : ∀ j i, (j < 72 ∨ 142 ≤ j) → m' j i = m j i) : nE m m' := fun j i h => e j i (by omega)
theorem BV_all {m m' : sm} (e : sK m m') (h : ∀ k d, k < 16 → d < 56 → m' (73 + 1 + k) d = sR m k d ∧ m' (90 + 1 + k) d = sDo m k d ∧ m' (107 + 1 + k) d = sTr m k d ∧ m' (124 + 1 + k) d = sTd m k d) : BV m' := by
  intro k d hk hd
  have hh := h k d hk hd
  have h1 : sTd m' k d = sTd m k d := by
    unfold sTd
    rw [e 171 k (by decide), sSpr_k e, sTr_k e]
  rw [h1, sTr_k e, sDo_k e, sR, sRaw_k e]
  exact hh
theorem rw3_eq {n : Nat} {M N : xM} (hn : n ≤ 56) (hnn : M.1 170 15 = nI n) (hI : NInv M.1) (h2 : N.2 = M.2) (hf : ∀ j i, (j < 74 ∨ 142 ≤ j) → N.1 j i = M.1 j i) (hr : ∀ k d, k < 16 → d < 56 → N.1 (73 + 1 + k) d = sR M.1 k d ∧ N.1 (90 + 1 + k) d = sDo M.1 k d ∧ N.1 (107 + 1 + k) d = sTr M.1 k d ∧ N.1 (124 + 1 + k) d = sTr M.1 k d) : rwR M (rw3 (nI (min (n + 1) 56)) N) := by
  unfold rw3
  have hTB := TB_of hI
  refine lp_post (Q := rwR M) (fun s => ∃ (p : Nat) (N' : xM), p ≤ 16 ∧ s = (nI p, N') ∧ N'.2 = M.2 ∧ (∀ k d, k < 16 → d < 56 → N'.1 (124 + 1 + k) d = if M.1 171 k = 3 ∧ k < p then sSpr M.1 k d else sTr M.1 k d) ∧ ∀ j i, (j < 125 ∨ 142 ≤ j) → N'.1 j i = N.1 j i) (fun s => 17 - s.1.toNatClampNeg) ?_ xfu _ ⟨0, N, by omega, rfl, h2, fun k d hk hd => by rw [if_neg (by omega)]; exact (hr k d hk hd).2.2.2, fun _ _ _ => rfl⟩ (by unfold xfu; show 17 - _ < 1000; omega)
  rintro s kk ⟨p, N', hp, rfl, a2, a3, a4⟩ hkk
  have hfm : ∀ j i, (j < 74 ∨ 142 ≤ j) → N'.1 j i = M.1 j i := fun j i h => (a4 j i (by omega)).trans (hf j i h)
  have hnE : nE M.1 N'.1 := fun j i h => hfm j i (by omega)
  have hK := sK_n hnE
  by_cases e1 : p = 16
  · subst e1
    have g1 : (16:Int32) ≤ nI 16 := by decide
    simp only [g1, bd_at, ↓reduceIte]
    refine ⟨_, rfl, a2, ?_, ?_, ?_⟩
    · refine BV_all (m := M.1) (fun j i h => ?_) (fun k d hk hd => ?_)
      · rw [xw_at, if_neg (by omega)]
        exact hK j i h
      · have hh := hr k d hk hd
        rw [xw_at, xw_at, xw_at, xw_at, if_neg (by omega), if_neg (by omega), if_neg (by omega), if_neg (by omega)]
        rw [a4 _ _ (by omega), a4 _ _ (by omega), a4 _ _ (by omega), a3 k d hk hd]
        refine ⟨hh.1, hh.2.1, hh.2.2.1, ?_⟩
        unfold sTd
        by_cases e2 : M.1 171 k = 3
        · rw [if_pos ⟨e2, hk⟩, if_pos e2]
        · rw [if_neg (fun h => e2 h.1), if_neg e2]
    · rw [xw_at, if_pos ⟨rfl, rfl⟩]
      exact hfm 1 4 (by omega)
    · intro j i h
      rw [xw_at, if_neg (by omega)]
      exact hfm j i (by omega)
  · have hp : p < 16 := by omega
    have g1 : ¬ (16:Int32) ≤ nI p := nI_ge (b := 16) hp (by decide)
    have hb : xinb (nI p) 16 = true := xinb_nI hp (by decide)
    have hc : (nI p).toNatClampNeg = p := nI_clamp (by omega)
    have hc1 : (nI (p + 1)).toNatClampNeg = p + 1 := nI_clamp (by omega)
    have hm : 17 - (nI (p + 1)).toNatClampNeg < 17 - (nI p).toNatClampNeg := by rw [hc, hc1]; omega
    have hkd : N'.1 (8 + 4 * p) 0 = M.1 171 p := by
      rw [hfm _ _ (by omega)]
      exact hI.pl.1 p hp
    simp only [g1, hb, hc, hkd, ↓reduceIte, nI_1]
    by_cases e3 : M.1 171 p = 3
    · rw [if_pos e3]
      obtain ⟨f, hf1, hf2⟩ := hI.wf p hp
      have hI' := NInv_n hnE hI
      have hgp : sGb M.1 p = true := sGb_of (by rw [e3]; decide) (by rw [e3]; decide)
      obtain ⟨N2, b1, b2, b3, b4⟩ := writeSpread_eq (k := p) (f := f) (n := min (n + 1) 56) (M := N') hp (by omega) hf1 (by rw [hK 175 p (by decide)]; exact hf2) hI'.pl hI'.rd (fun q d hq hd => by
        rw [a4 _ _ (by omega), sTr_k hK]
        exact (hr q d hq hd).2.2.1) (by rw [hK 171 p (by decide)]; exact e3) (TB_of hI') (fun d hd h => by
        rw [hK 177 _ (by decide)] at h ⊢
        have := hI.wb p d hp hd hgp
        exact ⟨i_neg1 h this.1.1, this.1.2⟩)
      rw [b1, some_bind]
      refine hkk _ ⟨p + 1, N2, by omega, rfl, b2.trans a2, fun k d hk hd => ?_, fun j i h => ?_⟩ hm
      · by_cases e4 : k = p
        · subst e4
          have hsn : sSn N'.1 k f (min (n + 1) 56) = sSn M.1 k f (min (n + 1) 56) := sSn_k hK k f _
          rw [if_pos (show M.1 171 k = 3 ∧ k < k + 1 from ⟨e3, by omega⟩), b3 d, sSpr_k hK, hsn]
          by_cases e5 : f ≤ d ∧ d < sSn M.1 k f (min (n + 1) 56)
          · rw [if_pos e5]
          · rw [if_neg e5, a3 k d hk hd, if_neg (by omega), sTr_no (sR_store e3)]
            by_cases e6 : f ≤ d
            · refine (sSpr_no hd (fun e x1 x2 => ?_)).symm
              by_cases e7 : e < min (n + 1) 56
              · exact sSn_none (f := f) _ e (by omega) e7 (by omega)
              · exact (hI.wr k e hk x2 hgp (Or.inr (by rw [now_lt hn x2 hnn]; omega))).1
            · refine (sSpr_early ?_).symm
              rw [hf2]
              exact nI_lt (by omega) (by omega)
        · rw [b4 _ _ (by omega) (by omega), a3 k d hk hd]
          by_cases e5 : M.1 171 k = 3 ∧ k < p
          · rw [if_pos e5, if_pos ⟨e5.1, by omega⟩]
          · rw [if_neg e5, if_neg (fun h => e5 ⟨h.1, by omega⟩)]
      · rw [b4 j i (by omega) (by omega)]
        exact a4 j i h
    · rw [if_neg e3]
      refine hkk _ ⟨p + 1, N', by omega, rfl, a2, fun k d hk hd => ?_, a4⟩ hm
      rw [a3 k d hk hd]
      by_cases e4 : k = p
      · subst e4
        rw [if_neg (fun h => e3 h.1), if_neg (fun h => e3 h.1)]
      · by_cases e5 : M.1 171 k = 3 ∧ k < p
        · rw [if_pos e5, if_pos ⟨e5.1, by omega⟩]
        · rw [if_neg e5, if_neg (fun h => e5 ⟨h.1, by omega⟩)]
theorem rw2_eq {n : Nat} {M N : xM} (hn : n ≤ 56) (hnn : M.1 170 15 = nI n) (hI : NInv M.1) (hBF : BF M.1) (h2 : N.2 = M.2) (hf : ∀ j i, (j < 74 ∨ 90 ≤ j) → N.1 j i = M.1 j i) (hr : ∀ k d, k < 16 → d < 56 → N.1 (73 + 1 + k) d = sR M.1 k d) : rwR M (rw2 (nI (min (n + 1) 56)) N) := by
  unfold rw2
  obtain ⟨D, hD⟩ : ∃ D, D = min (n + 1) 56 := ⟨_, rfl⟩
  have hD9 : D ≤ 56 := by omega
  have hfut : ∀ d, D ≤ d → d < 56 → ¬ nI d ≤ M.1 170 15 := fun d h1 h2 => by rw [now_lt hn h2 hnn]; omega
  refine lp_post (Q := rwR M) (fun s => ∃ (p : Nat) (N' : xM), p ≤ 16 ∧ s = (nI p, N') ∧ N'.2 = M.2 ∧ (∀ k d, k < 16 → d < 56 → (k < p ∨ D ≤ d) → N'.1 (90 + 1 + k) d = sDo M.1 k d ∧ N'.1 (107 + 1 + k) d = sTr M.1 k d ∧ N'.1 (124 + 1 + k) d = sTr M.1 k d) ∧ ∀ j i, (j < 91 ∨ 141 ≤ j) → N'.1 j i = N.1 j i) (fun s => 17 - s.1.toNatClampNeg) ?_ xfu _ ⟨0, N, by omega, rfl, h2, fun k d hk hd h => ?_, fun _ _ _ => rfl⟩ (by unfold xfu; show 17 - _ < 1000; omega)
  rotate_left
  · have hd2 : D ≤ d := by omega
    have hx := hfut d hd2 hd
    have hy := hBF k d hk hd hx
    have hz := sR_fut (k := k) hx
    rw [hf _ _ (by omega), hf _ _ (by omega), hf _ _ (by omega), sDo_no hz, sTr_no hz]
    exact hy.2
  rintro s kk ⟨p, N', hp, rfl, a2, a3, a4⟩ hkk
  by_cases e1 : p = 16
  · subst e1
    have g1 : (16:Int32) ≤ nI 16 := by decide
    simp only [g1, ↓reduceIte]
    refine rw3_eq hn hnn hI a2 (fun j i h => ?_) (fun k d hk hd => ?_)
    · rw [a4 j i (by omega)]
      exact hf j i (by omega)
    · have := a3 k d hk hd (Or.inl hk)
      refine ⟨?_, this⟩
      rw [a4 _ _ (by omega)]
      exact hr k d hk hd
  · have hp : p < 16 := by omega
    have g1 : ¬ (16:Int32) ≤ nI p := nI_ge (b := 16) hp (by decide)
    have hc : (nI p).toNatClampNeg = p := nI_clamp (by omega)
    have hc1 : (nI (p + 1)).toNatClampNeg = p + 1 := nI_clamp (by omega)
    have hm : 17 - (nI (p + 1)).toNatClampNeg < 17 - (nI p).toNatClampNeg := by rw [hc, hc1]; omega
    simp only [g1, ↓reduceIte, nI_1]
    rw [← hD]
    refine lp_post (Q := rwR M) (fun s => ∃ (e : Nat) (N2 : xM), e ≤ D ∧ s = (nI e, N2) ∧ N2.2 = M.2 ∧ (∀ k d, k < 16 → d < 56 → (k < p ∨ D ≤ d ∨ (k = p ∧ d < e)) → N2.1 (90 + 1 + k) d = sDo M.1 k d ∧ N2.1 (107 + 1 + k) d = sTr M.1 k d ∧ N2.1 (124 + 1 + k) d = sTr M.1 k d) ∧ ∀ j i, (j < 91 ∨ 141 ≤ j) → N2.1 j i = N.1 j i) (fun s => 57 - s.1.toNatClampNeg) ?_ xfu _ ⟨0, N', by omega, rfl, a2, fun k d hk hd h => a3 k d hk hd (by omega), a4⟩ (by unfold xfu; show 57 - _ < 1000; omega)
    rintro s kk2 ⟨e, N2, he, rfl, b2, b3, b4⟩ hkk2
    by_cases e2 : e = D
    · have g2 : nI D ≤ nI e := by rw [e2]; exact Int32.le_refl _
      simp only [g2, ↓reduceIte]
      exact hkk _ ⟨p + 1, N2, by omega, rfl, b2, fun k d hk hd h => b3 k d hk hd (by omega), b4⟩ hm
    · have g2 : ¬ nI D ≤ nI e := nI_ge (by omega) (by omega)
      have hec : (nI e).toNatClampNeg = e := nI_clamp (by omega)
      have hec1 : (nI (e + 1)).toNatClampNeg = e + 1 := nI_clamp (by omega)
      have hm2 : 57 - (nI (e + 1)).toNatClampNeg < 57 - (nI e).toNatClampNeg := by rw [hec, hec1]; omega
      have he56 : e < 56 := by omega
      have hnE : nE M.1 N2.1 := fun j i h => (b4 j i (by omega)).trans (hf j i (by omega))
      have hK := sK_n hnE
      have hI' := NInv_n hnE hI
      simp only [g2, ↓reduceIte, nI_1]
      rw [writeTrust_eq hp he56 hI'.net hI'.log hI'.ru hI'.wb (fun q hq => by rw [b4 _ _ (by omega), sR, sRaw_k hK]; exact hr q e hq he56), some_bind]
      refine hkk2 _ ⟨e + 1, _, by omega, rfl, b2, fun k d hk hd h => ?_, fun j i h => ?_⟩ hm2
      · by_cases e3 : k = p ∧ d = e
        · obtain ⟨rfl, rfl⟩ := e3
          rw [xw_at, xw_at, xw_at, xw_at, xw_at, xw_at, xw_at, xw_at, xw_at, sDo_k hK, sTr_k hK]
          rw [if_neg (by omega), if_neg (by omega), if_pos ⟨rfl, rfl⟩, if_neg (by omega), if_pos ⟨rfl, rfl⟩, if_pos ⟨rfl, rfl⟩]
          exact ⟨rfl, rfl, rfl⟩
        · have := b3 k d hk hd (by omega)
          rw [xw_at, xw_at, xw_at, xw_at, xw_at, xw_at, xw_at, xw_at, xw_at]
          rw [if_neg (by omega), if_neg (by omega), if_neg (by omega), if_neg (by omega), if_neg (by omega), if_neg (by omega), if_neg (by omega), if_neg (by omega), if_neg (by omega)]
          exact this
      · rw [xw_at, xw_at, xw_at, if_neg (by omega), if_neg (by omega), if_neg (by omega)]
        exact b4 j i h
theorem rewrite_eq {M : xM} (hI : NInv M.1) (hBF : BF M.1) : rwR M (fX0_rewrite M) := by
  obtain ⟨n, hn, hnn⟩ := hI.n
  rw [rewrite_rw, days_eq hn (by rw [hI.net.1]; exact hnn), some_bind]
  unfold rw1
  obtain ⟨D, hD⟩ : ∃ D, D = min (n + 1) 56 := ⟨_, rfl⟩
  have hD9 : D ≤ 56 := by omega
  have hfut : ∀ d, D ≤ d → d < 56 → ¬ nI d ≤ M.1 170 15 := fun d h1 h2 => by rw [now_lt hn h2 hnn]; omega
  refine lp_post (Q := rwR M) (fun s => ∃ (p : Nat) (N' : xM), p ≤ 16 ∧ s = (nI p, N') ∧ N'.2 = M.2 ∧ (∀ k d, k < 16 → d < 56 → (k < p ∨ D ≤ d) → N'.1 (73 + 1 + k) d = sR M.1 k d) ∧ ∀ j i, (j < 74 ∨ 90 ≤ j) → N'.1 j i = M.1 j i) (fun s => 17 - s.1.toNatClampNeg) ?_ xfu _ ⟨0, M, by omega, rfl, rfl, fun k d hk hd h => ?_, fun _ _ _ => rfl⟩ (by unfold xfu; show 17 - _ < 1000; omega)
  rotate_left
  · have hx := hfut d (by omega) hd
    rw [sR_fut hx]
    exact (hBF k d hk hd hx).1
  rintro s kk ⟨p, N', hp, rfl, a2, a3, a4⟩ hkk
  by_cases e1 : p = 16
  · subst e1
    have g1 : (16:Int32) ≤ nI 16 := by decide
    simp only [g1, ↓reduceIte]
    exact rw2_eq hn hnn hI hBF a2 a4 (fun k d hk hd => a3 k d hk hd (Or.inl hk))
  · have hp : p < 16 := by omega
    have g1 : ¬ (16:Int32) ≤ nI p := nI_ge (b := 16) hp (by decide)
    have hb : xinb (nI p) 16 = true := xinb_nI hp (by decide)
    have hc : (nI p).toNatClampNeg = p := nI_clamp (by omega)
    have hc1 : (nI (p + 1)).toNatClampNeg = p + 1 := nI_clamp (by omega)
    have hm : 17 - (nI (p + 1)).toNatClampNeg < 17 - (nI p).toNatClampNeg := by rw [hc, hc1]; omega
    simp only [g1, hb, hc, ↓reduceIte, nI_1]
    rw [← hD]
    refine lp_post (Q := rwR M) (fun s => ∃ (e : Nat) (N2 : xM), e ≤ D ∧ s = (nI e, N2) ∧ N2.2 = M.2 ∧ (∀ k d, k < 16 → d < 56 → (k < p ∨ D ≤ d ∨ (k = p ∧ d < e)) → N2.1 (73 + 1 + k) d = sR M.1 k d) ∧ ∀ j i, (j < 74 ∨ 90 ≤ j) → N2.1 j i = M.1 j i) (fun s => 57 - s.1.toNatClampNeg) ?_ xfu _ ⟨0, N', by omega, rfl, a2, fun k d hk hd h => a3 k d hk hd (by omega), a4⟩ (by unfold xfu; show 57 - _ < 1000; omega)
    rintro s kk2 ⟨e, N2, he, rfl, b2, b3, b4⟩ hkk2
    by_cases e2 : e = D
    · have g2 : nI D ≤ nI e := by rw [e2]; exact Int32.le_refl _
      simp only [g2, ↓reduceIte]
      exact hkk _ ⟨p + 1, N2, by omega, rfl, b2, fun k d hk hd h => b3 k d hk hd (by omega), b4⟩ hm
    · have g2 : ¬ nI D ≤ nI e := nI_ge (by omega) (by omega)
      have he56 : e < 56 := by omega
      have heb : xinb (nI e) 56 = true := xinb_nI he56 (by decide)
      have hec : (nI e).toNatClampNeg = e := nI_clamp (by omega)
      have hec1 : (nI (e + 1)).toNatClampNeg = e + 1 := nI_clamp (by omega)
      have hm2 : 57 - (nI (e + 1)).toNatClampNeg < 57 - (nI e).toNatClampNeg := by rw [hec, hec1]; omega
      have hnE : nE M.1 N2.1 := fun j i h => b4 j i (by omega)
      have hK := sK_n hnE
      have hI' := NInv_n hnE hI
      simp only [g2, heb, hec, numberKnown56 hp he56 hI'.net hI'.log, some_bind, bd_at, ↓reduceIte, nI_1]
      refine hkk2 _ ⟨e + 1, _, by omega, rfl, b2, fun k d hk hd h => ?_, fun j i h => ?_⟩ hm2
      · rw [xw_at]
        by_cases e3 : k = p ∧ d = e
        · obtain ⟨rfl, rfl⟩ := e3
          rw [if_pos ⟨rfl, rfl⟩, sR, sRaw_k hK]
        · rw [if_neg (by omega)]
          exact b3 k d hk hd (by omega)
      · rw [xw_at, if_neg (by omega)]
        exact b4 j i h
theorem sSpr_fut {m : sm} {k d : Nat} (hI : NInv m) (hk : k < 16) (hd : d < 56) (h3 : m 171 k = 3) (h : ¬ nI d ≤ m 170 15) : sSpr m k d = -1 := by
  obtain ⟨n, hn, hnn⟩ := hI.n
  refine sSpr_no hd (fun e h1 h2 => (hI.wr k e hk h2 (sGb_of (by rw [h3]; decide) (by rw [h3]; decide)) (Or.inr ?_)).1)
  rw [now_lt hn hd hnn] at h
  rw [now_lt hn h2 hnn]
  omega
theorem BF_of {m : sm} (hI : NInv m) (h : BV m) : BF m := by
  intro k d hk hd hf
  have hz := sR_fut (k := k) hf
  have hh := h k d hk hd
  have h1 : sTd m k d = -1 := by
    unfold sTd
    by_cases e3 : m 171 k = 3
    · rw [if_pos e3]
      exact sSpr_fut hI hk hd e3 hf
    · rw [if_neg e3, sTr_no hz]
  rw [hz, sDo_no hz, sTr_no hz, h1] at hh
  exact hh
abbrev obR (M : xM) (c : Nat) (o : Option xM) : Prop := ∃ M' : xM, o = some M' ∧ M'.2 = M.2 ∧ Inv M'.1 c ∧ BV M'.1 ∧ ∀ j i, (j < 72 ∨ 142 ≤ j) → M'.1 j i = M.1 j i
theorem openBooks_eq {M : xM} {c : Nat} (hc : c < 2 ^ 31) (h : Inv M.1 c) : obR M c (fX9_openBooks M) := by
  obtain ⟨hI, hBF, w, hw, h1, h2, h3⟩ := h
  unfold fX9_openBooks
  by_cases e : M.1 72 6 = M.1 1 4
  · rw [if_pos e]
    have hwc : w = c := nI_inj (by omega) hc (by rw [← h2, e, h1])
    exact ⟨M, rfl, rfl, ⟨hI, hBF, w, hw, h1, h2, h3⟩, h3 hwc, fun _ _ _ => rfl⟩
  · rw [if_neg e]
    obtain ⟨M', a1, a2, a3, a4, a5⟩ := rewrite_eq hI hBF
    rw [a1, some_bind]
    have hI' := NInv_n (nE_142 a5) hI
    have h14 : M'.1 1 4 = nI c := (a5 1 4 (by omega)).trans h1
    exact ⟨M', rfl, a2, ⟨hI', BF_of hI' a3, c, Nat.le_refl _, h14, by rw [a4, h1], fun _ => a3⟩, a3, a5⟩
