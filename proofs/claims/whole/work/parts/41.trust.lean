/-! ===== the class writes the doubt and the trusted number of a place and a day ===== -/
theorem sTr_if (m : sm) (k d : Nat) : (if sDo m k d = 0 then sR m k d else -1) = sTr m k d := by
  unfold sTr
  by_cases h : sR m k d = -1
  · rw [if_pos h]
    split
    · exact h
    · rfl
  · rw [if_neg h]
theorem writeTrust_eq {k d : Nat} {M : xM} (hk : k < 16) (hd : d < 56) (hN : CNet M.1) (hL : CLg M.1) (hU : CRu M.1) (hB : WB M.1) (hr : ∀ q, q < 16 → M.1 (73 + 1 + q) d = sR M.1 q d) : fX0_writeTrust (nI k) (nI d) M = some (xw (xw (xw M (90 + 1 + k) d (sDo M.1 k d)) (107 + 1 + k) d (sTr M.1 k d)) (124 + 1 + k) d (sTr M.1 k d)) := by
  have hb : xinb (nI k) 16 = true := xinb_nI hk (by decide)
  have hc : (nI k).toNatClampNeg = k := nI_clamp (by omega)
  have hb2 : xinb (nI d) 56 = true := xinb_nI hd (by decide)
  have hc2 : (nI d).toNatClampNeg = d := nI_clamp (by omega)
  unfold fX0_writeTrust
  rw [doubtC_eq hk hd hN hL hU hB hr, some_bind, jn_at]
  simp only [hb, hb2, hc, hc2, bd_at, hr k hk, ↓reduceIte]
  have := sTr_if M.1 k d
  by_cases h : sDo M.1 k d = 0
  · rw [if_pos h] at this
    rw [if_pos h, this]
  · rw [if_neg h] at this
    rw [if_neg h, this]
