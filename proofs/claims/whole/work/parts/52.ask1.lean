/-! ===== the calls that ask: places, readings, doubts ===== -/
abbrev aR0 (o9 o10 : Option Int32) : Prop := ∃ v, o9 = some v ∧ o10 = some v
abbrev aR1 (c : Nat) (o9 : Option (Int32 × xM)) (f : xM → Option Int32) : Prop := ∃ v M1, o9 = some (v, M1) ∧ f M1 = some v ∧ ∃ c', c' ≤ c + 1 ∧ Inv M1.1 c'
abbrev aR2 (c : Nat) (o9 : Option (Int32 × xM)) (f : xM → Option (Int32 × xM)) : Prop := ∃ v M1 M2, o9 = some (v, M1) ∧ f M1 = some (v, M2) ∧ ∃ c', c' ≤ c + 1 ∧ Inv M2.1 c'
abbrev aRL (c : Nat) (o9 : Option (Int64 × xM)) (f : xM → Option (Int64 × xM)) : Prop := ∃ v M1 M2, o9 = some (v, M1) ∧ f M1 = some (v, M2) ∧ ∃ c', c' ≤ c + 1 ∧ Inv M2.1 c'
theorem day_tri (day : Int32) : (day < 0 ∨ 56 ≤ day) ∨ ∃ d : Nat, d < 56 ∧ day = nI d := by
  rcases i_tri day (n := 56) (by decide) with h | h | h
  · exact Or.inl (Or.inl h)
  · exact Or.inl (Or.inr h)
  · exact Or.inr h
theorem place_tri (p : Int32) : (p < 0 ∨ 16 ≤ p) ∨ ∃ k : Nat, k < 16 ∧ p = nI k := by
  rcases i_tri p (n := 16) (by decide) with h | h | h
  · exact Or.inl (Or.inl h)
  · exact Or.inl (Or.inr h)
  · exact Or.inr h
theorem gt_of_ge {a b x : Int32} (h : a ≤ x) (hb : b.toInt + 1 = a.toInt) : b < x := by
  rw [Int32.le_iff_toInt_le] at h
  rw [Int32.lt_iff_toInt_lt]
  omega
theorem isIn_day_out {day : Int32} {M : xM} (h : day < 0 ∨ 56 ≤ day) : fX10_isIn day 0 55 M = some 0 :=
  isIn_0 (h.imp id (fun h => gt_of_ge h (by decide)))
theorem isIn_day {d : Nat} {M : xM} (h : d < 56) : fX10_isIn (nI d) 0 55 M = some 1 :=
  isIn_1 (nI_pos (by omega)) (show ¬ (55:Int32) < nI d from nI_nlt (b := d) (a := 55) (by omega) (by decide))
theorem isIn_place_out {p : Int32} {M : xM} (h : p < 0 ∨ 16 ≤ p) : fX10_isIn p 0 15 M = some 0 :=
  isIn_0 (h.imp id (fun h => gt_of_ge h (by decide)))
theorem isIn_place {k : Nat} {M : xM} (h : k < 16) : fX10_isIn (nI k) 0 15 M = some 1 :=
  isIn_1 (nI_pos (by omega)) (show ¬ (15:Int32) < nI k from nI_nlt (b := k) (a := 15) (by omega) (by decide))
/-- what a call of a place that wants a gauge answers; 0: it is one -/
def gf (m : sm) (k : Nat) : Int32 := if m 171 k = -1 then -1 else if m 171 k = 5 then -2 else 0
theorem gf_0 {m : sm} {k : Nat} : gf m k = 0 ↔ sGb m k = true := by
  have h1 : ¬ (-1:Int32) = 0 := by decide
  have h2 : ¬ (-2:Int32) = 0 := by decide
  unfold gf sGb
  by_cases e1 : m 171 k = -1
  · simp [e1]
  · by_cases e2 : m 171 k = 5
    · simp [e2]
    · simp [e1, e2]
theorem gaugeF_out {p : Int32} {M : xM} (h : p < 0 ∨ 16 ≤ p) : fX9_gaugeFault p M = some (-1) := by
  unfold fX9_gaugeFault
  rw [isPlace_out h]
  simp only [some_bind, ↓reduceIte]
theorem gaugeF_nI {k : Nat} {M : xM} (hk : k < 16) (hP : CPl M.1) : fX9_gaugeFault (nI k) M = some (gf M.1 k) := by
  have hb : xinb (nI k) 16 = true := xinb_nI hk (by decide)
  have hc : (nI k).toNatClampNeg = k := nI_clamp (by omega)
  have h10 : ¬ (1:Int32) = 0 := by decide
  unfold fX9_gaugeFault gf
  rw [isPlace_nI hk]
  simp only [some_bind, h10, hb, hc, hP.1 k hk, ↓reduceIte]
  by_cases e1 : M.1 171 k = -1
  · simp only [e1, ↓reduceIte]
  · by_cases e2 : M.1 171 k = 5
    · have : ¬ (5:Int32) = -1 := by decide
      simp only [e2, this, ↓reduceIte]
    · simp only [e1, e2, ↓reduceIte]
theorem fails_out {p a b : Int32} {M : xM} (h : p < 0 ∨ 16 ≤ p) : fX10_fails p a b M = some (-1) := by
  unfold fX10_fails
  rw [isIn_place_out h]
  simp only [some_bind, ↓reduceIte]
/-- the same for a range of kinds -/
theorem fails_nI {k : Nat} {a b : Int32} {M : xM} (hk : k < 16) : fX10_fails (nI k) a b M = some (if M.1 171 k = -1 then -1 else if M.1 171 k < a ∨ b < M.1 171 k then -2 else 0) := by
  have hb : xinb (nI k) 16 = true := xinb_nI hk (by decide)
  have hc : (nI k).toNatClampNeg = k := nI_clamp (by omega)
  have h10 : ¬ (1:Int32) = 0 := by decide
  unfold fX10_fails
  rw [isIn_place hk]
  simp only [some_bind, h10, hb, hc, ↓reduceIte]
  by_cases e1 : M.1 171 k = -1
  · simp only [e1, ↓reduceIte]
  · simp only [e1, ↓reduceIte]
    by_cases e2 : M.1 171 k < a ∨ b < M.1 171 k
    · rw [isIn_0 e2, if_pos e2]
      simp only [some_bind, ↓reduceIte]
    · rw [isIn_1 (fun h => e2 (Or.inl h)) (fun h => e2 (Or.inr h)), if_neg e2]
      simp only [some_bind, h10, ↓reduceIte]
theorem fails04 {k : Nat} {M : xM} (hk : k < 16) (hK : WK M.1) : fX10_fails (nI k) 0 4 M = some (gf M.1 k) := by
  rw [fails_nI hk]
  unfold gf
  rcases hK k hk with h | ⟨c, hc, h⟩
  · rw [if_pos h, if_pos h]
  · rw [h]
    have : c = 0 ∨ c = 1 ∨ c = 2 ∨ c = 3 ∨ c = 4 ∨ c = 5 := by omega
    rcases this with rfl | rfl | rfl | rfl | rfl | rfl <;> decide
theorem gaugeDF_out {p day : Int32} {M : xM} (h : p < 0 ∨ 16 ≤ p) : fX9_gaugeDayFault p day M = some (-1) := by
  have : ¬ (-1:Int32) = 0 := by decide
  unfold fX9_gaugeDayFault
  rw [gaugeF_out h]
  simp only [some_bind, this, ↓reduceIte]
theorem gaugeDF_no {k : Nat} {day : Int32} {M : xM} (hk : k < 16) (hP : CPl M.1) (h : ¬ gf M.1 k = 0) : fX9_gaugeDayFault (nI k) day M = some (gf M.1 k) := by
  unfold fX9_gaugeDayFault
  rw [gaugeF_nI hk hP]
  simp only [some_bind, h, ↓reduceIte]
theorem gaugeDF_dout {k : Nat} {day : Int32} {M : xM} (hk : k < 16) (hP : CPl M.1) (h : gf M.1 k = 0) (hd : day < 0 ∨ 56 ≤ day) : fX9_gaugeDayFault (nI k) day M = some (-1) := by
  unfold fX9_gaugeDayFault
  rw [gaugeF_nI hk hP, isDay_out hd]
  simp only [some_bind, h, ↓reduceIte]
theorem gaugeDF_in {k d : Nat} {M : xM} (hk : k < 16) (hd : d < 56) (hP : CPl M.1) (h : gf M.1 k = 0) : fX9_gaugeDayFault (nI k) (nI d) M = some 0 := by
  have h10 : ¬ (1:Int32) = 0 := by decide
  unfold fX9_gaugeDayFault
  rw [gaugeF_nI hk hP, isDay_nI hd]
  simp only [some_bind, h, h10, ↓reduceIte]
theorem i_m1 : ¬ (-1:Int32) = 0 := by decide
theorem i_m2 : ¬ (-2:Int32) = 0 := by decide
theorem i_10 : ¬ (1:Int32) = 0 := by decide
theorem today_ok {M : xM} (hI : NInv M.1) : aR0 (fX9_today M) (fX10_today M) := by
  unfold fX9_today fX10_today
  exact ⟨_, rfl, by rw [hI.net.1]⟩
theorem look_ok {p what : Int32} {M : xM} (hI : NInv M.1) : aR0 (fX9_look p what M) (fX10_look p what M) := by
  unfold fX9_look fX10_look
  rcases place_tri p with h | ⟨k, hk, rfl⟩
  · rw [isPlace_out h, fails_out h]
    simp only [some_bind, i_m1, ↓reduceIte]
    exact ⟨_, rfl, rfl⟩
  · have hb : xinb (nI k) 16 = true := xinb_nI hk (by decide)
    have hc : (nI k).toNatClampNeg = k := nI_clamp (by omega)
    rw [isPlace_nI hk, fails_nI hk]
    simp only [some_bind, i_10, hb, hc, hI.pl.1 k hk, ↓reduceIte]
    by_cases e1 : M.1 171 k = -1
    · simp only [e1, i_m1, ↓reduceIte]
      exact ⟨_, rfl, rfl⟩
    · have hr : ¬ (M.1 171 k < 0 ∨ (5:Int32) < M.1 171 k) := by
        rcases hI.wk k hk with h | ⟨c, hc, h⟩
        · exact absurd h e1
        · rw [h]
          rintro (h | h)
          · exact nI_pos (by omega) h
          · exact nI_nlt (b := c) (a := 5) hc (by decide) h
      have hp := hI.pl.2 k hk e1
      simp only [e1, hr, hp.1, hp.2.1, hp.2.2.1, hp.2.2.2.1, hp.2.2.2.2, ↓reduceIte]
      split
      · exact ⟨_, rfl, rfl⟩
      · split
        · exact ⟨_, rfl, rfl⟩
        · split
          · exact ⟨_, rfl, rfl⟩
          · split
            · exact ⟨_, rfl, rfl⟩
            · split
              · exact ⟨_, rfl, rfl⟩
              · split
                · exact ⟨_, rfl, rfl⟩
                · exact ⟨_, rfl, rfl⟩
theorem wf_pos {m : sm} {k : Nat} (hI : NInv m) (hk : k < 16) : ¬ m 175 k < 0 := by
  obtain ⟨f, h1, h2⟩ := hI.wf k hk
  rw [h2]
  exact nI_pos (by omega)
theorem raw_ok {p day : Int32} {M : xM} (hI : NInv M.1) : aR0 (fX9_raw p day M) (fX10_raw p day M) := by
  unfold fX9_raw fX10_raw
  rcases place_tri p with h | ⟨k, hk, rfl⟩
  · rw [gaugeDF_out h, fails_out h]
    simp only [some_bind, i_m1, ↓reduceIte]
    exact ⟨_, rfl, rfl⟩
  · rw [fails04 hk hI.wk]
    by_cases e : gf M.1 k = 0
    · rcases day_tri day with hd | ⟨d, hd, rfl⟩
      · rw [gaugeDF_dout hk hI.pl e hd, e]
        unfold fX10_raw0
        rw [rawAt_out hk (wf_pos hI hk) hd]
        simp only [some_bind, i_m1, ↓reduceIte]
        exact ⟨_, rfl, rfl⟩
      · rw [gaugeDF_in hk hd hI.pl e, e, numberKnown56 hk hd hI.net hI.log, raw0_eq hk hd hI.h]
        simp only [some_bind, ↓reduceIte]
        exact ⟨_, rfl, rfl⟩
    · rw [gaugeDF_no hk hI.pl e]
      simp only [some_bind, e, ↓reduceIte]
      exact ⟨_, rfl, rfl⟩
theorem known_ok {p day t : Int32} {M : xM} (hI : NInv M.1) : aR0 (fX9_known p day t M) (fX10_known p day t M) := by
  obtain ⟨n, hn, hnn⟩ := hI.n
  unfold fX9_known fX10_known
  rcases place_tri p with h | ⟨k, hk, rfl⟩
  · rw [gaugeDF_out h, fails_out h]
    simp only [some_bind, i_m1, ↓reduceIte]
    exact ⟨_, rfl, rfl⟩
  · rw [fails04 hk hI.wk]
    by_cases e : gf M.1 k = 0
    · rcases day_tri day with hd | ⟨d, hd, rfl⟩
      · rw [gaugeDF_dout hk hI.pl e hd, e]
        simp only [some_bind, i_m1, jn_at, rawAt_out hk (wf_pos hI hk) hd, ↓reduceIte]
        refine ⟨_, rfl, ?_⟩
        split
        · split <;> rfl
        · rfl
      · rw [gaugeDF_in hk hd hI.pl e, e, numberKnown_eq hk hd hI.net hI.log]
        simp only [some_bind, jn_at, rawAt_eq hk hd hI.h, ↓reduceIte]
        refine ⟨_, rfl, ?_⟩
        by_cases e1 : 0 ≤ t
        · rw [if_pos e1]
          by_cases e2 : t < M.1 170 15
          · rw [if_pos e2]
          · rw [if_neg e2]
            obtain ⟨h, h9, hh, -, -, hW⟩ := hI.log
            rw [sRaw_late (t := 99) (t' := t) hh h9 hW (by rw [hnn]; exact nI_le (b := 99) (by omega) (by decide)) (Int32.not_lt.mp e2)]
        · rw [if_neg e1]
          have : t < nI d := by
            rw [Int32.le_iff_toInt_le, show (0:Int32).toInt = 0 from by decide] at e1
            rw [Int32.lt_iff_toInt_lt, nI_toInt (by omega)]
            omega
          unfold sRaw
          rw [if_pos (Or.inr (Or.inr (Or.inr (Or.inl this))))]
    · rw [gaugeDF_no hk hI.pl e]
      simp only [some_bind, e, ↓reduceIte]
      exact ⟨_, rfl, rfl⟩
theorem why_ok {p day : Int32} {M : xM} {c : Nat} (hc : c < 2 ^ 31) (h0 : Inv M.1 c) : aR1 c (fX9_why p day M) (fX10_why p day) := by
  have hI := h0.1
  unfold fX9_why fX10_why
  rcases place_tri p with h | ⟨k, hk, rfl⟩
  · rw [gaugeDF_out h]
    simp only [some_bind, i_m1, ↓reduceIte]
    exact ⟨_, _, rfl, by simp only [fails_out h, some_bind, i_m1, ↓reduceIte], c, by omega, h0⟩
  · by_cases e : gf M.1 k = 0
    · rcases day_tri day with hd | ⟨d, hd, rfl⟩
      · rw [gaugeDF_dout hk hI.pl e hd]
        simp only [some_bind, i_m1, ↓reduceIte]
        exact ⟨_, _, rfl, by simp only [fails04 hk hI.wk, e, isIn_day_out hd, some_bind, i_m1, ↓reduceIte], c, by omega, h0⟩
      · obtain ⟨M1, a1, a2, a3, a4, a5⟩ := openBooks_eq hc h0
        have hK := sK_n (nE_142 a5)
        have e' : gf M1.1 k = 0 := by rw [gf_0, sGb_k hK]; exact gf_0.mp e
        rw [gaugeDF_in hk hd hI.pl e, a1]
        simp only [some_bind, ↓reduceIte, doubtOf_nI hk hd, (a4 k d hk hd).2.1]
        exact ⟨_, _, rfl, by simp only [fails04 hk a3.1.wk, e', isIn_day hd, doubt_eq hk hd a3.1.h, some_bind, i_10, ↓reduceIte], c, by omega, a3⟩
    · rw [gaugeDF_no hk hI.pl e]
      simp only [some_bind, e, ↓reduceIte]
      exact ⟨_, _, rfl, by simp only [fails04 hk hI.wk, some_bind, e, ↓reduceIte], c, by omega, h0⟩
