/-! ===== the class's mender: who mends ===== -/
theorem trustedOf_nI {q d : Nat} {M : xM} (hq : q < 16) (hd : d < 56) : fX0_trustedOf (nI q) (nI d) M = some (M.1 (107 + 1 + q) d) := by
  have hb : xinb (nI q) 16 = true := xinb_nI hq (by decide)
  have hc : (nI q).toNatClampNeg = q := nI_clamp (by omega)
  have hb2 : xinb (nI d) 56 = true := xinb_nI hd (by decide)
  have hc2 : (nI d).toNatClampNeg = d := nI_clamp (by omega)
  have h10 : ¬ (1:Int32) = 0 := by decide
  unfold fX0_trustedOf
  rw [isPlace_nI hq, isDay_nI hd]
  simp only [some_bind, h10, hb, hb2, hc, hc2, ↓reduceIte]
theorem trustedOf_out {q : Nat} {day : Int32} {M : xM} (hq : q < 16) (hd : day < 0 ∨ 56 ≤ day) : fX0_trustedOf (nI q) day M = some (-1) := by
  have h10 : ¬ (1:Int32) = 0 := by decide
  unfold fX0_trustedOf
  rw [isPlace_nI hq, isDay_out hd]
  simp only [some_bind, h10, ↓reduceIte]
theorem toldOf_nI {q d : Nat} {M : xM} (hq : q < 16) (hd : d < 56) : fX0_toldOf (nI q) (nI d) M = some (M.1 (124 + 1 + q) d) := by
  have hb : xinb (nI q) 16 = true := xinb_nI hq (by decide)
  have hc : (nI q).toNatClampNeg = q := nI_clamp (by omega)
  have hb2 : xinb (nI d) 56 = true := xinb_nI hd (by decide)
  have hc2 : (nI d).toNatClampNeg = d := nI_clamp (by omega)
  have h10 : ¬ (1:Int32) = 0 := by decide
  unfold fX0_toldOf
  rw [isPlace_nI hq, isDay_nI hd]
  simp only [some_bind, h10, hb, hb2, hc, hc2, ↓reduceIte]
theorem toldOf_out {q : Nat} {day : Int32} {M : xM} (hq : q < 16) (hd : day < 0 ∨ 56 ≤ day) : fX0_toldOf (nI q) day M = some (-1) := by
  have h10 : ¬ (1:Int32) = 0 := by decide
  unfold fX0_toldOf
  rw [isPlace_nI hq, isDay_out hd]
  simp only [some_bind, h10, ↓reduceIte]
theorem doubtOf_nI {q d : Nat} {M : xM} (hq : q < 16) (hd : d < 56) : fX0_doubtOf (nI q) (nI d) M = some (M.1 (90 + 1 + q) d) := by
  have hb : xinb (nI q) 16 = true := xinb_nI hq (by decide)
  have hc : (nI q).toNatClampNeg = q := nI_clamp (by omega)
  have hb2 : xinb (nI d) 56 = true := xinb_nI hd (by decide)
  have hc2 : (nI d).toNatClampNeg = d := nI_clamp (by omega)
  have h10 : ¬ (1:Int32) = 0 := by decide
  unfold fX0_doubtOf
  rw [isPlace_nI hq, isDay_nI hd]
  simp only [some_bind, h10, hb, hb2, hc, hc2, ↓reduceIte]
theorem daily_eq {k : Nat} {M : xM} : fX7_isDailyGauge k M = some (if M.1 (8 + 4 * k) 0 = -1 ∨ M.1 (8 + 4 * k) 0 = 5 ∨ M.1 (8 + 4 * k) 0 = 3 then 0 else 1) := by
  unfold fX7_isDailyGauge
  by_cases h1 : M.1 (8 + 4 * k) 0 = -1
  · rw [if_pos h1, if_pos (Or.inl h1)]
  · rw [if_neg h1]
    by_cases h2 : M.1 (8 + 4 * k) 0 = 5
    · rw [if_pos h2, if_pos (Or.inr (Or.inl h2))]
    · rw [if_neg h2]
      by_cases h3 : M.1 (8 + 4 * k) 0 = 3
      · rw [if_pos h3, if_pos (Or.inr (Or.inr h3))]
      · rw [if_neg h3, if_neg (fun h => h.elim h1 (fun h => h.elim h2 h3))]
/-- what queries write over -/
abbrev qE (m m' : sm) : Prop := ∀ j i, (j < 141 ∨ (146 ≤ j ∧ j < 165) ∨ (170 ≤ j ∧ j < 187)) → m' j i = m j i
theorem nE_q {m m' : sm} (e : qE m m') : nE m m' := fun j i h => e j i (by omega)
theorem qE_t {a b c : sm} (h1 : qE a b) (h2 : qE b c) : qE a c := fun j i h => (h2 j i h).trans (h1 j i h)
theorem qE_s {m m' : sm} (e : sEq m m') : qE m m' := fun j i h => e j i (by omega)
theorem BF_q {m m' : sm} (e : qE m m') (h : BF m) : BF m' := fun k d hk hd hf => by
  rw [e 170 _ (by omega)] at hf
  rw [e _ _ (by omega), e _ _ (by omega), e _ _ (by omega), e _ _ (by omega)]
  exact h k d hk hd hf
theorem BV_q {m m' : sm} (e : qE m m') (h : BV m) : BV m' := by
  have hK := sK_n (nE_q e)
  refine BV_all hK (fun k d hk hd => ?_)
  rw [e _ _ (by omega), e _ _ (by omega), e _ _ (by omega), e _ _ (by omega)]
  exact h k d hk hd
theorem Inv_q {m m' : sm} {c : Nat} (e : qE m m') (h : Inv m c) : Inv m' c := by
  obtain ⟨h1, h2, w, h3, h4, h5, h6⟩ := h
  exact ⟨NInv_n (nE_q e) h1, BF_q e h2, w, h3, (e 1 4 (by omega)).trans h4, (e 72 6 (by omega)).trans h5, fun h => BV_q e (h6 h)⟩
/-- a gauge that is no store -/
abbrev sDg (m : sm) (k : Nat) : Prop := sGb m k = true ∧ ¬ m 171 k = 3
theorem daily_1 {k : Nat} {M : xM} (hk : k < 16) (hP : CPl M.1) (h : sDg M.1 k) : fX7_isDailyGauge k M = some 1 := by
  have hg := sGb_1 h.1
  rw [daily_eq, hP.1 k hk, if_neg (fun x => x.elim hg.1 (fun x => x.elim hg.2 h.2))]
theorem daily_0 {k : Nat} {M : xM} (hk : k < 16) (hP : CPl M.1) (h : ¬ sDg M.1 k) : fX7_isDailyGauge k M = some 0 := by
  rw [daily_eq, hP.1 k hk, if_pos]
  by_cases h1 : M.1 171 k = -1
  · exact Or.inl h1
  · by_cases h2 : M.1 171 k = 5
    · exact Or.inr (Or.inl h2)
    · by_cases h3 : M.1 171 k = 3
      · exact Or.inr (Or.inr h3)
      · exact absurd ⟨sGb_of h1 h2, h3⟩ h
theorem daily_x {k : Nat} {M : xM} (hk : k < 16) : fX7_isDailyGauge k (xw M 143 2 0) = fX7_isDailyGauge k M := by
  have hx : (xw M 143 2 0).1 (8 + 4 * k) 0 = M.1 (8 + 4 * k) 0 := xv_ne (by omega)
  rw [daily_eq, daily_eq, hx]
abbrev gaR (M : xM) (k : Nat) (L : List Nat) (o : Option (Int32 × xM)) : Prop := ∃ M' : xM, o = some (nI L.length, M') ∧ M'.2 = M.2 ∧ sCir M'.1 143 (fun y => sDs M.1 y k) L ∧ ∀ j i, (j < 143 ∨ 146 ≤ j) → M'.1 j i = M.1 j i
theorem gather_gen {k : Nat} {day : Int32} {t : Nat → Int32} {M : xM} (hk : k < 16) (hP : CPl M.1) (hg : sDg M.1 k) (hf : M.1 175 k ≤ day) (ht : ∀ q N, q < 16 → (∀ j i, (j < 143 ∨ 146 ≤ j) → N.1 j i = M.1 j i) → fX0_trustedOf (nI q) day N = some (t q)) (htg : ∀ q, q < 16 → ¬ t q = -1 → sGb M.1 q = true) : gaR M k (((sRows M.1 k 16).filter (fun y => !(t y == -1))).take 4) (fX5_gather (nI k) day M) := by
  have hb : xinb (nI k) 16 = true := xinb_nI hk (by decide)
  have hc : (nI k).toNatClampNeg = k := nI_clamp (by omega)
  have h10 : ¬ (1:Int32) = 0 := by decide
  have hne := (sGb_1 hg.1).1
  let P : Nat → Bool := fun q => !(q == k) && !(t q == -1)
  have hPg : ∀ q, q < 16 → P q = true → ¬ q = k ∧ sGb M.1 q = true := by
    intro q hq h
    have h : (!(q == k) && !(t q == -1)) = true := h
    simp only [Bool.and_eq_true, Bool.not_eq_true', beq_eq_false_iff_ne, ne_eq] at h
    exact ⟨h.1, htg q hq h.2⟩
  have hL : ((sRows M.1 k 16).filter (fun y => !(t y == -1))).take 4 = sTop (fun y => sDs M.1 y k) P 16 := by
    rw [sTop_rows hPg 16 (Nat.le_refl _)]
    congr 1
    refine List.filter_congr (fun y hy => ?_)
    have := (sRows_mem 16 hy).2.1
    show (!(t y == -1)) = (!(y == k) && !(t y == -1))
    have h2 : (y == k) = false := by simpa using this
    rw [h2]
    rfl
  rw [hL]
  have h0 : fX7_isDailyGauge k (xw M 143 2 0) = some 1 := by
    rw [daily_x hk]
    exact daily_1 hk hP hg
  have h4 : (xw M 143 2 0).1 (8 + 4 * k) 4 = M.1 175 k := by
    rw [xw_at, if_neg (by omega)]
    exact (hP.2 k hk hne).2.2.2.1
  unfold fX5_gather
  simp only [bd_at, isPlace_nI hk, some_bind, h10, hb, hc, h0, h4, hf, ↓reduceIte]
  refine lp_post (Q := gaR M k (sTop (fun y => sDs M.1 y k) P 16)) (fun s => ∃ (q : Nat) (N : xM), q ≤ 16 ∧ s = (nI q, N) ∧ N.2 = M.2 ∧ sCir N.1 143 (fun y => sDs M.1 y k) (sTop (fun y => sDs M.1 y k) P q) ∧ ∀ j i, (j < 143 ∨ 146 ≤ j) → N.1 j i = M.1 j i) (fun s => 17 - s.1.toNatClampNeg) ?_ xfu _ ⟨0, _, by omega, rfl, rfl, ⟨Nat.zero_le 4, by rw [xw_at, if_pos ⟨rfl, rfl⟩]; rfl, fun i y h => absurd h (by simp [sTop])⟩, fun j i h => by rw [xw_at, if_neg (by omega)]⟩ (by unfold xfu; show 17 - _ < 1000; omega)
  rintro s kk ⟨q, N, hq, rfl, a1, a2, a3⟩ hkk
  by_cases e1 : q = 16
  · subst e1
    have g1 : (16:Int32) ≤ nI 16 := by decide
    simp only [g1, ↓reduceIte]
    rw [a2.2.1]
    exact ⟨N, rfl, a1, a2, a3⟩
  · have hq : q < 16 := by omega
    have g1 : ¬ (16:Int32) ≤ nI q := nI_ge (b := 16) hq (by decide)
    have hqb : xinb (nI q) 16 = true := xinb_nI hq (by decide)
    have hqc : (nI q).toNatClampNeg = q := nI_clamp (by omega)
    have hqc1 : (nI (q + 1)).toNatClampNeg = q + 1 := nI_clamp (by omega)
    have hm : 17 - (nI (q + 1)).toNatClampNeg < 17 - (nI q).toNatClampNeg := by rw [hqc, hqc1]; omega
    have skip : P q = false → gaR M k (sTop (fun y => sDs M.1 y k) P 16) (kk (nI (q + 1), N)) := fun h =>
      hkk _ ⟨q + 1, N, by omega, rfl, a1, by rw [sTop_s, if_neg (by rw [h]; simp)]; exact a2, a3⟩ hm
    simp only [g1, ↓reduceIte, nI_1]
    by_cases e2 : q = k
    · have : nI q = nI k := by rw [e2]
      rw [if_pos this]
      exact skip (by show (!(q == k) && !(t q == -1)) = false; simp [e2])
    · rw [if_neg (nI_ne (by omega) (by omega) e2), ht q N hq a3, some_bind]
      by_cases e3 : t q = -1
      · rw [if_pos e3]
        exact skip (by show (!(q == k) && !(t q == -1)) = false; simp [e3])
      · have hgq := htg q hq e3
        have hnE : nE M.1 N.1 := fun j i h => a3 j i (by omega)
        have hK := sK_n hnE
        have hd : fX9_squaredDistance (N.1 (8 + 4 * k) 1) (N.1 (8 + 4 * k) 2) q N = some (sDs M.1 q k) := by
          rw [cdist_eq hq hk (CPl_n hnE hP) (by rw [hK 171 q (by decide)]; exact (sGb_1 hgq).1) (by rw [hK 171 k (by decide)]; exact hne)]
          unfold sDs
          rw [sFar_k hK, hK 172 k (by decide), hK 173 k (by decide)]
        rw [if_neg e3]
        simp only [hqb, hqc, hd, some_bind, ↓reduceIte]
        obtain ⟨N', b1, b2, b3, b4⟩ := offer_eq (q := q) (f := fun y => sDs M.1 y k) a2 (sTop_sorted _ P q)
        rw [b1, some_bind]
        refine hkk _ ⟨q + 1, N', by omega, rfl, b2.trans a1, ?_, fun j i h => (b4 j i (by omega)).trans (a3 j i h)⟩ hm
        rw [sTop_s, if_pos (by show (!(q == k) && !(t q == -1)) = true; simp [e2, e3])]
        exact b3
theorem gather_in {k d : Nat} {M : xM} (hk : k < 16) (hd : d < 56) (hI : NInv M.1) (hV : BV M.1) (hg : sDg M.1 k) (hf : ¬ nI d < M.1 175 k) : gaR M k (sBys M.1 k d) (fX5_gather (nI k) (nI d) M) := by
  unfold sBys
  exact gather_gen (t := fun y => sTr M.1 y d) hk hI.pl hg (Int32.not_lt.mp hf) (fun q N hq he => by
    rw [trustedOf_nI hq hd, he _ _ (by omega), (hV q d hq hd).2.2.1]) (fun q hq h => (sTr_g h).1)
theorem gather_out {k : Nat} {day : Int32} {M : xM} (hk : k < 16) (hI : NInv M.1) (hg : sDg M.1 k) (hd : day < 0 ∨ 56 ≤ day) (hf : M.1 175 k ≤ day) : gaR M k [] (fX5_gather (nI k) day M) := by
  have := gather_gen (M := M) (day := day) (t := fun _ => -1) hk hI.pl hg hf (fun q N hq he => trustedOf_out hq hd) (fun q hq h => absurd rfl h)
  have h2 : ((sRows M.1 k 16).filter (fun y => !((fun _ => (-1:Int32)) y == -1))).take 4 = [] := by
    have : (sRows M.1 k 16).filter (fun y => !((fun _ => (-1:Int32)) y == -1)) = [] := List.filter_eq_nil_iff.mpr (fun a _ => by simp)
    rw [this]
    rfl
  rw [h2] at this
  exact this
theorem gaR_0 (M : xM) (k : Nat) : gaR M k [] (some (0, xw M 143 2 0)) := ⟨_, rfl, rfl, ⟨by decide, by rw [xw_at, if_pos ⟨rfl, rfl⟩]; rfl, fun i y h => absurd h (by simp)⟩, fun j i h => by rw [xw_at, if_neg (by omega)]⟩
theorem gather_early {k : Nat} {day : Int32} {M : xM} (hk : k < 16) (hP : CPl M.1) (hg : sDg M.1 k) (hf : day < M.1 175 k) : gaR M k [] (fX5_gather (nI k) day M) := by
  have hb : xinb (nI k) 16 = true := xinb_nI hk (by decide)
  have hc : (nI k).toNatClampNeg = k := nI_clamp (by omega)
  have h10 : ¬ (1:Int32) = 0 := by decide
  have hne := (sGb_1 hg.1).1
  have h0 : fX7_isDailyGauge k (xw M 143 2 0) = some 1 := by
    rw [daily_x hk]
    exact daily_1 hk hP hg
  have h4 : (xw M 143 2 0).1 (8 + 4 * k) 4 = M.1 175 k := by
    rw [xw_at, if_neg (by omega)]
    exact (hP.2 k hk hne).2.2.2.1
  have h5 : ¬ M.1 175 k ≤ day := Int32.not_le.mpr hf
  unfold fX5_gather
  simp only [bd_at, isPlace_nI hk, some_bind, h10, hb, hc, h0, h4, h5, ↓reduceIte]
  exact gaR_0 M k
theorem gather_store {k : Nat} {day : Int32} {M : xM} (hk : k < 16) (hP : CPl M.1) (hg : ¬ sDg M.1 k) : gaR M k [] (fX5_gather (nI k) day M) := by
  have hb : xinb (nI k) 16 = true := xinb_nI hk (by decide)
  have hc : (nI k).toNatClampNeg = k := nI_clamp (by omega)
  have h10 : ¬ (1:Int32) = 0 := by decide
  have h0 : fX7_isDailyGauge k (xw M 143 2 0) = some 0 := by
    rw [daily_x hk]
    exact daily_0 hk hP hg
  unfold fX5_gather
  simp only [bd_at, isPlace_nI hk, some_bind, h10, hb, hc, h0, ↓reduceIte]
  exact gaR_0 M k
