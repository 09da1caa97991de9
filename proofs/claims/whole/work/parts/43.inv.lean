/-! ===== what holds between the calls: the net's half ===== -/
abbrev CEm (m : sm) : Prop := ∀ k, k < 16 → m 171 k = -1 → m (8 + 4 * k) 5 = 0 ∧ ∀ d, d < 56 → m (8 + 4 * k + 1) d = -1 ∧ m (8 + 4 * k + 2) d = -1
abbrev WV (m : sm) (h : Nat) : Prop := ∀ i, i < h → -1 ≤ (m 183 i).toInt ∧ (m 183 i).toInt ≤ 5000
abbrev WX (m : sm) : Prop := ∀ k, k < 16 → ¬ m 171 k = -1 → (∃ a, a < 10 ∧ m 172 k = nI a) ∧ ∃ b, b < 10 ∧ m 173 k = nI b
abbrev WF (m : sm) : Prop := ∀ k, k < 16 → sF m k
abbrev WT (m : sm) : Prop := ∀ k, k < 16 → ¬ m 171 k = -1 → m 175 k ≤ m 170 15
abbrev CVl (m : sm) : Prop := ∀ v, v < 8 → m (148 + 2 * v) 1 = nI (sMn m v 100) ∧ ∀ x y, x < 10 → y < 10 → m (148 + 2 * v + 1) (x + 10 * y) = m 186 (100 * v + (10 * x + y))
abbrev WS (m : sm) : Prop := ∀ j, j < 800 → m 186 j = 0 ∨ m 186 j = 1
abbrev CLog2 (m : sm) (h : Nat) : Prop := m 170 14 = nI h ∧ m 3 3 = nI h ∧ CLog m h ∧ CHd m h ∧ WH m h ∧ WV m h
def NInv (m : sm) : Prop := CNet m ∧ (∃ h, h ≤ 100 ∧ CLog2 m h) ∧ CRu m ∧ WB m ∧ CEm m ∧ WX m ∧ (WF m ∧ WT m) ∧ CVl m ∧ WS m
theorem NInv.net {m : sm} (h : NInv m) : CNet m := h.1
theorem NInv.log {m : sm} (h : NInv m) : CLg m := by
  obtain ⟨a, h9, h1, h2, h3, h4, h5, h6⟩ := h.2.1
  exact ⟨a, h9, h1, h3, h4, h5⟩
theorem NInv.ru {m : sm} (h : NInv m) : CRu m := h.2.2.1
theorem NInv.wb {m : sm} (h : NInv m) : WB m := h.2.2.2.1
theorem NInv.em {m : sm} (h : NInv m) : CEm m := h.2.2.2.2.1
theorem NInv.wx {m : sm} (h : NInv m) : WX m := h.2.2.2.2.2.1
theorem NInv.wf {m : sm} (h : NInv m) : WF m := h.2.2.2.2.2.2.1.1
theorem NInv.wt {m : sm} (h : NInv m) : WT m := h.2.2.2.2.2.2.1.2
theorem NInv.vl {m : sm} (h : NInv m) : CVl m := h.2.2.2.2.2.2.2.1
theorem NInv.ws {m : sm} (h : NInv m) : WS m := h.2.2.2.2.2.2.2.2
theorem NInv.pl {m : sm} (h : NInv m) : CPl m := h.net.2.1
theorem NInv.rd {m : sm} (h : NInv m) : CRd m := h.net.2.2.1
theorem NInv.wk {m : sm} (h : NInv m) : WK m := h.net.2.2.2.1
theorem NInv.wr {m : sm} (h : NInv m) : WR m := h.net.2.2.2.2.1
theorem NInv.n {m : sm} (h : NInv m) : sN m := h.net.2.2.2.2.2
theorem NInv.h {m : sm} (h : NInv m) : sH m := by
  obtain ⟨a, h9, h1, -⟩ := h.2.1
  exact ⟨a, h9, h1⟩
theorem NInv.swf {m : sm} (h : NInv m) : sWf m := ⟨h.h, h.n, h.wf⟩
theorem sHl_k {m m' : sm} (e : sK m m') (k d : Nat) : ∀ n, sHl m' k d n = sHl m k d n
  | 0 => rfl
  | n + 1 => by simp only [sHl, sHl_k e k d n, e 181 n (by decide), e 182 n (by decide)]
theorem WK_n {m m' : sm} (e : sK m m') (h : WK m) : WK m' := fun k hk => by
  rw [e 171 k (by decide)]
  exact h k hk
theorem WR_n {m m' : sm} (e : sK m m') (h : WR m) : WR m' := fun k d hk hd hg hx => by
  rw [sGb_k e] at hg
  rw [e 175 k (by decide), e 170 15 (by decide)] at hx
  rw [e 177 _ (by decide), e 178 _ (by decide), e 179 _ (by decide), e 180 _ (by decide)]
  exact h k d hk hd hg hx
theorem sN_k {m m' : sm} (e : sK m m') (h : sN m) : sN m' := by
  obtain ⟨n, h1, h2⟩ := h
  exact ⟨n, h1, (e 170 15 (by decide)).trans h2⟩
theorem WH_n {m m' : sm} {a : Nat} (e : sK m m') (h : WH m a) : WH m' a := by
  intro i hi
  have hh := h i hi
  rw [e 184 i (by decide), e 170 15 (by decide), e 181 i (by decide), e 182 i (by decide)]
  refine ⟨hh.1, fun k hk h1 => ?_⟩
  rw [sGb_k e, e 171 k (by decide), e 175 k (by decide)]
  exact hh.2 k hk h1
theorem WB_n {m m' : sm} (e : sK m m') (h : WB m) : WB m' := by
  intro k d hk hd hg
  rw [sGb_k e] at hg
  rw [e 177 _ (by decide), e 178 _ (by decide), e 179 _ (by decide), e 180 _ (by decide), e 171 _ (by decide), e 174 _ (by decide)]
  exact h k d hk hd hg
theorem WX_n {m m' : sm} (e : sK m m') (h : WX m) : WX m' := by
  intro k hk hne
  rw [e 171 k (by decide)] at hne
  rw [e 172 k (by decide), e 173 k (by decide)]
  exact h k hk hne
theorem WF_n {m m' : sm} (e : sK m m') (h : WF m) : WF m' := by
  intro k hk
  obtain ⟨f, h1, h2⟩ := h k hk
  exact ⟨f, h1, (e 175 k (by decide)).trans h2⟩
theorem WT_n {m m' : sm} (e : sK m m') (h : WT m) : WT m' := by
  intro k hk hne
  rw [e 171 k (by decide)] at hne
  rw [e 175 k (by decide), e 170 15 (by decide)]
  exact h k hk hne
theorem WS_n {m m' : sm} (e : sK m m') (h : WS m) : WS m' := by
  intro j hj
  rw [e 186 j (by decide)]
  exact h j hj
theorem CVl_n {m m' : sm} (e : nE m m') (h : CVl m) : CVl m' := by
  intro v hv
  have hh := h v hv
  have hK := sK_n e
  refine ⟨?_, fun x y hx hy => ?_⟩
  · rw [e _ _ (by omega), sMn_k hK]
    exact hh.1
  · rw [e _ _ (by omega), hK 186 _ (by decide)]
    exact hh.2 x y hx hy
theorem CEm_n {m m' : sm} (e : nE m m') (h : CEm m) : CEm m' := by
  intro k hk hne
  rw [e 171 k (by omega)] at hne
  have hh := h k hk hne
  refine ⟨?_, fun d hd => ?_⟩
  · rw [e _ _ (by omega)]
    exact hh.1
  · rw [e _ _ (by omega), e _ _ (by omega)]
    exact hh.2 d hd
theorem CRu_n {m m' : sm} (e : nE m m') (h : CRu m) : CRu m' := by
  obtain ⟨h1, h2, h3, h4, h5⟩ := h
  refine ⟨?_, ?_, ?_, ?_, fun j hj => ?_⟩
  · rw [e 7 _ (by omega), e 170 _ (by omega)]; exact h1
  · rw [e 7 _ (by omega), e 170 _ (by omega)]; exact h2
  · rw [e 7 _ (by omega), e 170 _ (by omega)]; exact h3
  · rw [e 7 _ (by omega), e 170 _ (by omega)]; exact h4
  · rw [e 7 _ (by omega), e 185 _ (by omega)]; exact h5 j hj
theorem CLog2_n {m m' : sm} {a : Nat} (e : nE m m') (h : CLog2 m a) : CLog2 m' a := by
  obtain ⟨h1, h2, h3, h4, h5, h6⟩ := h
  have hK := sK_n e
  refine ⟨?_, ?_, fun i hi => ?_, fun k d hk hd => ?_, WH_n hK h5, fun i hi => ?_⟩
  · rw [e 170 _ (by omega)]; exact h1
  · rw [e 3 _ (by omega)]; exact h2
  · have hh := h3 i hi
    rw [e 4 i (by omega), e 183 i (by omega), e 5 i (by omega), e 184 i (by omega), e 181 i (by omega), e 182 i (by omega), e 6 i (by omega)]
    refine ⟨hh.1, hh.2.1, fun k d hk hd x1 x2 => ?_⟩
    rw [sHl_k hK]
    exact hh.2.2 k d hk hd x1 x2
  · rw [e _ _ (by omega), sHl_k hK]
    exact h4 k d hk hd
  · rw [e 183 i (by omega)]
    exact h6 i hi
theorem NInv_n {m m' : sm} (e : nE m m') (h : NInv m) : NInv m' := by
  have hK := sK_n e
  obtain ⟨a, h9, hl⟩ := h.2.1
  refine ⟨⟨?_, CPl_n e h.pl, CRd_n e h.rd, WK_n hK h.wk, WR_n hK h.wr, sN_k hK h.n⟩, ⟨a, h9, CLog2_n e hl⟩, CRu_n e h.ru, WB_n hK h.wb, CEm_n e h.em, WX_n hK h.wx, ⟨WF_n hK h.wf, WT_n hK h.wt⟩, CVl_n e h.vl, WS_n hK h.ws⟩
  rw [e 1 _ (by omega), e 170 _ (by omega)]
  exact h.net.1
/-! ===== how great a trusted number is ===== -/
theorem nI_bof {x : Int32} {n : Nat} (hn : n < 2 ^ 31) (h : ¬ x = -1) (h1 : -1 ≤ x.toInt) (h2 : x.toInt ≤ n) : ∃ a, a ≤ n ∧ x = nI a := by
  have h3 : ¬ x.toInt = -1 := fun e => h (Int32.toInt_inj.mp (by rw [e]; decide))
  refine ⟨x.toInt.toNat, by omega, ?_⟩
  apply Int32.toInt_inj.mp
  rw [nI_toInt (by omega)]
  omega
theorem i_neg1 {x : Int32} (h : ¬ x = -1) (h1 : -1 ≤ x.toInt) : 0 ≤ x.toInt := by
  have h3 : ¬ x.toInt = -1 := fun e => h (Int32.toInt_inj.mp (by rw [e]; decide))
  omega
theorem tdiv8_b {x : Int} (h1 : -140 ≤ x) (h2 : x ≤ 140) : -17 ≤ x.tdiv 8 ∧ x.tdiv 8 ≤ 17 := by
  have h3 : (x.tdiv 8).natAbs = x.natAbs / (8:Int).natAbs := Int.natAbs_tdiv x 8
  have h4 : (8:Int).natAbs = 8 := rfl
  rw [h4] at h3
  omega
theorem sTip_b {m : sm} {k d : Nat} (hk : k < 16) (hd : d < 56) (hB : WB m) (hg : sGb m k = true) (h1 : m 171 k = 1) (h : ¬ m 177 (56 * k + d) = -1) : 0 ≤ (sTip m k d).toInt ∧ (sTip m k d).toInt ≤ 5017 := by
  have hb := hB k d hk hd hg
  obtain ⟨a, ha, hae⟩ := nI_bof (n := 250) (by decide) h hb.1.1 (hb.2.2.2.2.1 (Or.inl h1))
  obtain ⟨s, hs, hse⟩ := nI_bof (x := m 174 k) (n := 20) (by decide) (fun e => by
    have := hb.2.2.2.2.2.1
    rw [e] at this
    exact absurd this (by decide)) (by omega) hb.2.2.2.2.2.2
  have hv : (m 177 (56 * k + d) * m 174 k) = nI (a * s) := by rw [hae, hse, pk_mul]
  have has : a * s ≤ 5000 := Nat.le_trans (Nat.mul_le_mul ha hs) (by decide)
  have hvi : (m 177 (56 * k + d) * m 174 k).toInt = ((a * s : Nat) : Int) := by rw [hv, nI_toInt (by omega)]
  have fin : ∀ w : Int32, w.toInt ≤ 5017 → 0 ≤ (if 0 ≤ w then w else 0).toInt ∧ (if 0 ≤ w then w else 0).toInt ≤ 5017 := by
    intro w hw
    by_cases e : 0 ≤ w
    · rw [if_pos e]
      rw [Int32.le_iff_toInt_le, show (0:Int32).toInt = 0 from by decide] at e
      exact ⟨e, hw⟩
    · rw [if_neg e]; decide
  unfold sTip
  simp only []
  refine fin _ ?_
  by_cases e1 : d = 0 ∨ m 178 (56 * k + d) = -1 ∨ m 178 (56 * k + (d - 1)) = -1
  · rw [if_pos e1, hvi]
    omega
  · rw [if_neg e1]
    have e2 : ¬ m 178 (56 * k + d) = -1 := fun e => e1 (Or.inr (Or.inl e))
    have e3 : ¬ m 178 (56 * k + (d - 1)) = -1 := fun e => e1 (Or.inr (Or.inr e))
    have hb2 := hB k (d - 1) hk (by omega) hg
    obtain ⟨x, hx, hxe⟩ := nI_bof (n := 7) (by decide) e2 hb.2.1.1 hb.2.1.2
    obtain ⟨y, hy, hye⟩ := nI_bof (n := 7) (by decide) e3 hb2.2.1.1 hb2.2.1.2
    have hxy : (m 178 (56 * k + d) - m 178 (56 * k + (d - 1))).toInt = (x : Int) - y := by
      rw [hxe, hye]
      exact pk_sub_toInt (by omega) (by omega)
    have hsi : (m 174 k).toInt = (s : Int) := by rw [hse, nI_toInt (by omega)]
    have p1 : (s : Int) * ((x : Int) - y) ≤ s * 7 := Int.mul_le_mul_of_nonneg_left (by omega) (by omega)
    have p2 : (s : Int) * (-7) ≤ s * ((x : Int) - y) := Int.mul_le_mul_of_nonneg_left (by omega) (by omega)
    have hsd : (m 174 k * (m 178 (56 * k + d) - m 178 (56 * k + (d - 1)))).toInt = (s : Int) * ((x : Int) - y) := by
      rw [Int32.toInt_mul, hxy, hsi]
      apply Int.bmod_eq_of_le <;> omega
    have hq : (m 174 k * (m 178 (56 * k + d) - m 178 (56 * k + (d - 1))) / 8).toInt = ((s : Int) * ((x : Int) - y)).tdiv 8 := by
      rw [Int32.toInt_div_of_ne_right _ _ (by decide), hsd]
      rfl
    have hqb := tdiv8_b (x := (s : Int) * ((x : Int) - y)) (by omega) (by omega)
    rw [Int32.toInt_add, hvi, hq, Int.bmod_eq_of_le (by omega) (by omega)]
    omega
theorem sRaw_b {m : sm} {k d : Nat} {t : Int32} (hk : k < 16) (hd : d < 56) (h : NInv m) : ¬ sRaw m k d t = -1 → 0 ≤ (sRaw m k d t).toInt ∧ (sRaw m k d t).toInt ≤ 5017 := by
  have hB := h.wb
  have hK := h.wk
  obtain ⟨a, h9, hh1, -, -, -, hW, hV⟩ := h.2.1
  have hn : sHn m = a := by unfold sHn; rw [hh1, nI_clamp (by omega)]
  unfold sRaw
  by_cases e1 : sGb m k = false ∨ m 171 k = 3 ∨ nI d < m 175 k ∨ t < nI d ∨ ¬ nI d ≤ m 170 15
  · rw [if_pos e1]
    exact fun h => absurd rfl h
  · rw [if_neg e1]
    have hg : sGb m k = true := by
      cases e : sGb m k with
      | true => rfl
      | false => exact absurd (Or.inl e) e1
    have hb := hB k d hk hd hg
    by_cases e2 : sHi m k d t = -1
    · rw [if_neg (fun h => h e2)]
      by_cases q0 : m 171 k = 0
      · rw [if_pos q0]
        exact fun h => ⟨i_neg1 h hb.1.1, by omega⟩
      · rw [if_neg q0]
        by_cases q1 : m 171 k = 1
        · rw [if_pos q1]
          by_cases r1 : m 177 (56 * k + d) = -1
          · rw [if_pos r1]; exact fun h => absurd rfl h
          · rw [if_neg r1]; exact fun _ => sTip_b hk hd hB hg q1 r1
        · rw [if_neg q1]
          by_cases q2 : m 171 k = 2
          · rw [if_pos q2]
            split
            · exact fun h => absurd rfl h
            · split
              · exact fun _ => by decide
              · exact fun h => ⟨i_neg1 h hb.2.2.1.1, by omega⟩
          · rw [if_neg q2]
            by_cases r1 : m 177 (56 * k + d) = -1 ∨ m 180 (56 * k + d) = -1
            · rw [if_pos r1]; exact fun h => absurd rfl h
            · rw [if_neg r1]
              intro _
              have r2 : ¬ m 177 (56 * k + d) = -1 := fun e => r1 (Or.inl e)
              have r3 : ¬ m 180 (56 * k + d) = -1 := fun e => r1 (Or.inr e)
              have q4 : m 171 k = 4 := by
                have hg := sGb_1 hg
                rcases hK k hk with h | ⟨c, h, h'⟩
                · exact absurd h hg.1
                · have : c = 0 ∨ c = 1 ∨ c = 2 ∨ c = 3 ∨ c = 4 ∨ c = 5 := by omega
                  rcases this with rfl | rfl | rfl | rfl | rfl | rfl
                  · exact absurd h' q0
                  · exact absurd h' q1
                  · exact absurd h' q2
                  · exact absurd (Or.inr (Or.inl h')) e1
                  · exact h'
                  · exact absurd h' hg.2
              obtain ⟨x, hx, hxe⟩ := nI_bof (n := 250) (by decide) r2 hb.1.1 (hb.2.2.2.2.1 (Or.inr q4))
              obtain ⟨y, hy, hye⟩ := nI_bof (n := 250) (by decide) r3 hb.2.2.2.1.1 hb.2.2.2.1.2
              obtain ⟨s, hs, hse⟩ := nI_bof (x := m 174 k) (n := 20) (by decide) (fun e => by
                have := hb.2.2.2.2.2.1
                rw [e] at this
                exact absurd this (by decide)) (by omega) hb.2.2.2.2.2.2
              have hp : (x + y) * s ≤ 500 * 20 := Nat.mul_le_mul (by omega) hs
              have hz : (m 177 (56 * k + d) + m 180 (56 * k + d)) * m 174 k / 2 = nI ((x + y) * s / 2) := by
                rw [hxe, hye, hse, nI_add, pk_mul]
                exact pk_div (d := 2) (by omega) (by decide) (by decide)
              rw [hz, nI_toInt (by omega)]
              omega
    · rw [if_pos e2]
      rcases sHd_at m k d t a with e7 | ⟨i, hi, e7, -⟩
      · exact absurd (by unfold sHi; rw [hn]; exact e7) e2
      · have hv := hV i hi
        have e8 : sHi m k d t = nI i := by unfold sHi; rw [hn]; exact e7
        rw [e8, nI_clamp (by omega)]
        exact fun h => ⟨i_neg1 h hv.1, by omega⟩
theorem TB_of {m : sm} (h : NInv m) : TB m := by
  intro q d hq hd h1
  have h2 : sTr m q d = sR m q d := by
    unfold sTr at h1 ⊢
    by_cases e : sR m q d = -1
    · rw [if_pos e] at h1; exact absurd rfl h1
    · rw [if_neg e] at h1 ⊢
      by_cases e2 : sDo m q d = 0
      · rw [if_pos e2]
      · rw [if_neg e2] at h1; exact absurd rfl h1
  rw [h2] at h1 ⊢
  exact sRaw_b hq hd h h1
/-! ===== the books ===== -/
abbrev BF (m : sm) : Prop := ∀ k d, k < 16 → d < 56 → ¬ nI d ≤ m 170 15 → m (73 + 1 + k) d = -1 ∧ m (90 + 1 + k) d = 0 ∧ m (107 + 1 + k) d = -1 ∧ m (124 + 1 + k) d = -1
abbrev sTd (m : sm) (k d : Nat) : Int32 := if m 171 k = 3 then sSpr m k d else sTr m k d
abbrev BV (m : sm) : Prop := ∀ k d, k < 16 → d < 56 → m (73 + 1 + k) d = sR m k d ∧ m (90 + 1 + k) d = sDo m k d ∧ m (107 + 1 + k) d = sTr m k d ∧ m (124 + 1 + k) d = sTd m k d
abbrev BC (m : sm) (c : Nat) : Prop := ∃ w, w ≤ c ∧ m 1 4 = nI c ∧ m 72 6 = nI w ∧ (w = c → BV m)
abbrev Inv (m : sm) (c : Nat) : Prop := NInv m ∧ BF m ∧ BC m c
theorem sR_fut {m : sm} {k d : Nat} (h : ¬ nI d ≤ m 170 15) : sR m k d = -1 := by
  unfold sR sRaw
  rw [if_pos (Or.inr (Or.inr (Or.inr (Or.inr h))))]
theorem sDo_no {m : sm} {k d : Nat} (h : sR m k d = -1) : sDo m k d = 0 := by
  unfold sDo
  rw [if_pos h]
theorem sTr_no {m : sm} {k d : Nat} (h : sR m k d = -1) : sTr m k d = -1 := by
  unfold sTr
  rw [if_pos h]
theorem sR_store {m : sm} {k d : Nat} {t : Int32} (h : m 171 k = 3) : sRaw m k d t = -1 := by
  unfold sRaw
  rw [if_pos (Or.inr (Or.inl h))]
theorem sSpr_early {m : sm} {k d : Nat} (h : nI d < m 175 k) : sSpr m k d = -1 := by
  have : sRO m k d = none := by
    unfold sRO
    rw [if_neg (fun h1 => h1.2 h)]
  unfold sSpr
  rw [this]
theorem now_lt {m : sm} {n d : Nat} (hn : n ≤ 56) (hd : d < 56) (h : m 170 15 = nI n) : nI d ≤ m 170 15 ↔ d ≤ n := by
  rw [h]
  exact nI_leI (by omega) (by omega)
