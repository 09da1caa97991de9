/-! ===== close: the next day ===== -/
theorem PI_t {m m' : sm} {k : Nat} (e : pE m m' k) (t1 : ∀ d : Nat, d < 56 → ¬ nI d ≤ m' 170 15 → ¬ nI d ≤ m 170 15) (t2 : ∀ x : Int32, x ≤ m 170 15 → x ≤ m' 170 15) (h : PI m k) : PI m' k := by
  obtain ⟨e1, e2, e3⟩ := e
  have hg : sGb m' k = sGb m k := by unfold sGb; rw [e2 171 (by omega) (by omega)]
  obtain ⟨h1, h2, h3, h4, h5, h6, h7, h8, ⟨f, h9, h9'⟩, h10⟩ := h
  refine ⟨?_, fun hne => ?_, fun d hd hne => ?_, ?_, fun d hd hgg hx => ?_, fun d hd hgg => ?_, fun hne => ?_, fun hne => ?_, ⟨f, h9, ?_⟩, fun hne => ?_⟩
  · rw [e1 _ _ (by omega) (by omega), e2 171 (by omega) (by omega)]; exact h1
  · rw [e2 171 (by omega) (by omega)] at hne
    rw [e1 (8 + 4 * k) 1 (by omega) (by omega), e1 (8 + 4 * k) 2 (by omega) (by omega), e1 (8 + 4 * k) 3 (by omega) (by omega), e1 (8 + 4 * k) 4 (by omega) (by omega), e1 (8 + 4 * k) 5 (by omega) (by omega), e2 172 (by omega) (by omega), e2 173 (by omega) (by omega), e2 174 (by omega) (by omega), e2 175 (by omega) (by omega), e2 176 (by omega) (by omega)]
    exact h2 hne
  · rw [e2 171 (by omega) (by omega)] at hne ⊢
    rw [e1 (8 + 4 * k + 1) d (by omega) (by omega), e1 (8 + 4 * k + 2) d (by omega) (by omega), e3 177 d (by omega) (by omega) hd, e3 178 d (by omega) (by omega) hd, e3 179 d (by omega) (by omega) hd, e3 180 d (by omega) (by omega) hd]
    exact h3 d hd hne
  · rw [e2 171 (by omega) (by omega)]; exact h4
  · rw [hg] at hgg
    rw [e2 175 (by omega) (by omega)] at hx
    rw [e3 177 d (by omega) (by omega) hd, e3 178 d (by omega) (by omega) hd, e3 179 d (by omega) (by omega) hd, e3 180 d (by omega) (by omega) hd]
    exact h5 d hd hgg (hx.imp id (t1 d hd))
  · rw [hg] at hgg
    rw [e2 171 (by omega) (by omega), e2 174 (by omega) (by omega), e3 177 d (by omega) (by omega) hd, e3 178 d (by omega) (by omega) hd, e3 179 d (by omega) (by omega) hd, e3 180 d (by omega) (by omega) hd]
    exact h6 d hd hgg
  · rw [e2 171 (by omega) (by omega)] at hne
    refine ⟨?_, fun d hd => ?_⟩
    · rw [e1 _ _ (by omega) (by omega)]; exact (h7 hne).1
    · rw [e1 _ _ (by omega) (by omega), e1 _ _ (by omega) (by omega)]; exact (h7 hne).2 d hd
  · rw [e2 171 (by omega) (by omega)] at hne
    rw [e2 172 (by omega) (by omega), e2 173 (by omega) (by omega)]
    exact h8 hne
  · rw [e2 175 (by omega) (by omega)]; exact h9'
  · rw [e2 171 (by omega) (by omega)] at hne
    rw [e2 175 (by omega) (by omega)]
    exact t2 _ (h10 hne)
abbrev tE (m m' : sm) : Prop := (∀ j i, 171 ≤ j ∧ j < 187 → m' j i = m j i) ∧ ∀ i, ¬ i = 15 → m' 170 i = m 170 i
theorem sGb_t {m m' : sm} (e : tE m m') (k : Nat) : sGb m' k = sGb m k := by
  unfold sGb
  rw [e.1 171 k (by decide)]
theorem sHd_t {m m' : sm} (e : tE m m') (k d : Nat) (t : Int32) : ∀ n, sHd m' k d t n = sHd m k d t n
  | 0 => rfl
  | n + 1 => by
    simp only [sHd, sHd_t e k d t n, e.1 181 n (by decide), e.1 182 n (by decide), e.1 184 n (by decide)]
theorem sHi_t {m m' : sm} (e : tE m m') (k d : Nat) (t : Int32) : sHi m' k d t = sHi m k d t := by
  unfold sHi sHn
  rw [sHd_t e, e.2 14 (by decide)]
theorem sTip_t {m m' : sm} (e : tE m m') (k d : Nat) : sTip m' k d = sTip m k d := by
  simp only [sTip, e.1 177 _ (by decide), e.1 174 _ (by decide), e.1 178 _ (by decide)]
theorem sFar_t {m m' : sm} (e : tE m m') (q : Nat) (x y : Int32) : sFar m' q x y = sFar m q x y := by
  simp only [sFar, e.1 172 _ (by decide), e.1 173 _ (by decide)]
theorem sDs_t {m m' : sm} (e : tE m m') (q k : Nat) : sDs m' q k = sDs m q k := by
  unfold sDs
  rw [sFar_t e, e.1 172 _ (by decide), e.1 173 _ (by decide)]
theorem sRows_t {m m' : sm} (e : tE m m') (k : Nat) : ∀ n, sRows m' k n = sRows m k n
  | 0 => rfl
  | n + 1 => by
    unfold sRows
    simp only [sRows_t e k n, sGb_t e, sDs_t e]
theorem sOn_t {m m' : sm} (e : tE m m') (k : Nat) : ∀ n, sOn m' k n = sOn m k n
  | 0 => rfl
  | n + 1 => by simp only [sOn, sOn_t e k n, e.1 177 _ (by decide)]
theorem sRO_t {m m' : sm} (e : tE m m') (k d : Nat) : sRO m' k d = sRO m k d := by
  simp only [sRO, sOn_t e, e.1 171 _ (by decide), e.1 175 _ (by decide)]
theorem sSn_t {m m' : sm} (e : tE m m') (k f : Nat) : ∀ n, sSn m' k f n = sSn m k f n
  | 0 => rfl
  | n + 1 => by simp only [sSn, sSn_t e k f n, e.1 177 _ (by decide)]
/-- the next day brings nothing of itself -/
theorem sR_t {m m' : sm} {k d n : Nat} (e : tE m m') (hI : NInv m) (hk : k < 16) (hd : d < 56) (hn : n < 56) (hnn : m 170 15 = nI n) (hnn' : m' 170 15 = nI (n + 1)) : sR m' k d = sR m k d := by
  have hle := now_lt (m := m) (d := d) (show n ≤ 56 by omega) hd hnn
  have hle' := now_lt (m := m') (d := d) (show n + 1 ≤ 56 by omega) hd hnn'
  by_cases h1 : d ≤ n
  · have a1 := hle.mpr h1
    have a2 := hle'.mpr (by omega)
    unfold sR sRaw
    simp only [a1, a2, sGb_t e, sHi_t e, sTip_t e, e.1 171 _ (show 171 ≤ 171 ∧ 171 < 187 by decide), e.1 175 _ (show 171 ≤ 175 ∧ 175 < 187 by decide), e.1 183 _ (show 171 ≤ 183 ∧ 183 < 187 by decide), e.1 177 _ (show 171 ≤ 177 ∧ 177 < 187 by decide), e.1 179 _ (show 171 ≤ 179 ∧ 179 < 187 by decide), e.1 180 _ (show 171 ≤ 180 ∧ 180 < 187 by decide), e.1 174 _ (show 171 ≤ 174 ∧ 174 < 187 by decide)]
  · have a1 : ¬ nI d ≤ m 170 15 := fun h => h1 (hle.mp h)
    rw [sR_fut a1]
    cases hg : sGb m k with
    | false =>
      unfold sR sRaw
      rw [if_pos (Or.inl (by rw [sGb_t e]; exact hg))]
    | true =>
      by_cases h3 : m 171 k = 3
      · exact sR_store (by rw [e.1 171 k (by decide)]; exact h3)
      · by_cases h2 : nI d ≤ m' 170 15
        · by_cases hf : nI d < m' 175 k
          · unfold sR sRaw
            rw [if_pos (Or.inr (Or.inr (Or.inl hf)))]
          · have hw := hI.wr k d hk hd hg (Or.inr a1)
            have hhi : sHi m' k d 99 = -1 := by
              rw [sHi_t e]
              obtain ⟨h, h9, hh, -, -, hW⟩ := hI.log
              have hnh : sHn m = h := by unfold sHn; rw [hh, nI_clamp (by omega)]
              unfold sHi
              rw [hnh]
              rcases sHd_at m k d 99 h with e7 | ⟨i, hi, -, e8, e9, -⟩
              · exact e7
              · exfalso
                obtain ⟨⟨w, w1, w2, w3⟩, hw2⟩ := hW i hi
                obtain ⟨-, -, d', hd', x1, -, x2⟩ := hw2 k hk e8
                rw [e9] at x1
                rw [x1] at a1
                rw [w2] at x2
                exact a1 (Int32.le_trans x2 w3)
            have hK' : WK m' := fun q hq => by rw [e.1 171 q (by decide)]; exact hI.wk q hq
            show sRaw m' k d 99 = -1
            rw [sRaw_re hK' hk (by rw [sGb_t e]; exact hg) (by rw [e.1 171 k (by decide)]; exact h3) hf (show ¬ (99:Int32) < nI d from nI_nlt (a := 99) (by omega) (by decide)) h2 hhi]
            refine sRe_none ?_
            rw [e.1 177 _ (by decide), e.1 178 _ (by decide), e.1 179 _ (by decide), e.1 180 _ (by decide)]
            exact hw
        · exact sR_fut h2
theorem sDl_s (m : sm) (k d q : Nat) : sDl m k d (q + 1) = if q = k ∨ sGb m q = false ∨ m 170 17 < sDs m q k ∨ sR m q d = -1 then sDl m k d q else ((sDl m k d q).1 + 1, if (sDl m k d q).2 = 0 then 0 else if sR m q d < m 170 18 then 0 else 1) := rfl
theorem sDl_t {m m' : sm} {k d : Nat} (e : tE m m') (hr : ∀ q, q < 16 → sR m' q d = sR m q d) (n : Nat) : n ≤ 16 → sDl m' k d n = sDl m k d n := by
  induction n with
  | zero => intro _; rfl
  | succ n ih =>
    intro hn
    rw [sDl_s, sDl_s, ih (by omega), sGb_t e, sDs_t e, hr n (by omega), e.2 17 (by decide), e.2 18 (by decide)]
theorem sDo_t {m m' : sm} {k d : Nat} (e : tE m m') (hk : k < 16) (hr : ∀ q, q < 16 → sR m' q d = sR m q d) : sDo m' k d = sDo m k d := by
  unfold sDo sDo3
  rw [hr k hk, sDl_t e hr 16 (Nat.le_refl _), sHi_t e, e.2 16 (by decide), e.2 19 (by decide), e.1 171 k (by decide), e.1 177 _ (by decide), e.1 180 _ (by decide)]
theorem sTr_t {m m' : sm} {k d : Nat} (e : tE m m') (hk : k < 16) (hr : ∀ q, q < 16 → sR m' q d = sR m q d) : sTr m' k d = sTr m k d := by
  unfold sTr
  rw [hr k hk, sDo_t e hk hr]
theorem sAll_cong {t t' : Nat → Int32} {a : Nat} (n : Nat) : (∀ e, e < n → t (a + e) = t' (a + e)) → sAll t a n = sAll t' a n := by
  induction n with
  | zero => intro _; rfl
  | succ n ih =>
    intro h
    show (sAll t a n && !(t (a + n) == -1)) = (sAll t' a n && !(t' (a + n) == -1))
    rw [ih (fun e he => h e (by omega)), h n (by omega)]
theorem sTot_cong {t t' : Nat → Int32} {a : Nat} (n : Nat) : (∀ e, e < n → t (a + e) = t' (a + e)) → sTot t a n = sTot t' a n := by
  induction n with
  | zero => intro _; rfl
  | succ n ih =>
    intro h
    show sTot t a n + t (a + n) = sTot t' a n + t' (a + n)
    rw [ih (fun e he => h e (by omega)), h n (by omega)]
theorem sLf_cong {t t' : Nat → Int32} {v T : Int32} {a : Nat} (n : Nat) : (∀ e, e < n → t (a + e) = t' (a + e)) → sLf t v T a n = sLf t' v T a n := by
  induction n with
  | zero => intro _; rfl
  | succ n ih =>
    intro h
    show sLf t v T a n - v * t (a + n) / T = sLf t' v T a n - v * t' (a + n) / T
    rw [ih (fun e he => h e (by omega)), h n (by omega)]
theorem sRk_s (r : Nat → Int32) (a d n : Nat) : sRk r a d (n + 1) = if r d < r (a + n) ∨ (r (a + n) = r d ∧ a + n < d) then sRk r a d n + 1 else sRk r a d n := rfl
theorem sRk_cong {r r' : Nat → Int32} {a d : Nat} (hd : r d = r' d) (n : Nat) : (∀ e, e < n → r (a + e) = r' (a + e)) → sRk r a d n = sRk r' a d n := by
  induction n with
  | zero => intro _; rfl
  | succ n ih =>
    intro h
    rw [sRk_s, sRk_s, ih (fun e he => h e (by omega)), h n (by omega), hd]
theorem sShare_cong {t t' : Nat → Int32} {v : Int32} {a u d : Nat} (had : a ≤ d) (hdu : d ≤ u) (h : ∀ e, e ≤ u → t e = t' e) : sShare t v a u d = sShare t' v a u d := by
  have h1 : ∀ e, e < u + 1 - a → t (a + e) = t' (a + e) := fun e he => h _ (by omega)
  unfold sShare
  rw [sTot_cong (u + 1 - a) h1, sLf_cong (u + 1 - a) h1, h d hdu, sRk_cong (r := sRem t v (sTot t' a (u + 1 - a))) (r' := sRem t' v (sTot t' a (u + 1 - a))) (by show v * t d - v * t d / _ * _ = v * t' d - v * t' d / _ * _; rw [h d hdu]) (u + 1 - a) (fun e he => by show v * t (a + e) - v * t (a + e) / _ * _ = v * t' (a + e) - v * t' (a + e) / _ * _; rw [h1 e he])]
theorem find_cong {P P' : Nat → Bool} : ∀ L : List Nat, (∀ y ∈ L, P y = P' y) → L.find? P = L.find? P'
  | [], _ => rfl
  | y :: L, h => by
    rw [List.find?_cons, List.find?_cons, h y (List.mem_cons_self ..), find_cong L (fun x hx => h x (List.mem_cons_of_mem _ hx))]
theorem sSpr_t {m m' : sm} {k d : Nat} (e : tE m m') (hI : NInv m) (hk : k < 16) (hr : ∀ q d, q < 16 → d < 56 → sR m' q d = sR m q d) : sSpr m' k d = sSpr m k d := by
  unfold sSpr
  rw [sRO_t e]
  cases hro : sRO m k d with
  | none => rfl
  | some u =>
    obtain ⟨h3, hf, hdu, hu, hne, hbt⟩ := sRO_some hro
    obtain ⟨f, hf1, hf2⟩ := hI.wf k hk
    have hft : sFt m k = f := by unfold sFt; rw [hf2, nI_clamp (by omega)]
    have hft' : sFt m' k = sFt m k := by unfold sFt; rw [e.1 175 k (by decide)]
    have hfd : f ≤ d := by
      rcases Nat.lt_or_ge d f with h1 | h1
      · exact absurd (by rw [hf2]; exact nI_lt h1 (by omega)) hf
      · exact h1
    have hs := sSn_since (m := m) (k := k) hfd hdu hbt
    have hT : ∀ y d, y < 16 → d < 56 → sTr m' y d = sTr m y d := fun y d hy hd => sTr_t e hy (fun q hq => hr q d hq hd)
    have hby : sBy m' k (sSn m k f u) u = sBy m k (sSn m k f u) u := by
      unfold sBy
      rw [sRows_t e]
      refine find_cong _ (fun y hy => sAll_cong _ (fun x hx => hT y _ (sRows_mem 16 hy).1 (by omega)))
    simp only [hft', hft, sSn_t e, hby, e.1 177 _ (show 171 ≤ 177 ∧ 177 < 187 by decide)]
    cases hy : sBy m k (sSn m k f u) u with
    | none => rfl
    | some y =>
      have hy16 : y < 16 := by
        unfold sBy at hy
        exact (sRows_mem 16 (List.mem_of_find?_eq_some hy)).1
      exact sShare_cong hs hdu (fun x hx => hT y x hy16 (by omega))
theorem close_ok {M : xM} {c : Nat} (h0 : Inv M.1 c) : aR2 c (fX9_close M) fX10_close := by
  obtain ⟨hI, hBF, w, hw, a1, a2, a3⟩ := h0
  obtain ⟨n, hn, hnn⟩ := hI.n
  have h13 : M.1 1 3 = nI n := by rw [hI.net.1]; exact hnn
  unfold fX9_close
  rw [h13]
  by_cases h56 : n = 56
  · refine ⟨-1, M, M, by rw [h56, if_neg (by decide)], ?_, c, by omega, hI, hBF, w, hw, a1, a2, a3⟩
    unfold fX10_close
    rw [hnn, h56, if_pos (by rfl)]
  · have hn : n < 56 := by omega
    rw [if_pos (show nI n < (56:Int32) from nI_lt (b := 56) hn (by decide))]
    simp only [bd_at, nI_1]
    have b1 : (xw M 1 3 (nI (n + 1))).1 170 15 = nI n := by rw [xv_ne (by omega)]; exact hnn
    have hne : ¬ nI n = 56 := nI_ne (b := 56) (by omega) (by decide) h56
    refine ⟨nI (n + 1), xw M 1 3 (nI (n + 1)), xw (xw M 1 3 (nI (n + 1))) 170 15 (nI (n + 1)), by rw [xv_eq], ?_, c, by omega, ?_⟩
    · unfold fX10_close
      rw [b1, if_neg hne]
      simp only [bd_at, nI_1]
      rw [xv_eq]
    · obtain ⟨m', hm'⟩ : ∃ m', m' = (xw (xw M 1 3 (nI (n + 1))) 170 15 (nI (n + 1))).1 := ⟨_, rfl⟩
      rw [← hm']
      have hall : ∀ j i, ¬ (j = 1 ∧ i = 3) → ¬ (j = 170 ∧ i = 15) → m' j i = M.1 j i := fun j i x1 x2 => by
        rw [hm', xv_ne (by omega), xv_ne (by omega)]
      have hnn' : m' 170 15 = nI (n + 1) := by rw [hm', xv_eq]
      have h13' : m' 1 3 = nI (n + 1) := by rw [hm', xv_ne (by omega), xv_eq]
      have e : tE M.1 m' := ⟨fun j i h => hall j i (by omega) (by omega), fun i h => hall 170 i (by omega) (by omega)⟩
      have t1 : ∀ d : Nat, d < 56 → ¬ nI d ≤ m' 170 15 → ¬ nI d ≤ M.1 170 15 := fun d hd h => by
        rw [now_lt (show n + 1 ≤ 56 by omega) hd hnn'] at h
        rw [now_lt (show n ≤ 56 by omega) hd hnn]
        omega
      have t2 : ∀ x : Int32, x ≤ M.1 170 15 → x ≤ m' 170 15 := fun x h => by
        rw [hnn] at h
        rw [hnn']
        exact Int32.le_trans h (nI_le (by omega) (by omega))
      obtain ⟨h, h9, l1, l2, l3, l4, l5, l6⟩ := hI.2.1
      have h3 : ∀ j i, 181 ≤ j → j ≤ 184 → m' j i = M.1 j i := fun j i a b => hall _ _ (by omega) (by omega)
      refine ⟨NInv.mk' (by rw [h13', hnn']) ⟨n + 1, by omega, hnn'⟩ (fun k hk => PI_t ⟨fun j i a b => hall _ _ (by omega) (by omega), fun j a b => hall _ _ (by omega) (by omega), fun j d a b hd => hall _ _ (by omega) (by omega)⟩ t1 t2 (hI.pi hk)) ⟨h, h9, ?_, ?_, fun i hi => ?_, fun q d hq hd => ?_, fun i hi => ?_, fun i hi => ?_⟩ (CRu_e (fun i => hall _ _ (by omega) (by omega)) (fun i hi => hall _ _ (by omega) (by omega)) (fun i => hall _ _ (by omega) (by omega)) hI.ru) (CVl_e (fun j i a b => hall _ _ (by omega) (by omega)) (fun i => hall _ _ (by omega) (by omega)) hI.vl) (WS_e (fun i => hall _ _ (by omega) (by omega)) hI.ws), fun k d hk hd hf => ?_, w, hw, ?_, ?_, fun hwc => ?_⟩
      · rw [hall _ _ (by omega) (by omega)]; exact l1
      · rw [hall _ _ (by omega) (by omega)]; exact l2
      · rw [hall 4 i (by omega) (by omega), hall 5 i (by omega) (by omega), hall 6 i (by omega) (by omega), h3 181 i (by omega) (by omega), h3 182 i (by omega) (by omega), h3 183 i (by omega) (by omega), h3 184 i (by omega) (by omega)]
        refine ⟨(l3 i hi).1, (l3 i hi).2.1, fun q d hq hd x1 x2 => ?_⟩
        rw [sHl_e h3]
        exact (l3 i hi).2.2 q d hq hd x1 x2
      · rw [hall _ _ (by omega) (by omega), sHl_e h3]
        exact l4 q d hq hd
      · rw [h3 181 i (by omega) (by omega), h3 182 i (by omega) (by omega), h3 184 i (by omega) (by omega)]
        obtain ⟨w', w1, w2, w3⟩ := (l5 i hi).1
        refine ⟨⟨w', w1, w2, t2 _ w3⟩, fun q hq x => ?_⟩
        rw [sGb_t e, e.1 171 q (by decide), e.1 175 q (by decide)]
        exact (l5 i hi).2 q hq x
      · rw [h3 183 i (by omega) (by omega)]
        exact l6 i hi
      · rw [hall _ _ (by omega) (by omega), hall _ _ (by omega) (by omega), hall _ _ (by omega) (by omega), hall _ _ (by omega) (by omega)]
        exact hBF k d hk hd (t1 d hd hf)
      · rw [hall _ _ (by omega) (by omega)]; exact a1
      · rw [hall _ _ (by omega) (by omega)]; exact a2
      · have hV := a3 hwc
        have hr : ∀ q d, q < 16 → d < 56 → sR m' q d = sR M.1 q d := fun q d hq hd => sR_t e hI hq hd hn hnn hnn'
        intro k d hk hd
        have hv := hV k d hk hd
        have htd : sTd m' k d = sTd M.1 k d := by
          unfold sTd
          rw [e.1 171 k (by decide), sSpr_t e hI hk hr, sTr_t e hk (fun q hq => hr q d hq hd)]
        rw [hall (73 + 1 + k) d (by omega) (by omega), hall (90 + 1 + k) d (by omega) (by omega), hall (107 + 1 + k) d (by omega) (by omega), hall (124 + 1 + k) d (by omega) (by omega), hr k d hk hd, sDo_t e hk (fun q hq => hr q d hq hd), sTr_t e hk (fun q hq => hr q d hq hd), htd]
        exact hv
