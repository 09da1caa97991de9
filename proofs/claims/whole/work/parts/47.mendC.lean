/-! ===== the class's mended number ===== -/
theorem sq_b {u : Int} (h1 : -9 ≤ u) (h2 : u ≤ 9) : 0 ≤ u * u ∧ u * u ≤ 81 := by
  have h3 : ((u.natAbs * u.natAbs : Nat) : Int) = u * u := Int.natAbs_mul_self
  have h4 : u.natAbs * u.natAbs ≤ 9 * 9 := Nat.mul_le_mul (by omega) (by omega)
  obtain ⟨w, hw⟩ : ∃ w, w = u.natAbs * u.natAbs := ⟨_, rfl⟩
  rw [← hw] at h3 h4
  omega
theorem sDs_b {m : sm} {x k : Nat} (hX : WX m) (hx : x < 16) (hk : k < 16) (h1 : ¬ m 171 x = -1) (h2 : ¬ m 171 k = -1) : 0 ≤ (sDs m x k).toInt ∧ (sDs m x k).toInt ≤ 162 := by
  obtain ⟨⟨a, ha, hae⟩, b, hb, hbe⟩ := hX x hx h1
  obtain ⟨⟨c, hc, hce⟩, e, he, hee⟩ := hX k hk h2
  unfold sDs sFar
  rw [hae, hbe, hce, hee]
  have d1 : (nI a - nI c).toInt = (a : Int) - c := pk_sub_toInt (by omega) (by omega)
  have d2 : (nI b - nI e).toInt = (b : Int) - e := pk_sub_toInt (by omega) (by omega)
  have s1 := sq_b (u := (a : Int) - c) (by omega) (by omega)
  have s2 := sq_b (u := (b : Int) - e) (by omega) (by omega)
  have m1 : ((nI a - nI c) * (nI a - nI c)).toInt = ((a : Int) - c) * ((a : Int) - c) := by
    rw [Int32.toInt_mul, d1]
    apply Int.bmod_eq_of_le <;> omega
  have m2 : ((nI b - nI e) * (nI b - nI e)).toInt = ((b : Int) - e) * ((b : Int) - e) := by
    rw [Int32.toInt_mul, d2]
    apply Int.bmod_eq_of_le <;> omega
  rw [Int32.toInt_add, m1, m2, Int.bmod_eq_of_le (by omega) (by omega)]
  omega
theorem nearness_eq {v : Int32} {M : xM} (h : 0 ≤ v.toInt) : fX5_nearness v M = some (sW v) := by
  have z0 : (0:Int32).toInt = 0 := by decide
  unfold fX5_nearness sW
  by_cases e : v = 0
  · subst e
    rfl
  · have h1 : 0 < v := by
      rw [Int32.lt_iff_toInt_lt, z0]
      have : ¬ v.toInt = 0 := fun h => e (Int32.toInt_inj.mp (by rw [h, z0]))
      omega
    rw [if_pos h1, if_neg e, if_neg e]
    by_cases e2 : 1 < 144 / v
    · rw [if_pos e2, if_pos (Int32.le_of_lt e2)]
    · rw [if_neg e2]
      by_cases e3 : 1 ≤ 144 / v
      · rw [if_pos e3, Int32.le_antisymm e3 (Int32.not_lt.mp e2)]
      · rw [if_neg e3]
theorem sPast_s (m : sm) (k x e : Nat) : sPast m k x (e + 1) = if sTr m k e = -1 ∨ sTr m x e = -1 then sPast m k x e else ((sPast m k x e).1 + (sTr m k e).toInt64, (sPast m k x e).2 + (sTr m x e).toInt64) := rfl
theorem sPast_b {m : sm} {k x : Nat} (hTB : TB m) (hk : k < 16) (hx : x < 16) (n : Nat) : n ≤ 56 → (0 ≤ (sPast m k x n).1.toInt ∧ (sPast m k x n).1.toInt ≤ 5017 * n) ∧ 0 ≤ (sPast m k x n).2.toInt ∧ (sPast m k x n).2.toInt ≤ 5017 * n := by
  induction n with
  | zero =>
    intro _
    show (0 ≤ (0:Int64).toInt ∧ (0:Int64).toInt ≤ 5017 * ((0 : Nat) : Int)) ∧ 0 ≤ (0:Int64).toInt ∧ (0:Int64).toInt ≤ 5017 * ((0 : Nat) : Int)
    decide
  | succ n ih =>
    intro hn
    have ih := ih (by omega)
    rw [sPast_s]
    by_cases e : sTr m k n = -1 ∨ sTr m x n = -1
    · rw [if_pos e]
      omega
    · rw [if_neg e]
      have b1 := hTB k n hk (by omega) (fun h => e (Or.inl h))
      have b2 := hTB x n hx (by omega) (fun h => e (Or.inr h))
      simp only [Int64.toInt_add, Int32.toInt_toInt64]
      rw [Int.bmod_eq_of_le (by omega) (by omega), Int.bmod_eq_of_le (by omega) (by omega)]
      omega
def sTh (m : sm) (k d x : Nat) : Int64 := (sTr m x d).toInt64 * (sRat m k x).1 * 1000 / (sRat m k x).2
theorem thousandths_eq {k x d n : Nat} {M : xM} (hk : k < 16) (hx : x < 16) (hd : d < 56) (hT : CTr M.1) (hTB : TB M.1) (hn : n ≤ 56) (hn1 : M.1 1 3 = nI n) (hn2 : M.1 170 15 = nI n) : fX5_thousandthsBy (nI k) (nI x) (nI d) M = some (sTh M.1 k d x) := by
  unfold fX5_thousandthsBy
  refine lp_for (fun e => ((sPast M.1 k x e).1, (sPast M.1 k x e).2, nI e)) _ n (fun e kk he hkk => ?_) (fun kk => ?_) xfu 0 (Nat.zero_le _) (by unfold xfu; omega)
  · have g1 : ¬ nI n ≤ nI e := nI_ge he (by omega)
    have g2 : ¬ (56:Int32) ≤ nI e := nI_ge (b := 56) (by omega) (by decide)
    rw [sPast_s] at hkk
    simp only [jn_at, hn1, g1, g2, trustedOf_nI hk (show e < 56 by omega), trustedOf_nI hx (show e < 56 by omega), hT k e hk (by omega), hT x e hx (by omega), some_bind, bd_at, ↓reduceIte, nI_1]
    by_cases e1 : sTr M.1 k e = -1
    · simpa only [e1, ↓reduceIte, true_or] using hkk
    · by_cases e2 : sTr M.1 x e = -1
      · simpa only [e1, e2, ↓reduceIte, or_true] using hkk
      · simpa only [e1, e2, ↓reduceIte, or_self] using hkk
  · have g1 : nI n ≤ nI n := Int32.le_refl _
    have hb := sPast_b hTB hk hx n hn
    have hnow : sNow M.1 = n := by unfold sNow; rw [hn2, nI_clamp (by omega)]
    simp only [jn_at, hn1, g1, trustedOf_nI hx hd, hT x d hx hd, some_bind, bd_at, ↓reduceIte, lg_cmp_gt]
    unfold sTh sRat
    rw [hnow]
    have z0 : (0:Int64).toInt = 0 := by decide
    by_cases e1 : (sPast M.1 k x n).2 = 0
    · have g2 : ¬ (0:Int64) < (sPast M.1 k x n).2 := by rw [e1]; decide
      rw [if_neg g2, if_pos e1]
      show _ = some ((sTr M.1 x d).toInt64 * 1 * 1000 / 1)
      rw [Int64.mul_one, Int64.div_one, Int64.mul_comm]
    · have g2 : (0:Int64) < (sPast M.1 k x n).2 := by
        rw [Int64.lt_iff_toInt_lt, z0]
        have : ¬ (sPast M.1 k x n).2.toInt = 0 := fun h => e1 (Int64.toInt_inj.mp (by rw [h, z0]))
        omega
      rw [if_pos g2, if_neg e1, if_neg e1]
      congr 2
      rw [Int64.mul_comm 1000, Int64.mul_assoc, Int64.mul_assoc, Int64.mul_comm 1000]
/-- what those that are chosen make of it -/
def sMv (m : sm) (k d : Nat) (L : List Nat) : Int32 := if L = [] then -1 else ((L.foldl (sMs m k d) (0, 0)).1 / ((L.foldl (sMs m k d) (0, 0)).2 * 1000)).toInt32
theorem sMv_k {m m' : sm} (e : sK m m') (k d : Nat) (L : List Nat) : sMv m' k d L = sMv m k d L := by
  simp only [sMv, sMs_k e]
abbrev meR (M : xM) (v : Int32) (o : Option (Int32 × xM)) : Prop := ∃ M' : xM, o = some (v, M') ∧ M'.2 = M.2 ∧ ∀ j i, (j < 143 ∨ 146 ≤ j) → M'.1 j i = M.1 j i
theorem mend_of {k d : Nat} {L : List Nat} {M : xM} (hk : k < 16) (hd : d < 56) (hI : NInv M.1) (hV : BV M.1) (hL : ∀ y ∈ L, y < 16 ∧ ¬ M.1 171 y = -1) (hg : ¬ M.1 171 k = -1) (hG : gaR M k L (fX5_gather (nI k) (nI d) M)) : meR M (sMv M.1 k d L) (fX5_mend (nI k) (nI d) M) := by
  obtain ⟨M1, h1, h2, ⟨h4, -, hr⟩, h5⟩ := hG
  obtain ⟨n, hn, hnn⟩ := hI.n
  have hnE : nE M.1 M1.1 := fun j i h => h5 j i (by omega)
  have hK := sK_n hnE
  have hI1 := NInv_n hnE hI
  have hT1 : CTr M1.1 := fun q e hq he => by
    rw [h5 _ _ (by omega), sTr_k hK]
    exact (hV q e hq he).2.2.1
  have hn1 : M1.1 1 3 = nI n := by rw [hI1.net.1, hK 170 15 (by decide)]; exact hnn
  have hn2 : M1.1 170 15 = nI n := by rw [hK 170 15 (by decide)]; exact hnn
  rw [← sMv_k hK]
  unfold fX5_mend
  rw [h1, some_bind]
  refine ⟨M1, ?_, h2, h5⟩
  refine lp_for (fun i => (((L.take i).foldl (sMs M1.1 k d) (0, 0)).1, ((L.take i).foldl (sMs M1.1 k d) (0, 0)).2, nI i)) _ L.length (fun i kk hi hkk => ?_) (fun kk => ?_) xfu 0 (Nat.zero_le _) (by unfold xfu; omega)
  · have g1 : ¬ nI L.length ≤ nI i := nI_ge hi (by omega)
    have g2 : ¬ (4:Int32) ≤ nI i := nI_ge (b := 4) (by omega) (by decide)
    have hib : xinb (nI i) 4 = true := xinb_nI (by omega) (by decide)
    have hic : (nI i).toNatClampNeg = i := nI_clamp (by omega)
    obtain ⟨x, hx⟩ : ∃ x, L[i]? = some x := ⟨L[i], List.getElem?_eq_getElem hi⟩
    have hx16 := hL x (List.mem_of_getElem? hx)
    have hrow := hr i x hx
    have hsd : sDs M.1 x k = sDs M1.1 x k := by
      unfold sDs
      rw [sFar_k hK, hK 172 k (by decide), hK 173 k (by decide)]
    have hdb := sDs_b hI.wx hx16.1 hk hx16.2 hg
    have htk : (L.take (i + 1)).foldl (sMs M1.1 k d) (0, 0) = sMs M1.1 k d ((L.take i).foldl (sMs M1.1 k d) (0, 0)) x := by
      rw [List.take_add_one, hx, List.foldl_append]
      rfl
    rw [htk] at hkk
    generalize (L.take i).foldl (sMs M1.1 k d) (0, 0) = r at hkk ⊢
    simp only [jn_at, g1, g2, hib, hic, hrow.1, hrow.2, nearness_eq hdb.1, thousandths_eq hk hx16.1 hd hT1 (TB_of hI1) hn hn1 hn2, some_bind, bd_at, ↓reduceIte, nI_1]
    have hms : sMs M1.1 k d r x = (r.1 + (sW (sDs M.1 x k)).toInt64 * sTh M1.1 k d x, r.2 + (sW (sDs M.1 x k)).toInt64) := by
      unfold sMs sTh
      rw [← hsd, Int64.mul_comm (sW (sDs M.1 x k)).toInt64]
    rw [hms] at hkk
    exact hkk
  · have g1 : nI L.length ≤ nI L.length := Int32.le_refl _
    simp only [jn_at, g1, List.take_length, ↓reduceIte, lg_cmp_gt]
    unfold sMv
    by_cases e1 : L = []
    · subst e1
      have g2 : ¬ (0:Int64) < (([] : List Nat).foldl (sMs M1.1 k d) (0, 0)).2 := by
        rw [List.foldl_nil]
        decide
      rw [if_neg g2, if_pos rfl]
    · have hne := sMs_ne (m := M1.1) (k := k) (d := d) e1 h4
      have hs := sMs_sum M1.1 k d L (0, 0) 0 (by decide) (by decide) (by omega)
      have hp : 0 < L.length := List.length_pos_iff.mpr e1
      have g2 : (0:Int64) < (L.foldl (sMs M1.1 k d) (0, 0)).2 := by
        rw [Int64.lt_iff_toInt_lt]
        have z0 : (0:Int64).toInt = 0 := by decide
        have z1 : ((0, 0) : Int64 × Int64).2.toInt = 0 := by decide
        omega
      rw [if_pos g2, if_neg hne, if_neg e1]
/-! ===== a mended number is none below 0 ===== -/
theorem th_b {t a b : Int64} (ht : 0 ≤ t.toInt ∧ t.toInt ≤ 5017) (ha : 0 ≤ a.toInt ∧ a.toInt ≤ 280952) (hb : 1 ≤ b.toInt) : 0 ≤ (t * a * 1000 / b).toInt ∧ (t * a * 1000 / b).toInt ≤ 1409536184000 := by
  have h1 : 0 ≤ t.toInt * a.toInt := Int.mul_nonneg ht.1 ha.1
  have h2 : t.toInt * a.toInt ≤ 5017 * 280952 := Int.mul_le_mul ht.2 ha.2 ha.1 (by decide)
  have e1 : (t * a).toInt = t.toInt * a.toInt := by
    rw [Int64.toInt_mul]
    apply Int.bmod_eq_of_le <;> omega
  have e3 : (1000:Int64).toInt = 1000 := by decide
  have e2 : (t * a * 1000).toInt = t.toInt * a.toInt * 1000 := by
    rw [Int64.toInt_mul, e1, e3]
    apply Int.bmod_eq_of_le <;> omega
  have hne : t * a * 1000 ≠ Int64.minValue := by
    intro e
    have e' := congrArg Int64.toInt e
    rw [e2] at e'
    have : (Int64.minValue).toInt = -9223372036854775808 := by decide
    omega
  rw [Int64.toInt_div_of_ne_left _ _ hne, e2, Int.tdiv_eq_ediv_of_nonneg (by omega)]
  have h3 := Int.ediv_nonneg (a := t.toInt * a.toInt * 1000) (b := b.toInt) (by omega) (by omega)
  have h4 := Int.ediv_le_self (a := t.toInt * a.toInt * 1000) b.toInt (by omega)
  omega
theorem sTh_b {m : sm} {k d x : Nat} (hI : NInv m) (hk : k < 16) (hx : x < 16) (hd : d < 56) (ht : ¬ sTr m x d = -1) : 0 ≤ (sTh m k d x).toInt ∧ (sTh m k d x).toInt ≤ 1409536184000 := by
  have hTB := TB_of hI
  obtain ⟨n, hn, hnn⟩ := hI.n
  have hnow : sNow m = n := by unfold sNow; rw [hnn, nI_clamp (by omega)]
  have hb := sPast_b hTB hk hx n hn
  have htb := hTB x d hx hd ht
  unfold sTh sRat
  rw [hnow]
  by_cases e1 : (sPast m k x n).2 = 0
  · rw [if_pos e1]
    exact th_b (by rw [Int32.toInt_toInt64]; exact htb) (by decide) (by decide)
  · rw [if_neg e1]
    refine th_b (by rw [Int32.toInt_toInt64]; exact htb) (by omega) ?_
    have z0 : (0:Int64).toInt = 0 := by decide
    have : ¬ (sPast m k x n).2.toInt = 0 := fun h => e1 (Int64.toInt_inj.mp (by rw [h, z0]))
    omega
theorem sMs_b {m : sm} {k d : Nat} (hI : NInv m) (hk : k < 16) (hd : d < 56) : ∀ (L : List Nat) (r : Int64 × Int64) (a : Nat), (∀ y ∈ L, y < 16 ∧ ¬ sTr m y d = -1) → 0 ≤ r.1.toInt → r.1.toInt ≤ 1409536184000 * r.2.toInt → 0 ≤ r.2.toInt → r.2.toInt ≤ 288 * a → a + L.length ≤ 4 → 0 ≤ (L.foldl (sMs m k d) r).1.toInt ∧ (L.foldl (sMs m k d) r).1.toInt ≤ 1409536184000 * (L.foldl (sMs m k d) r).2.toInt
  | [], r, a, _, h1, h2, _, _, _ => ⟨h1, h2⟩
  | x :: L, r, a, hL, h1, h2, h3, h4, h5 => by
    rw [List.foldl_cons]
    rw [List.length_cons] at h5
    have hx := hL x (List.mem_cons_self ..)
    have hw := sW_bound (sDs m x k)
    have ht := sTh_b hI hk hx.1 hd hx.2
    have p1 : 0 ≤ (sTh m k d x).toInt * (sW (sDs m x k)).toInt := Int.mul_nonneg ht.1 (by omega)
    have p2 : (sTh m k d x).toInt * (sW (sDs m x k)).toInt ≤ 1409536184000 * (sW (sDs m x k)).toInt := Int.mul_le_mul_of_nonneg_right ht.2 (by omega)
    have e1 : (sMs m k d r x).1.toInt = r.1.toInt + (sTh m k d x).toInt * (sW (sDs m x k)).toInt := by
      show (r.1 + sTh m k d x * (sW (sDs m x k)).toInt64).toInt = _
      have e0 : (sTh m k d x * (sW (sDs m x k)).toInt64).toInt = (sTh m k d x).toInt * (sW (sDs m x k)).toInt := by
        rw [Int64.toInt_mul, Int32.toInt_toInt64]
        apply Int.bmod_eq_of_le <;> omega
      rw [Int64.toInt_add, e0]
      apply Int.bmod_eq_of_le <;> omega
    have e2 : (sMs m k d r x).2.toInt = r.2.toInt + (sW (sDs m x k)).toInt := by
      show (r.2 + (sW (sDs m x k)).toInt64).toInt = _
      rw [Int64.toInt_add, Int32.toInt_toInt64]
      apply Int.bmod_eq_of_le <;> omega
    exact sMs_b hI hk hd L (sMs m k d r x) (a + 1) (fun y hy => hL y (List.mem_cons_of_mem _ hy)) (by omega) (by omega) (by omega) (by omega) (by omega)
theorem sMv_pos {m : sm} {k d : Nat} {L : List Nat} (hI : NInv m) (hk : k < 16) (hd : d < 56) (hL : ∀ y ∈ L, y < 16 ∧ ¬ sTr m y d = -1) (h4 : L.length ≤ 4) (hne : ¬ L = []) : ¬ sMv m k d L = -1 := by
  have hp : 0 < L.length := List.length_pos_iff.mpr hne
  have hb := sMs_b hI hk hd L (0, 0) 0 hL (by decide) (by decide) (by decide) (by decide) (by omega)
  have hs := sMs_sum m k d L (0, 0) 0 (by decide) (by decide) (by omega)
  have z1 : ((0, 0) : Int64 × Int64).2.toInt = 0 := by decide
  rw [z1] at hs
  unfold sMv
  rw [if_neg hne]
  generalize L.foldl (sMs m k d) (0, 0) = r at hb hs
  have e3 : (1000:Int64).toInt = 1000 := by decide
  have e1 : (r.2 * 1000).toInt = r.2.toInt * 1000 := by
    rw [Int64.toInt_mul, e3]
    apply Int.bmod_eq_of_le <;> omega
  have hmin : r.1 ≠ Int64.minValue := by
    intro e
    have e' := congrArg Int64.toInt e
    have : (Int64.minValue).toInt = -9223372036854775808 := by decide
    omega
  have e2 : (r.1 / (r.2 * 1000)).toInt = r.1.toInt / (r.2.toInt * 1000) := by
    rw [Int64.toInt_div_of_ne_left _ _ hmin, e1, Int.tdiv_eq_ediv_of_nonneg hb.1]
  have q1 := Int.ediv_nonneg (a := r.1.toInt) (b := r.2.toInt * 1000) hb.1 (by omega)
  have q2 : r.1.toInt / (r.2.toInt * 1000) ≤ 1409536184 := Int.ediv_le_of_le_mul (by omega) (by omega)
  intro e
  have e' := congrArg Int32.toInt e
  rw [Int64.toInt_toInt32, e2, Int.bmod_eq_of_le (by omega) (by omega)] at e'
  have : (-1:Int32).toInt = -1 := by decide
  omega
theorem sBys_fut {m : sm} {k d : Nat} (h : ¬ nI d ≤ m 170 15) : sBys m k d = [] := by
  unfold sBys
  have : (sRows m k 16).filter (fun y => !(sTr m y d == -1)) = [] := List.filter_eq_nil_iff.mpr (fun a _ => by simp [sTr_no (sR_fut (k := a) h)])
  rw [this]
  rfl
theorem mendC_eq {k d : Nat} {M : xM} (hk : k < 16) (hd : d < 56) (hI : NInv M.1) (hV : BV M.1) (hg : sGb M.1 k = true) (ht : sTd M.1 k d = -1) : meR M (if M.1 171 k = 3 then -1 else sMend M.1 k d) (fX5_mend (nI k) (nI d) M) := by
  have hne := (sGb_1 hg).1
  have hnil : meR M (sMv M.1 k d []) (fX5_mend (nI k) (nI d) M) → meR M (-1) (fX5_mend (nI k) (nI d) M) := by
    unfold sMv
    rw [if_pos rfl]
    exact id
  by_cases e3 : M.1 171 k = 3
  · rw [if_pos e3]
    exact hnil (mend_of hk hd hI hV (fun y hy => absurd hy List.not_mem_nil) hne (gather_store hk hI.pl (fun h => h.2 e3)))
  · rw [if_neg e3]
    unfold sTd at ht
    rw [if_neg e3] at ht
    by_cases e4 : nI d < M.1 175 k
    · have hm : sMend M.1 k d = -1 := by
        unfold sMend sMay
        rw [if_pos (Or.inl (by simp [e4]))]
      rw [hm]
      exact hnil (mend_of hk hd hI hV (fun y hy => absurd hy List.not_mem_nil) hne (gather_early hk hI.pl ⟨hg, e3⟩ e4))
    · have hG := mend_of hk hd hI hV (fun y hy => ⟨(sBys_mem hy).1, (sGb_1 (sBys_mem hy).2.2.1).1⟩) hne (gather_in hk hd hI hV ⟨hg, e3⟩ e4)
      by_cases e5 : nI d ≤ M.1 170 15
      · have hm : sMend M.1 k d = sMv M.1 k d (sBys M.1 k d) := by
          unfold sMend sMv
          have hmay : sMay M.1 k d = true := by
            unfold sMay
            simp [e3, e4, e5, ht]
          rw [hmay]
          simp only [reduceCtorEq, false_or]
        rw [hm]
        exact hG
      · have hm : sMend M.1 k d = -1 := by
          unfold sMend sMay
          rw [if_pos (Or.inl (by simp [e5]))]
        rw [hm]
        rw [sBys_fut e5] at hG
        exact hnil hG
