/-! ===== what is told: bounds ===== -/
theorem iT_ge {t : Nat → Int32} {a : Nat} : ∀ n e, tOk t a n → e < n → (t (a + e)).toInt ≤ iT t a n
  | 0, _, _, h => absurd h (by omega)
  | n + 1, e, h, he => by
    have hn := h n (by omega)
    have hb := iT_b n (fun x hx => h x (by omega))
    have E : iT t a (n + 1) = iT t a n + (t (a + n)).toInt := rfl
    by_cases e1 : e = n
    · rw [e1]; omega
    · have := iT_ge n e (fun x hx => h x (by omega)) (by omega)
      omega
theorem share_b {t : Nat → Int32} {v : Int32} {a u d : Nat} (hv : 0 ≤ v.toInt ∧ v.toInt ≤ 5000) (hok : tOk t a (u + 1 - a)) (h1 : a ≤ d) (h2 : d ≤ u) (hu : u < 56) : 0 ≤ (sShare t v a u d).toInt ∧ (sShare t v a u d).toInt ≤ 5001 := by
  have hsi := sTot_int (u + 1 - a) (by omega) hok
  have hib := iT_b (u + 1 - a) hok
  have hge := iT_ge (u + 1 - a) (d - a) hok (by omega)
  have hd := hok (d - a) (by omega)
  rw [show a + (d - a) = d by omega] at hge hd
  have z0 : (0:Int32).toInt = 0 := by decide
  unfold sShare
  generalize sTot t a (u + 1 - a) = T at hsi
  by_cases e1 : T = 0
  · rw [if_pos e1]
    split
    · omega
    · rw [z0]; omega
  · rw [if_neg e1]
    have hT : 0 < T.toInt := by
      have : ¬ T.toInt = 0 := fun h => e1 (Int32.toInt_inj.mp (by rw [h, z0]))
      omega
    have hq := q_int (T := T) hv hd
    have p1 : v.toInt * (t d).toInt ≤ v.toInt * T.toInt := Int.mul_le_mul_of_nonneg_left (by omega) hv.1
    have p2 : v.toInt * (t d).toInt / T.toInt ≤ v.toInt := Int.ediv_le_of_le_mul hT p1
    have p3 : 0 ≤ v.toInt * (t d).toInt / T.toInt := Int.ediv_nonneg (Int.mul_nonneg hv.1 hd.1) (by omega)
    have fin : ∀ x : Int32, (x.toInt = 0 ∨ x.toInt = 1) → 0 ≤ (v * t d / T + x).toInt ∧ (v * t d / T + x).toInt ≤ 5001 := by
      intro x hx
      rw [Int32.toInt_add, hq, Int.bmod_eq_of_le (by omega) (by omega)]
      omega
    split
    · exact fin 0 (Or.inl z0)
    · exact fin 1 (Or.inr (by decide))
theorem sSpr_pos {m : sm} {k d u : Nat} (hI : NInv m) (hk : k < 16) (h : sRO m k d = some u) : 0 ≤ (sSpr m k d).toInt ∧ (sSpr m k d).toInt ≤ 5001 := by
  obtain ⟨h3, hf, hdu, hu, hne, hbt⟩ := sRO_some h
  obtain ⟨f, hf1, hf2⟩ := hI.wf k hk
  have hft : sFt m k = f := by unfold sFt; rw [hf2, nI_clamp (by omega)]
  have hfd : f ≤ d := by
    rcases Nat.lt_or_ge d f with h1 | h1
    · exact absurd (by rw [hf2]; exact nI_lt h1 (by omega)) hf
    · exact h1
  have hg : sGb m k = true := sGb_of (by rw [h3]; decide) (by rw [h3]; decide)
  have hb := hI.wb k u hk hu hg
  have hv : 0 ≤ (m 177 (56 * k + u)).toInt ∧ (m 177 (56 * k + u)).toInt ≤ 5000 := ⟨i_neg1 hne hb.1.1, hb.1.2⟩
  have hs := sSn_since (m := m) (k := k) hfd hdu hbt
  have z0 : (0:Int32).toInt = 0 := by decide
  unfold sSpr
  simp only [h, hft]
  cases hby : sBy m k (sSn m k f u) u with
  | none =>
    simp only [hby]
    split
    · omega
    · rw [z0]; omega
  | some y =>
    simp only [hby]
    have hyf : sAll (sTr m y) (sSn m k f u) (u + 1 - sSn m k f u) = true := by
      unfold sBy at hby
      exact List.find?_some (p := fun y => sAll (sTr m y) (sSn m k f u) (u + 1 - sSn m k f u)) hby
    have hy16 : y < 16 := by
      unfold sBy at hby
      exact (sRows_mem 16 (List.mem_of_find?_eq_some hby)).1
    exact share_b hv (fun e he => TB_of hI y _ hy16 (by omega) (sAll_ne hyf he)) hs hdu hu
theorem sTd_b {m : sm} {k d : Nat} (hI : NInv m) (hk : k < 16) (hd : d < 56) (h : ¬ sTd m k d = -1) : 0 ≤ (sTd m k d).toInt ∧ (sTd m k d).toInt ≤ 5017 := by
  unfold sTd at h ⊢
  by_cases e3 : m 171 k = 3
  · rw [if_pos e3] at h ⊢
    cases hro : sRO m k d with
    | none => exact absurd (by unfold sSpr; rw [hro]) h
    | some u =>
      have := sSpr_pos hI hk hro
      omega
  · rw [if_neg e3] at h ⊢
    exact TB_of hI k d hk hd h
theorem sTl_td {m : sm} {k d : Nat} (hI : NInv m) (hk : k < 16) : sTl m k d = !(sTd m k d == -1) := by
  unfold sTl sTd
  by_cases e3 : m 171 k = 3
  · have hg : sGb m k = true := sGb_of (by rw [e3]; decide) (by rw [e3]; decide)
    rw [hg, if_pos e3, if_pos e3, Bool.true_and]
    cases hro : sRO m k d with
    | none =>
      have : sSpr m k d = -1 := by unfold sSpr; rw [hro]
      rw [this]
      rfl
    | some u =>
      have h1 := sSpr_pos hI hk hro
      have h2 : ¬ sSpr m k d = -1 := by
        intro e
        rw [e] at h1
        exact absurd h1.1 (by decide)
      simp [h2]
  · rw [if_neg e3, if_neg e3]
    cases hg : sGb m k with
    | true => rw [Bool.true_and]
    | false =>
      have h1 : sR m k d = -1 := by
        unfold sR sRaw
        rw [if_pos (Or.inl hg)]
      rw [sTr_no h1]
      rfl
theorem sNum_td {m : sm} {k d : Nat} (h : ¬ sTd m k d = -1) : sNum m k d = sTd m k d := by
  unfold sNum sTd at *
  by_cases e3 : m 171 k = 3
  · rw [if_pos e3, if_pos e3]
  · rw [if_neg e3] at h
    rw [if_neg e3, if_neg e3, if_neg h]
/-! ===== sums over the squares, either way ===== -/
def sQ (f : Nat → Int32) : Nat → Int32
  | 0 => 0
  | n + 1 => sQ f n + f n
theorem sQ_s (f : Nat → Int32) (n : Nat) : sQ f (n + 1) = sQ f n + f n := rfl
theorem sQ_cong {f g : Nat → Int32} (n : Nat) : (∀ i, i < n → f i = g i) → sQ f n = sQ g n := by
  induction n with
  | zero => intro _; rfl
  | succ n ih =>
    intro h
    rw [sQ_s, sQ_s, ih (fun i hi => h i (by omega)), h n (by omega)]
theorem sQ_app (f : Nat → Int32) (a n : Nat) : sQ f (a + n) = sQ f a + sQ (fun i => f (a + i)) n := by
  induction n with
  | zero => rw [Nat.add_zero]; exact (Int32.add_zero _).symm
  | succ n ih =>
    show sQ f (a + n) + f (a + n) = sQ f a + (sQ (fun i => f (a + i)) n + f (a + n))
    rw [ih, Int32.add_assoc]
theorem sQ_add (f g : Nat → Int32) (n : Nat) : sQ (fun i => f i + g i) n = sQ f n + sQ g n := by
  induction n with
  | zero => exact (Int32.add_zero _).symm
  | succ n ih =>
    rw [sQ_s, sQ_s, sQ_s, ih]
    ac_rfl
theorem sQ_zero (n : Nat) : sQ (fun _ => 0) n = 0 := by
  induction n with
  | zero => rfl
  | succ n ih => rw [sQ_s, ih]; rfl
theorem sQ_swap (g : Nat → Nat → Int32) (b : Nat) (a : Nat) : sQ (fun x => sQ (fun y => g x y) b) a = sQ (fun y => sQ (fun x => g x y) a) b := by
  induction a with
  | zero => exact (sQ_zero b).symm
  | succ a ih =>
    rw [sQ_s, ih, ← sQ_add]
    rfl
theorem sQ_rows (f : Nat → Int32) (b : Nat) (a : Nat) : sQ f (b * a) = sQ (fun x => sQ (fun y => f (b * x + y)) b) a := by
  induction a with
  | zero => rfl
  | succ a ih =>
    rw [Nat.mul_succ, sQ_app, ih, sQ_s]
theorem sQ_turn (g : Nat → Nat → Int32) : sQ (fun s => g (s % 10) (s / 10)) 100 = sQ (fun s => g (s / 10) (s % 10)) 100 := by
  have h1 := sQ_rows (fun s => g (s % 10) (s / 10)) 10 10
  have h2 := sQ_rows (fun s => g (s / 10) (s % 10)) 10 10
  rw [show 10 * 10 = 100 from rfl] at h1 h2
  rw [h1, h2]
  have e1 : sQ (fun x => sQ (fun y => g ((10 * x + y) % 10) ((10 * x + y) / 10)) 10) 10 = sQ (fun x => sQ (fun y => g y x) 10) 10 := sQ_cong 10 (fun x hx => sQ_cong 10 (fun y hy => by
    rw [show (10 * x + y) % 10 = y by omega, show (10 * x + y) / 10 = x by omega]))
  have e2 : sQ (fun x => sQ (fun y => g ((10 * x + y) / 10) ((10 * x + y) % 10)) 10) 10 = sQ (fun x => sQ (fun y => g x y) 10) 10 := sQ_cong 10 (fun x hx => sQ_cong 10 (fun y hy => by
    rw [show (10 * x + y) % 10 = y by omega, show (10 * x + y) / 10 = x by omega]))
  rw [e1, e2]
  exact (sQ_swap g 10 10).symm
/-! ===== the class's owners ===== -/
theorem sOw_P {P P' : Nat → Bool} {f : Nat → Int32} (n : Nat) : (∀ q, q < n → P q = P' q) → sOw P f n = sOw P' f n := by
  induction n with
  | zero => intro _; rfl
  | succ n ih =>
    intro h
    rw [sOw_s, sOw_s, ih (fun q hq => h q (by omega)), h n (by omega)]
theorem ownerC_gen {x y day : Int32} {t : Nat → Int32} {M : xM} (hP : CPl M.1) (ht : ∀ q, q < 16 → fX0_toldOf (nI q) day M = some (t q)) (htg : ∀ q, q < 16 → ¬ t q = -1 → ¬ M.1 171 q = -1) : fX4_ownerOf x y day M = some (oI (sOw (fun q => !(t q == -1)) (fun q => sFar M.1 q x y) 16)) := by
  unfold fX4_ownerOf
  generalize hF : (fun q => sFar M.1 q x y) = F
  have hFq : ∀ q, q < 16 → ¬ t q = -1 → fX9_squaredDistance x y q M = some (F q) := by
    intro q hq h
    have a := hP.2 q hq (htg q hq h)
    rw [← hF]
    unfold fX9_squaredDistance
    show _ = some (sFar M.1 q x y)
    unfold sFar
    rw [a.1, a.2.1, sq_sym x, sq_sym y]
  refine lp_for (fun q => (oI (sOw (fun q => !(t q == -1)) F q), (match sOw (fun q => !(t q == -1)) F q with | none => 0 | some b => F b), nI q)) _ 16 (fun q kk hq hkk => ?_) (fun kk => ?_) xfu 0 (by decide) (by unfold xfu; omega)
  · have g1 : ¬ (16:Int32) ≤ nI q := nI_ge (b := 16) hq (by decide)
    have hqb : xinb (nI q) 16 = true := xinb_nI hq (by decide)
    have hqc : (nI q).toNatClampNeg = q := nI_clamp (by omega)
    rw [sOw_s] at hkk
    simp only [g1, ht q hq, some_bind, ↓reduceIte, nI_1]
    by_cases e1 : t q = -1
    · have hp : (!(t q == -1)) = false := by rw [e1]; rfl
      rw [hp] at hkk
      simp only [e1, ↓reduceIte] at hkk ⊢
      exact hkk
    · have hp : (!(t q == -1)) = true := by simp [e1]
      rw [hp] at hkk
      simp only [e1, hqb, hqc, hFq q hq e1, some_bind, ↓reduceIte, reduceCtorEq] at hkk ⊢
      cases h1 : sOw (fun q => !(t q == -1)) F q with
      | none =>
        rw [h1] at hkk
        simp only [oI, ↓reduceIte] at hkk ⊢
        exact hkk
      | some b =>
        have hb16 := (sOw_lt q h1).1
        have hb1 : ¬ nI b = -1 := nI_nm1 (by omega)
        rw [h1] at hkk
        simp only [oI, hb1, ↓reduceIte] at hkk ⊢
        by_cases e2 : F b ≤ F q
        · simp only [e2, ↓reduceIte] at hkk ⊢
          exact hkk
        · simp only [e2, ↓reduceIte] at hkk ⊢
          exact hkk
  · have g1 : (16:Int32) ≤ nI 16 := by decide
    simp only [g1, ↓reduceIte]
theorem ownerC_in {x y : Int32} {d : Nat} {M : xM} (hd : d < 56) (hI : NInv M.1) (hV : BV M.1) : fX4_ownerOf x y (nI d) M = some (oI (sOwn M.1 x y d)) := by
  have h1 : ∀ q, q < 16 → sTl M.1 q d = !(sTd M.1 q d == -1) := fun q hq => sTl_td hI hq
  have hL := sOw_P (f := fun k => sFar M.1 k x y) 16 h1
  unfold sOwn
  rw [hL]
  refine ownerC_gen (t := fun q => sTd M.1 q d) hI.pl (fun q hq => ?_) (fun q hq h => ?_)
  · rw [toldOf_nI hq hd, (hV q d hq hd).2.2.2]
  · intro e
    have h2 := h1 q hq
    have h3 : sTl M.1 q d = true := by rw [h2]; simp [h]
    unfold sTl at h3
    have h4 : sGb M.1 q = false := by unfold sGb; rw [e]; rfl
    rw [h4] at h3
    exact absurd h3 (by simp)
theorem sOw_none (f : Nat → Int32) (n : Nat) : sOw (fun _ => !((-1:Int32) == -1)) f n = none := by
  induction n with
  | zero => rfl
  | succ n ih => rw [sOw_s, if_pos (by rfl), ih]
theorem ownerC_out {x y day : Int32} {M : xM} (hP : CPl M.1) (hd : day < 0 ∨ 56 ≤ day) : fX4_ownerOf x y day M = some (-1) := by
  rw [ownerC_gen (t := fun _ => -1) hP (fun q hq => toldOf_out hq hd) (fun q hq h => absurd rfl h), sOw_none]
  rfl
/-- how many squares a place owns -/
def sCo (m : sm) (p d : Nat) (x y : Nat) : Int32 := if oI (sOwn m (nI x) (nI y) d) = nI p then 1 else 0
theorem countC_eq {p d : Nat} {M : xM} (hp : p < 16) (hd : d < 56) (hI : NInv M.1) (hV : BV M.1) : fX4_countOwned (nI p) (nI d) M = some (sQ (fun s => sCo M.1 p d (s / 10) (s % 10)) 100) := by
  have hten : ¬ (10:Int32) = 0 := by decide
  unfold fX4_countOwned
  rw [toldOf_nI hp hd, (hV p d hp hd).2.2.2, some_bind]
  by_cases e1 : sTd M.1 p d = -1
  · rw [if_pos e1]
    have h0 : ∀ s, s < 100 → sCo M.1 p d (s / 10) (s % 10) = (fun _ => (0:Int32)) s := by
      intro s hs
      unfold sCo
      rw [if_neg]
      intro h
      cases hw : sOwn M.1 (nI (s / 10)) (nI (s % 10)) d with
      | none =>
        rw [hw] at h
        exact nI_nm1 (a := p) (by omega) h.symm
      | some b =>
        rw [hw] at h
        have hb := sOw_lt 16 hw
        have hbp : b = p := nI_inj (by omega) (by omega) h
        have h2 := hb.2
        rw [hbp, sTl_td hI hp, e1] at h2
        exact absurd h2 (by decide)
    rw [sQ_cong 100 h0, sQ_zero]
  · rw [if_neg e1, ← sQ_turn (fun x y => sCo M.1 p d x y)]
    refine lp_for (fun s => (sQ (fun s => sCo M.1 p d (s % 10) (s / 10)) s, nI s)) _ 100 (fun s kk hs hkk => ?_) (fun kk => ?_) xfu 0 (by decide) (by unfold xfu; omega)
    · have g1 : ¬ (100:Int32) ≤ nI s := nI_ge (b := 100) hs (by decide)
      rw [sQ_s] at hkk
      simp only [g1, hten, nI_d10 hs, nI_m10 hs, ownerC_in hd hI hV, some_bind, ↓reduceIte, nI_1]
      unfold sCo at hkk ⊢
      by_cases e2 : oI (sOwn M.1 (nI (s % 10)) (nI (s / 10)) d) = nI p
      · simp only [e2, ↓reduceIte] at hkk ⊢
        exact hkk
      · simp only [e2, ↓reduceIte, Int32.add_zero] at hkk ⊢
        exact hkk
    · have g1 : (100:Int32) ≤ nI 100 := by decide
      simp only [g1, ↓reduceIte]
