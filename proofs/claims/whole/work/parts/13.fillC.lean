def fJ7_fillC (a0 : Nat) (n0 : Nat) (p1 : Int32) (C : xPw) : Option xPw :=
  if a0 < C.1 then
    bd (Int32.ofNat n0) fun x1 =>
    lp (fun (s3 : (Int32 × xPw)) (kk4 : (Int32 × xPw) → Option xPw) =>
      if x1 ≤ s3.1 then
        some s3.2
      else
        if a0 < s3.2.1 then
          if xinb s3.1 n0 then
            bd (cwr s3.2 a0 s3.1.toNatClampNeg p1) fun m6 =>
            kk4 ((s3.1 + 1), m6)
          else none
        else none) xfu ((0:Int32), C)
  else none

set_option maxRecDepth 100000 in
set_option maxHeartbeats 4000000 in
theorem ct_J7_fillC (a0 : Nat) (n0 : Nat) (p1 : Int32) (C : xPw) (ht0 : xT a0 = 11) (hn0 : xN a0 = n0) : Ct iJ7_fill_53178 rP [(.ref a0), (.int p1)] (xwp C) (fJ7_fillC a0 n0 p1 C) := by
  refine Ct.of' (L := [some (.ref a0), some (.int p1), none, none]) 2 rfl (by decide +kernel) (Nat.le_of_ble_eq_true rfl) rfl ?_
  unfold fJ7_fillC
  refine x_iconst (pc := 0) (a := 0) dJ7_fill_53178_0 (by decide) ?_
  refine x_istore_n (pc := 1) (L' := [some (.ref a0), some (.int p1), some (.int (0:Int32)), none]) dJ7_fill_53178_1 (Nat.le_of_ble_eq_true rfl) rfl rfl ?_
  refine x_aload_n (pc := 2) dJ7_fill_53178_2 rfl ?_
  refine c_alen (pc := 3) ht0 hn0 rfl dJ7_fill_53178_3 ?_
  refine SP.bdi (fun x1 e2 => ?_)
  refine x_istore_n (pc := 4) (L' := [some (.ref a0), some (.int p1), some (.int (0:Int32)), some (.int x1)]) dJ7_fill_53178_4 (Nat.le_of_ble_eq_true rfl) rfl rfl ?_
  refine SP.mask (pc := 5) [true, true, true, true] (L' := [some (.ref a0), some (.int p1), some (.int (0:Int32)), some (.int x1)]) rfl ?_
  refine SP.lp (pc := 5) (fun (s3 : (Int32 × xPw)) => [some (.ref a0), some (.int p1), some (.int s3.1), some (.int x1)]) (fun (s3 : (Int32 × xPw)) => xwp s3.2) (fun s3 kk4 hkk4 => ?_) xfu ((0:Int32), C)
  try dsimp only
  refine x_iload_n (pc := 5) dJ7_fill_53178_5 rfl ?_
  refine x_iload_n (pc := 6) dJ7_fill_53178_6 rfl ?_
  refine x_icmp_ge (pc := 7) (tgt := 20) dJ7_fill_53178_7 (by decide) (fun h5 => ?_) (fun h5 => ?_)
  · exact x_vret (pc := 20) rfl rfl dJ7_fill_53178_20 (Nat.le_of_ble_eq_true rfl) (Nat.le_of_ble_eq_true rfl)
  · refine x_aload_n (pc := 10) dJ7_fill_53178_10 rfl ?_
    refine x_iload_n (pc := 11) dJ7_fill_53178_11 rfl ?_
    refine x_iload_n (pc := 12) dJ7_fill_53178_12 rfl ?_
    refine c_iast (pc := 13) ht0 hn0 dJ7_fill_53178_13 (fun _ => ?_)
    refine SP.bdp (fun m6 e7 => ?_)
    refine x_iinc (pc := 14) (b := (s3.1 + 1)) (L' := [some (.ref a0), some (.int p1), some (.int (s3.1 + 1)), some (.int x1)]) dJ7_fill_53178_14 rfl rfl (Nat.le_of_ble_eq_true rfl) rfl rfl ?_
    refine x_goto (pc := 17) (tgt := 5) dJ7_fill_53178_17 (by decide) ?_
    have hz := hkk4 ((s3.1 + 1), m6)
    try dsimp only at hz
    exact hz


/-- Arrays.fill, as one step -/
def cfl (C : xPw) (a n : Nat) (v : Int32) : Option xPw := if a < C.1 then some (cfill C a n v) else none
theorem cfill_0 (C : xPw) (a : Nat) (v : Int32) : cfill C a 0 v = C := by
  obtain ⟨n, ⟨m1, m2⟩, z⟩ := C
  simp [cfill]
theorem cfill_succ (C : xPw) (a i : Nat) (v : Int32) : cwr (cfill C a i v) a i v = cfill C a (i + 1) v := by
  unfold cwr cfill xw
  congr 2
  congr 1
  funext x y
  by_cases hx : x = a
  · subst hx
    by_cases hy : y = i
    · subst hy
      simp
    · have e : y < i + 1 ↔ y < i := by omega
      simp [hy, e]
  · simp [hx]
theorem lp_succ {σ β : Type} (step : σ → (σ → Option β) → Option β) (n : Nat) (s : σ) : lp step (n + 1) s = step s (lp step n) := rfl
theorem xinb_nI {i n : Nat} (h : i < n) (hn : n < 2 ^ 31) : xinb (nI i) n = true := by
  have h1 := nI_pos' (n := i) (by omega)
  have h2 := nI_clamp (n := i) (by omega)
  simp only [xinb, Bool.and_eq_true, decide_eq_true_eq, h1, h2, h, and_self]
theorem fillC_loop (a n : Nat) (v : Int32) (C : xPw) (ha : a < C.1) (hn : n < 900) : ∀ (m i : Nat), i ≤ n → n - i < m → lp (fun (s : Int32 × xPw) (k : Int32 × xPw → Option xPw) =>
      if Int32.ofNat n ≤ s.1 then some s.2 else
        if a < s.2.1 then
          if xinb s.1 n then bd (cwr s.2 a s.1.toNatClampNeg v) fun m => k (s.1 + 1, m) else none
        else none) m (nI i, cfill C a i v) = some (cfill C a n v) := by
  intro m
  induction m with
  | zero => intro i _ h; exact absurd h (Nat.not_lt_zero _)
  | succ m ih =>
    intro i hi hm
    rw [lp_succ]
    dsimp only
    by_cases h : i = n
    · subst h
      rw [if_pos (show Int32.ofNat i ≤ nI i from Int32.le_refl _)]
    · have h1 : ¬ Int32.ofNat n ≤ nI i := nI_ge (by omega) (by omega)
      rw [if_neg h1, if_pos (show a < (cfill C a i v).1 from ha), if_pos (xinb_nI (by omega) (by omega))]
      unfold bd
      rw [nI_clamp (by omega), cfill_succ, nI_1]
      exact ih (i + 1) (by omega) (by omega)
theorem Ct.to {I : xI} {α : Type} {ρ : α → Value × xW} {As : List Value} {w : xW} {X Y : Option α} (h : Ct I ρ As w X) (hXY : ∀ a, Y = some a → X = some a) : Ct I ρ As w Y := fun a ha => h a (hXY a ha)
theorem ct_fillC (a n : Nat) (v : Int32) (C : xPw) (ht : xT a = 11) (hn : xN a = n) (h9 : n < 900) : Ct iJ7_fill_53178 rP [(.ref a), (.int v)] (xwp C) (cfl C a n v) := by
  refine (ct_J7_fillC a n v C ht hn).to (fun q hq => ?_)
  unfold cfl at hq
  by_cases ha : a < C.1
  · rw [if_pos ha] at hq
    cases hq
    unfold fJ7_fillC
    rw [if_pos ha]
    have := fillC_loop a n v C ha h9 xfu 0 (Nat.zero_le _) (by unfold xfu; omega)
    rw [cfill_0] at this
    exact this
  · rw [if_neg ha] at hq
    cases hq

