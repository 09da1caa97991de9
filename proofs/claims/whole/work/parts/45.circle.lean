/-! ===== the class's circles: the nearest four that are offered ===== -/
abbrev sCir (m : sm) (c : Nat) (f : Nat → Int32) (L : List Nat) : Prop := L.length ≤ 4 ∧ m c 2 = nI L.length ∧ ∀ (i y : Nat), L[i]? = some y → m (c + 1) i = nI y ∧ m (c + 2) i = f y
abbrev sOffR (M : xM) (c : Nat) (f : Nat → Int32) (L : List Nat) (o : Option xM) : Prop := ∃ M' : xM, o = some M' ∧ M'.2 = M.2 ∧ sCir M'.1 c f L ∧ ∀ j i, (j < c ∨ c + 3 ≤ j) → M'.1 j i = M.1 j i
def offT (c : Nat) (p1 p2 s3 : Int32) (M : xM) : Option xM :=
      if s3 < (4:Int32) then
        bd (xw M c 2 (if (4:Int32) < ((M.1 c 2) + (1:Int32)) then (4:Int32) else ((M.1 c 2) + (1:Int32)))) fun m11 =>
        bd ((m11.1 c 2) - (1:Int32)) fun x13 =>
        lp (fun (s15 : (Int32 × xM)) (kk16 : (Int32 × xM) → Option xM) =>
          if s15.1 ≤ s3 then
            if xinb s3 4 then
              bd (xw s15.2 (c + 1) s3.toNatClampNeg p1) fun m19 =>
              if xinb s3 4 then
                bd (xw m19 (c + 2) s3.toNatClampNeg p2) fun m22 =>
                some m22
              else none
            else none
          else
            if xinb (s15.1 - (1:Int32)) 4 then
              if xinb s15.1 4 then
                bd (xw s15.2 (c + 1) s15.1.toNatClampNeg (s15.2.1 (c + 1) (s15.1 - (1:Int32)).toNatClampNeg)) fun m26 =>
                if xinb (s15.1 - (1:Int32)) 4 then
                  if xinb s15.1 4 then
                    bd (xw m26 (c + 2) s15.1.toNatClampNeg (m26.1 (c + 2) (s15.1 - (1:Int32)).toNatClampNeg)) fun m30 =>
                    kk16 ((s15.1 + (-1)), m30)
                  else none
                else none
              else none
            else none) xfu (x13, m11)
      else
        some M
theorem offer_at (c : Nat) (p1 p2 : Int32) (M : xM) : fX2_offer c p1 p2 M = bd (M.1 c 2) fun x1 => lp (fun (s3 : Int32) (kk4 : Int32 → Option xM) => jn (fun (s6 : Unit) => offT c p1 p2 s3 M) (fun (kk5 : Unit → Option xM) =>
      if s3 ≤ 0 then
        kk5 ()
      else
        if xinb (s3 - (1:Int32)) 4 then
          if (M.1 (c + 2) (s3 - (1:Int32)).toNatClampNeg) ≤ p2 then
            kk5 ()
          else
            kk4 (s3 + (-1))
        else none)) xfu x1 := by
  unfold fX2_offer offT
  exact Eq.trans rfl rfl
theorem offT_eq {c q : Nat} {f : Nat → Int32} {A B : List Nat} {M : xM} (h4 : (A ++ B).length ≤ 4) (hcn : M.1 c 2 = nI (A ++ B).length) (hr : ∀ (i y : Nat), (A ++ B)[i]? = some y → M.1 (c + 1) i = nI y ∧ M.1 (c + 2) i = f y) : sOffR M c f ((A ++ q :: B).take 4) (offT c (nI q) (f q) (nI A.length) M) := by
  unfold offT
  have hlen : (A ++ B).length = A.length + B.length := List.length_append
  by_cases e1 : A.length = 4
  · have g1 : ¬ nI A.length < (4:Int32) := by rw [e1]; decide
    rw [if_neg g1]
    have hB0 : B = [] := List.eq_nil_of_length_eq_zero (by omega)
    refine ⟨M, rfl, rfl, ?_, fun _ _ _ => rfl⟩
    subst hB0
    have : (A ++ [q]).take 4 = A := by rw [List.take_append_of_le_length (by omega), List.take_of_length_le (by omega)]
    rw [this]
    rw [List.append_nil] at h4 hcn hr
    exact ⟨h4, hcn, hr⟩
  · have g1 : nI A.length < (4:Int32) := nI_lt (b := 4) (by omega) (by decide)
    obtain ⟨n, hn⟩ : ∃ n, n = min ((A ++ B).length + 1) 4 := ⟨_, rfl⟩
    have hmin : (if (4:Int32) < M.1 c 2 + 1 then (4:Int32) else M.1 c 2 + 1) = nI n := by
      rw [hcn, nI_1]
      by_cases e2 : (A ++ B).length = 4
      · rw [hn, e2]
        decide
      · rw [if_neg (show ¬ (4:Int32) < nI ((A ++ B).length + 1) from nI_nlt (a := 4) (by omega) (by decide)), hn, Nat.min_eq_left (by omega)]
    obtain ⟨w, hw⟩ : ∃ w, n = w + 1 := ⟨n - 1, by omega⟩
    have hx : (xw M c 2 (nI n)).1 c 2 - 1 = nI w := by rw [xw_at, if_pos ⟨rfl, rfl⟩, hw, nI_pred]
    have hab : xinb (nI A.length) 4 = true := xinb_nI (by omega) (by decide)
    have hac : (nI A.length).toNatClampNeg = A.length := nI_clamp (by omega)
    simp only [g1, hmin, bd_at, hx, ↓reduceIte]
    refine lp_post (Q := sOffR M c f ((A ++ q :: B).take 4)) (fun s => ∃ (i : Nat) (N : xM), A.length ≤ i ∧ i ≤ w ∧ s = (nI i, N) ∧ N.2 = M.2 ∧ N.1 c 2 = nI n ∧ (∀ x, x ≤ i → N.1 (c + 1) x = M.1 (c + 1) x ∧ N.1 (c + 2) x = M.1 (c + 2) x) ∧ (∀ x, i < x → x ≤ w → N.1 (c + 1) x = M.1 (c + 1) (x - 1) ∧ N.1 (c + 2) x = M.1 (c + 2) (x - 1)) ∧ ∀ j i, (j < c ∨ c + 3 ≤ j) → N.1 j i = M.1 j i) (fun s => s.1.toNatClampNeg) ?_ xfu _ ⟨w, _, by omega, Nat.le_refl _, rfl, rfl, by rw [xw_at, if_pos ⟨rfl, rfl⟩], fun x hx => by rw [xw_at, xw_at, if_neg (by omega), if_neg (by omega)]; exact ⟨rfl, rfl⟩, fun x a1 a2 => absurd a2 (by omega), fun j i h => by rw [xw_at, if_neg (by omega)]⟩ (by unfold xfu; show (nI w).toNatClampNeg < 1000; rw [nI_clamp (by omega)]; omega)
    rintro s kk ⟨i, N, a1, a2, rfl, b1, b2, b3, b4, b5⟩ hkk
    by_cases e2 : i = A.length
    · have g2 : nI i ≤ nI A.length := by rw [e2]; exact Int32.le_refl _
      simp only [g2, hab, hac, bd_at, ↓reduceIte]
      refine ⟨_, rfl, b1, ⟨?_, ?_, fun x y hxy => ?_⟩, fun j i h => ?_⟩
      · rw [List.length_take]; omega
      · rw [xw_at, xw_at, if_neg (by omega), if_neg (by omega), b2, List.length_take, List.length_append, List.length_cons]
        congr 1
        omega
      · rw [List.getElem?_take] at hxy
        have hx4 : x < 4 := by
          rcases Nat.lt_or_ge x 4 with h | h
          · exact h
          · rw [if_neg (by omega)] at hxy; exact absurd hxy (by simp)
        rw [if_pos hx4] at hxy
        by_cases e3 : x = A.length
        · subst e3
          rw [List.getElem?_append_right (Nat.le_refl _), Nat.sub_self, List.getElem?_cons_zero] at hxy
          have hy := Option.some.inj hxy
          rw [xv_ne (by omega), xv_eq, xv_eq, hy]
          exact ⟨rfl, rfl⟩
        · rw [xv_ne (by omega), xv_ne (by omega), xv_ne (by omega), xv_ne (by omega)]
          by_cases e4 : x < A.length
          · rw [List.getElem?_append_left e4] at hxy
            have hb := b3 x (by omega)
            rw [hb.1, hb.2]
            exact hr x y (by rw [List.getElem?_append_left e4]; exact hxy)
          · obtain ⟨j, rfl⟩ : ∃ j, x = A.length + 1 + j := ⟨x - A.length - 1, by omega⟩
            rw [List.getElem?_append_right (by omega), show A.length + 1 + j - A.length = j + 1 by omega, List.getElem?_cons_succ] at hxy
            have hjB : j < B.length := by
              rcases Nat.lt_or_ge j B.length with h | h
              · exact h
              · rw [List.getElem?_eq_none h] at hxy; exact absurd hxy (by simp)
            have hb := b4 (A.length + 1 + j) (by omega) (by omega)
            rw [hb.1, hb.2]
            refine hr (A.length + 1 + j - 1) y ?_
            rw [List.getElem?_append_right (by omega), show A.length + 1 + j - 1 - A.length = j by omega]
            exact hxy
      · rw [xw_at, xw_at, if_neg (by omega), if_neg (by omega)]
        exact b5 j i h
    · obtain ⟨t, rfl⟩ : ∃ t, i = t + 1 := ⟨i - 1, by omega⟩
      have g2 : ¬ nI (t + 1) ≤ nI A.length := nI_ge (by omega) (by omega)
      have htb : xinb (nI t) 4 = true := xinb_nI (by omega) (by decide)
      have htc : (nI t).toNatClampNeg = t := nI_clamp (by omega)
      have ht1b : xinb (nI (t + 1)) 4 = true := xinb_nI (by omega) (by decide)
      have ht1c : (nI (t + 1)).toNatClampNeg = t + 1 := nI_clamp (by omega)
      simp only [g2, nI_pred, htb, htc, ht1b, ht1c, bd_at, pk_m1, ↓reduceIte]
      refine hkk _ ⟨t, _, by omega, by omega, rfl, b1, ?_, fun x hx => ?_, fun x hx1 hx2 => ?_, fun j i h => ?_⟩ (by simp only [htc, ht1c]; omega)
      · rw [xv_ne (by omega), xv_ne (by omega)]
        exact b2
      · rw [xv_ne (by omega), xv_ne (by omega), xv_ne (by omega), xv_ne (by omega)]
        exact b3 x (by omega)
      · by_cases e3 : x = t + 1
        · subst e3
          have hb := b3 t (by omega)
          rw [xv_ne (by omega), xv_eq, xv_eq, xv_ne (by omega)]
          exact hb
        · rw [xv_ne (by omega), xv_ne (by omega), xv_ne (by omega), xv_ne (by omega)]
          exact b4 x (by omega) hx2
      · rw [xv_ne (by omega), xv_ne (by omega)]
        exact b5 j i h
theorem offer_eq {c q : Nat} {f : Nat → Int32} {L : List Nat} {M : xM} (hL : sCir M.1 c f L) (hs : L.Pairwise (fun a b => f a ≤ f b)) : sOffR M c f ((sIns f q L).take 4) (fX2_offer c (nI q) (f q) M) := by
  obtain ⟨h4, hcn, hr⟩ := hL
  rw [offer_at, bd_at, hcn]
  refine lp_post (Q := sOffR M c f ((sIns f q L).take 4)) (fun s => ∃ A B, L = A ++ B ∧ s = nI A.length ∧ ∀ b ∈ B, f q < f b) (fun s => s.toNatClampNeg) ?_ xfu _ ⟨L, [], by simp, rfl, fun b h => absurd h List.not_mem_nil⟩ (by unfold xfu; show (nI L.length).toNatClampNeg < 1000; rw [nI_clamp (by omega)]; omega)
  rintro s kk ⟨A, B, hAB, rfl, hB⟩ hkk
  have hlen : A.length + B.length = L.length := by rw [hAB, List.length_append]
  have fin : (∀ a ∈ A, f a ≤ f q) → sOffR M c f ((sIns f q L).take 4) (offT c (nI q) (f q) (nI A.length) M) := by
    intro hA
    have h1 : sIns f q L = A ++ q :: B := by rw [hAB]; exact sIns_at hB A hA
    rw [h1]
    exact offT_eq (by rw [← hAB]; exact h4) (by rw [← hAB]; exact hcn) (by rw [← hAB]; exact hr)
  rw [jn_at]
  rcases snoc_cases A with rfl | ⟨A', a, rfl⟩
  · have g2 : nI ([] : List Nat).length ≤ 0 := by decide
    simp only [g2, ↓reduceIte]
    exact fin (fun a h => absurd h List.not_mem_nil)
  · have hAl : (A' ++ [a]).length = A'.length + 1 := by simp
    rw [hAl] at fin hlen ⊢
    have g2 : ¬ nI (A'.length + 1) ≤ 0 := nI_nle (by omega) (by omega)
    have hb3 : xinb (nI A'.length) 4 = true := xinb_nI (by omega) (by decide)
    have hc3 : (nI A'.length).toNatClampNeg = A'.length := nI_clamp (by omega)
    have hc4 : (nI (A'.length + 1)).toNatClampNeg = A'.length + 1 := nI_clamp (by omega)
    have ha : M.1 (c + 2) A'.length = f a := (hr A'.length a (by rw [hAB]; simp)).2
    simp only [g2, nI_pred, hb3, hc3, ha, pk_m1, ↓reduceIte]
    by_cases e3 : f a ≤ f q
    · rw [if_pos e3]
      refine fin (fun x hx => ?_)
      rw [hAB] at hs
      have hs1 := (List.pairwise_append.mp (List.pairwise_append.mp hs).1).2.2
      rcases List.mem_append.mp hx with h | h
      · exact Int32.le_trans (hs1 x h a (List.mem_singleton.mpr rfl)) e3
      · rw [List.mem_singleton.mp h]; exact e3
    · rw [if_neg e3]
      refine hkk _ ⟨A', a :: B, by rw [hAB]; simp, rfl, fun b hb => ?_⟩ (by rw [hc3, hAl, hc4]; omega)
      rcases List.mem_cons.mp hb with rfl | hb
      · exact Int32.not_le.mp e3
      · exact hB b hb
/-- the four nearest of those that are so -/
def sTop (f : Nat → Int32) (P : Nat → Bool) : Nat → List Nat
  | 0 => []
  | n + 1 => if P n = true then (sIns f n (sTop f P n)).take 4 else sTop f P n
theorem sTop_s (f : Nat → Int32) (P : Nat → Bool) (n : Nat) : sTop f P (n + 1) = if P n = true then (sIns f n (sTop f P n)).take 4 else sTop f P n := rfl
theorem sTop_sorted (f : Nat → Int32) (P : Nat → Bool) (n : Nat) : (sTop f P n).Pairwise (fun a b => f a ≤ f b) := by
  induction n with
  | zero => exact List.Pairwise.nil
  | succ n ih =>
    rw [sTop_s]
    split
    · exact List.Pairwise.sublist (List.take_sublist 4 _) (sIns_sorted _ ih)
    · exact ih
theorem sIns_take (f : Nat → Int32) (q : Nat) (n : Nat) : ∀ L : List Nat, (sIns f q (L.take n)).take n = (sIns f q L).take n := by
  induction n with
  | zero => intro L; simp
  | succ n ih =>
    intro L
    cases L with
    | nil => rfl
    | cons a L =>
      rw [List.take_succ_cons]
      have e1 : sIns f q (a :: L.take n) = if f q < f a then q :: a :: L.take n else a :: sIns f q (L.take n) := rfl
      have e2 : sIns f q (a :: L) = if f q < f a then q :: a :: L else a :: sIns f q L := rfl
      rw [e1, e2]
      by_cases h : f q < f a
      · rw [if_pos h, if_pos h, List.take_succ_cons, List.take_succ_cons]
        congr 1
        cases n with
        | zero => rfl
        | succ n =>
          rw [List.take_succ_cons, List.take_succ_cons, List.take_take, Nat.min_eq_left (by omega)]
      · rw [if_neg h, if_neg h, List.take_succ_cons, List.take_succ_cons, ih L]
theorem sIns_filter {f : Nat → Int32} {P : Nat → Bool} {q : Nat} (L : List Nat) : L.Pairwise (fun a b => f a ≤ f b) → (sIns f q L).filter P = if P q = true then sIns f q (L.filter P) else L.filter P := by
  induction L with
  | nil =>
    intro _
    cases h : P q <;> simp [sIns, h]
  | cons a L ih =>
    intro hL
    have hL' := List.pairwise_cons.mp hL
    have e2 : sIns f q (a :: L) = if f q < f a then q :: a :: L else a :: sIns f q L := rfl
    rw [e2]
    by_cases h : f q < f a
    · rw [if_pos h]
      have hall : ∀ b ∈ (a :: L).filter P, f q < f b := by
        intro b hb
        have hb := (List.mem_filter.mp hb).1
        rcases List.mem_cons.mp hb with rfl | hb
        · exact h
        · rw [Int32.lt_iff_toInt_lt] at h ⊢
          have := Int32.le_iff_toInt_le.mp (hL'.1 b hb)
          omega
      have hat := sIns_at (f := f) (q := q) hall [] (fun a h => absurd h List.not_mem_nil)
      rw [List.nil_append, List.nil_append] at hat
      rw [hat]
      by_cases hP : P q = true
      · rw [if_pos hP, List.filter_cons_of_pos hP]
      · rw [if_neg hP, List.filter_cons_of_neg hP]
    · rw [if_neg h]
      by_cases ha : P a = true
      · rw [List.filter_cons_of_pos ha, List.filter_cons_of_pos ha, ih hL'.2]
        have e3 : sIns f q (a :: L.filter P) = if f q < f a then q :: a :: L.filter P else a :: sIns f q (L.filter P) := rfl
        rw [e3, if_neg h]
        split <;> rfl
      · rw [List.filter_cons_of_neg ha, List.filter_cons_of_neg ha]
        exact ih hL'.2
theorem sTop_rows {m : sm} {k : Nat} {P : Nat → Bool} (hP : ∀ q, q < 16 → P q = true → ¬ q = k ∧ sGb m q = true) (n : Nat) : n ≤ 16 → sTop (fun y => sDs m y k) P n = ((sRows m k n).filter P).take 4 := by
  induction n with
  | zero => intro _; rfl
  | succ n ih =>
    intro hn
    have ih := ih (by omega)
    have e1 : sRows m k (n + 1) = if n = k ∨ sGb m n = false then sRows m k n else sIns (fun y => sDs m y k) n (sRows m k n) := rfl
    rw [sTop_s, e1]
    by_cases h : P n = true
    · have h2 := hP n (by omega) h
      rw [if_pos h, if_neg (by simp [h2.1, h2.2]), sIns_filter _ (sRows_sorted m k n), if_pos h, ih, sIns_take]
    · rw [if_neg h]
      by_cases h3 : n = k ∨ sGb m n = false
      · rw [if_pos h3]; exact ih
      · rw [if_neg h3, sIns_filter _ (sRows_sorted m k n), if_neg h]; exact ih
