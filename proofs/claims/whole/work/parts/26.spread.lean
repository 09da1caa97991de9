/-! ===== what a store spreads: over a row t of numbers, n days from day a ===== -/
def sAll (t : Nat → Int32) (a : Nat) : Nat → Bool
  | 0 => true
  | n + 1 => sAll t a n && !(t (a + n) == -1)
def sTot (t : Nat → Int32) (a : Nat) : Nat → Int32
  | 0 => 0
  | n + 1 => sTot t a n + t (a + n)
def sLf (t : Nat → Int32) (v tot : Int32) (a : Nat) : Nat → Int32
  | 0 => v
  | n + 1 => sLf t v tot a n - v * t (a + n) / tot
abbrev sRem (t : Nat → Int32) (v tot : Int32) (e : Nat) : Int32 := v * t e - v * t e / tot * tot
/-- how many days of the first n have more rest than day d, or as much and come before it -/
def sRk (r : Nat → Int32) (a d : Nat) : Nat → Nat
  | 0 => 0
  | n + 1 => if r d < r (a + n) ∨ (r (a + n) = r d ∧ a + n < d) then sRk r a d n + 1 else sRk r a d n
theorem sRk_le (r : Nat → Int32) (a d : Nat) : ∀ n, sRk r a d n ≤ n
  | 0 => Nat.le_refl _
  | n + 1 => by
    have := sRk_le r a d n
    unfold sRk
    split <;> omega
/-- since when: the day after the last reading before e, or the first day f -/
def sSn (m : sm) (k f : Nat) : Nat → Nat
  | 0 => f
  | e + 1 => if e < f ∨ m 177 (56 * k + e) = -1 then sSn m k f e else e + 1
theorem sSn_c {m m' : sm} (e : sEq m m') (k f : Nat) : ∀ n, sSn m' k f n = sSn m k f n
  | 0 => rfl
  | n + 1 => by simp only [sSn, sSn_c e k f n, e 177 _ (by decide)]
theorem sSn_le (m : sm) (k f : Nat) : ∀ n, sSn m k f n ≤ n ∨ sSn m k f n = f
  | 0 => Or.inr rfl
  | n + 1 => by
    have := sSn_le m k f n
    unfold sSn
    split
    · omega
    · omega
theorem sSn_f (m : sm) (k f : Nat) : ∀ n, n ≤ f → sSn m k f n = f
  | 0, _ => rfl
  | n + 1, h => by
    unfold sSn
    rw [if_pos (Or.inl (by omega))]
    exact sSn_f m k f n (by omega)
abbrev sFt (m : sm) (k : Nat) : Nat := (m 175 k).toNatClampNeg
abbrev sF (m : sm) (k : Nat) : Prop := ∃ f, f ≤ 56 ∧ m 175 k = nI f
/-- the share of day d, of a reading v on day u for the days from a on, by the numbers t -/
def sShare (t : Nat → Int32) (v : Int32) (a u d : Nat) : Int32 :=
  if sTot t a (u + 1 - a) = 0 then (if d = u then v else 0)
  else v * t d / sTot t a (u + 1 - a) + (if sLf t v (sTot t a (u + 1 - a)) a (u + 1 - a) ≤ nI (sRk (sRem t v (sTot t a (u + 1 - a))) a d (u + 1 - a)) then 0 else 1)
def sBy (m : sm) (k a u : Nat) : Option Nat := (sRows m k 16).find? (fun y => sAll (sTr m y) a (u + 1 - a))
def sSpr (m : sm) (k d : Nat) : Int32 :=
  match sRO m k d with
  | none => -1
  | some u =>
    match sBy m k (sSn m k (sFt m k) u) u with
    | none => if d = u then m 177 (56 * k + u) else 0
    | some y => sShare (sTr m y) (m 177 (56 * k + u)) (sSn m k (sFt m k) u) u d
theorem sBy_c {m m' : sm} (e : sEq m m') (k a u : Nat) : sBy m' k a u = sBy m k a u := by
  have h : ∀ y, sTr m' y = sTr m y := fun y => funext fun d => sTr_c e y d
  simp only [sBy, sRows_c e, h]
theorem sSpr_c {m m' : sm} (e : sEq m m') (k d : Nat) : sSpr m' k d = sSpr m k d := by
  have h : ∀ y, sTr m' y = sTr m y := fun y => funext fun d => sTr_c e y d
  simp only [sSpr, sRO_c e, sBy_c e, sSn_c e, sFt, h, e 177 _ (by decide), e 175 _ (by decide)]
theorem find_split {p : Nat → Bool} : ∀ (A : List Nat) (b : Nat), (A ++ [b]).find? p = match A.find? p with | some x => some x | none => if p b then some b else none := by
  intro A b
  rw [List.find?_append]
  cases A.find? p with
  | some x => rfl
  | none =>
    show List.find? p [b] = _
    simp only [List.find?_cons]
    cases p b <;> simp
theorem take_drop_find {p : Nat → Bool} {L : List Nat} {i x : Nat} (h : L[i]? = some x) : (L.drop i).find? p = if p x then some x else (L.drop (i + 1)).find? p := by
  have hi : i < L.length := by
    rcases Nat.lt_or_ge i L.length with h1 | h1
    · exact h1
    · rw [List.getElem?_eq_none h1] at h; exact absurd h (by simp)
  rw [List.drop_eq_getElem_cons hi, List.find?_cons]
  have : L[i] = x := by
    rw [List.getElem?_eq_getElem hi] at h
    exact Option.some.inj h
  rw [this]
  cases p x <;> simp
theorem sAll_mono {t : Nat → Int32} {a e n : Nat} (h : sAll t a e = false) (hn : e ≤ n) : sAll t a n = false := by
  induction n with
  | zero => rw [show e = 0 by omega] at h; exact h
  | succ n ih =>
    by_cases h1 : e = n + 1
    · rw [← h1]; exact h
    · unfold sAll
      rw [ih (by omega)]
      rfl
theorem spread_eq {k d : Nat} {M : xM} (hk : k < 16) (hd : d < 56) (hh : sH M.1) (hf : sF M.1 k) : sIntR M (sSpr M.1 k d) (fX10_spread (nI k) (nI d) M) := by
  have hb : xinb (nI k) 16 = true := xinb_nI hk (by decide)
  have hc : (nI k).toNatClampNeg = k := nI_clamp (by omega)
  have h10 : ¬ (1:Int32) = 0 := by decide
  obtain ⟨f, hf9, hf⟩ := hf
  have hff : sFt M.1 k = f := by unfold sFt; rw [hf, nI_clamp (by omega)]
  unfold fX10_spread
  rw [readOn_eq hk hd, some_bind]
  cases hro : sRO M.1 k d with
  | none =>
    simp only [oI, ↓reduceIte]
    refine ⟨M, ?_, fun _ _ _ => rfl⟩
    unfold sSpr
    rw [hro]
  | some u =>
    obtain ⟨hk3, hfd, hdu, hu, hru, hbt⟩ := sRO_some hro
    have hfd : f ≤ d := by
      rcases Nat.lt_or_ge d f with h | h
      · exact absurd (by rw [hf]; exact nI_lt h (by omega)) hfd
      · exact h
    have hsp : sSpr M.1 k d = match sBy M.1 k (sSn M.1 k f u) u with
        | none => if d = u then M.1 177 (56 * k + u) else 0
        | some y => sShare (sTr M.1 y) (M.1 177 (56 * k + u)) (sSn M.1 k f u) u d := by
      unfold sSpr
      rw [hro, hff]
    have hu1 : ¬ nI u = -1 := nI_nm1 (by omega)
    have hsu : sSn M.1 k f u ≤ u := by
      rcases sSn_le M.1 k f u with h | h <;> omega
    rw [hsp]
    clear hsp
    simp only [oI, hu1, hb, hc, hf, bd_at, ↓reduceIte]
    obtain ⟨M1, hr, he, h187⟩ := rows_eq (M := M) hk
    refine ⟨M1, ?_, he⟩
    have h0 : ((nI f, nI f) : Int32 × Int32) = (fun j => (nI (sSn M.1 k f (f + j)), nI (f + j))) 0 := by
      simp only [Nat.add_zero, sSn_f M.1 k f f (Nat.le_refl _)]
    rw [h0]
    refine lp_for (fun j => (nI (sSn M.1 k f (f + j)), nI (f + j))) _ (u - f) (fun j kk hj hkk => ?_) (fun kk => ?_) xfu 0 (Nat.zero_le _) (by unfold xfu; omega)
    · have g1 : ¬ nI u ≤ nI (f + j) := nI_ge (by omega) (by omega)
      have hb2 : xinb (nI (56 * k + (f + j))) 896 = true := xinb_nI (by omega) (by decide)
      have hc2 : (nI (56 * k + (f + j))).toNatClampNeg = 56 * k + (f + j) := nI_clamp (by omega)
      have hs : sSn M.1 k f (f + (j + 1)) = if M.1 177 (56 * k + (f + j)) = -1 then sSn M.1 k f (f + j) else f + j + 1 := by
        show sSn M.1 k f (f + j + 1) = _
        conv => lhs; unfold sSn
        have h1 : ¬ f + j < f := by omega
        simp only [h1, false_or]
      simp only [g1, at_nI, some_bind, hb2, hc2, bd_at, ↓reduceIte, nI_1]
      by_cases e1 : M.1 177 (56 * k + (f + j)) = -1
      · simp only [e1, hs, ↓reduceIte] at hkk ⊢
        exact hkk
      · simp only [e1, hs, ↓reduceIte] at hkk ⊢
        exact hkk
    · have hfu : f + (u - f) = u := by omega
      rw [hfu]
      have g1 : nI u ≤ nI u := Int32.le_refl _
      have hb2 : xinb (nI (56 * k + u)) 896 = true := xinb_nI (by omega) (by decide)
      have hc2 : (nI (56 * k + u)).toNatClampNeg = 56 * k + u := nI_clamp (by omega)
      simp only [g1, at_nI, some_bind, hb2, hc2, hr, bd_at, ↓reduceIte]
      generalize M.1 177 (56 * k + u) = v
      generalize ha : sSn M.1 k f u = a at *
      unfold sBy
      have hl := sRows_len M.1 k 16
      have hm := fun y => sRows_mem (m := M.1) (k := k) (y := y) 16
      generalize hL : sRows M.1 k 16 = L at *
      have hT : ∀ {y e : Nat}, y < 16 → e < 56 → fX10_trusted (nI y) (nI e) M1 = some (sTr M.1 y e) := fun h1 h2 => by
        rw [trusted_eq h1 h2 (sH_c he hh), sTr_c he]
      have h00 : ((-1, nI L.length - 1) : Int32 × Int32) = (fun j => (oI ((L.drop (L.length - j)).find? (fun y => sAll (sTr M.1 y) a (u + 1 - a))), nI (L.length - j) - 1)) 0 := by
        simp only [Nat.sub_zero, List.drop_length]
        rfl
      rw [h00]
      refine lp_for (fun j => (oI ((L.drop (L.length - j)).find? (fun y => sAll (sTr M.1 y) a (u + 1 - a))), nI (L.length - j) - 1)) _ L.length (fun j kk hj hkk => ?_) (fun kk => ?_) xfu 0 (Nat.zero_le _) (by unfold xfu; omega)
      · obtain ⟨c, hc9⟩ : ∃ c, L.length - j = c + 1 := ⟨L.length - j - 1, by omega⟩
        have hc8 : L.length - (j + 1) = c := by omega
        have hcL : c < L.length := by omega
        rw [hc8] at hkk
        simp only [hc9, nI_pred]
        obtain ⟨x, hx⟩ : ∃ x, L[c]? = some x := ⟨L[c], List.getElem?_eq_getElem hcL⟩
        have hx16 := (hm x (List.mem_of_getElem? hx)).1
        have hrow := h187 c x hx
        rw [take_drop_find hx] at hkk
        have g2 : ¬ nI c < 0 := nI_pos (by omega)
        have hb3 : xinb (nI c) 16 = true := xinb_nI (by omega) (by decide)
        have hc3 : (nI c).toNatClampNeg = c := nI_clamp (by omega)
        have hpred : nI c + -1 = nI c - 1 := by rw [Int32.sub_eq_add_neg]
        simp only [g2, hb3, hc3, hrow, hpred, bd_at, ↓reduceIte]
        refine lp_run (fun s => ∃ e, e ≤ u + 1 - a ∧ s = (if sAll (sTr M.1 x) a e then 1 else 0, nI (a + e))) (fun s => 57 - s.2.toNatClampNeg) _ ?_ xfu _ ⟨0, by omega, rfl⟩ (by unfold xfu; show 57 - _ < 1000; omega)
        rintro s kk2 ⟨e, he1, rfl⟩ hkk2
        rw [jn_at]
        by_cases e1 : e = u + 1 - a
        · have g3 : nI u < nI (a + e) := nI_lt (by omega) (by omega)
          simp only [g3, ↓reduceIte]
          rw [e1]
          rcases Bool.eq_false_or_eq_true (sAll (sTr M.1 x) a (u + 1 - a)) with e2 | e2
          · simp only [e2, h10, ↓reduceIte] at hkk ⊢
            exact hkk
          · simp only [e2, ↓reduceIte, reduceCtorEq] at hkk ⊢
            exact hkk
        · have g3 : ¬ nI u < nI (a + e) := nI_nlt (by omega) (by omega)
          simp only [g3, ↓reduceIte]
          rcases Bool.eq_false_or_eq_true (sAll (sTr M.1 x) a e) with e2 | e2
          · simp only [e2, h10, ↓reduceIte]
            rw [hT hx16 (by omega), some_bind]
            have hs : sAll (sTr M.1 x) a (e + 1) = !(sTr M.1 x (a + e) == -1) := by
              conv => lhs; unfold sAll
              rw [e2]
              rfl
            have hg : (nI (a + e)).toNatClampNeg = a + e := nI_clamp (by omega)
            have hg1 : (nI (a + (e + 1))).toNatClampNeg = a + (e + 1) := nI_clamp (by omega)
            by_cases e3 : sTr M.1 x (a + e) = -1
            · simp only [e3, ↓reduceIte, nI_1]
              exact hkk2 _ ⟨e + 1, by omega, by rw [hs, e3]; rfl⟩ (by simp only [hg]; show 57 - (nI (a + (e + 1))).toNatClampNeg < _; rw [hg1]; omega)
            · simp only [e3, ↓reduceIte, nI_1]
              exact hkk2 _ ⟨e + 1, by omega, by rw [hs]; simp only [show (sTr M.1 x (a + e) == -1) = false by simp [e3]]; rfl⟩ (by simp only [hg]; show 57 - (nI (a + (e + 1))).toNatClampNeg < _; rw [hg1]; omega)
          · simp only [e2, ↓reduceIte, reduceCtorEq]
            rw [sAll_mono e2 he1] at hkk
            simp only [↓reduceIte, reduceCtorEq] at hkk
            exact hkk
      · have g2 : nI 0 - 1 < 0 := by decide
        simp only [Nat.sub_self, List.drop_zero, g2, ↓reduceIte]
        have hdu0 : (nI d = nI u) = (d = u) := propext (nI_eq (by omega) (by omega))
        cases hfi : L.find? (fun y => sAll (sTr M.1 y) a (u + 1 - a)) with
        | none =>
          simp only [oI]
          refine lp_run (fun s => s = (0, nI a)) (fun _ => 0) _ ?_ xfu _ rfl (by unfold xfu; omega)
          rintro s kk2 rfl hkk2
          rw [jn_at]
          have g3 : ¬ nI u < nI a := nI_nlt (by omega) (by omega)
          simp only [g3, hdu0, ↓reduceIte]
          split <;> rfl
        | some y =>
          have hy16 := (hm y (List.mem_of_find?_eq_some hfi)).1
          have hy1 : ¬ nI y = -1 := nI_nm1 (by omega)
          simp only [oI, hy1]
          unfold sShare
          refine lp_for (fun e => (sTot (sTr M.1 y) a e, nI (a + e))) _ (u + 1 - a) (fun e kk2 he1 hkk2 => ?_) (fun kk2 => ?_) xfu 0 (Nat.zero_le _) (by unfold xfu; omega)
          · have g3 : ¬ nI u < nI (a + e) := nI_nlt (by omega) (by omega)
            simp only [jn_at, g3, hT hy16 (show a + e < 56 by omega), some_bind, bd_at, ↓reduceIte, nI_1]
            exact hkk2
          · have g3 : nI u < nI (a + (u + 1 - a)) := nI_lt (by omega) (by omega)
            simp only [jn_at, g3, ↓reduceIte]
            generalize sTot (sTr M.1 y) a (u + 1 - a) = tot
            by_cases e4 : tot = 0
            · simp only [e4, hdu0, ↓reduceIte]
              split <;> rfl
            · simp only [e4, ↓reduceIte]
              refine lp_for (fun e => (sLf (sTr M.1 y) v tot a e, nI (a + e))) _ (u + 1 - a) (fun e kk3 he1 hkk3 => ?_) (fun kk3 => ?_) xfu 0 (Nat.zero_le _) (by unfold xfu; omega)
              · have g3 : ¬ nI u < nI (a + e) := nI_nlt (by omega) (by omega)
                simp only [g3, hT hy16 (show a + e < 56 by omega), some_bind, bd_at, ↓reduceIte, nI_1]
                exact hkk3
              · simp only [g3, hT hy16 hd, some_bind, bd_at, ↓reduceIte]
                generalize sLf (sTr M.1 y) v tot a (u + 1 - a) = lf
                refine lp_for (fun e => (nI (sRk (sRem (sTr M.1 y) v tot) a d e), nI (a + e))) _ (u + 1 - a) (fun e kk4 he1 hkk4 => ?_) (fun kk4 => ?_) xfu 0 (Nat.zero_le _) (by unfold xfu; omega)
                · have g3 : ¬ nI u < nI (a + e) := nI_nlt (by omega) (by omega)
                  simp only [g3, hT hy16 (show a + e < 56 by omega), some_bind, bd_at, ↓reduceIte, nI_1, Int32.add_zero]
                  simp only [sRk] at hkk4
                  by_cases r1 : sRem (sTr M.1 y) v tot d < sRem (sTr M.1 y) v tot (a + e)
                  · simp only [r1, ↓reduceIte, true_or] at hkk4 ⊢
                    exact hkk4
                  · simp only [r1, ↓reduceIte, false_or] at hkk4 ⊢
                    by_cases r2 : sRem (sTr M.1 y) v tot (a + e) = sRem (sTr M.1 y) v tot d
                    · by_cases r3 : a + e < d
                      · have r4 : ¬ nI d ≤ nI (a + e) := nI_ge r3 (by omega)
                        simp only [r2, r3, r4, ↓reduceIte, and_self] at hkk4 ⊢
                        exact hkk4
                      · have r4 : nI d ≤ nI (a + e) := (nI_leI (by omega) (by omega)).mpr (by omega)
                        simp only [r2, r3, r4, ↓reduceIte, and_false] at hkk4 ⊢
                        exact hkk4
                    · simp only [r2, ↓reduceIte, false_and] at hkk4 ⊢
                      exact hkk4
                · simp only [g3, hT hy16 hd, some_bind, ↓reduceIte]
                  split <;> rfl
