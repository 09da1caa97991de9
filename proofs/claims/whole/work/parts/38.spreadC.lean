theorem m58 {x : Nat} (h : x < 57) : 58 - (x + 1) < 58 - x := by omega
theorem rem_nn {v t T : Int32} (hv : 0 ≤ v.toInt ∧ v.toInt ≤ 5000) (ht : 0 ≤ t.toInt ∧ t.toInt ≤ 5017) (hT : 0 < T.toInt) : 0 ≤ v * t - v * t / T * T := by
  have h := vt_int hv ht
  have q := q_int (T := T) hv ht
  have h1 : 0 ≤ v.toInt * t.toInt / T.toInt := Int.ediv_nonneg h.2.1 (by omega)
  have h2 : v.toInt * t.toInt / T.toInt * T.toInt ≤ v.toInt * t.toInt := Int.ediv_mul_le _ (by omega)
  have h3 : 0 ≤ v.toInt * t.toInt / T.toInt * T.toInt := Int.mul_nonneg h1 (by omega)
  have h4 : (v * t / T * T).toInt = v.toInt * t.toInt / T.toInt * T.toInt := by
    rw [Int32.toInt_mul, q]
    apply Int.bmod_eq_of_le <;> omega
  rw [Int32.le_iff_toInt_le, Int32.toInt_sub, h.1, h4, show (0:Int32).toInt = 0 from by decide]
  rw [Int.bmod_eq_of_le (by omega) (by omega)]
  omega
abbrev TB (m : sm) : Prop := ∀ q d, q < 16 → d < 56 → ¬ sTr m q d = -1 → 0 ≤ (sTr m q d).toInt ∧ (sTr m q d).toInt ≤ 5017
def sVal (m : sm) (k a u : Nat) (v : Int32) (d : Nat) : Int32 :=
  match sBy m k a u with
  | none => if d = u then v else 0
  | some y => sShare (sTr m y) v a u d
abbrev sSprR (M : xM) (k a u : Nat) (val : Nat → Int32) (o : Option xM) : Prop := ∃ M' : xM, o = some M' ∧ M'.2 = M.2 ∧ (∀ d, a ≤ d → d ≤ u → M'.1 (124 + 1 + k) d = val d) ∧ ∀ j i, ¬ j = 141 → ¬ (j = 124 + 1 + k ∧ a ≤ i ∧ i ≤ u) → M'.1 j i = M.1 j i
theorem sAll_ne {t : Nat → Int32} {a n e : Nat} (h : sAll t a n = true) (he : e < n) : ¬ t (a + e) = -1 := by
  intro e1
  have h1 : sAll t a (e + 1) = (sAll t a e && !(t (a + e) == -1)) := rfl
  have h2 : sAll t a n = false := sAll_mono (e := e + 1) (by rw [h1, e1]; simp) (by omega)
  rw [h2] at h
  exact absurd h (by simp)
theorem spreadC_eq {k a u : Nat} {v : Int32} {M : xM} (hk : k < 16) (hau : a ≤ u) (hu : u < 56) (hP : CPl M.1) (hT : CTr M.1) (hk3 : M.1 171 k = 3) (hTB : TB M.1) (hv : M.1 (8 + 4 * k + 1) u = v) (hvb : 0 ≤ v.toInt ∧ v.toInt ≤ 5000) : sSprR M k a u (sVal M.1 k a u v) (fX0_spread (nI k) (nI a) (nI u) M) := by
  have hb : xinb (nI k) 16 = true := xinb_nI hk (by decide)
  have hc : (nI k).toNatClampNeg = k := nI_clamp (by omega)
  have hub : xinb (nI u) 56 = true := xinb_nI hu (by decide)
  have huc : (nI u).toNatClampNeg = u := nI_clamp (by omega)
  unfold fX0_spread
  simp only [hb, hub, hc, huc, hv, nearC_eq hk hau hu hP hT hk3, some_bind, bd_at, jn_at, ↓reduceIte]
  have plain : (∀ d, sVal M.1 k a u v d = if d = u then v else 0) → sSprR M k a u (sVal M.1 k a u v) (lp (fun (s35 : (Int32 × xM)) (kk36 : (Int32 × xM) → Option xM) =>
            if nI u < s35.1 then
              some s35.2
            else
              if s35.1 = nI u then
                if xinb s35.1 56 then
                  kk36 ((s35.1 + 1), xw s35.2 (124 + 1 + k) s35.1.toNatClampNeg v)
                else none
              else
                if xinb s35.1 56 then
                  kk36 ((s35.1 + 1), xw s35.2 (124 + 1 + k) s35.1.toNatClampNeg 0)
                else none) xfu (nI a, M)) := by
    intro hval
    refine lp_post (Q := sSprR M k a u (sVal M.1 k a u v)) (fun s => ∃ (e : Nat) (N : xM), a ≤ e ∧ e ≤ u + 1 ∧ s = (nI e, N) ∧ N.2 = M.2 ∧ (∀ d, a ≤ d → d < e → N.1 (124 + 1 + k) d = sVal M.1 k a u v d) ∧ ∀ j i, ¬ j = 141 → ¬ (j = 124 + 1 + k ∧ a ≤ i ∧ i ≤ u) → N.1 j i = M.1 j i) (fun s => 58 - s.1.toNatClampNeg) ?_ xfu _ ⟨a, M, Nat.le_refl _, by omega, rfl, rfl, fun d h1 h2 => absurd h2 (by omega), fun _ _ _ _ => rfl⟩ (by unfold xfu; show 58 - _ < 1000; omega)
    rintro s kk ⟨e, N, h1, h2, rfl, h3, h4, h5⟩ hkk
    by_cases e1 : e = u + 1
    · have g1 : nI u < nI e := nI_lt (by omega) (by omega)
      simp only [g1, ↓reduceIte]
      exact ⟨N, rfl, h3, fun d a1 a2 => h4 d a1 (by omega), h5⟩
    · have g1 : ¬ nI u < nI e := nI_nlt (by omega) (by omega)
      have heb : xinb (nI e) 56 = true := xinb_nI (by omega) (by decide)
      have hec : (nI e).toNatClampNeg = e := nI_clamp (by omega)
      have hgo : ∀ x, x = sVal M.1 k a u v e → sSprR M k a u (sVal M.1 k a u v) (kk (nI (e + 1), xw N (124 + 1 + k) e x)) := fun x hx => hkk _ ⟨e + 1, _, by omega, by omega, rfl, h3, fun d a1 a2 => by
          rw [xw_at]
          by_cases e2 : d = e
          · rw [if_pos ⟨rfl, e2⟩, hx, e2]
          · rw [if_neg (by omega)]; exact h4 d a1 (by omega), fun j i a1 a2 => by
          rw [xw_at, if_neg (by omega)]; exact h5 j i a1 a2⟩ (by show 58 - (nI (e + 1)).toNatClampNeg < 58 - (nI e).toNatClampNeg; rw [nI_clamp (by omega), nI_clamp (by omega)]; omega)
      simp only [g1, heb, hec, ↓reduceIte, nI_1]
      by_cases e2 : e = u
      · have : nI e = nI u := by rw [e2]
        rw [if_pos this]
        exact hgo _ (by rw [hval, if_pos e2])
      · have : ¬ nI e = nI u := nI_ne (by omega) (by omega) e2
        rw [if_neg this]
        exact hgo _ (by rw [hval, if_neg e2])
  cases hby : sBy M.1 k a u with
  | none =>
    simp only [oI, ↓reduceIte]
    exact plain (fun d => by unfold sVal; rw [hby])
  | some y =>
    have hyf : sAll (sTr M.1 y) a (u + 1 - a) = true := by
      unfold sBy at hby
      exact List.find?_some (p := fun y => sAll (sTr M.1 y) a (u + 1 - a)) hby
    have hy16 : y < 16 := by
      unfold sBy at hby
      exact (sRows_mem 16 (List.mem_of_find?_eq_some hby)).1
    have hy1 : ¬ nI y = -1 := nI_nm1 (by omega)
    have hyb : xinb (nI y) 16 = true := xinb_nI hy16 (by decide)
    have hyc : (nI y).toNatClampNeg = y := nI_clamp (by omega)
    obtain ⟨n, hn⟩ : ∃ n, n = u + 1 - a := ⟨_, rfl⟩
    have hok : tOk (sTr M.1 y) a n := fun e he => hTB y (a + e) hy16 (by omega) (sAll_ne (by rw [hn] at he; exact hyf) (by omega))
    have hsv : ∀ d, sVal M.1 k a u v d = sShare (sTr M.1 y) v a u d := fun d => by unfold sVal; rw [hby]
    simp only [oI, hy1, ↓reduceIte]
    rw [sumT_eq hy16 hau hu (fun d hd => hT y d hy16 hd), some_bind]
    have hsi := sTot_int n (by omega) hok
    have htb := iT_b n hok
    have hlb := left_b (v := v) hvb (show n ≤ 56 by omega) hok
    rw [← hn]
    generalize htot : sTot (sTr M.1 y) a n = tot at *
    by_cases e1 : 0 < tot
    · have hT0 : 0 < tot.toInt := by
        have := Int32.lt_iff_toInt_lt.mp e1
        rwa [show (0:Int32).toInt = 0 from by decide] at this
      have hne : ¬ tot = 0 := by
        intro h
        rw [h] at hT0
        exact absurd hT0 (by decide)
      simp only [e1, hne, ↓reduceIte]
      obtain ⟨l, hl, hll⟩ := hlb hT0
      refine lp_post (Q := sSprR M k a u (sVal M.1 k a u v)) (fun s => ∃ (e : Nat) (N : xM), e ≤ n ∧ s = (sLf (sTr M.1 y) v tot a e, nI (a + e), N) ∧ N.2 = M.2 ∧ (∀ x, x < e → N.1 141 (a + x) = sRem (sTr M.1 y) v tot (a + x)) ∧ (∀ x, x < e → N.1 (124 + 1 + k) (a + x) = v * sTr M.1 y (a + x) / tot) ∧ ∀ j i, ¬ j = 141 → ¬ (j = 124 + 1 + k ∧ a ≤ i ∧ i ≤ u) → N.1 j i = M.1 j i) (fun s => 58 - s.2.1.toNatClampNeg) ?_ xfu _ ⟨0, M, by omega, rfl, rfl, fun x h => absurd h (by omega), fun x h => absurd h (by omega), fun _ _ _ _ => rfl⟩ (by unfold xfu; show 58 - _ < 1000; omega)
      rintro s kk ⟨e, N, he, rfl, h3, h4, h5, h6⟩ hkk
      by_cases e2 : e = n
      · have g1 : nI u < nI (a + e) := nI_lt (by omega) (by omega)
        simp only [g1, ↓reduceIte]
        rw [e2] at h4 h5 ⊢
        rw [hll]
        obtain ⟨M', hM, hM2, hM1, hMo⟩ := rest_eq (k := k) (a := a) (u := u) (n := n) (l := l) (r := sRem (sTr M.1 y) v tot) (base := fun d => v * sTr M.1 y d / tot) (M := N) hk hau hu hn hl (fun x hx => rem_nn hvb (hok x hx) hT0) h4 h5
        rw [hM, some_bind]
        refine ⟨M', rfl, hM2.trans h3, fun d a1 a2 => ?_, fun j i a1 a2 => ?_⟩
        · obtain ⟨x, rfl⟩ : ∃ x, d = a + x := ⟨d - a, by omega⟩
          rw [hM1 x (by omega), hsv]
          unfold sShare
          rw [← hn, htot, if_neg hne, hll]
          have hrk := sRk_le (sRem (sTr M.1 y) v tot) a (a + x) n
          by_cases e3 : sRk (sRem (sTr M.1 y) v tot) a (a + x) n < l
          · rw [if_pos e3, if_neg (nI_ge e3 (by omega))]
          · rw [if_neg e3, if_pos (nI_le (by omega) (by omega))]
        · rw [hMo j i a1 (by omega)]
          exact h6 j i a1 a2
      · have g1 : ¬ nI u < nI (a + e) := nI_nlt (by omega) (by omega)
        have heb : xinb (nI (a + e)) 56 = true := xinb_nI (by omega) (by decide)
        have hec : (nI (a + e)).toNatClampNeg = a + e := nI_clamp (by omega)
        have hec1 : (nI (a + (e + 1))).toNatClampNeg = a + (e + 1) := nI_clamp (by omega)
        have hm : 58 - (nI (a + (e + 1))).toNatClampNeg < 58 - (nI (a + e)).toNatClampNeg := by
          rw [hec, hec1]
          exact m58 (x := a + e) (by omega)
        have hNt : N.1 (107 + 1 + y) (a + e) = sTr M.1 y (a + e) := by
          rw [h6 (107 + 1 + y) (a + e) (by omega) (by omega)]
          exact hT y (a + e) hy16 (by omega)
        have hxn : ∀ w : Int32, (xw N (124 + 1 + k) (a + e) w).1 (107 + 1 + y) (a + e) = sTr M.1 y (a + e) := fun w => by
          rw [xw_at, if_neg (by omega), hNt]
        have hx2 : ∀ w z : Int32, (xw (xw N (124 + 1 + k) (a + e) w) 141 (a + e) z).1 (124 + 1 + k) (a + e) = w := fun w z => by
          rw [xw_at, if_neg (by omega), xw_at, if_pos ⟨rfl, rfl⟩]
        simp only [g1, hyb, hyc, heb, hec, hNt, hxn, hx2, ↓reduceIte, nI_1]
        refine hkk _ ⟨e + 1, _, by omega, rfl, h3, fun x hx => ?_, fun x hx => ?_, fun j i a1 a2 => ?_⟩ hm
        · rw [xw_at, xw_at]
          by_cases e3 : x = e
          · rw [e3, if_pos ⟨rfl, rfl⟩]
          · rw [if_neg (by omega), if_neg (by omega)]; exact h4 x (by omega)
        · rw [xw_at, xw_at]
          by_cases e3 : x = e
          · rw [e3, if_neg (by omega), if_pos ⟨rfl, rfl⟩]
          · rw [if_neg (by omega), if_neg (by omega)]; exact h5 x (by omega)
        · rw [xw_at, xw_at, if_neg (by omega), if_neg (by omega)]
          exact h6 j i a1 a2
    · have hz : tot = 0 := by
        apply Int32.toInt_inj.mp
        have h7 : ¬ (0:Int32).toInt < tot.toInt := fun h => e1 (Int32.lt_iff_toInt_lt.mpr h)
        rw [show (0:Int32).toInt = 0 from by decide] at h7 ⊢
        omega
      simp only [e1, ↓reduceIte]
      exact plain (fun d => by rw [hsv]; unfold sShare; rw [← hn, htot, if_pos hz])
