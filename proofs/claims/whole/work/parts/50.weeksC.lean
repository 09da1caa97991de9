/-! ===== the class's weeks ===== -/
abbrev fiR (M : xM) (a n : Nat) (v : Int32) (o : Option xM) : Prop := ∃ M' : xM, o = some M' ∧ M'.2 = M.2 ∧ (∀ i, i < n → M'.1 a i = v) ∧ ∀ j i, ¬ (j = a ∧ i < n) → M'.1 j i = M.1 j i
theorem fill_eq {a n : Nat} {v : Int32} {M : xM} (hn : n ≤ 900) : fiR M a n v (fJ7_fill_53178 a n v M) := by
  unfold fJ7_fill_53178
  rw [bd_at]
  refine lp_post (Q := fiR M a n v) (fun s => ∃ (e : Nat) (N : xM), e ≤ n ∧ s = (nI e, N) ∧ N.2 = M.2 ∧ (∀ i, i < e → N.1 a i = v) ∧ ∀ j i, ¬ (j = a ∧ i < n) → N.1 j i = M.1 j i) (fun s => 901 - s.1.toNatClampNeg) ?_ xfu _ ⟨0, M, by omega, rfl, rfl, fun i h => absurd h (by omega), fun _ _ _ => rfl⟩ (by unfold xfu; show 901 - _ < 1000; omega)
  rintro s kk ⟨e, N, he, rfl, h1, h2, h3⟩ hkk
  by_cases e1 : e = n
  · have g1 : Int32.ofNat n ≤ nI e := by rw [e1]; exact Int32.le_refl _
    simp only [g1, ↓reduceIte]
    exact ⟨N, rfl, h1, fun i hi => h2 i (by omega), h3⟩
  · have g1 : ¬ Int32.ofNat n ≤ nI e := nI_ge (b := n) (by omega) (by omega)
    have heb : xinb (nI e) n = true := xinb_nI (by omega) (by omega)
    have hec : (nI e).toNatClampNeg = e := nI_clamp (by omega)
    have hec1 : (nI (e + 1)).toNatClampNeg = e + 1 := nI_clamp (by omega)
    simp only [g1, heb, hec, bd_at, ↓reduceIte, nI_1]
    refine hkk _ ⟨e + 1, _, by omega, rfl, h1, fun i hi => ?_, fun j i h => ?_⟩ (by simp only [hec, hec1]; omega)
    · by_cases e2 : i = e
      · rw [e2, xv_eq]
      · rw [xv_ne (by omega)]
        exact h2 i (by omega)
    · rw [xv_ne (by omega)]
      exact h3 j i h
abbrev neR (M : xM) (k : Nat) (o : Option xM) : Prop := ∃ M' : xM, o = some M' ∧ M'.2 = M.2 ∧ sCir M'.1 165 (fun y => sDs M.1 y k) (sNb M.1 k) ∧ ∀ j i, (j < 165 ∨ 168 ≤ j) → M'.1 j i = M.1 j i
theorem neigh_eq {k : Nat} {M : xM} (hk : k < 16) (hP : CPl M.1) (hne : ¬ M.1 171 k = -1) : neR M k (fX1_gatherNeighbours (nI k) M) := by
  have hb : xinb (nI k) 16 = true := xinb_nI hk (by decide)
  have hc : (nI k).toNatClampNeg = k := nI_clamp (by omega)
  have h10 : ¬ (1:Int32) = 0 := by decide
  let P : Nat → Bool := fun q => !(q == k) && (sGb M.1 q && !(M.1 171 q == 3))
  have hPd : ∀ q, P q = true ↔ ¬ q = k ∧ sDg M.1 q := by
    intro q
    show (!(q == k) && (sGb M.1 q && !(M.1 171 q == 3))) = true ↔ _
    simp
  have hPg : ∀ q, q < 16 → P q = true → ¬ q = k ∧ sGb M.1 q = true := fun q hq h => ⟨((hPd q).mp h).1, ((hPd q).mp h).2.1⟩
  have hL : sNb M.1 k = sTop (fun y => sDs M.1 y k) P 16 := by
    rw [sTop_rows hPg 16 (Nat.le_refl _)]
    unfold sNb
    congr 1
    refine List.filter_congr (fun y hy => ?_)
    have := sRows_mem 16 hy
    show (!(M.1 171 y == 3)) = (!(y == k) && (sGb M.1 y && !(M.1 171 y == 3)))
    have h2 : (y == k) = false := by simpa using this.2.1
    rw [h2, this.2.2]
    rfl
  have goal : ∃ M' : xM, fX1_gatherNeighbours (nI k) M = some M' ∧ M'.2 = M.2 ∧ sCir M'.1 165 (fun y => sDs M.1 y k) (sTop (fun y => sDs M.1 y k) P 16) ∧ ∀ j i, (j < 165 ∨ 168 ≤ j) → M'.1 j i = M.1 j i := by
    unfold fX1_gatherNeighbours
    simp only [bd_at, isPlace_nI hk, some_bind, h10, hb, hc, ↓reduceIte]
    refine lp_post (Q := fun o => ∃ M' : xM, o = some M' ∧ M'.2 = M.2 ∧ sCir M'.1 165 (fun y => sDs M.1 y k) (sTop (fun y => sDs M.1 y k) P 16) ∧ ∀ j i, (j < 165 ∨ 168 ≤ j) → M'.1 j i = M.1 j i) (fun s => ∃ (q : Nat) (N : xM), q ≤ 16 ∧ s = (nI q, N) ∧ N.2 = M.2 ∧ sCir N.1 165 (fun y => sDs M.1 y k) (sTop (fun y => sDs M.1 y k) P q) ∧ ∀ j i, (j < 165 ∨ 168 ≤ j) → N.1 j i = M.1 j i) (fun s => 17 - s.1.toNatClampNeg) ?_ xfu _ ⟨0, _, by omega, rfl, rfl, ⟨Nat.zero_le 4, by rw [xw_at, if_pos ⟨rfl, rfl⟩]; rfl, fun i y h => absurd h (by simp [sTop])⟩, fun j i h => by rw [xw_at, if_neg (by omega)]⟩ (by unfold xfu; show 17 - _ < 1000; omega)
    rintro s kk ⟨q, N, hq, rfl, a1, a2, a3⟩ hkk
    by_cases e1 : q = 16
    · subst e1
      have g1 : (16:Int32) ≤ nI 16 := by decide
      simp only [g1, ↓reduceIte]
      exact ⟨N, rfl, a1, a2, a3⟩
    · have hq : q < 16 := by omega
      have g1 : ¬ (16:Int32) ≤ nI q := nI_ge (b := 16) hq (by decide)
      have hqb : xinb (nI q) 16 = true := xinb_nI hq (by decide)
      have hqc : (nI q).toNatClampNeg = q := nI_clamp (by omega)
      have hqc1 : (nI (q + 1)).toNatClampNeg = q + 1 := nI_clamp (by omega)
      have hm : 17 - (nI (q + 1)).toNatClampNeg < 17 - (nI q).toNatClampNeg := by rw [hqc, hqc1]; omega
      have hnE : nE M.1 N.1 := fun j i h => a3 j i (by omega)
      have hK := sK_n hnE
      have hPN := CPl_n hnE hP
      simp only [g1, ↓reduceIte, nI_1]
      by_cases e2 : q = k
      · have : nI q = nI k := by rw [e2]
        rw [if_pos this]
        refine hkk _ ⟨q + 1, N, by omega, rfl, a1, ?_, a3⟩ hm
        rw [sTop_s, if_neg (fun h => ((hPd q).mp h).1 e2)]
        exact a2
      · rw [if_neg (nI_ne (by omega) (by omega) e2)]
        by_cases e3 : sDg M.1 q
        · have e3' : sDg N.1 q := ⟨by rw [sGb_k hK]; exact e3.1, by rw [hK 171 q (by decide)]; exact e3.2⟩
          have hd : fX9_squaredDistance (N.1 (8 + 4 * k) 1) (N.1 (8 + 4 * k) 2) q N = some (sDs M.1 q k) := by
            rw [cdist_eq hq hk hPN (sGb_1 e3'.1).1 (by rw [hK 171 k (by decide)]; exact hne)]
            unfold sDs
            rw [sFar_k hK, hK 172 k (by decide), hK 173 k (by decide)]
          simp only [hqb, hqc, daily_1 hq hPN e3', hd, some_bind, h10, ↓reduceIte]
          obtain ⟨N', b1, b2, b3, b4⟩ := offer_eq (q := q) (f := fun y => sDs M.1 y k) a2 (sTop_sorted _ P q)
          rw [b1, some_bind]
          refine hkk _ ⟨q + 1, N', by omega, rfl, b2.trans a1, ?_, fun j i h => (b4 j i (by omega)).trans (a3 j i h)⟩ hm
          rw [sTop_s, if_pos ((hPd q).mpr ⟨e2, e3⟩)]
          exact b3
        · have e3' : ¬ sDg N.1 q := fun h => e3 ⟨by rw [← sGb_k hK]; exact h.1, by rw [← hK 171 q (by decide)]; exact h.2⟩
          simp only [hqb, hqc, daily_0 hq hPN e3', some_bind, ↓reduceIte]
          refine hkk _ ⟨q + 1, N, by omega, rfl, a1, ?_, a3⟩ hm
          rw [sTop_s, if_neg (fun h => e3 ((hPd q).mp h).2)]
          exact a2
  rw [← hL] at goal
  exact goal
theorem placeAt_eq {c i y : Nat} {f : Nat → Int32} {L : List Nat} {M : xM} (h : sCir M.1 c f L) (hy : L[i]? = some y) : fX2_placeAt c (nI i) M = some (nI y) := by
  have hi : i < L.length := by
    rcases Nat.lt_or_ge i L.length with h1 | h1
    · exact h1
    · rw [List.getElem?_eq_none h1] at hy; exact absurd hy (by simp)
  have h4 := h.1
  have hb : xinb (nI i) 4 = true := xinb_nI (by omega) (by decide)
  have hc : (nI i).toNatClampNeg = i := nI_clamp (by omega)
  unfold fX2_placeAt
  rw [h.2.1, if_neg (nI_pos (by omega)), if_neg (nI_ge hi (by omega)), if_pos hb, hc, (h.2.2 i y hy).1]
def sNi (m : sm) (k d : Nat) : Int32 := (sNb m k).foldl (fun a y => a + sTr m y d) 0
theorem sNb_mem {m : sm} {k y : Nat} (h : y ∈ sNb m k) : y < 16 ∧ ¬ y = k ∧ sDg m y := by
  unfold sNb at h
  have h1 := List.mem_filter.mp (List.mem_of_mem_take h)
  have h2 := sRows_mem 16 h1.1
  exact ⟨h2.1, h2.2.1, h2.2.2, by simpa using h1.2⟩
theorem sumN_eq {k d : Nat} {f : Nat → Int32} {M : xM} (hd : d < 56) (hT : CTr M.1) (h : sCir M.1 165 f (sNb M.1 k)) : fX1_sumOfNeighbours (nI d) M = some (if (sNb M.1 k).all (fun y => !(sTr M.1 y d == -1)) = true then sNi M.1 k d else -1) := by
  have hmem := fun y => sNb_mem (m := M.1) (k := k) (y := y)
  have h4 := h.1
  unfold fX1_sumOfNeighbours sNi
  generalize hL : sNb M.1 k = L at *
  refine lp_run (fun s => ∃ A B, L = A ++ B ∧ A.all (fun y => !(sTr M.1 y d == -1)) = true ∧ s = (A.foldl (fun a y => a + sTr M.1 y d) 0, nI A.length)) (fun s => 5 - s.2.toNatClampNeg) _ ?_ xfu _ ⟨[], L, rfl, rfl, rfl⟩ (by unfold xfu; show 5 - _ < 1000; omega)
  rintro s kk ⟨A, B, hAB, hA, rfl⟩ hkk
  have hlen : A.length + B.length = L.length := by rw [hAB, List.length_append]
  cases B with
  | nil =>
    have hLA : L = A := by rw [hAB, List.append_nil]
    have g1 : M.1 165 2 ≤ nI A.length := by rw [h.2.1, hLA]; exact Int32.le_refl _
    simp only [g1, ↓reduceIte]
    rw [hLA, if_pos hA]
  | cons b B =>
    simp only [List.length_cons] at hlen
    have g1 : ¬ M.1 165 2 ≤ nI A.length := by rw [h.2.1]; exact nI_ge (by omega) (by omega)
    have hbL : L[A.length]? = some b := by rw [hAB]; simp
    have hb16 := (hmem b (List.mem_of_getElem? hbL)).1
    have hc : (nI A.length).toNatClampNeg = A.length := nI_clamp (by omega)
    have hc1 : (nI (A.length + 1)).toNatClampNeg = A.length + 1 := nI_clamp (by omega)
    simp only [g1, placeAt_eq h hbL, trustedOf_nI hb16 hd, hT b d hb16 hd, some_bind, bd_at, ↓reduceIte, nI_1]
    by_cases e1 : sTr M.1 b d = -1
    · rw [if_pos e1, if_neg]
      intro hall
      have := List.all_eq_true.mp hall b (by rw [hAB]; simp)
      rw [e1] at this
      exact absurd this (by decide)
    · rw [if_neg e1]
      refine hkk _ ⟨A ++ [b], B, by rw [hAB]; simp, ?_, ?_⟩ (by simp only [hc, hc1]; omega)
      · rw [List.all_append, hA]
        simp [e1]
      · rw [List.foldl_append, List.length_append]
        rfl
theorem fold_b {m : sm} {d : Nat} (hI : NInv m) (hd : d < 56) : ∀ (L : List Nat) (a : Int32) (c : Nat), (∀ y ∈ L, y < 16 ∧ ¬ sTr m y d = -1) → 0 ≤ a.toInt → a.toInt ≤ 5017 * c → c + L.length ≤ 100 → (0 ≤ (L.foldl (fun a y => a + sTr m y d) a).toInt ∧ (L.foldl (fun a y => a + sTr m y d) a).toInt ≤ 5017 * (c + L.length)) ∧ (L.foldl (fun a y => a + sTr m y d) a).toInt64 = L.foldl (fun a y => a + (sTr m y d).toInt64) a.toInt64
  | [], a, c, _, h1, h2, _ => ⟨⟨h1, by simpa using h2⟩, rfl⟩
  | x :: L, a, c, hL, h1, h2, h3 => by
    rw [List.length_cons] at h3
    have hx := hL x (List.mem_cons_self ..)
    have hb := TB_of hI x d hx.1 hd hx.2
    have e1 : (a + sTr m x d).toInt = a.toInt + (sTr m x d).toInt := by
      rw [Int32.toInt_add]
      apply Int.bmod_eq_of_le <;> omega
    have e2 : (a + sTr m x d).toInt64 = a.toInt64 + (sTr m x d).toInt64 := by
      apply Int64.toInt_inj.mp
      rw [Int32.toInt_toInt64, e1, Int64.toInt_add, Int32.toInt_toInt64, Int32.toInt_toInt64, Int.bmod_eq_of_le (by omega) (by omega)]
    have := fold_b hI hd L (a + sTr m x d) (c + 1) (fun y hy => hL y (List.mem_cons_of_mem _ hy)) (by omega) (by omega) (by omega)
    rw [List.foldl_cons, List.foldl_cons, ← e2]
    refine ⟨?_, this.2⟩
    rw [List.length_cons]
    have h9 := this.1
    omega
theorem sDay_all {m : sm} {k d : Nat} (h : sDay m k d = true) : ¬ sTr m k d = -1 ∧ ∀ y ∈ sNb m k, y < 16 ∧ ¬ sTr m y d = -1 := by
  unfold sDay at h
  simp only [Bool.and_eq_true] at h
  refine ⟨by simpa using h.1, fun y hy => ⟨(sNb_mem hy).1, ?_⟩⟩
  have := List.all_eq_true.mp h.2 y hy
  simpa using this
theorem sNi_b {m : sm} {k d : Nat} (hI : NInv m) (hd : d < 56) (h : ∀ y ∈ sNb m k, y < 16 ∧ ¬ sTr m y d = -1) : (0 ≤ (sNi m k d).toInt ∧ (sNi m k d).toInt ≤ 20068) ∧ (sNi m k d).toInt64 = sNs m k d := by
  have hl : (sNb m k).length ≤ 4 := by
    unfold sNb
    rw [List.length_take]
    omega
  have z0 : (0:Int32).toInt = 0 := by decide
  have := fold_b hI hd (sNb m k) 0 0 h (by omega) (by omega) (by omega)
  refine ⟨?_, this.2⟩
  have h9 := this.1
  show 0 ≤ ((sNb m k).foldl (fun a y => a + sTr m y d) 0).toInt ∧ ((sNb m k).foldl (fun a y => a + sTr m y d) 0).toInt ≤ 20068
  omega
/-- the same sums, as the class holds them -/
def sWI (m : sm) (k w : Nat) (own : Bool) : Nat → Int32
  | 0 => 0
  | n + 1 => if sDay m k (7 * w + n) = false then sWI m k w own n else sWI m k w own n + (if own = true then sTr m k (7 * w + n) else sNi m k (7 * w + n))
theorem sWI_s (m : sm) (k w : Nat) (own : Bool) (n : Nat) : sWI m k w own (n + 1) = if sDay m k (7 * w + n) = false then sWI m k w own n else sWI m k w own n + (if own = true then sTr m k (7 * w + n) else sNi m k (7 * w + n)) := rfl
theorem sWI_t {m : sm} {k w n : Nat} (h : sDay m k (7 * w + n) = true) : sWI m k w true (n + 1) = sWI m k w true n + sTr m k (7 * w + n) := by
  rw [sWI_s, if_neg (by rw [h]; simp), if_pos rfl]
theorem sWI_f {m : sm} {k w n : Nat} (h : sDay m k (7 * w + n) = true) : sWI m k w false (n + 1) = sWI m k w false n + sNi m k (7 * w + n) := by
  rw [sWI_s, if_neg (by rw [h]; simp), if_neg (by simp)]
theorem sWI_wk {m : sm} {k w : Nat} {own : Bool} (hI : NInv m) (hk : k < 16) (hw : w < 8) (n : Nat) : n ≤ 7 → (0 ≤ (sWI m k w own n).toInt ∧ (sWI m k w own n).toInt ≤ 20068 * n) ∧ (sWI m k w own n).toInt64 = sWk m k w own n := by
  induction n with
  | zero =>
    intro _
    refine ⟨?_, ?_⟩
    · show 0 ≤ (0:Int32).toInt ∧ (0:Int32).toInt ≤ 20068 * ((0 : Nat) : Int)
      decide
    · show (0:Int32).toInt64 = 0
      decide
  | succ n ih =>
    intro hn
    have ih := ih (by omega)
    have E : sWk m k w own (n + 1) = if sDay m k (7 * w + n) = false then sWk m k w own n else sWk m k w own n + (if own = true then (sTr m k (7 * w + n)).toInt64 else sNs m k (7 * w + n)) := rfl
    rw [sWI_s, E]
    by_cases e1 : sDay m k (7 * w + n) = false
    · rw [if_pos e1, if_pos e1]
      refine ⟨?_, ih.2⟩
      have h9 := ih.1
      omega
    · rw [if_neg e1, if_neg e1]
      have hd := sDay_all (by simpa using e1)
      have b1 := TB_of hI k (7 * w + n) hk (by omega) hd.1
      have b2 := sNi_b hI (k := k) (d := 7 * w + n) (by omega) hd.2
      have fin : ∀ (x : Int32) (y : Int64), 0 ≤ x.toInt → x.toInt ≤ 20068 → x.toInt64 = y → (0 ≤ (sWI m k w own n + x).toInt ∧ (sWI m k w own n + x).toInt ≤ 20068 * ((n + 1 : Nat) : Int)) ∧ (sWI m k w own n + x).toInt64 = sWk m k w own n + y := by
        intro x y h1 h2 h3
        have h9 := ih.1
        have e1 : (sWI m k w own n + x).toInt = (sWI m k w own n).toInt + x.toInt := by
          rw [Int32.toInt_add]
          apply Int.bmod_eq_of_le <;> omega
        refine ⟨by omega, ?_⟩
        rw [← ih.2, ← h3]
        apply Int64.toInt_inj.mp
        rw [Int32.toInt_toInt64, e1, Int64.toInt_add, Int32.toInt_toInt64, Int32.toInt_toInt64, Int.bmod_eq_of_le (by omega) (by omega)]
      cases own with
      | true => exact fin (sTr m k (7 * w + n)) (sTr m k (7 * w + n)).toInt64 b1.1 (by omega) rfl
      | false => exact fin (sNi m k (7 * w + n)) (sNs m k (7 * w + n)) b2.1.1 b2.1.2 b2.2
abbrev swR (M : xM) (k : Nat) (o : Option xM) : Prop := ∃ M' : xM, o = some M' ∧ M'.2 = M.2 ∧ (∀ w, w < 8 → M'.1 168 w = sWI M.1 k w true 7 ∧ M'.1 169 w = sWI M.1 k w false 7) ∧ ∀ j i, (j < 165 ∨ 170 ≤ j) → M'.1 j i = M.1 j i
theorem sumWeeks_eq {k : Nat} {M : xM} (hk : k < 16) (hI : NInv M.1) (hV : BV M.1) (hne : ¬ M.1 171 k = -1) : swR M k (fX1_sumWeeks (nI k) M) := by
  have h70 : ¬ (7:Int32) = 0 := by decide
  unfold fX1_sumWeeks
  obtain ⟨M1, a1, a2, a3, a4⟩ := neigh_eq hk hI.pl hne
  rw [a1, some_bind]
  obtain ⟨M2, b1, b2, b3, b4⟩ := fill_eq (a := 168) (n := 8) (v := 0) (M := M1) (by decide)
  rw [b1, some_bind]
  obtain ⟨M3, c1, c2, c3, c4⟩ := fill_eq (a := 169) (n := 8) (v := 0) (M := M2) (by decide)
  rw [c1, some_bind]
  have z : ∀ w own, sWI M.1 k w own (min 7 (0 - 7 * w)) = 0 := fun w own => by
    rw [Nat.zero_sub]
    rfl
  refine lp_post (Q := swR M k) (fun s => ∃ (e : Nat) (N : xM), e ≤ 56 ∧ s = (nI e, N) ∧ N.2 = M.2 ∧ (∀ w, w < 8 → N.1 168 w = sWI M.1 k w true (min 7 (e - 7 * w)) ∧ N.1 169 w = sWI M.1 k w false (min 7 (e - 7 * w))) ∧ sCir N.1 165 (fun y => sDs M.1 y k) (sNb M.1 k) ∧ ∀ j i, (j < 165 ∨ 170 ≤ j) → N.1 j i = M.1 j i) (fun s => 57 - s.1.toNatClampNeg) ?_ xfu _ ⟨0, M3, by omega, rfl, c2.trans (b2.trans a2), fun w hw => ⟨by rw [c4 168 w (by omega), b3 w hw, z], by rw [c3 w hw, z]⟩, ⟨a3.1, by rw [c4 _ _ (by omega), b4 _ _ (by omega)]; exact a3.2.1, fun i y h => by rw [c4 _ _ (by omega), b4 _ _ (by omega), c4 _ _ (by omega), b4 _ _ (by omega)]; exact a3.2.2 i y h⟩, fun j i h => by rw [c4 _ _ (by omega), b4 _ _ (by omega)]; exact a4 j i (by omega)⟩ (by unfold xfu; show 57 - _ < 1000; omega)
  rintro s kk ⟨e, N, he, rfl, d1, d2, d3, d4⟩ hkk
  by_cases e1 : e = 56
  · subst e1
    have g1 : (56:Int32) ≤ nI 56 := by decide
    simp only [g1, ↓reduceIte]
    refine ⟨N, rfl, d1, fun w hw => ?_, d4⟩
    have := d2 w hw
    rw [Nat.min_eq_left (by omega)] at this
    exact this
  · have he : e < 56 := by omega
    have g1 : ¬ (56:Int32) ≤ nI e := nI_ge (b := 56) he (by decide)
    have hec : (nI e).toNatClampNeg = e := nI_clamp (by omega)
    have hec1 : (nI (e + 1)).toNatClampNeg = e + 1 := nI_clamp (by omega)
    have hm : 57 - (nI (e + 1)).toNatClampNeg < 57 - (nI e).toNatClampNeg := by rw [hec, hec1]; omega
    have hnE : nE M.1 N.1 := fun j i h => d4 j i (by omega)
    have hK := sK_n hnE
    have hTN : CTr N.1 := fun q d hq hd => by
      rw [d4 _ _ (by omega), sTr_k hK]
      exact (hV q d hq hd).2.2.1
    have hsn := sumN_eq (k := k) (f := fun y => sDs M.1 y k) he hTN (by rw [sNb_k hK]; exact d3)
    have hni : sNi N.1 k e = sNi M.1 k e := by
      unfold sNi
      rw [sNb_k hK]
      simp only [sTr_k hK]
    rw [sNb_k hK, hni] at hsn
    simp only [sTr_k hK] at hsn
    have h7 : nI e / (7:Int32) = nI (e / 7) := pk_div (d := 7) (by omega) (by decide) (by decide)
    have hwb : xinb (nI (e / 7)) 8 = true := xinb_nI (by omega) (by decide)
    have hwc : (nI (e / 7)).toNatClampNeg = e / 7 := nI_clamp (by omega)
    simp only [g1, trustedOf_nI hk he, hTN k e hk he, sTr_k hK, hsn, some_bind, ↓reduceIte, nI_1]
    have oth : ∀ w own, w < 8 → ¬ w = e / 7 → sWI M.1 k w own (min 7 (e + 1 - 7 * w)) = sWI M.1 k w own (min 7 (e - 7 * w)) := by
      intro w own hw hx
      by_cases h : w < e / 7
      · rw [Nat.min_eq_left (by omega), Nat.min_eq_left (by omega)]
      · rw [show e + 1 - 7 * w = 0 by omega, show e - 7 * w = 0 by omega]
    have own0 : min 7 (e - 7 * (e / 7)) = e % 7 := by omega
    have own1 : min 7 (e + 1 - 7 * (e / 7)) = e % 7 + 1 := by omega
    have hday : 7 * (e / 7) + e % 7 = e := by omega
    have skip : sDay M.1 k e = false → swR M k (kk (nI (e + 1), N)) := by
      intro hs
      refine hkk _ ⟨e + 1, N, by omega, rfl, d1, fun w hw => ?_, d3, d4⟩ hm
      by_cases h : w = e / 7
      · subst h
        rw [own1, sWI_s, sWI_s, hday, if_pos hs, if_pos hs, ← own0]
        exact d2 _ hw
      · rw [oth w true hw h, oth w false hw h]
        exact d2 w hw
    by_cases e2 : sTr M.1 k e = -1
    · rw [if_pos e2]
      exact skip (by unfold sDay; rw [e2]; rfl)
    · rw [if_neg e2]
      by_cases e3 : (sNb M.1 k).all (fun y => !(sTr M.1 y e == -1)) = true
      · have hday2 : sDay M.1 k e = true := by
          unfold sDay
          rw [e3]
          simp [e2]
        have hb := sNi_b hI he (sDay_all hday2).2
        have hnm : ¬ sNi M.1 k e = -1 := by
          intro h
          rw [h] at hb
          exact absurd hb.1.1 (by decide)
        simp only [e3, hnm, h70, h7, hwb, hwc, bd_at, ↓reduceIte]
        refine hkk _ ⟨e + 1, _, by omega, rfl, d1, fun w hw => ?_, ⟨d3.1, ?_, fun i y h => ?_⟩, fun j i h => ?_⟩ hm
        · by_cases h : w = e / 7
          · subst h
            have t1 := sWI_t (m := M.1) (k := k) (w := e / 7) (n := e % 7) (by rw [hday]; exact hday2)
            have t2 := sWI_f (m := M.1) (k := k) (w := e / 7) (n := e % 7) (by rw [hday]; exact hday2)
            rw [hday] at t1 t2
            have d5 := d2 _ hw
            rw [own0] at d5
            rw [xv_ne (by omega), xv_eq, xv_eq, xv_ne (by omega), own1, t1, t2, d5.1, d5.2]
            exact ⟨rfl, rfl⟩
          · rw [oth w true hw h, oth w false hw h, xv_ne (by omega), xv_ne (by omega), xv_ne (by omega), xv_ne (by omega)]
            exact d2 w hw
        · rw [xv_ne (by omega), xv_ne (by omega)]
          exact d3.2.1
        · rw [xv_ne (by omega), xv_ne (by omega), xv_ne (by omega), xv_ne (by omega)]
          exact d3.2.2 i y h
        · rw [xv_ne (by omega), xv_ne (by omega)]
          exact d4 j i h
      · simp only [e3, ↓reduceIte, Bool.false_eq_true]
        exact skip (by unfold sDay; rw [Bool.and_eq_false_iff]; exact Or.inr (by simpa using e3))
