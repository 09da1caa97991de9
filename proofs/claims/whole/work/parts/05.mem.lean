
/-! ===== the world once all is made: 191 cells whose numbers and links stand; what moves is ints (and the longs of two arrays) ===== -/
abbrev xM : Type := (Nat → Nat → Int32) × (Nat → Nat → Int64)
/-- what lies at number i: 0 .. 10 an object of that class; 11 int[], 12 boolean[], 13 long[], 14 Place[], 15 Valley[], 16 int[][]; 99 nothing -/
def xT (i : Nat) : Nat :=
  if i < 8 then ([9, 6, 14, 3, 11, 11, 11, 11] : List Nat).getD i 99
  else if i < 72 then (if i % 4 = 0 then 7 else 11)
  else if i < 142 then (if i = 72 then 0 else if i = 73 ∨ i = 90 ∨ i = 107 ∨ i = 124 then 16 else 11)
  else if i < 148 then ([5, 2, 11, 11, 4, 15] : List Nat).getD (i - 142) 99
  else if i < 164 then (if i % 2 = 0 then 8 else 12)
  else if i < 170 then ([1, 2, 11, 11, 11, 11] : List Nat).getD (i - 164) 99
  else if i < 191 then (if i = 170 then 10 else if i = 186 then 12 else if 189 ≤ i then 13 else 11)
  else 99
/-- how long the array at i is -/
def xN (i : Nat) : Nat :=
  if i < 8 then ([0, 0, 16, 0, 100, 100, 100, 12] : List Nat).getD i 0
  else if i < 72 then 56
  else if i < 142 then (if i = 73 ∨ i = 90 ∨ i = 107 ∨ i = 124 then 16 else 56)
  else if i < 148 then ([0, 0, 4, 4, 0, 8] : List Nat).getD (i - 142) 0
  else if i < 164 then 100
  else if i < 170 then ([0, 0, 4, 4, 8, 8] : List Nat).getD (i - 164) 0
  else if i < 177 then 16
  else if i < 181 then 896
  else if i < 185 then 100
  else ([8, 800, 16, 4, 8, 8] : List Nat).getD (i - 185) 0
/-- how many fields a class has -/
def xF (c : Nat) : Nat := ([7, 4, 3, 4, 2, 2, 5, 9, 2, 5, 26] : List Nat).getD c 0
/-- where a field of references leads -/
def xK (c k i : Nat) : Option Nat := match c with
  | 0 => match k with | 0 => some 1 | 1 => some 73 | 2 => some 90 | 3 => some 107 | 4 => some 124 | 5 => some 141 | _ => none
  | 1 => match k with | 0 => some 1 | 1 => some 165 | 2 => some 168 | 3 => some 169 | _ => none
  | 2 => match k with | 0 => some (i + 1) | 1 => some (i + 2) | _ => none
  | 3 => match k with | 0 => some 4 | 1 => some 5 | 2 => some 6 | _ => none
  | 4 => match k with | 0 => some 1 | 1 => some 147 | _ => none
  | 5 => match k with | 0 => some 1 | 1 => some 143 | _ => none
  | 6 => match k with | 0 => some 2 | 1 => some 3 | 2 => some 7 | _ => none
  | 7 => match k with | 6 => some (i + 1) | 7 => some (i + 2) | 8 => some (i + 3) | _ => none
  | 8 => match k with | 0 => some (i + 1) | _ => none
  | 9 => match k with | 0 => some 1 | 1 => some 72 | 2 => some 142 | 3 => some 146 | 4 => some 164 | _ => none
  | 10 => if k < 14 then some (171 + k) else if k < 20 then none else if k < 26 then some (165 + k) else none
  | _ => none
/-- where an array of references leads -/
def xE (i j : Nat) : Nat := if i = 2 then 8 + 4 * j else if i = 147 then 148 + 2 * j else i + 1 + j
def xV (M : xM) (c i k : Nat) : Value := match xK c k i with
  | some t => .ref t
  | none => .int (M.1 i k)
def xent (M : xM) (i : Nat) : va_E :=
  if xT i < 11 then .inr (xT i, (List.range (xF (xT i))).map (xV M (xT i) i))
  else if xT i < 13 then .inl (xT i, xN i, .inl (M.1 i))
  else if xT i = 13 then .inl (13, xN i, .inr (.inl (M.2 i)))
  else .inl (xT i, xN i, .inr (.inr (.inr (.inr (fun j => some (xE i j))))))
def xwd (M : xM) : xW := (191, xent M)
def xw (M : xM) (i k : Nat) (v : Int32) : xM := (fun a b => if a = i ∧ b = k then v else M.1 a b, M.2)
def xwl (M : xM) (i k : Nat) (v : Int64) : xM := (M.1, fun a b => if a = i ∧ b = k then v else M.2 a b)
theorem xT_lt {i : Nat} (h : xT i < 99) : i < 191 := by
  unfold xT at h
  repeat (first | omega | split at h)
theorem xent_obj {M : xM} {i c : Nat} (h : xT i = c) (hc : c < 11) : xent M i = .inr (c, (List.range (xF c)).map (xV M c i)) := by
  unfold xent
  rw [h, if_pos hc]
theorem xent_int {M : xM} {i n : Nat} (h : xT i = 11) (hn : xN i = n) : xent M i = .inl (11, n, .inl (M.1 i)) := by
  unfold xent
  rw [h, hn, if_neg (by decide), if_pos (by decide)]
theorem xent_bool {M : xM} {i n : Nat} (h : xT i = 12) (hn : xN i = n) : xent M i = .inl (12, n, .inl (M.1 i)) := by
  unfold xent
  rw [h, hn, if_neg (by decide), if_pos (by decide)]
theorem xent_long {M : xM} {i n : Nat} (h : xT i = 13) (hn : xN i = n) : xent M i = .inl (13, n, .inr (.inl (M.2 i))) := by
  unfold xent
  rw [h, hn, if_neg (by decide), if_neg (by decide), if_pos rfl]
theorem xent_ref {M : xM} {i t n : Nat} (h : xT i = t) (hn : xN i = n) (ht : 13 < t) : xent M i = .inl (t, n, .inr (.inr (.inr (.inr (fun j => some (xE i j)))))) := by
  unfold xent
  rw [h, hn, if_neg (by omega), if_neg (by omega), if_neg (by omega)]
theorem xent_ne {M M' : xM} {i : Nat} (h1 : M'.1 i = M.1 i) (h2 : M'.2 i = M.2 i) : xent M' i = xent M i := by
  have h3 : ∀ c, xV M' c i = xV M c i := fun c => by
    funext k
    unfold xV
    rw [h1]
  unfold xent
  rw [h1, h2, h3]
theorem xw_ne {M : xM} {i k a : Nat} {v : Int32} (h : a ≠ i) : (xw M i k v).1 a = M.1 a := by
  funext b
  simp [xw, h]
theorem xw_eq {M : xM} {i k : Nat} {v : Int32} : (xw M i k v).1 i = upd (M.1 i) k v := by
  funext b
  simp [xw, upd]
theorem xwl_ne {M : xM} {i k a : Nat} {v : Int64} (h : a ≠ i) : (xwl M i k v).2 a = M.2 a := by
  funext b
  simp [xwl, h]
theorem xwl_eq {M : xM} {i k : Nat} {v : Int64} : (xwl M i k v).2 i = vp_updL (M.2 i) k v := by
  funext b
  simp [xwl, vp_updL]
theorem xset_of {M M' : xM} {i : Nat} {e : va_E} (he : xent M' i = e) (h1 : ∀ a, a ≠ i → M'.1 a = M.1 a) (h2 : ∀ a, a ≠ i → M'.2 a = M.2 a) : xset (xwd M) i e = xwd M' := by
  unfold xset xwd
  congr 1
  funext j
  by_cases hj : j = i
  · subst hj
    rw [if_pos rfl, he]
  · rw [if_neg hj]
    exact (xent_ne (h1 j hj) (h2 j hj)).symm
/-- loops, joins, names -/
def lp {σ β : Type} (step : σ → (σ → Option β) → Option β) : Nat → σ → Option β
  | 0, _ => none
  | n + 1, s => step s (lp step n)
def jn {σ β : Type} (K : σ → Option β) (B : (σ → Option β) → Option β) : Option β := B K
def bd {σ β : Type} (e : σ) (K : σ → Option β) : Option β := K e
def xfu : Nat := 1000
section SPM
variable {I : xI} {α : Type} {ρ : α → Value × xW} {kc ks pc : Nat} {L : xL} {S : List Value} {w : xW} {X : Option α} {M : xM}
theorem SP.lp {σ : Type} {step : σ → (σ → Option α) → Option α} (Lf : σ → xL) (wf : σ → xW) (h : ∀ (s : σ) (k : σ → Option α), (∀ s', SP I ρ kc ks pc (Lf s') S (wf s') (k s')) → SP I ρ kc ks pc (Lf s) S (wf s) (step s k)) : ∀ (n : Nat) (s : σ), SP I ρ kc ks pc (Lf s) S (wf s) (lp step n s)
  | 0, _ => SP.none
  | n + 1, s => h s _ (SP.lp Lf wf h n)
theorem SP.jn {σ : Type} {K : σ → Option α} {B : (σ → Option α) → Option α} (pj : Nat) (Lf : σ → xL) (Sf : σ → List Value) (wf : σ → xW) (hb : ∀ k : σ → Option α, (∀ s, SP I ρ kc ks pj (Lf s) (Sf s) (wf s) (k s)) → SP I ρ kc ks pc L S w (B k)) (hK : ∀ s, SP I ρ kc ks pj (Lf s) (Sf s) (wf s) (K s)) : SP I ρ kc ks pc L S w (jn K B) := hb K hK
theorem SP.bdi {e : Int32} {K : Int32 → Option α} (k : ∀ x, x = e → SP I ρ kc ks pc L (.int x :: S) w (K x)) : SP I ρ kc ks pc L (.int e :: S) w (bd e K) := k e rfl
theorem SP.bdl {e : Int64} {K : Int64 → Option α} (k : ∀ x, x = e → SP I ρ kc ks pc L (.long x :: S) w (K x)) : SP I ρ kc ks pc L (.long e :: S) w (bd e K) := k e rfl
theorem SP.bdm {e : xM} {K : xM → Option α} (k : ∀ x, x = e → SP I ρ kc ks pc L S (xwd x) (K x)) : SP I ρ kc ks pc L S (xwd e) (bd e K) := k e rfl
theorem m_getI {ci idx i : Nat} {C : String} {T : u_T} {N : Nat} {ty : Nat → FieldType} (hc : xCls ci C T N ty) (kf : Nat) (hf : xFl I.1.cls idx C T kf) (hT : xT i = ci) (h1 : ci < 11) (hN : xF ci = N) (hkf : kf < N) (hk : xK ci kf i = none) (d : decode I.2.1 pc = .ok (.getfield idx, 3)) (k : SP I ρ kc ks (pc + 3) L (.int (M.1 i kf) :: S) (xwd M) X) : SP I ρ kc ks pc L (.ref i :: S) (xwd M) X :=
  g_get hc kf hf hkf (xT_lt (by omega)) (xent_obj hT h1) (by simp [hN, hkf, xV, hk]) d k
theorem m_getR {ci idx i t : Nat} {C : String} {T : u_T} {N : Nat} {ty : Nat → FieldType} (hc : xCls ci C T N ty) (kf : Nat) (hf : xFl I.1.cls idx C T kf) (hT : xT i = ci) (h1 : ci < 11) (hN : xF ci = N) (hkf : kf < N) (hk : xK ci kf i = some t) (d : decode I.2.1 pc = .ok (.getfield idx, 3)) (k : SP I ρ kc ks (pc + 3) L (.ref t :: S) (xwd M) X) : SP I ρ kc ks pc L (.ref i :: S) (xwd M) X :=
  g_get hc kf hf hkf (xT_lt (by omega)) (xent_obj hT h1) (by simp [hN, hkf, xV, hk]) d k
theorem m_putI {ci idx i : Nat} {C : String} {T : u_T} {N : Nat} {ty : Nat → FieldType} {v : Int32} (hc : xCls ci C T N ty) (kf : Nat) (hf : xFl I.1.cls idx C T kf) (hT : xT i = ci) (h1 : ci < 11) (hN : xF ci = N) (hkf : kf < N) (hk : xK ci kf i = none) (hfin : (T kf).2.2.2 = false) (hty : ty kf = .int) (d : decode I.2.1 pc = .ok (.putfield idx, 3)) (k : SP I ρ kc ks (pc + 3) L S (xwd (xw M i kf v)) X) : SP I ρ kc ks pc L (.int v :: .ref i :: S) (xwd M) X := by
  refine g_put hc kf hf hkf (xT_lt (by omega)) (xent_obj hT h1) (by simp [hN, hkf]) hfin (fun ad => by rw [hty]; rfl) (fun ad => by rw [hty]; rfl) d ?_
  rw [xset_of (M' := xw M i kf v) ?_ (fun a h => xw_ne h) (fun _ _ => rfl)]
  · exact k
  · rw [xent_obj hT h1]
    congr 2
    apply List.ext_getElem?
    intro j
    by_cases hj : j < xF ci
    · by_cases hjk : j = kf
      · subst hjk
        rw [List.getElem?_set_self (by simpa using hj)]
        simp [hj, xV, hk, xw]
      · rw [List.getElem?_set_ne (Ne.symm hjk)]
        have e : xV (xw M i kf v) ci i j = xV M ci i j := by
          unfold xV
          split <;> simp [xw, hjk]
        simp [hj, e]
    · rw [List.getElem?_eq_none (by simp; omega), List.getElem?_eq_none (by simp; omega)]
theorem m_iald {i n : Nat} {j : Int32} (hT : xT i = 11) (hn : xN i = n) (d : decode I.2.1 pc = .ok (.iaload, 1)) (k : xinb j n = true → SP I ρ kc ks (pc + 1) L (.int (M.1 i j.toNatClampNeg) :: S) (xwd M) X) : SP I ρ kc ks pc L (.int j :: .ref i :: S) (xwd M) (if xinb j n = true then X else none) :=
  g_iald (xT_lt (by omega)) (xent_int hT hn) d k
theorem m_zald {i n : Nat} {j : Int32} (hT : xT i = 12) (hn : xN i = n) (d : decode I.2.1 pc = .ok (.baload, 1)) (k : xinb j n = true → SP I ρ kc ks (pc + 1) L (.int (M.1 i j.toNatClampNeg) :: S) (xwd M) X) : SP I ρ kc ks pc L (.int j :: .ref i :: S) (xwd M) (if xinb j n = true then X else none) :=
  g_zald (xT_lt (by omega)) (xent_bool hT hn) d k
theorem m_lald {i n : Nat} {j : Int32} (hT : xT i = 13) (hn : xN i = n) (d : decode I.2.1 pc = .ok (.laload, 1)) (k : xinb j n = true → SP I ρ kc ks (pc + 1) L (.long (M.2 i j.toNatClampNeg) :: S) (xwd M) X) : SP I ρ kc ks pc L (.int j :: .ref i :: S) (xwd M) (if xinb j n = true then X else none) :=
  g_lald (xT_lt (by omega)) (xent_long hT hn) d k
theorem m_iast {i n : Nat} {j x : Int32} (hT : xT i = 11) (hn : xN i = n) (d : decode I.2.1 pc = .ok (.iastore, 1)) (k : xinb j n = true → SP I ρ kc ks (pc + 1) L S (xwd (xw M i j.toNatClampNeg x)) X) : SP I ρ kc ks pc L (.int x :: .int j :: .ref i :: S) (xwd M) (if xinb j n = true then X else none) :=
  g_iast (xT_lt (by omega)) (xent_int hT hn) d (fun h => by
    rw [xset_of (M' := xw M i j.toNatClampNeg x) (by rw [xent_int hT hn, xw_eq]) (fun a h => xw_ne h) (fun _ _ => rfl)]
    exact k h)
theorem m_zast {i n : Nat} {j x : Int32} (hT : xT i = 12) (hn : xN i = n) (d : decode I.2.1 pc = .ok (.bastore, 1)) (k : xinb j n = true → SP I ρ kc ks (pc + 1) L S (xwd (xw M i j.toNatClampNeg (vp_nar .boolean x))) X) : SP I ρ kc ks pc L (.int x :: .int j :: .ref i :: S) (xwd M) (if xinb j n = true then X else none) :=
  g_zast (xT_lt (by omega)) (xent_bool hT hn) d (fun h => by
    rw [xset_of (M' := xw M i j.toNatClampNeg (vp_nar .boolean x)) (by rw [xent_bool hT hn, xw_eq]) (fun a h => xw_ne h) (fun _ _ => rfl)]
    exact k h)
theorem m_last {i n : Nat} {j : Int32} {x : Int64} (hT : xT i = 13) (hn : xN i = n) (d : decode I.2.1 pc = .ok (.lastore, 1)) (k : xinb j n = true → SP I ρ kc ks (pc + 1) L S (xwd (xwl M i j.toNatClampNeg x)) X) : SP I ρ kc ks pc L (.long x :: .int j :: .ref i :: S) (xwd M) (if xinb j n = true then X else none) :=
  g_last (xT_lt (by omega)) (xent_long hT hn) d (fun h => by
    rw [xset_of (M := M) (M' := xwl M i j.toNatClampNeg x) (by rw [xent_long hT hn, xwl_eq]) (fun _ _ => rfl) (fun a h => xwl_ne h)]
    exact k h)
theorem m_aald {i t n t0 q : Nat} {ty : FieldType} {j : Int32} (hT : xT i = t) (h1 : 13 < t ∧ t < 99) (hn : xN i = n) (ht : ∀ cA : Nat → ClassId, (xtys cA)[t0]? = some (cA t, ty)) (hr : ty.isReference = true) (hq : xE i j.toNatClampNeg = q) (d : decode I.2.1 pc = .ok (.aaload, 1)) (k : xinb j n = true → SP I ρ kc ks (pc + 1) L (.ref q :: S) (xwd M) X) : SP I ρ kc ks pc L (.int j :: .ref i :: S) (xwd M) (if xinb j n = true then X else none) :=
  g_aald (xT_lt (by omega)) (xent_ref hT hn h1.1) ht hr d (fun _ => by rw [hq]) k
theorem m_alen {i n : Nat} {a : Int32} (hT : xT i = 11) (hn : xN i = n) (ha : Int32.ofNat n = a) (d : decode I.2.1 pc = .ok (.arraylength, 1)) (k : SP I ρ kc ks (pc + 1) L (.int a :: S) (xwd M) X) : SP I ρ kc ks pc L (.ref i :: S) (xwd M) X :=
  g_alen (t0 := 0) (xT_lt (by omega)) (xent_int hT hn) (fun _ => rfl) ha d k
end SPM
/-! what a method answers: an int or a long with the memory as it was, or with another; nothing; the books -/
abbrev rI (M : xM) : Int32 → Value × xW := fun v => (.int v, xwd M)
abbrev rJ (M : xM) : Int64 → Value × xW := fun v => (.long v, xwd M)
abbrev rIM : Int32 × xM → Value × xW := fun q => (.int q.1, xwd q.2)
abbrev rJM : Int64 × xM → Value × xW := fun q => (.long q.1, xwd q.2)
abbrev rM : xM → Value × xW := fun q => (.null, xwd q)
abbrev rB : xM → Value × xW := fun q => (.ref 72, xwd q)
/-- room for a call in this phase: nothing is made -/
def xRm0 (I Iz : xI) (n : Nat) : Prop := (parseMethodDescriptor Iz.1.desc).map (fun d => d.parameters.length) = some n ∧ Iz.2.2.2.2.1.frames + 1 ≤ I.2.2.2.2.1.frames ∧ 8 + (Iz.2.2.1 + 11) + Iz.2.2.2.2.1.locals ≤ I.2.2.2.2.1.locals ∧ Iz.2.2.2.2.1.cells = 0 ∧ Iz.2.2.2.2.1.slots = 0
theorem xRm0.to {I Iz : xI} {n : Nat} (h : xRm0 I Iz n) : xRm I Iz 0 0 n := ⟨h.1, h.2.1, h.2.2.1, by rw [h.2.2.2.1]; exact Nat.zero_le _, by rw [h.2.2.2.2]; exact Nat.zero_le _⟩
section SPK
variable {I : xI} {α : Type} {ρ : α → Value × xW} {pc : Nat} {L : xL} {S : List Value} {M : xM} {Iz : xI} {As rest : List Value} {b ci idx n : Nat} {T : u_T} {N : Nat} {ty : Nat → FieldType} {host : String}
theorem cV_I {Fz : Option Int32} {K : Int32 → Option α} (hct : Ct Iz (rI M) (.ref b :: As) (xwd M) Fz) (hS : S = As.reverse ++ .ref b :: rest) (hc : xCls ci Iz.1.cls T N ty) (hT : xT b = ci) (h1 : ci < 11) (hw : Cond.methodLink I.1.cls idx Iz.1 ∈ xtb) (hm : xMeV Iz) (hn : As.length = n) (hR : xRm0 I Iz n) (hrest : xSum rest ≤ 8) (d : decode I.2.1 pc = .ok (.invokevirtual idx, 3)) (k : ∀ q, SP I ρ 0 0 (pc + 3) L (.int q :: rest) (xwd M) (K q)) : SP I ρ 0 0 pc L S (xwd M) (Fz.bind K) :=
  x_callV hct hS hc (xT_lt (by omega)) (xent_obj hT h1) hw hm hn hR.to hrest d (fun q => by rw [hR.2.2.2.1, hR.2.2.2.2]; exact k q)
theorem cV_J {Fz : Option Int64} {K : Int64 → Option α} (hct : Ct Iz (rJ M) (.ref b :: As) (xwd M) Fz) (hS : S = As.reverse ++ .ref b :: rest) (hc : xCls ci Iz.1.cls T N ty) (hT : xT b = ci) (h1 : ci < 11) (hw : Cond.methodLink I.1.cls idx Iz.1 ∈ xtb) (hm : xMeV Iz) (hn : As.length = n) (hR : xRm0 I Iz n) (hrest : xSum rest ≤ 8) (d : decode I.2.1 pc = .ok (.invokevirtual idx, 3)) (k : ∀ q, SP I ρ 0 0 (pc + 3) L (.long q :: rest) (xwd M) (K q)) : SP I ρ 0 0 pc L S (xwd M) (Fz.bind K) :=
  x_callV hct hS hc (xT_lt (by omega)) (xent_obj hT h1) hw hm hn hR.to hrest d (fun q => by rw [hR.2.2.2.1, hR.2.2.2.2]; exact k q)
theorem cV_IM {Fz : Option (Int32 × xM)} {K : Int32 × xM → Option α} (hct : Ct Iz (rIM) (.ref b :: As) (xwd M) Fz) (hS : S = As.reverse ++ .ref b :: rest) (hc : xCls ci Iz.1.cls T N ty) (hT : xT b = ci) (h1 : ci < 11) (hw : Cond.methodLink I.1.cls idx Iz.1 ∈ xtb) (hm : xMeV Iz) (hn : As.length = n) (hR : xRm0 I Iz n) (hrest : xSum rest ≤ 8) (d : decode I.2.1 pc = .ok (.invokevirtual idx, 3)) (k : ∀ q, SP I ρ 0 0 (pc + 3) L (.int q.1 :: rest) (xwd q.2) (K q)) : SP I ρ 0 0 pc L S (xwd M) (Fz.bind K) :=
  x_callV hct hS hc (xT_lt (by omega)) (xent_obj hT h1) hw hm hn hR.to hrest d (fun q => by rw [hR.2.2.2.1, hR.2.2.2.2]; exact k q)
theorem cV_JM {Fz : Option (Int64 × xM)} {K : Int64 × xM → Option α} (hct : Ct Iz (rJM) (.ref b :: As) (xwd M) Fz) (hS : S = As.reverse ++ .ref b :: rest) (hc : xCls ci Iz.1.cls T N ty) (hT : xT b = ci) (h1 : ci < 11) (hw : Cond.methodLink I.1.cls idx Iz.1 ∈ xtb) (hm : xMeV Iz) (hn : As.length = n) (hR : xRm0 I Iz n) (hrest : xSum rest ≤ 8) (d : decode I.2.1 pc = .ok (.invokevirtual idx, 3)) (k : ∀ q, SP I ρ 0 0 (pc + 3) L (.long q.1 :: rest) (xwd q.2) (K q)) : SP I ρ 0 0 pc L S (xwd M) (Fz.bind K) :=
  x_callV hct hS hc (xT_lt (by omega)) (xent_obj hT h1) hw hm hn hR.to hrest d (fun q => by rw [hR.2.2.2.1, hR.2.2.2.2]; exact k q)
theorem cV_M {Fz : Option xM} {K : xM → Option α} (hct : Ct Iz (rM) (.ref b :: As) (xwd M) Fz) (hS : S = As.reverse ++ .ref b :: rest) (hc : xCls ci Iz.1.cls T N ty) (hT : xT b = ci) (h1 : ci < 11) (hw : Cond.methodLink I.1.cls idx Iz.1 ∈ xtb) (hm : xMeV Iz) (hn : As.length = n) (hR : xRm0 I Iz n) (hrest : xSum rest ≤ 8) (d : decode I.2.1 pc = .ok (.invokevirtual idx, 3)) (k : ∀ q, SP I ρ 0 0 (pc + 3) L (rest) (xwd q) (K q)) : SP I ρ 0 0 pc L S (xwd M) (Fz.bind K) :=
  x_callV hct hS hc (xT_lt (by omega)) (xent_obj hT h1) hw hm hn hR.to hrest d (fun q => by rw [hR.2.2.2.1, hR.2.2.2.2]; exact k q)
theorem cV_B {Fz : Option xM} {K : xM → Option α} (hct : Ct Iz (rB) (.ref b :: As) (xwd M) Fz) (hS : S = As.reverse ++ .ref b :: rest) (hc : xCls ci Iz.1.cls T N ty) (hT : xT b = ci) (h1 : ci < 11) (hw : Cond.methodLink I.1.cls idx Iz.1 ∈ xtb) (hm : xMeV Iz) (hn : As.length = n) (hR : xRm0 I Iz n) (hrest : xSum rest ≤ 8) (d : decode I.2.1 pc = .ok (.invokevirtual idx, 3)) (k : ∀ q, SP I ρ 0 0 (pc + 3) L (.ref 72 :: rest) (xwd q) (K q)) : SP I ρ 0 0 pc L S (xwd M) (Fz.bind K) :=
  x_callV hct hS hc (xT_lt (by omega)) (xent_obj hT h1) hw hm hn hR.to hrest d (fun q => by rw [hR.2.2.2.1, hR.2.2.2.2]; exact k q)
theorem cVN_I {Fz : Option Int32} {K : Int32 → Option α} (hct : Ct Iz (rI M) (.ref b :: As) (xwd M) Fz) (hS : S = As.reverse ++ .ref b :: rest) (hc : xCls ci Iz.1.cls T N ty) (hT : xT b = ci) (h1 : ci < 11) (hw : Cond.methodLinkNest I.1.cls idx Iz.1 host ∈ xnt) (hm : xMeV Iz) (hn : As.length = n) (hR : xRm0 I Iz n) (hrest : xSum rest ≤ 8) (d : decode I.2.1 pc = .ok (.invokevirtual idx, 3)) (k : ∀ q, SP I ρ 0 0 (pc + 3) L (.int q :: rest) (xwd M) (K q)) : SP I ρ 0 0 pc L S (xwd M) (Fz.bind K) :=
  x_callVN hct hS hc (xT_lt (by omega)) (xent_obj hT h1) hw hm hn hR.to hrest d (fun q => by rw [hR.2.2.2.1, hR.2.2.2.2]; exact k q)
theorem cVN_J {Fz : Option Int64} {K : Int64 → Option α} (hct : Ct Iz (rJ M) (.ref b :: As) (xwd M) Fz) (hS : S = As.reverse ++ .ref b :: rest) (hc : xCls ci Iz.1.cls T N ty) (hT : xT b = ci) (h1 : ci < 11) (hw : Cond.methodLinkNest I.1.cls idx Iz.1 host ∈ xnt) (hm : xMeV Iz) (hn : As.length = n) (hR : xRm0 I Iz n) (hrest : xSum rest ≤ 8) (d : decode I.2.1 pc = .ok (.invokevirtual idx, 3)) (k : ∀ q, SP I ρ 0 0 (pc + 3) L (.long q :: rest) (xwd M) (K q)) : SP I ρ 0 0 pc L S (xwd M) (Fz.bind K) :=
  x_callVN hct hS hc (xT_lt (by omega)) (xent_obj hT h1) hw hm hn hR.to hrest d (fun q => by rw [hR.2.2.2.1, hR.2.2.2.2]; exact k q)
theorem cVN_IM {Fz : Option (Int32 × xM)} {K : Int32 × xM → Option α} (hct : Ct Iz (rIM) (.ref b :: As) (xwd M) Fz) (hS : S = As.reverse ++ .ref b :: rest) (hc : xCls ci Iz.1.cls T N ty) (hT : xT b = ci) (h1 : ci < 11) (hw : Cond.methodLinkNest I.1.cls idx Iz.1 host ∈ xnt) (hm : xMeV Iz) (hn : As.length = n) (hR : xRm0 I Iz n) (hrest : xSum rest ≤ 8) (d : decode I.2.1 pc = .ok (.invokevirtual idx, 3)) (k : ∀ q, SP I ρ 0 0 (pc + 3) L (.int q.1 :: rest) (xwd q.2) (K q)) : SP I ρ 0 0 pc L S (xwd M) (Fz.bind K) :=
  x_callVN hct hS hc (xT_lt (by omega)) (xent_obj hT h1) hw hm hn hR.to hrest d (fun q => by rw [hR.2.2.2.1, hR.2.2.2.2]; exact k q)
theorem cVN_JM {Fz : Option (Int64 × xM)} {K : Int64 × xM → Option α} (hct : Ct Iz (rJM) (.ref b :: As) (xwd M) Fz) (hS : S = As.reverse ++ .ref b :: rest) (hc : xCls ci Iz.1.cls T N ty) (hT : xT b = ci) (h1 : ci < 11) (hw : Cond.methodLinkNest I.1.cls idx Iz.1 host ∈ xnt) (hm : xMeV Iz) (hn : As.length = n) (hR : xRm0 I Iz n) (hrest : xSum rest ≤ 8) (d : decode I.2.1 pc = .ok (.invokevirtual idx, 3)) (k : ∀ q, SP I ρ 0 0 (pc + 3) L (.long q.1 :: rest) (xwd q.2) (K q)) : SP I ρ 0 0 pc L S (xwd M) (Fz.bind K) :=
  x_callVN hct hS hc (xT_lt (by omega)) (xent_obj hT h1) hw hm hn hR.to hrest d (fun q => by rw [hR.2.2.2.1, hR.2.2.2.2]; exact k q)
theorem cVN_M {Fz : Option xM} {K : xM → Option α} (hct : Ct Iz (rM) (.ref b :: As) (xwd M) Fz) (hS : S = As.reverse ++ .ref b :: rest) (hc : xCls ci Iz.1.cls T N ty) (hT : xT b = ci) (h1 : ci < 11) (hw : Cond.methodLinkNest I.1.cls idx Iz.1 host ∈ xnt) (hm : xMeV Iz) (hn : As.length = n) (hR : xRm0 I Iz n) (hrest : xSum rest ≤ 8) (d : decode I.2.1 pc = .ok (.invokevirtual idx, 3)) (k : ∀ q, SP I ρ 0 0 (pc + 3) L (rest) (xwd q) (K q)) : SP I ρ 0 0 pc L S (xwd M) (Fz.bind K) :=
  x_callVN hct hS hc (xT_lt (by omega)) (xent_obj hT h1) hw hm hn hR.to hrest d (fun q => by rw [hR.2.2.2.1, hR.2.2.2.2]; exact k q)
theorem cVN_B {Fz : Option xM} {K : xM → Option α} (hct : Ct Iz (rB) (.ref b :: As) (xwd M) Fz) (hS : S = As.reverse ++ .ref b :: rest) (hc : xCls ci Iz.1.cls T N ty) (hT : xT b = ci) (h1 : ci < 11) (hw : Cond.methodLinkNest I.1.cls idx Iz.1 host ∈ xnt) (hm : xMeV Iz) (hn : As.length = n) (hR : xRm0 I Iz n) (hrest : xSum rest ≤ 8) (d : decode I.2.1 pc = .ok (.invokevirtual idx, 3)) (k : ∀ q, SP I ρ 0 0 (pc + 3) L (.ref 72 :: rest) (xwd q) (K q)) : SP I ρ 0 0 pc L S (xwd M) (Fz.bind K) :=
  x_callVN hct hS hc (xT_lt (by omega)) (xent_obj hT h1) hw hm hn hR.to hrest d (fun q => by rw [hR.2.2.2.1, hR.2.2.2.2]; exact k q)
theorem cS_I {Fz : Option Int32} {K : Int32 → Option α} (hct : Ct Iz (rI M) As (xwd M) Fz) (hS : S = As.reverse ++ rest) (hw : Cond.methodLink I.1.cls idx Iz.1 ∈ xtb) (hm : xMeS Iz) (hn : As.length = n) (hR : xRm0 I Iz n) (hrest : xSum rest ≤ 8) (d : decode I.2.1 pc = .ok (.invokestatic idx, 3)) (k : ∀ q, SP I ρ 0 0 (pc + 3) L (.int q :: rest) (xwd M) (K q)) : SP I ρ 0 0 pc L S (xwd M) (Fz.bind K) :=
  x_callS hct hS hw hm hn hR.to hrest d (fun q => by rw [hR.2.2.2.1, hR.2.2.2.2]; exact k q)
theorem cS_J {Fz : Option Int64} {K : Int64 → Option α} (hct : Ct Iz (rJ M) As (xwd M) Fz) (hS : S = As.reverse ++ rest) (hw : Cond.methodLink I.1.cls idx Iz.1 ∈ xtb) (hm : xMeS Iz) (hn : As.length = n) (hR : xRm0 I Iz n) (hrest : xSum rest ≤ 8) (d : decode I.2.1 pc = .ok (.invokestatic idx, 3)) (k : ∀ q, SP I ρ 0 0 (pc + 3) L (.long q :: rest) (xwd M) (K q)) : SP I ρ 0 0 pc L S (xwd M) (Fz.bind K) :=
  x_callS hct hS hw hm hn hR.to hrest d (fun q => by rw [hR.2.2.2.1, hR.2.2.2.2]; exact k q)
theorem cS_IM {Fz : Option (Int32 × xM)} {K : Int32 × xM → Option α} (hct : Ct Iz (rIM) As (xwd M) Fz) (hS : S = As.reverse ++ rest) (hw : Cond.methodLink I.1.cls idx Iz.1 ∈ xtb) (hm : xMeS Iz) (hn : As.length = n) (hR : xRm0 I Iz n) (hrest : xSum rest ≤ 8) (d : decode I.2.1 pc = .ok (.invokestatic idx, 3)) (k : ∀ q, SP I ρ 0 0 (pc + 3) L (.int q.1 :: rest) (xwd q.2) (K q)) : SP I ρ 0 0 pc L S (xwd M) (Fz.bind K) :=
  x_callS hct hS hw hm hn hR.to hrest d (fun q => by rw [hR.2.2.2.1, hR.2.2.2.2]; exact k q)
theorem cS_JM {Fz : Option (Int64 × xM)} {K : Int64 × xM → Option α} (hct : Ct Iz (rJM) As (xwd M) Fz) (hS : S = As.reverse ++ rest) (hw : Cond.methodLink I.1.cls idx Iz.1 ∈ xtb) (hm : xMeS Iz) (hn : As.length = n) (hR : xRm0 I Iz n) (hrest : xSum rest ≤ 8) (d : decode I.2.1 pc = .ok (.invokestatic idx, 3)) (k : ∀ q, SP I ρ 0 0 (pc + 3) L (.long q.1 :: rest) (xwd q.2) (K q)) : SP I ρ 0 0 pc L S (xwd M) (Fz.bind K) :=
  x_callS hct hS hw hm hn hR.to hrest d (fun q => by rw [hR.2.2.2.1, hR.2.2.2.2]; exact k q)
theorem cS_M {Fz : Option xM} {K : xM → Option α} (hct : Ct Iz (rM) As (xwd M) Fz) (hS : S = As.reverse ++ rest) (hw : Cond.methodLink I.1.cls idx Iz.1 ∈ xtb) (hm : xMeS Iz) (hn : As.length = n) (hR : xRm0 I Iz n) (hrest : xSum rest ≤ 8) (d : decode I.2.1 pc = .ok (.invokestatic idx, 3)) (k : ∀ q, SP I ρ 0 0 (pc + 3) L (rest) (xwd q) (K q)) : SP I ρ 0 0 pc L S (xwd M) (Fz.bind K) :=
  x_callS hct hS hw hm hn hR.to hrest d (fun q => by rw [hR.2.2.2.1, hR.2.2.2.2]; exact k q)
theorem cS_B {Fz : Option xM} {K : xM → Option α} (hct : Ct Iz (rB) As (xwd M) Fz) (hS : S = As.reverse ++ rest) (hw : Cond.methodLink I.1.cls idx Iz.1 ∈ xtb) (hm : xMeS Iz) (hn : As.length = n) (hR : xRm0 I Iz n) (hrest : xSum rest ≤ 8) (d : decode I.2.1 pc = .ok (.invokestatic idx, 3)) (k : ∀ q, SP I ρ 0 0 (pc + 3) L (.ref 72 :: rest) (xwd q) (K q)) : SP I ρ 0 0 pc L S (xwd M) (Fz.bind K) :=
  x_callS hct hS hw hm hn hR.to hrest d (fun q => by rw [hR.2.2.2.1, hR.2.2.2.2]; exact k q)
theorem cSN_I {Fz : Option Int32} {K : Int32 → Option α} (hct : Ct Iz (rI M) As (xwd M) Fz) (hS : S = As.reverse ++ rest) (hw : Cond.methodLinkNest I.1.cls idx Iz.1 host ∈ xnt) (hm : xMeS Iz) (hn : As.length = n) (hR : xRm0 I Iz n) (hrest : xSum rest ≤ 8) (d : decode I.2.1 pc = .ok (.invokestatic idx, 3)) (k : ∀ q, SP I ρ 0 0 (pc + 3) L (.int q :: rest) (xwd M) (K q)) : SP I ρ 0 0 pc L S (xwd M) (Fz.bind K) :=
  x_callSN hct hS hw hm hn hR.to hrest d (fun q => by rw [hR.2.2.2.1, hR.2.2.2.2]; exact k q)
theorem cSN_J {Fz : Option Int64} {K : Int64 → Option α} (hct : Ct Iz (rJ M) As (xwd M) Fz) (hS : S = As.reverse ++ rest) (hw : Cond.methodLinkNest I.1.cls idx Iz.1 host ∈ xnt) (hm : xMeS Iz) (hn : As.length = n) (hR : xRm0 I Iz n) (hrest : xSum rest ≤ 8) (d : decode I.2.1 pc = .ok (.invokestatic idx, 3)) (k : ∀ q, SP I ρ 0 0 (pc + 3) L (.long q :: rest) (xwd M) (K q)) : SP I ρ 0 0 pc L S (xwd M) (Fz.bind K) :=
  x_callSN hct hS hw hm hn hR.to hrest d (fun q => by rw [hR.2.2.2.1, hR.2.2.2.2]; exact k q)
theorem cSN_IM {Fz : Option (Int32 × xM)} {K : Int32 × xM → Option α} (hct : Ct Iz (rIM) As (xwd M) Fz) (hS : S = As.reverse ++ rest) (hw : Cond.methodLinkNest I.1.cls idx Iz.1 host ∈ xnt) (hm : xMeS Iz) (hn : As.length = n) (hR : xRm0 I Iz n) (hrest : xSum rest ≤ 8) (d : decode I.2.1 pc = .ok (.invokestatic idx, 3)) (k : ∀ q, SP I ρ 0 0 (pc + 3) L (.int q.1 :: rest) (xwd q.2) (K q)) : SP I ρ 0 0 pc L S (xwd M) (Fz.bind K) :=
  x_callSN hct hS hw hm hn hR.to hrest d (fun q => by rw [hR.2.2.2.1, hR.2.2.2.2]; exact k q)
theorem cSN_JM {Fz : Option (Int64 × xM)} {K : Int64 × xM → Option α} (hct : Ct Iz (rJM) As (xwd M) Fz) (hS : S = As.reverse ++ rest) (hw : Cond.methodLinkNest I.1.cls idx Iz.1 host ∈ xnt) (hm : xMeS Iz) (hn : As.length = n) (hR : xRm0 I Iz n) (hrest : xSum rest ≤ 8) (d : decode I.2.1 pc = .ok (.invokestatic idx, 3)) (k : ∀ q, SP I ρ 0 0 (pc + 3) L (.long q.1 :: rest) (xwd q.2) (K q)) : SP I ρ 0 0 pc L S (xwd M) (Fz.bind K) :=
  x_callSN hct hS hw hm hn hR.to hrest d (fun q => by rw [hR.2.2.2.1, hR.2.2.2.2]; exact k q)
theorem cSN_M {Fz : Option xM} {K : xM → Option α} (hct : Ct Iz (rM) As (xwd M) Fz) (hS : S = As.reverse ++ rest) (hw : Cond.methodLinkNest I.1.cls idx Iz.1 host ∈ xnt) (hm : xMeS Iz) (hn : As.length = n) (hR : xRm0 I Iz n) (hrest : xSum rest ≤ 8) (d : decode I.2.1 pc = .ok (.invokestatic idx, 3)) (k : ∀ q, SP I ρ 0 0 (pc + 3) L (rest) (xwd q) (K q)) : SP I ρ 0 0 pc L S (xwd M) (Fz.bind K) :=
  x_callSN hct hS hw hm hn hR.to hrest d (fun q => by rw [hR.2.2.2.1, hR.2.2.2.2]; exact k q)
theorem cSN_B {Fz : Option xM} {K : xM → Option α} (hct : Ct Iz (rB) As (xwd M) Fz) (hS : S = As.reverse ++ rest) (hw : Cond.methodLinkNest I.1.cls idx Iz.1 host ∈ xnt) (hm : xMeS Iz) (hn : As.length = n) (hR : xRm0 I Iz n) (hrest : xSum rest ≤ 8) (d : decode I.2.1 pc = .ok (.invokestatic idx, 3)) (k : ∀ q, SP I ρ 0 0 (pc + 3) L (.ref 72 :: rest) (xwd q) (K q)) : SP I ρ 0 0 pc L S (xwd M) (Fz.bind K) :=
  x_callSN hct hS hw hm hn hR.to hrest d (fun q => by rw [hR.2.2.2.1, hR.2.2.2.2]; exact k q)
end SPK

/-! where things lie: places, valleys, circles, rows of the books -/
theorem xinb_lt {j : Int32} {n : Nat} (h : xinb j n = true) : j.toNatClampNeg < n := by
  simp only [xinb, Bool.and_eq_true, decide_eq_true_eq] at h
  exact h.2
theorem xPl {k : Nat} (h : k < 16) : xT (8 + 4 * k) = 7 := by
  unfold xT
  rw [if_neg (by omega), if_pos (by omega), if_pos (by omega)]
theorem xPlA {k r : Nat} (h : k < 16) (hr : r = 1 ∨ r = 2 ∨ r = 3) : xT (8 + 4 * k + r) = 11 := by
  unfold xT
  rw [if_neg (by omega), if_pos (by omega), if_neg (by omega)]
theorem xPlN {k r : Nat} (h : k < 16) (hr : r = 1 ∨ r = 2 ∨ r = 3) : xN (8 + 4 * k + r) = 56 := by
  unfold xN
  rw [if_neg (by omega), if_pos (by omega)]
theorem xVa {k : Nat} (h : k < 8) : xT (148 + 2 * k) = 8 := by
  unfold xT
  rw [if_neg (by omega), if_neg (by omega), if_neg (by omega), if_neg (by omega), if_pos (by omega), if_pos (by omega)]
theorem xVaA {k : Nat} (h : k < 8) : xT (148 + 2 * k + 1) = 12 := by
  unfold xT
  rw [if_neg (by omega), if_neg (by omega), if_neg (by omega), if_neg (by omega), if_pos (by omega), if_neg (by omega)]
theorem xVaN {k : Nat} (h : k < 8) : xN (148 + 2 * k + 1) = 100 := by
  unfold xN
  rw [if_neg (by omega), if_neg (by omega), if_neg (by omega), if_neg (by omega), if_pos (by omega)]
def xCi (c : Nat) : Prop := c = 143 ∨ c = 165
theorem xCi_T {c : Nat} (h : xCi c) : xT c = 2 := by rcases h with rfl | rfl <;> rfl
theorem xCi_T1 {c : Nat} (h : xCi c) : xT (c + 1) = 11 := by rcases h with rfl | rfl <;> rfl
theorem xCi_T2 {c : Nat} (h : xCi c) : xT (c + 2) = 11 := by rcases h with rfl | rfl <;> rfl
theorem xCi_N1 {c : Nat} (h : xCi c) : xN (c + 1) = 4 := by rcases h with rfl | rfl <;> rfl
theorem xCi_N2 {c : Nat} (h : xCi c) : xN (c + 2) = 4 := by rcases h with rfl | rfl <;> rfl
def xBk (b : Nat) : Prop := b = 73 ∨ b = 90 ∨ b = 107 ∨ b = 124
theorem xBk_T {b k : Nat} (hb : xBk b) (h : k < 16) : xT (b + 1 + k) = 11 := by
  unfold xT
  rcases hb with rfl | rfl | rfl | rfl <;> rw [if_neg (by omega), if_neg (by omega), if_pos (by omega), if_neg (by omega), if_neg (by omega)]
theorem xBk_N {b k : Nat} (hb : xBk b) (h : k < 16) : xN (b + 1 + k) = 56 := by
  unfold xN
  rcases hb with rfl | rfl | rfl | rfl <;> rw [if_neg (by omega), if_neg (by omega), if_pos (by omega), if_neg (by omega)]
theorem xE_pl (k : Nat) : xE 2 k = 8 + 4 * k := rfl
theorem xE_va (k : Nat) : xE 147 k = 148 + 2 * k := rfl
theorem xE_bk {b : Nat} (hb : xBk b) (k : Nat) : xE b k = b + 1 + k := by rcases hb with rfl | rfl | rfl | rfl <;> rfl


theorem xbk73 : xBk 73 := Or.inl rfl
theorem xbk90 : xBk 90 := Or.inr (Or.inl rfl)
theorem xbk107 : xBk 107 := Or.inr (Or.inr (Or.inl rfl))
theorem xbk124 : xBk 124 := Or.inr (Or.inr (Or.inr rfl))
/-- the locals with which a method begins -/
def xargs : List Value → xL
  | [] => []
  | .int a :: vs => some (.int a) :: xargs vs
  | .long a :: vs => some (.long a) :: none :: xargs vs
  | .float a :: vs => some (.float a) :: xargs vs
  | .double a :: vs => some (.double a) :: none :: xargs vs
  | .null :: vs => some .null :: xargs vs
  | .ref a :: vs => some (.ref a) :: xargs vs
  | .retAddr a :: vs => some (.retAddr a) :: xargs vs
theorem xargs_in : ∀ (vs : List Value) (k i : Nat) (v : Value), (xargs vs)[i]? = some (some v) → (k + i, v) ∈ lv_args k vs := by
  intro vs
  induction vs with
  | nil => intro k i v h; simp [xargs] at h
  | cons u vs ih =>
    intro k i v h
    cases u <;> simp only [xargs, lv_args, Value.category] at h ⊢ <;> (
      rcases i with _ | i
      · simp at h; subst h; simp
      · first
        | (have h1 := ih (k + 1) i v (by simpa using h)
           simp only [if_true, if_false, List.mem_cons]
           refine Or.inr ?_
           have e : k + (i + 1) = k + 1 + i := by omega
           rw [e]
           simpa using h1)
        | (rcases i with _ | i
           · simp at h
           · have h1 := ih (k + 2) i v (by simpa using h)
             refine List.mem_cons_of_mem _ ?_
             have e : k + (i + 1 + 1) = k + 2 + i := by omega
             rw [e]
             simpa using h1))
theorem Ct.of' {I : xI} {α : Type} {ρ : α → Value × xW} {w : xW} {X : Option α} {As : List Value} {L : xL} (n : Nat) (hsc : I.2.2.2.2.2 = none) (hy : plainName I.1.cls = true) (hsz : (lg_sl As).length ≤ I.2.2.1) (hL : xargs As ++ List.replicate n none = L) (k : SP I ρ 0 0 0 L [] w X) : Ct I ρ As w X := by
  refine Ct.of hsc hy hsz (fun i v hv => ?_) k
  subst hL
  have h : (xargs As)[i]? = some (some v) := by
    by_cases hi : i < (xargs As).length
    · rw [List.getElem?_append_left hi] at hv; exact hv
    · rw [List.getElem?_append_right (by omega)] at hv
      rw [List.getElem?_replicate] at hv
      split at hv <;> simp at hv
  have := xargs_in As 0 i v h
  rwa [Nat.zero_add] at this
section SPQ
variable {I : xI} {α : Type} {ρ : α → Value × xW} {kc ks pc : Nat} {L : xL} {w : xW}
theorem x_aret {a : Nat} {q : α} {n : String} (hr : I.2.2.2.1 = some (.object n)) (hq : ρ q = (.ref a, w)) (d : decode I.2.1 pc = .ok (.areturn, 1)) (hc : kc ≤ I.2.2.2.2.1.cells) (hs : ks ≤ I.2.2.2.2.1.slots) : SP I ρ kc ks pc L [.ref a] w (some q) := by
  intro v hX p l e s m args below meth c G H locs ls hC HW HS HL
  cases hX
  refine W.widen hc hs ?_
  exact W.aret hC.1 hC.2.1 (hC.2.2.2.1.trans hr) (Or.inl ⟨n, rfl⟩) (Or.inr ⟨_, rfl⟩) (fun t ht hW => by rw [hq]; exact ⟨rfl, by rw [ht]; exact HW.warm hW, HS.F ht⟩) HS.2.2 d hC.2.2.2.2.1
def xbo (a : Int32) : Bool := a == 0 || a == 1
theorem x_zretb {a : Int32} {q : α} (hr : I.2.2.2.1 = some .boolean) (hq : ρ q = (.int a, w)) (d : decode I.2.1 pc = .ok (.ireturn, 1)) (hc : kc ≤ I.2.2.2.2.1.cells) (hs : ks ≤ I.2.2.2.2.1.slots) : SP I ρ kc ks pc L [.int a] w (if xbo a = true then some q else none) := by
  refine SP.ite (fun h => ?_) (fun _ => SP.none)
  refine x_zret hr ?_ hq d hc hs
  simp only [xbo, Bool.or_eq_true, beq_iff_eq] at h
  rcases h with rfl | rfl <;> decide
end SPQ

