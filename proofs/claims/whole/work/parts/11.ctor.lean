theorem vr_outer (c : ClassId) (N h0 : Nat) : ∀ i : Nat, Jvm.Free.Multi.outerC c N h0 i = arrV c N (fun j => va_rf (if j < i then some (h0 + 1 + j) else none))
  | 0 => by
    show ({ cls := c, slots := Array.replicate N .null, vm := .none } : Cell) = _
    rw [arrV_new]
    refine congrArg (arrV c N) (funext fun j => ?_)
    simp [va_rf]
  | i + 1 => by
    show (Jvm.Free.Multi.outerC c N h0 i).setSlot i (.ref (h0 + 1 + i)) = _
    rw [vr_outer c N h0 i, arrV_store]
    refine congrArg (arrV c N) (funext fun j => ?_)
    by_cases e : j = i
    · subst e
      simp [updV, va_rf]
    · by_cases h : j < i
      · simp [updV, e, h, Nat.lt_succ_of_lt h]
      · simp [updV, e, h, show ¬ j < i + 1 by omega]


/-! ===== the world while it is made: how many cells there are, the memory, which references still are null ===== -/
abbrev xPw : Type := Nat × xM × (Nat → Nat → Bool)
def xVp (C : xPw) (c i k : Nat) : Value := match xK c k i with
  | some t => if C.2.2 i k then .null else .ref t
  | none => .int (C.2.1.1 i k)
def xentp (C : xPw) (i : Nat) : va_E :=
  if xT i < 11 then .inr (xT i, (List.range (xF (xT i))).map (xVp C (xT i) i))
  else if xT i < 13 then .inl (xT i, xN i, .inl (C.2.1.1 i))
  else if xT i = 13 then .inl (13, xN i, .inr (.inl (C.2.1.2 i)))
  else .inl (xT i, xN i, .inr (.inr (.inr (.inr (fun j => if C.2.2 i j then none else some (xE i j))))))
def xwp (C : xPw) : xW := (C.1, xentp C)
/-- one cell more, with the default values -/
def cnew (C : xPw) : xPw := (C.1 + 1, (fun a b => if a = C.1 then 0 else C.2.1.1 a b, fun a b => if a = C.1 then 0 else C.2.1.2 a b), fun a b => if a = C.1 then true else C.2.2 a b)
/-- a reference is laid where it belongs -/
def cput (C : xPw) (i k : Nat) : xPw := (C.1, C.2.1, fun a b => if a = i ∧ b = k then false else C.2.2 a b)
def cwr (C : xPw) (i k : Nat) (v : Int32) : xPw := (C.1, xw C.2.1 i k v, C.2.2)
/-- rows of a new T[n][m] -/
def cmna (C : xPw) (n : Nat) : xPw := (C.1 + 1 + n, (fun a b => if C.1 ≤ a ∧ a ≤ C.1 + n then 0 else C.2.1.1 a b, fun a b => if C.1 ≤ a ∧ a ≤ C.1 + n then 0 else C.2.1.2 a b), fun a b => if a = C.1 then decide (n ≤ b) else C.2.2 a b)
/-- a copy of a table -/
def ccl (C : xPw) (f : Nat → Int32) : xPw := (C.1 + 1, (fun a b => if a = C.1 then f b else C.2.1.1 a b, fun a b => if a = C.1 then 0 else C.2.1.2 a b), C.2.2)
/-- Arrays.fill -/
def cfill (C : xPw) (a n : Nat) (v : Int32) : xPw := (C.1, (fun i k => if i = a ∧ k < n then v else C.2.1.1 i k, C.2.1.2), C.2.2)
theorem xentp_obj {C : xPw} {i c : Nat} (h : xT i = c) (hc : c < 11) : xentp C i = .inr (c, (List.range (xF c)).map (xVp C c i)) := by
  unfold xentp
  rw [h, if_pos hc]
theorem xentp_int {C : xPw} {i n : Nat} (h : xT i = 11) (hn : xN i = n) : xentp C i = .inl (11, n, .inl (C.2.1.1 i)) := by
  unfold xentp
  rw [h, hn, if_neg (by decide), if_pos (by decide)]
theorem xentp_bool {C : xPw} {i n : Nat} (h : xT i = 12) (hn : xN i = n) : xentp C i = .inl (12, n, .inl (C.2.1.1 i)) := by
  unfold xentp
  rw [h, hn, if_neg (by decide), if_pos (by decide)]
theorem xentp_long {C : xPw} {i n : Nat} (h : xT i = 13) (hn : xN i = n) : xentp C i = .inl (13, n, .inr (.inl (C.2.1.2 i))) := by
  unfold xentp
  rw [h, hn, if_neg (by decide), if_neg (by decide), if_pos rfl]
theorem xentp_ref {C : xPw} {i t n : Nat} (h : xT i = t) (hn : xN i = n) (ht : 13 < t) : xentp C i = .inl (t, n, .inr (.inr (.inr (.inr (fun j => if C.2.2 i j then none else some (xE i j)))))) := by
  unfold xentp
  rw [h, hn, if_neg (by omega), if_neg (by omega), if_neg (by omega)]
theorem xentp_ne {C C' : xPw} {i : Nat} (h1 : C'.2.1.1 i = C.2.1.1 i) (h2 : C'.2.1.2 i = C.2.1.2 i) (h3 : C'.2.2 i = C.2.2 i) : xentp C' i = xentp C i := by
  have h4 : ∀ c, xVp C' c i = xVp C c i := fun c => by
    funext k
    unfold xVp
    rw [h1, h3]
  unfold xentp
  rw [h1, h2, h3, h4]
/-- a world is what it holds at the numbers that it has -/
theorem XW.congr {G : xG} {n : Nat} {E E' : Nat → va_E} {s : State} {H : Heap} (h : ∀ i, i < n → E i = E' i) (HW : XW G (n, E) s H) : XW G (n, E') s H := by
  have e : xws G (n, E) = xws G (n, E') := by
    unfold xws
    apply List.map_congr_left
    intro i hi
    simp only
    rw [h i (List.mem_range.mp hi)]
  exact ⟨HW.1, HW.2.1, HW.2.2.1, by rw [← e]; exact HW.2.2.2.1, HW.2.2.2.2⟩
theorem XW.push {G : xG} {n : Nat} {E : Nat → va_E} {s : State} {H H1 : Heap} {e : va_E} (HW : XW G (n, E) s H) (hn : n < 191) (hz : H1.size = H.size + 1) (ho : ∀ q : Nat, q < H.size → H1[q]? = H[q]?) (hat : va_at G.1 xcl (H.size, xce G.2.1 G.2.2.1 e) H1) : XW G (n + 1, fun j => if j = n then e else E j) s H1 := by
  obtain ⟨h1, h2, h3, h4, h5, h6, h7⟩ := HW
  dsimp only at h1 h2
  refine ⟨by show H1.size = G.2.2.2 + (n + 1); omega, by show n + 1 ≤ 191; omega, h3, fun k q hq => ?_, h5, h6.kept (fun a ha _ => ho a ha), h7⟩
  have hk : k < n + 1 := by
    have := (List.getElem?_eq_some_iff.mp hq).1
    simpa [xws] using this
  rw [xws_at (w := (n + 1, fun j => if j = n then e else E j)) hk] at hq
  cases hq
  by_cases e1 : k = n
  · subst e1
    dsimp only
    rw [if_pos rfl, h3 k hn, ← h1]
    exact hat
  · have hk2 : k < n := by omega
    dsimp only
    rw [if_neg e1]
    have hold := h4 k _ (xws_at (G := G) (w := (n, E)) hk2)
    exact hold.kept (ho _ hold.lt)
theorem va_S.push {A : Nat → Prop} {H0 H H1 : Heap} {locs : List Loc} (hS : va_S A H0 H locs) (hz : H.size ≤ H1.size) (ho : ∀ q : Nat, q < H.size → H1[q]? = H[q]?) : va_S A H0 H1 locs :=
  ⟨Nat.le_trans hS.1 hz, fun x h1 h2 => (ho x (Nat.lt_of_lt_of_le h1 hS.1)).trans (hS.2.1 x h1 h2), hS.2.2⟩
/-- the world with one cell more, as 'cnew' says it -/
theorem XW_cnew {G : xG} {C : xPw} {s : State} {H H1 : Heap} {e : Nat} (HW : XW G (xwp C) s H) (he : C.1 = e) (hn : e < 191) (hz : H1.size = H.size + 1) (ho : ∀ q : Nat, q < H.size → H1[q]? = H[q]?) (hat : va_at G.1 xcl (H.size, xce G.2.1 G.2.2.1 (xentp (cnew C) e)) H1) : XW G (xwp (cnew C)) s H1 := by
  subst he
  refine XW.congr (E := fun j => if j = C.1 then xentp (cnew C) C.1 else xentp C j) (fun i hi => ?_) (XW.push (n := C.1) (E := xentp C) HW hn hz ho hat)
  by_cases h : i = C.1
  · rw [if_pos h, h]
  · rw [if_neg h]
    refine (xentp_ne ?_ ?_ ?_).symm <;> funext b <;> simp [cnew, h]


theorem arrV_congr (c : ClassId) {n : Nat} {f g : Nat → Value} (h : ∀ j, j < n → f j = g j) : arrV c n f = arrV c n g := by
  unfold arrV
  congr 1
  congr 1
  funext j
  exact h j.val j.isLt
section SPN
variable {I : xI} {α : Type} {ρ : α → Value × xW} {kc ks pc : Nat} {L : xL} {S : List Value} {X : Option α} {C : xPw}
set_option maxHeartbeats 1000000 in
theorem c_new {ci idx : Nat} (e : Nat) {Cn : String} {T : u_T} {N : Nat} {ty : Nat → FieldType} (hc : xCls ci Cn T N ty) (hcl : Cond.classLink I.1.cls idx Cn ∈ xtb) (hin : Cond.instantiable Cn N ∈ xtb) (hini : Cond.initialized Cn ∈ xtb) (hT : xT e = ci) (h1 : ci < 11) (hN : xF ci = N) (hty : ∀ k, k < N → defaultValue (ty k) = match xK ci k e with | some _ => .null | none => .int 0) (hcells : kc + 1 ≤ I.2.2.2.2.1.cells) (hslots : ks + N ≤ I.2.2.2.2.1.slots) (d : decode I.2.1 pc = .ok (.new idx, 3)) (k : SP I ρ (kc + 1) (ks + N) (pc + 3) L (.ref e :: S) (xwp (cnew C)) X) : SP I ρ kc ks pc L S (xwp C) (if C.1 = e then X else none) := by
  refine SP.ite (fun he => ?_) (fun _ => SP.none)
  intro v hX p l en s m args below meth c G H locs ls hC HW HS HL
  have hts := hC.2.2.2.2.2.2.1
  have he9 : e < 191 := xT_lt (by omega)
  have hKn := HW.2.2.2.2.1.1 ci _ hc.1
  refine W.newcK hC.1 hC.2.1 hC.2.2.2.2.2.1 (hts _ hcl) (hts _ hin) (hts _ hini) rfl d hcells hslots hKn.2.1 rfl fun H1 kC hkC e1 z1 o1 => ?_
  have HW' : XW G (xwp (cnew C)) s H1 := XW_cnew HW he he9 z1 o1 (by
    rw [xentp_obj hT h1]
    refine ⟨_, hc.1, (u_born ty hts hc.2.1 hKn hkC e1 hc.2.2.1).to fun j hj => ?_⟩
    rw [hty j hj]
    simp only [vp_V, xce, hN]
    simp only [List.getD_eq_getElem?_getD, List.getElem?_map, List.getElem?_range hj, Option.map_some, Option.getD_some]
    unfold xVp
    cases xK ci j e with
    | none => simp [cnew, he, xcv]
    | some t => simp [cnew, he, xcv])
  have ea : H.size = G.2.1 e := by rw [HW.2.2.1 e he9, ← he]; exact HW.1
  have := k v hX p l en s m args below meth c G H1 locs ls hC HW' (va_S.push HS (by omega) o1) HL
  rw [ea]
  exact this

set_option maxHeartbeats 1000000 in
theorem c_newaI (e : Nat) {n : Int32} {N : Nat} (hw : Cond.arrayClass .int ∈ xtb) (hT : xT e = 11) (hN : xN e = N) (hn : ¬ n < 0) (hn2 : n.toNatClampNeg = N) (hby : N * componentBytes .int ≤ 536870912) (hcells : kc + 1 ≤ I.2.2.2.2.1.cells) (hslots : ks + N ≤ I.2.2.2.2.1.slots) (d : decode I.2.1 pc = .ok (.newarray .int, 2)) (k : SP I ρ (kc + 1) (ks + N) (pc + 2) L (.ref e :: S) (xwp (cnew C)) X) : SP I ρ kc ks pc L (.int n :: S) (xwp C) (if C.1 = e then X else none) := by
  refine SP.ite (fun he => ?_) (fun _ => SP.none)
  intro v hX p l en s m args below meth c G H locs ls hC HW HS HL
  have hts := hC.2.2.2.2.2.2.1
  have he9 : e < 191 := xT_lt (by omega)
  refine va_newaK (atype := .int) hC.1 hC.2.1 (hts _ hw) rfl d rfl hn hn2 hby hcells hslots rfl fun H1 cA e1 z1 o1 hAr hNm => ?_
  have hcA : cA = G.2.2.1 11 := Option.some.inj (hNm.symm.trans (HW.2.2.2.2.1.2 0 _ rfl).2)
  subst hcA
  have HW' : XW G (xwp (cnew C)) s H1 := XW_cnew HW he he9 z1 o1 (by
    rw [xentp_int hT hN]
    show H1[H.size]? = some (vp_cell _ _)
    rw [e1]
    show some (arrV _ _ _) = some (arrV _ _ (fun j => Value.int ((cnew C).2.1.1 e j)))
    refine congrArg some (arrV_congr _ (fun j _ => ?_))
    simp [cnew, he, defaultValue, newarray.typeOf])
  have ea : H.size = G.2.1 e := by rw [HW.2.2.1 e he9, ← he]; exact HW.1
  have := k v hX p l en s m args below meth c G H1 locs ls hC HW' (va_S.push HS (by omega) o1) HL
  rw [ea]
  exact this
set_option maxHeartbeats 1000000 in
theorem c_newaZ (e : Nat) {n : Int32} {N : Nat} (hw : Cond.arrayClass .boolean ∈ xtb) (hT : xT e = 12) (hN : xN e = N) (hn : ¬ n < 0) (hn2 : n.toNatClampNeg = N) (hby : N * componentBytes .boolean ≤ 536870912) (hcells : kc + 1 ≤ I.2.2.2.2.1.cells) (hslots : ks + N ≤ I.2.2.2.2.1.slots) (d : decode I.2.1 pc = .ok (.newarray .boolean, 2)) (k : SP I ρ (kc + 1) (ks + N) (pc + 2) L (.ref e :: S) (xwp (cnew C)) X) : SP I ρ kc ks pc L (.int n :: S) (xwp C) (if C.1 = e then X else none) := by
  refine SP.ite (fun he => ?_) (fun _ => SP.none)
  intro v hX p l en s m args below meth c G H locs ls hC HW HS HL
  have hts := hC.2.2.2.2.2.2.1
  have he9 : e < 191 := xT_lt (by omega)
  refine va_newaK (atype := .boolean) hC.1 hC.2.1 (hts _ hw) rfl d rfl hn hn2 hby hcells hslots rfl fun H1 cA e1 z1 o1 hAr hNm => ?_
  have hcA : cA = G.2.2.1 12 := Option.some.inj (hNm.symm.trans (HW.2.2.2.2.1.2 1 _ rfl).2)
  subst hcA
  have HW' : XW G (xwp (cnew C)) s H1 := XW_cnew HW he he9 z1 o1 (by
    rw [xentp_bool hT hN]
    show H1[H.size]? = some (vp_cell _ _)
    rw [e1]
    show some (arrV _ _ _) = some (arrV _ _ (fun j => Value.int ((cnew C).2.1.1 e j)))
    refine congrArg some (arrV_congr _ (fun j _ => ?_))
    simp [cnew, he, defaultValue, newarray.typeOf])
  have ea : H.size = G.2.1 e := by rw [HW.2.2.1 e he9, ← he]; exact HW.1
  have := k v hX p l en s m args below meth c G H1 locs ls hC HW' (va_S.push HS (by omega) o1) HL
  rw [ea]
  exact this
set_option maxHeartbeats 1000000 in
theorem c_newaJ (e : Nat) {n : Int32} {N : Nat} (hw : Cond.arrayClass .long ∈ xtb) (hT : xT e = 13) (hN : xN e = N) (hn : ¬ n < 0) (hn2 : n.toNatClampNeg = N) (hby : N * componentBytes .long ≤ 536870912) (hcells : kc + 1 ≤ I.2.2.2.2.1.cells) (hslots : ks + N ≤ I.2.2.2.2.1.slots) (d : decode I.2.1 pc = .ok (.newarray .long, 2)) (k : SP I ρ (kc + 1) (ks + N) (pc + 2) L (.ref e :: S) (xwp (cnew C)) X) : SP I ρ kc ks pc L (.int n :: S) (xwp C) (if C.1 = e then X else none) := by
  refine SP.ite (fun he => ?_) (fun _ => SP.none)
  intro v hX p l en s m args below meth c G H locs ls hC HW HS HL
  have hts := hC.2.2.2.2.2.2.1
  have he9 : e < 191 := xT_lt (by omega)
  refine va_newaK (atype := .long) hC.1 hC.2.1 (hts _ hw) rfl d rfl hn hn2 hby hcells hslots rfl fun H1 cA e1 z1 o1 hAr hNm => ?_
  have hcA : cA = G.2.2.1 13 := Option.some.inj (hNm.symm.trans (HW.2.2.2.2.1.2 2 _ rfl).2)
  subst hcA
  have HW' : XW G (xwp (cnew C)) s H1 := XW_cnew HW he he9 z1 o1 (by
    rw [xentp_long hT hN]
    show H1[H.size]? = some (vp_cell _ _)
    rw [e1]
    show some (arrV _ _ _) = some (arrV _ _ (fun j => Value.long ((cnew C).2.1.2 e j)))
    refine congrArg some (arrV_congr _ (fun j _ => ?_))
    simp [cnew, he, defaultValue, newarray.typeOf])
  have ea : H.size = G.2.1 e := by rw [HW.2.2.1 e he9, ← he]; exact HW.1
  have := k v hX p l en s m args below meth c G H1 locs ls hC HW' (va_S.push HS (by omega) o1) HL
  rw [ea]
  exact this

set_option maxHeartbeats 1000000 in
theorem c_newq (e t t0 : Nat) {n : Int32} {N idx : Nat} {Cn : String} (hcl : Cond.classLink I.1.cls idx Cn ∈ xtb) (hov : Cond.arrayOver (.object Cn) ∈ xnt) (hT : xT e = t) (ht : 13 < t ∧ t < 99) (htys : ∀ cA : Nat → ClassId, (xtys cA)[t0]? = some (cA t, .object Cn)) (hN : xN e = N) (hn : ¬ n < 0) (hn2 : n.toNatClampNeg = N) (hby : N * 4 ≤ 536870912) (hcells : kc + 1 ≤ I.2.2.2.2.1.cells) (hslots : ks + N ≤ I.2.2.2.2.1.slots) (d : decode I.2.1 pc = .ok (.anewarray idx, 3)) (k : SP I ρ (kc + 1) (ks + N) (pc + 3) L (.ref e :: S) (xwp (cnew C)) X) : SP I ρ kc ks pc L (.int n :: S) (xwp C) (if C.1 = e then X else none) := by
  refine SP.ite (fun he => ?_) (fun _ => SP.none)
  intro v hX p l en s m args below meth c G H locs ls hC HW HS HL
  have hts := hC.2.2.2.2.2.2.1
  have he9 : e < 191 := xT_lt (by omega)
  subst hn2
  refine W.anew hC.1 hC.2.1 hC.2.2.2.2.2.1 (hts _ hcl) (show Cond.before _ args s = true from HW.2.2.2.2.2.2 _ hov) rfl d rfl hn hby hcells hslots fun cA kA comp f1 f2 f3 f4 => ?_
  generalize hH1 : H.push ({ cls := cA, slots := Array.replicate n.toNatClampNeg .null, vm := .none } : Cell) = H1
  have z1 : H1.size = H.size + 1 := by rw [← hH1, Array.size_push]
  have e1 : H1[H.size]? = some (arrV cA n.toNatClampNeg (fun _ => .null)) := by rw [← hH1, Array.getElem?_push_size, ← arrV_new]
  have o1 : ∀ q : Nat, q < H.size → H1[q]? = H[q]? := fun q hq => by rw [← hH1, Array.getElem?_push, if_neg (Nat.ne_of_lt hq)]
  have hcA : cA = G.2.2.1 t := by
    obtain ⟨-, -, -, -, -, h9⟩ := (HW.2.2.2.2.1.2 t0 _ (htys G.2.2.1)).2
    exact Option.some.inj (f1.symm.trans h9)
  subst hcA
  have HW' : XW G (xwp (cnew C)) s H1 := XW_cnew HW he he9 z1 o1 (by
    rw [xentp_ref hT hN ht.1]
    show H1[H.size]? = some (vp_cell _ _)
    rw [e1]
    show some (arrV _ _ _) = some (arrV _ _ (fun j => va_rf (((if (cnew C).2.2 e j then none else some (xE e j)) : Option Nat).map G.2.1)))
    refine congrArg some (arrV_congr _ (fun j _ => ?_))
    simp [cnew, he, va_rf])
  have ea : H.size = G.2.1 e := by rw [HW.2.2.1 e he9, ← he]; exact HW.1
  have := k v hX p l en s m args below meth c G H1 locs ls hC HW' (va_S.push HS (by omega) o1) HL
  rw [ea]
  exact this
/-- fields of references: read, laid -/
theorem c_getR {ci idx i t : Nat} {Cn : String} {T : u_T} {N : Nat} {ty : Nat → FieldType} (hc : xCls ci Cn T N ty) (kf : Nat) (hf : xFl I.1.cls idx Cn T kf) (hT : xT i = ci) (h1 : ci < 11) (hN : xF ci = N) (hkf : kf < N) (hk : xK ci kf i = some t) (d : decode I.2.1 pc = .ok (.getfield idx, 3)) (k : SP I ρ kc ks (pc + 3) L (.ref t :: S) (xwp C) X) : SP I ρ kc ks pc L (.ref i :: S) (xwp C) (if i < C.1 ∧ C.2.2 i kf = false then X else none) :=
  SP.ite (fun h => g_get hc kf hf hkf h.1 (xentp_obj hT h1) (by simp [hN, hkf, xVp, hk, h.2]) d k) (fun _ => SP.none)
theorem cset_of {C C' : xPw} {i : Nat} {e : va_E} (h0 : C'.1 = C.1) (he : xentp C' i = e) (h1 : ∀ a, a ≠ i → C'.2.1.1 a = C.2.1.1 a) (h2 : ∀ a, a ≠ i → C'.2.1.2 a = C.2.1.2 a) (h3 : ∀ a, a ≠ i → C'.2.2 a = C.2.2 a) : xset (xwp C) i e = xwp C' := by
  unfold xset xwp
  rw [h0]
  congr 1
  funext j
  by_cases hj : j = i
  · subst hj
    rw [if_pos rfl, he]
  · rw [if_neg hj]
    exact (xentp_ne (h1 j hj) (h2 j hj) (h3 j hj)).symm
theorem cput_fs {ci i kf t N : Nat} (hN : xF ci = N) (hk : xK ci kf i = some t) : (List.range N).map (xVp (cput C i kf) ci i) = ((List.range N).map (xVp C ci i)).set kf (.ref t) := by
  apply List.ext_getElem?
  intro j
  by_cases hj : j < N
  · by_cases hjk : j = kf
    · subst hjk
      rw [List.getElem?_set_self (by simpa using hj)]
      simp [hj, xVp, hk, cput]
    · rw [List.getElem?_set_ne (Ne.symm hjk)]
      have e : xVp (cput C i kf) ci i j = xVp C ci i j := by
        unfold xVp
        split <;> first | rfl | simp [cput, hjk]
      simp [hj, e]
  · rw [List.getElem?_eq_none (by simp; omega), List.getElem?_eq_none (by simp; omega)]
theorem cwr_fs {ci i kf N : Nat} {v : Int32} (hN : xF ci = N) (hk : xK ci kf i = none) : (List.range N).map (xVp (cwr C i kf v) ci i) = ((List.range N).map (xVp C ci i)).set kf (.int v) := by
  apply List.ext_getElem?
  intro j
  by_cases hj : j < N
  · by_cases hjk : j = kf
    · subst hjk
      rw [List.getElem?_set_self (by simpa using hj)]
      simp [hj, xVp, hk, cwr, xw]
    · rw [List.getElem?_set_ne (Ne.symm hjk)]
      have e : xVp (cwr C i kf v) ci i j = xVp C ci i j := by
        unfold xVp
        split <;> first | rfl | simp [cwr, xw, hjk]
      simp [hj, e]
  · rw [List.getElem?_eq_none (by simp; omega), List.getElem?_eq_none (by simp; omega)]
theorem c_putI {ci idx i : Nat} {Cn : String} {T : u_T} {N : Nat} {ty : Nat → FieldType} {v : Int32} (hc : xCls ci Cn T N ty) (kf : Nat) (hf : xFl I.1.cls idx Cn T kf) (hT : xT i = ci) (h1 : ci < 11) (hN : xF ci = N) (hkf : kf < N) (hk : xK ci kf i = none) (hfin : (T kf).2.2.2 = false) (hty : ty kf = .int) (d : decode I.2.1 pc = .ok (.putfield idx, 3)) (k : SP I ρ kc ks (pc + 3) L S (xwp (cwr C i kf v)) X) : SP I ρ kc ks pc L (.int v :: .ref i :: S) (xwp C) (if i < C.1 then X else none) := by
  refine SP.ite (fun h => ?_) (fun _ => SP.none)
  refine g_put hc kf hf hkf h (xentp_obj hT h1) (by simp [hN, hkf]) hfin (fun ad => by rw [hty]; rfl) (fun ad => by rw [hty]; rfl) d ?_
  rw [cset_of (C := C) (C' := cwr C i kf v) rfl (by rw [xentp_obj hT h1, hN, cwr_fs hN hk]) (fun a h => xw_ne (M := C.2.1) h) (fun _ _ => rfl) (fun _ _ => rfl)]
  exact k
theorem c_iast {i n : Nat} {j x : Int32} (hT : xT i = 11) (hn : xN i = n) (d : decode I.2.1 pc = .ok (.iastore, 1)) (k : xinb j n = true → SP I ρ kc ks (pc + 1) L S (xwp (cwr C i j.toNatClampNeg x)) X) : SP I ρ kc ks pc L (.int x :: .int j :: .ref i :: S) (xwp C) (if i < C.1 then (if xinb j n = true then X else none) else none) := by
  refine SP.ite (fun h => ?_) (fun _ => SP.none)
  refine g_iast h (xentp_int hT hn) d (fun h => ?_)
  rw [cset_of (C := C) (C' := cwr C i j.toNatClampNeg x) rfl (by
    rw [xentp_int hT hn]
    have e9 : (cwr C i j.toNatClampNeg x).2.1.1 i = upd (C.2.1.1 i) j.toNatClampNeg x := by
      funext b
      simp [cwr, xw, upd]
    rw [e9]) (fun a h => xw_ne (M := C.2.1) h) (fun _ _ => rfl) (fun _ _ => rfl)]
  exact k h
theorem c_alen {i n : Nat} {a : Int32} (hT : xT i = 11) (hn : xN i = n) (ha : Int32.ofNat n = a) (d : decode I.2.1 pc = .ok (.arraylength, 1)) (k : SP I ρ kc ks (pc + 1) L (.int a :: S) (xwp C) X) : SP I ρ kc ks pc L (.ref i :: S) (xwp C) (if i < C.1 then X else none) :=
  SP.ite (fun h => g_alen (t0 := 0) h (xentp_int hT hn) (fun _ => rfl) ha d k) (fun _ => SP.none)
theorem c_aald {i t n t0 q : Nat} {ty : FieldType} {j : Int32} (hT : xT i = t) (h1 : 13 < t ∧ t < 99) (hn : xN i = n) (ht : ∀ cA : Nat → ClassId, (xtys cA)[t0]? = some (cA t, ty)) (hr : ty.isReference = true) (hq : xE i j.toNatClampNeg = q) (d : decode I.2.1 pc = .ok (.aaload, 1)) (k : SP I ρ kc ks (pc + 1) L (.ref q :: S) (xwp C) X) : SP I ρ kc ks pc L (.int j :: .ref i :: S) (xwp C) (if i < C.1 ∧ C.2.2 i j.toNatClampNeg = false then (if xinb j n = true then X else none) else none) :=
  SP.ite (fun h => g_aald h.1 (xentp_ref hT hn h1.1) ht hr d (fun _ => by rw [h.2, hq]; rfl) (fun _ => k)) (fun _ => SP.none)
set_option maxHeartbeats 1000000 in
/-- a final field of references is laid, in the constructor -/
theorem c_putR {ci idx i t : Nat} {Cn : String} {T : u_T} {N : Nat} {ty : Nat → FieldType} (hc : xCls ci Cn T N ty) (kf : Nat) (hf : Cond.fieldLink I.1.cls idx Cn (T kf).2.1 (T kf).2.2.1 ∈ xtb) (hT : xT i = ci) (h1 : ci < 11) (hN : xF ci = N) (hkf : kf < N) (hk : xK ci kf i = some t) (hfin : (T kf).2.2.2 = true) (hdecl : (T kf).1 = I.1.cls) (hnm : I.1.name = "<init>") (hn : ∀ a, narrow (ty kf) (.ref a) = .ref a) (hfit : ∀ a, fits (ty kf) (.ref a) = true) (d : decode I.2.1 pc = .ok (.putfield idx, 3)) (k : SP I ρ kc ks (pc + 3) L S (xwp (cput C i kf)) X) : SP I ρ kc ks pc L (.ref t :: .ref i :: S) (xwp C) (if i < C.1 then X else none) := by
  refine SP.ite (fun hi => ?_) (fun _ => SP.none)
  intro v hX p l en s m args below meth c G H locs ls hC HW HS HL
  have hE := xentp_obj (C := C) hT h1
  have he : (xws G (xwp C))[i]? = some (G.2.1 i, .inr (ci, ((List.range (xF ci)).map (xVp C ci i)).map (xcv G.2.1))) := by
    rw [xws_at (w := xwp C) hi]
    show some (G.2.1 i, xce _ _ (xentp C i)) = _
    rw [hE]
    rfl
  have hs : ∀ x, s.fieldFound? (T kf).1 (T kf).2.1 (T kf).2.2.1 = some x → s.fieldFound? Cn (T kf).2.1 (T kf).2.2.1 = some x := by rw [hc.2.2.2.2 kf hkf]; exact fun _ h => h
  have hts := hC.2.2.2.2.2.2.1
  have hap := va_apart (own := I.1.cls) hts hc.2.1 ty hc.2.2.1 hc.2.2.2.1 HW.2.2.2.2.1 hc.1
  obtain ⟨r, h1', cell, q1, q2, q3, q4⟩ := HW.2.2.2.1 i _ he
  have hr : r = (Cn, T, N) := Option.some.inj ((show xcl[ci]? = some r from h1').symm.trans hc.1)
  subst hr
  obtain ⟨hS, hfc, kC, hkC, hkind⟩ := HW.2.2.2.2.1.1 ci _ hc.1
  obtain ⟨cf, kf2, fi, f, hi2, hsl⟩ := hS kf hkf
  have hlay := hts _ (hc.2.1 _ (u_in_lay hkf))
  unfold u_lay at hlay
  rw [if_pos hfin] at hlay
  have hst := (u_facts hfc hkC (u_lays hts hc.2.1 hkf) hi2).1
  have hcf : m.cls = cf := by
    obtain ⟨_, _, c', _, _, _, -, -, hf', -, -, -, hown2, -⟩ := Cond.laysFinal_spec hlay
    have e1 : c' = cf := by have := hi2.symm.trans hf'; simp at this; exact this.1.symm
    rw [hdecl] at hown2
    rw [← e1]; exact Option.some.inj (hC.2.2.2.2.2.1.symm.trans hown2)
  have h6 := u_fits hfc hkC hkind (Or.inr hlay) hi2 (hc.2.2.1 kf hkf) (hn (G.2.1 t)) (hfit (G.2.1 t))
  refine W.putFinK hC.1 hC.2.1 hC.2.2.2.2.2.1 (hts _ hf) (hs _ hi2) hst hcf (hC.2.2.2.2.2.2.2.1.trans hnm) (by rw [q2]; exact h6) q1 q3 (by rw [hsl]; exact k2_hasslot (q4 kf hkf)) rfl rfl d fun H' e1 e2 e3 => ?_
  rw [hsl] at e1 ⊢
  have key := XW.put (w := xwp C) (e := .inr (ci, ((List.range (xF ci)).map (xVp C ci i)).set kf (.ref t))) (j := (G.1.2 ci) kf) HW HS hi e2 e3 (by
    show ∃ r : vw_C, xcl[ci]? = some r ∧ t_OB (G.2.1 i) _ _ _ H' (vp_V ((((List.range (xF ci)).map (xVp C ci i)).set kf (.ref t)).map (xcv G.2.1)))
    refine ⟨_, hc.1, t_OB.to (V := updV (vp_V (((List.range (xF ci)).map (xVp C ci i)).map (xcv G.2.1))) kf (.ref (G.2.1 t))) ⟨_, e1, q2, q3, t_set q4 hap hkf _⟩ (fun j _ => ?_)⟩
    rw [List.map_set]
    exact vp_updV_set (by simp [hN, hkf]) _ j)
  rw [cset_of (C := C) (C' := cput C i kf) rfl (by rw [xentp_obj hT h1, hN, cput_fs hN hk]) (fun _ _ => rfl) (fun _ _ => rfl) (fun a h => by funext b; simp [cput, h])] at key
  exact k v hX p l en s m args below meth c G H' _ ls hC key.1 key.2 HL
set_option maxHeartbeats 1000000 in
/-- an element of an array of references -/
theorem c_aast {ci i n t t0 q : Nat} {Cn : String} {T : u_T} {N : Nat} {ty : Nat → FieldType} {j : Int32} (hc : xCls ci Cn T N ty) (h1 : ci < 11) (hT : xT i = t) (ht : 13 < t ∧ t < 99) (hn : xN i = n) (htys : ∀ cA : Nat → ClassId, (xtys cA)[t0]? = some (cA t, .object Cn)) (hTq : xT q = ci) (hq : xE i j.toNatClampNeg = q) (d : decode I.2.1 pc = .ok (.aastore, 1)) (k : SP I ρ kc ks (pc + 1) L S (xwp (cput C i j.toNatClampNeg)) X) : SP I ρ kc ks pc L (.ref q :: .int j :: .ref i :: S) (xwp C) (if i < C.1 ∧ q < C.1 ∧ xinb j n = true then X else none) := by
  refine SP.ite (fun hi => ?_) (fun _ => SP.none)
  intro v hX p l en s m args below meth c G H locs ls hC HW HS HL
  have hin := xinb_in hi.2.2
  have hlt : j.toNatClampNeg < n := Nat.not_le.mp fun q => hin (Or.inr q)
  have h0 : ¬ j < 0 := fun q => hin (Or.inl q)
  have hA : (xws G (xwp C))[i]? = some (G.2.1 i, .inl (G.2.2.1 t, n, .inr (.inr (.inr (.inr (fun j => ((if C.2.2 i j then none else some (xE i j)) : Option Nat).map G.2.1)))))) := by
    rw [xws_at (w := xwp C) hi.1]
    show some (G.2.1 i, xce _ _ (xentp C i)) = _
    rw [xentp_ref hT hn ht.1]
    rfl
  have hV : (xws G (xwp C))[q]? = some (G.2.1 q, .inr (ci, ((List.range (xF ci)).map (xVp C ci q)).map (xcv G.2.1))) := by
    rw [xws_at (w := xwp C) hi.2.1]
    show some (G.2.1 q, xce _ _ (xentp C q)) = _
    rw [xentp_obj hTq h1]
    rfl
  obtain ⟨r', hr', cellV, g1, g2, g3, -⟩ := HW.2.2.2.1 q _ hV
  have hcls := (HW.2.2.2.2.1.1 ci _ hc.1).2
  obtain ⟨kA, comp, k1, k2, k3, -⟩ := (HW.2.2.2.2.1.2 t0 _ (htys G.2.2.1)).2
  have hcomp : comp = G.1.1 ci := Option.some.inj (k3.symm.trans hcls.1)
  subst hcomp
  obtain ⟨kC, hkC, -⟩ := hcls.2
  refine W.aast hC.1 hC.2.1 (HW.2.2.2.1 i _ hA) (fun q h => by cases h) (fun h => by cases h) k1 k2 rfl hkC ⟨h0, by show _ < (arrV _ _ _).slots.size; rw [arrV_size]; exact hlt⟩ g1 (fun q h => by rw [g3] at h; cases h) (by rw [g2]; exact hkC) (by rw [g2]; exact va_assign hcls) rfl rfl d fun H1 e9 z oq => ?_
  have key := XW.put (w := xwp C) (e := xentp (cput C i j.toNatClampNeg) i) (j := j.toNatClampNeg) HW HS hi.1 z oq (by
    rw [xentp_ref hT hn ht.1]
    show H1[G.2.1 i]? = some (arrV _ _ (fun b => va_rf (((if (cput C i j.toNatClampNeg).2.2 i b then none else some (xE i b)) : Option Nat).map G.2.1)))
    rw [e9]
    show some ((arrV _ _ _).setSlot _ _) = _
    rw [arrV_store]
    refine congrArg some (arrV_congr _ (fun b _ => ?_))
    by_cases hb : b = j.toNatClampNeg
    · subst hb
      simp [updV, cput, va_rf, hq]
    · simp [updV, cput, va_rf, hb])
  rw [cset_of (C := C) (C' := cput C i j.toNatClampNeg) rfl rfl (fun _ _ => rfl) (fun _ _ => rfl) (fun a h => by funext b; simp [cput, h])] at key
  exact k v hX p l en s m args below meth c G H1 _ ls hC key.1 key.2 HL
set_option maxHeartbeats 1000000 in
/-- new int[n][k] -/
theorem c_mna (e : Nat) {n k0 : Int32} {N K0 idx : Nat} (hcl : Cond.classLink I.1.cls idx ("[" ++ (FieldType.array .int).toString) ∈ xtb) (hov : Cond.arrayOver (.array .int) ∈ xnt) (hac : Cond.arrayClass .int ∈ xtb) (hT : xT e = 16) (hN : xN e = N) (hTi : ∀ j, j < N → xT (e + 1 + j) = 11 ∧ xN (e + 1 + j) = K0) (hn : ¬ n < 0) (hk : ¬ k0 < 0) (hn2 : n.toNatClampNeg = N) (hk2 : k0.toNatClampNeg = K0) (hb1 : N * 4 ≤ 536870912) (hb2 : K0 * componentBytes .int ≤ 536870912) (hb3 : K0 ≤ 536870912) (hbk : xBk e) (he9 : e + N < 191) (hcells : kc + (1 + N) ≤ I.2.2.2.2.1.cells) (hslots : ks + (N + N * K0) ≤ I.2.2.2.2.1.slots) (d : decode I.2.1 pc = .ok (.multianewarray idx 2, 4)) (k : SP I ρ (kc + 1 + N) (ks + N + N * K0) (pc + 4) L (.ref e :: S) (xwp (cmna C N)) X) : SP I ρ kc ks pc L (.int k0 :: .int n :: S) (xwp C) (if C.1 = e then X else none) := by
  refine SP.ite (fun he => ?_) (fun _ => SP.none)
  intro v hX p l en s m args below meth c G H locs ls hC HW HS HL
  have hts := hC.2.2.2.2.2.2.1
  subst hn2
  subst hk2
  intro T hTh0 Xs
  obtain ⟨vm₁, cA, comp, -, fA, fC, hO, -, X', step⟩ := Jvm.Stand.multianewarray2F Xs hC.1 hC.2.2.2.2.2.1 (hts _ hcl) (show Cond.before _ args s = true from HW.2.2.2.2.2.2 _ hov) (hts _ hac) (g := F0 m pc ls (.int k0 :: .int n :: S.map (xcv G.2.1))) rfl (by rw [hC.2.1]; exact d) rfl hn hk hb1 hb2 hb3 rfl rfl hcells hslots
  have hcA : cA = G.2.2.1 16 := Option.some.inj (fA.symm.trans (HW.2.2.2.2.1.2 5 _ rfl).2)
  have hcI : comp = G.2.2.1 11 := Option.some.inj (fC.symm.trans (HW.2.2.2.2.1.2 0 _ rfl).2)
  subst hcA
  subst hcI
  generalize hF : Jvm.Free.Multi.fill (T.setVm vm₁) (G.2.2.1 16) (G.2.2.1 11) n.toNatClampNeg k0.toNatClampNeg (defaultValue .int) n.toNatClampNeg = F at X' step
  have hTh : (T.setVm vm₁).heap = H := hTh0
  obtain ⟨f1, f2, -, -⟩ := Jvm.Free.Multi.fill_facts (T.setVm vm₁) (G.2.2.1 16) (G.2.2.1 11) n.toNatClampNeg k0.toNatClampNeg (defaultValue .int) n.toNatClampNeg
  rw [hF, hTh] at f1 f2
  have hold : ∀ x : Nat, x < H.size → F.heap[x]? = H[x]? := fun x hx => by
    have := Jvm.Free.Multi.fill_old (T.setVm vm₁) (G.2.2.1 16) (G.2.2.1 11) n.toNatClampNeg k0.toNatClampNeg (defaultValue .int) (a := x) (by rw [hTh]; exact hx) n.toNatClampNeg
    rw [hF, hTh] at this
    exact this
  have hrow : ∀ j : Nat, j < n.toNatClampNeg → F.heap[H.size + 1 + j]? = some (arrV (G.2.2.1 11) k0.toNatClampNeg (fun _ => .int 0)) := fun j hj => by
    have := Jvm.Free.Multi.fill_inner (T.setVm vm₁) (G.2.2.1 16) (G.2.2.1 11) n.toNatClampNeg k0.toNatClampNeg (defaultValue .int) n.toNatClampNeg j hj
    rw [hF, hTh] at this
    rw [this]
    exact congrArg some (arrV_new _ _ _)
  rw [vr_outer] at f2
  have hsz : H.size = G.2.2.2 + e := by rw [← he]; exact HW.1
  have HW' : XW G (xwp (cmna C n.toNatClampNeg)) s F.heap := by
    refine ⟨?_, ?_, HW.2.2.1, fun a q hq => ?_, HW.2.2.2.2.1, HW.2.2.2.2.2.1.kept (fun a ha _ => hold a ha), HW.2.2.2.2.2.2⟩
    · show F.heap.size = G.2.2.2 + (C.1 + 1 + n.toNatClampNeg)
      rw [f1]
      omega
    · show C.1 + 1 + n.toNatClampNeg ≤ 191
      omega
    · have ha : a < C.1 + 1 + n.toNatClampNeg := by
        have := (List.getElem?_eq_some_iff.mp hq).1
        simpa [xws, xwp, cmna] using this
      rw [xws_at (w := xwp (cmna C n.toNatClampNeg)) ha] at hq
      cases hq
      have had := HW.2.2.1 a (by omega)
      rcases Nat.lt_trichotomy a C.1 with hlt | heq | hgt
      · have e9 : xentp (cmna C n.toNatClampNeg) a = xentp C a := by
          refine xentp_ne ?_ ?_ ?_ <;> funext b
          · simp [cmna]; omega
          · simp [cmna]; omega
          · have : ¬ a = C.1 := by omega
            simp [cmna, this]
        have hO9 := HW.2.2.2.1 a _ (xws_at (G := G) (w := xwp C) hlt)
        show va_at G.1 xcl (G.2.1 a, xce _ _ (xentp (cmna C n.toNatClampNeg) a)) _
        rw [e9]
        exact hO9.kept (hold _ hO9.lt)
      · subst heq
        show va_at G.1 xcl (G.2.1 C.1, xce _ _ (xentp (cmna C n.toNatClampNeg) C.1)) _
        rw [he, xentp_ref hT hN (by decide)]
        show F.heap[G.2.1 e]? = some (arrV _ _ (fun b => va_rf (((if (cmna C n.toNatClampNeg).2.2 e b then none else some (xE e b)) : Option Nat).map G.2.1)))
        have e2 : G.2.1 e = H.size := by rw [hsz]; exact HW.2.2.1 e (by omega)
        rw [e2, f2]
        refine congrArg some (arrV_congr _ (fun b hb => ?_))
        have e3 : G.2.1 (e + 1 + b) = H.size + 1 + b := by rw [hsz, HW.2.2.1 (e + 1 + b) (by omega)]; omega
        have e4 : ¬ n.toNatClampNeg ≤ b := by omega
        rw [if_pos hb]
        simp [cmna, he, e4, va_rf, xE_bk hbk, e3]
      · obtain ⟨j, rfl⟩ : ∃ j, a = C.1 + 1 + j := ⟨a - C.1 - 1, by omega⟩
        have hj : j < n.toNatClampNeg := by omega
        show va_at G.1 xcl (G.2.1 (C.1 + 1 + j), xce _ _ (xentp (cmna C n.toNatClampNeg) (C.1 + 1 + j))) _
        rw [had]
        rw [he, xentp_int (hTi j hj).1 (hTi j hj).2]
        show F.heap[G.2.2.2 + (e + 1 + j)]? = some (arrV _ _ (fun b => .int ((cmna C n.toNatClampNeg).2.1.1 (e + 1 + j) b)))
        have e2 : G.2.2.2 + (e + 1 + j) = H.size + 1 + j := by omega
        rw [e2, hrow j hj]
        refine congrArg some (arrV_congr _ (fun b hb => ?_))
        have e4 : C.1 ≤ e + 1 + j ∧ e + 1 + j ≤ C.1 + n.toNatClampNeg := by omega
        simp [cmna, e4]
  obtain ⟨t, a1, b1⟩ := k v hX p l en s m args below meth c G F.heap locs ls hC HW' (va_S.push HS (by rw [f1]; omega) hold) HL F rfl X'
  refine ⟨t, step t ?_, b1⟩
  have e1 : T.heap.size = G.2.1 e := by rw [hTh0, hsz]; exact (HW.2.2.1 e (by omega)).symm
  rw [e1]
  exact a1
end SPN

