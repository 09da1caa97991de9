
/-! ===== the judgement SP: a method's walk from a program counter, over a world of numbered cells; what is said is closed (no machine in it) ===== -/
/-- the tables' words that stay -/
def xtb : List Cond := lw_tbl.filter goodWord
/-- the words on a nest mate's private members -/
def xisN (w : Cond) : Bool := match w with
  | .fieldLinkNest _ _ _ _ _ _ => true
  | .methodLinkNest _ _ _ _ => true
  | .castable _ _ => true
  | .arrayOver _ => true
  | _ => false
def xnt : List Cond := lw_tbl.filter xisN
def xNs (U : State) : Prop := ∀ w ∈ xnt, va_Nw w U
theorem xAO_moved {ty : FieldType} {s U : State} (h : s.vm.Alike U.vm) (h1 : va_Nw (.arrayOver ty) s) : va_Nw (.arrayOver ty) U := by
  show (Cond.arrayOver ty).before #[] (s.setVm U.vm) = true
  rw [Cond.arrayOver_setVmC h]
  exact h1
theorem xNs.warm {s U : State} (hW : s.WarmedH U.vm) (h : xNs s) : xNs U := by
  intro w hw
  have h1 := h w hw
  have h2 : xisN w = true := (List.mem_filter.mp hw).2
  cases w <;> first | exact va_Nw.warmF hW h1 | exact va_Nw.warmM hW h1 | exact va_Nw.warmC hW h1 | exact xAO_moved hW.alike h1 | exact absurd h2 (by simp [xisN])
theorem xNs.same {u U : State} (hvm : u.vm = U.vm) (h : xNs u) : xNs U := by
  intro w hw
  have h1 := h w hw
  have h2 : xisN w = true := (List.mem_filter.mp hw).2
  cases w <;> first | exact va_Nw.same rfl hvm h1 | exact xAO_moved (by rw [hvm]; exact Vm.Alike.refl _) h1 | exact absurd h2 (by simp [xisN])
abbrev xW : Type := Nat × (Nat → va_E)
abbrev xI : Type := MethodName × ByteArray × Nat × Option FieldType × Room × Option (Nat × (Nat → Int32))
abbrev xG : Type := va_G × (Nat → Nat) × (Nat → ClassId) × Nat
abbrev xL : Type := List (Option Value)
def xcv (ad : Nat → Nat) (v : Value) : Value := match v with
  | .int a => .int a
  | .long a => .long a
  | .float a => .float a
  | .double a => .double a
  | .null => .null
  | .ref i => .ref (ad i)
  | .retAddr a => .retAddr a
theorem xcv_cat (ad : Nat → Nat) (v : Value) : (xcv ad v).category = v.category := by cases v <;> rfl
def xce (ad : Nat → Nat) (cA : Nat → ClassId) (e : va_E) : va_E := match e with
  | .inl (t, n, .inl f) => .inl (cA t, n, .inl f)
  | .inl (t, n, .inr (.inl f)) => .inl (cA t, n, .inr (.inl f))
  | .inl (t, n, .inr (.inr (.inl f))) => .inl (cA t, n, .inr (.inr (.inl f)))
  | .inl (t, n, .inr (.inr (.inr (.inl f)))) => .inl (cA t, n, .inr (.inr (.inr (.inl f))))
  | .inl (t, n, .inr (.inr (.inr (.inr f)))) => .inl (cA t, n, .inr (.inr (.inr (.inr (fun j => (f j).map ad)))))
  | .inr (c, fs) => .inr (c, fs.map (xcv ad))
def xws (G : xG) (w : xW) : va_W := (List.range w.1).map (fun i => (G.2.1 i, xce G.2.1 G.2.2.1 (w.2 i)))
def xtys (cA : Nat → ClassId) : List (ClassId × FieldType) := [(cA 11, .int), (cA 12, .boolean), (cA 13, .long), (cA 14, .object RX7), (cA 15, .object RX8), (cA 16, .array .int)]
abbrev xcl : List vw_C := [(RX0, TX0, 7), (RX1, TX1, 4), (RX2, TX2, 3), (RX3, TX3, 4), (RX4, TX4, 2), (RX5, TX5, 2), (RX6, TX6, 5), (RX7, TX7, 9), (RX8, TX8, 2), (RX9, TX9, 5), (RX10, TX10, 26)]
def xA (G : xG) : Nat → Prop := fun q => G.2.2.2 ≤ q
def xRF (j : Nat) : Int32 := ([2000, 4, 10, 20, 1, 0, 0, 0, 0, 0, 0, 0] : List Int32).getD j 0
def xRL (j : Nat) : Int32 := ([0, 0, 1, 0, 0, 0, 0, 0, 0, 0, 0, 0] : List Int32).getD j 0
def xRM (j : Nat) : Int32 := ([5000, 200, 5000, 100, 1000, 1000, 1000, 1000, 1000, 1000, 1000, 1000] : List Int32).getD j 0
/-- the table that is cloned: all of its cell -/
def xEx (G : xG) (U : State) (H : Heap) : Prop := ∃ cell : Cell, H[G.2.1 200]? = some cell ∧ U.vm.findClass "[I" = some cell.cls ∧ cell.vm ≠ .unknown ∧ cell.vm.isStatics = false ∧ cell.slots = Array.ofFn (n := 12) (fun j => Value.int (xRF j.val)) ∧ ¬ xA G (G.2.1 200)
theorem xEx.moved {G : xG} {u U : State} {H : Heap} (hvm : u.vm.Alike U.vm) (h : xEx G u H) : xEx G U H := by
  obtain ⟨cell, h1, h2, h3⟩ := h
  exact ⟨cell, h1, by rw [hvm.findClass]; exact h2, h3⟩
theorem xEx.kept {G : xG} {U : State} {H H1 : Heap} (h : xEx G U H) (hq : ∀ a : Nat, a < H.size → ¬ xA G a → H1[a]? = H[a]?) : xEx G U H1 := by
  obtain ⟨cell, h1, h2, h3, h4, h5, h6⟩ := h
  exact ⟨cell, by rw [hq _ (Array.getElem?_eq_some_iff.mp h1).1 h6]; exact h1, h2, h3, h4, h5, h6⟩
/-- the static tables -/
def xSt (G : xG) (U : State) (H : Heap) : Prop :=
  (va_Z RX9 "RULES_AT_FIRST" "[I" (.ref (G.2.1 200)) (xA G) U H ∧ va_T .int (G.2.1 200) 12 (fun j => .int (xRF j)) (xA G) U H ∧ xEx G U H) ∧
  (va_Z RX9 "RULES_LEAST" "[I" (.ref (G.2.1 201)) (xA G) U H ∧ va_T .int (G.2.1 201) 12 (fun j => .int (xRL j)) (xA G) U H) ∧
  (va_Z RX9 "RULES_MOST" "[I" (.ref (G.2.1 202)) (xA G) U H ∧ va_T .int (G.2.1 202) 12 (fun j => .int (xRM j)) (xA G) U H)
/-- the world w stands in the heap -/
def XW (G : xG) (w : xW) (U : State) (H : Heap) : Prop :=
  H.size = G.2.2.2 + w.1 ∧ w.1 ≤ 191 ∧ (∀ i, i < 191 → G.2.1 i = G.2.2.2 + i) ∧ va_P G.1 xcl (xws G w) H ∧ va_K G.1 xcl (xtys G.2.2.1) U ∧ xSt G U H ∧ xNs U
theorem xSt.moved {G : xG} {u U : State} {H : Heap} (hvm : u.vm.Alike U.vm) (h : xSt G u H) : xSt G U H :=
  ⟨⟨va_Z.moved hvm h.1.1, va_T.moved hvm h.1.2.1, h.1.2.2.moved hvm⟩, ⟨va_Z.moved hvm h.2.1.1, va_T.moved hvm h.2.1.2⟩, ⟨va_Z.moved hvm h.2.2.1, va_T.moved hvm h.2.2.2⟩⟩
theorem xSt.kept {G : xG} {U : State} {H H1 : Heap} (h : xSt G U H) (hq : ∀ a : Nat, a < H.size → ¬ xA G a → H1[a]? = H[a]?) : xSt G U H1 :=
  ⟨⟨va_Z.kept h.1.1 hq, va_T.kept h.1.2.1 hq, h.1.2.2.kept hq⟩, ⟨va_Z.kept h.2.1.1 hq, va_T.kept h.2.1.2 hq⟩, ⟨va_Z.kept h.2.2.1 hq, va_T.kept h.2.2.2 hq⟩⟩
theorem XW.warm {G : xG} {w : xW} {u U : State} {H : Heap} (hW : u.WarmedH U.vm) (h : XW G w u H) : XW G w U H :=
  ⟨h.1, h.2.1, h.2.2.1, h.2.2.2.1, va_K.moved hW.alike h.2.2.2.2.1, h.2.2.2.2.2.1.moved hW.alike, h.2.2.2.2.2.2.warm hW⟩
theorem XW.same {G : xG} {w : xW} {u U : State} {H : Heap} (hvm : u.vm = U.vm) (h : XW G w u H) : XW G w U H :=
  ⟨h.1, h.2.1, h.2.2.1, h.2.2.2.1, va_K.moved (by rw [hvm]; exact Vm.Alike.refl _) h.2.2.2.2.1, h.2.2.2.2.2.1.moved (by rw [hvm]; exact Vm.Alike.refl _), h.2.2.2.2.2.2.same hvm⟩
/-- the tables of s, the heap as t has it -/
theorem XW.back {G : xG} {w w' : xW} {s t : State} {H H' : Heap} (hvm : t.vm.Alike s.vm) (h : XW G w s H) (h' : XW G w' t H') : XW G w' s H' :=
  ⟨h'.1, h'.2.1, h'.2.2.1, h'.2.2.2.1, h.2.2.2.2.1, h'.2.2.2.2.2.1.moved hvm, h.2.2.2.2.2.2⟩
theorem xws_at {G : xG} {w : xW} {i : Nat} (hi : i < w.1) : (xws G w)[i]? = some (G.2.1 i, xce G.2.1 G.2.2.1 (w.2 i)) := by
  simp [xws, hi]
theorem xws_D {G : xG} {w : xW} {U : State} {H : Heap} (h : XW G w U H) : va_D (xA G) (xws G w) := by
  obtain ⟨-, h1, h2, -⟩ := h
  have key : ∀ (k : Nat) (q : Nat × va_E), (xws G w)[k]? = some q → k < w.1 ∧ q.1 = G.2.2.2 + k := by
    intro k q hq
    have hk : k < w.1 := by
      have := (List.getElem?_eq_some_iff.mp hq).1
      simpa [xws] using this
    rw [xws_at hk] at hq
    cases hq
    exact ⟨hk, h2 k (by omega)⟩
  refine ⟨fun i j p q hi hj hpq => ?_, fun k q hq => ?_⟩
  · have a := (key i p hi).2
    have b := (key j q hj).2
    omega
  · have a := (key k q hq).2
    show G.2.2.2 ≤ q.1
    omega
/-- one cell changed -/
def xset (w : xW) (i : Nat) (e : va_E) : xW := (w.1, fun j => if j = i then e else w.2 j)
theorem xws_set {G : xG} {w : xW} {i : Nat} {e : va_E} {e' : va_E} (he : xce G.2.1 G.2.2.1 e = e') : (xws G w).set i (G.2.1 i, e') = xws G (xset w i e) := by
  apply List.ext_getElem?
  intro k
  subst he
  by_cases hk : k < w.1
  · rw [xws_at (w := xset w i e) hk]
    by_cases hki : k = i
    · subst hki
      rw [List.getElem?_set_self (by simpa [xws] using hk)]
      simp [xset]
    · rw [List.getElem?_set_ne (Ne.symm hki), xws_at hk]
      simp [xset, hki]
  · have h1 : (xws G (xset w i e))[k]? = none := by simp [xws, xset]; omega
    have h2 : ((xws G w).set i (G.2.1 i, xce G.2.1 G.2.2.1 e))[k]? = none := by simp [xws]; omega
    rw [h1, h2]
/-- the locals: those that are known -/
def xLH (ad : Nat → Nat) (ls : Array Slot) (nL : Nat) (L : xL) : Prop := ls.size = nL ∧ lv_wf ls ∧ ∀ (i : Nat) (v : Value), L[i]? = some (some v) → ls[i]? = some (.val (xcv ad v))
def xal (ad : Nat → Nat) (L : xL) : List (Nat × Value) := (List.range L.length).filterMap (fun i => match L[i]? with
  | some (some v) => some (i, xcv ad v)
  | _ => none)
theorem xal_mem {ad : Nat → Nat} {L : xL} {i : Nat} {v : Value} (h : L[i]? = some (some v)) : (i, xcv ad v) ∈ xal ad L := by
  unfold xal
  refine List.mem_filterMap.mpr ⟨i, List.mem_range.mpr (List.getElem?_eq_some_iff.mp h).1, ?_⟩
  simp [h]
theorem xal_of {ad : Nat → Nat} {L : xL} {q : Nat × Value} (h : q ∈ xal ad L) : ∃ v, L[q.1]? = some (some v) ∧ q.2 = xcv ad v := by
  unfold xal at h
  obtain ⟨i, -, h2⟩ := List.mem_filterMap.mp h
  cases h3 : L[i]? with
  | none => simp [h3] at h2
  | some o =>
    cases o with
    | none => simp [h3] at h2
    | some v =>
      simp [h3] at h2
      subst h2
      exact ⟨v, h3, rfl⟩
theorem xLH.has {ad : Nat → Nat} {ls : Array Slot} {nL : Nat} {L : xL} (h : xLH ad ls nL L) : lv_has ls nL (xal ad L) := by
  refine ⟨h.1, h.2.1, fun q hq => ?_⟩
  obtain ⟨v, h1, h2⟩ := xal_of hq
  rw [h2]
  exact h.2.2 q.1 v h1
theorem xLH.at {ad : Nat → Nat} {ls : Array Slot} {nL : Nat} {L : xL} (h : xLH ad ls nL L) {i : Nat} {v : Value} (hv : L[i]? = some (some v)) : ls[i]? = some (.val (xcv ad v)) := h.2.2 i v hv
/-- storing at i doesn't cut a long that is still known -/
def xok (L : xL) (i : Nat) : Bool := match i with
  | 0 => true
  | j + 1 => match L[j]? with
    | some (some u) => u.category != 2
    | _ => true
theorem xok_ne {L : xL} {i j : Nat} {u : Value} (h : xok L i = true) (hj : L[j]? = some (some u)) (hi : j + 1 = i) : ¬ u.category = 2 := by
  subst hi
  simpa [xok, hj] using h
theorem xst1 {ad : Nat → Nat} {ls' : Array Slot} {nL : Nat} {L : xL} {i : Nat} {v : Value} (hk : xok L i = true) (h : lv_has ls' nL ((i, xcv ad v) :: (xal ad L).filter (fun q => !(q.1 == i) && !(q.1 + 1 == i && q.2.category == 2)))) : xLH ad ls' nL (L.set i (some v)) := by
  refine ⟨h.1, h.2.1, fun j u hu => ?_⟩
  by_cases hj : j = i
  · subst hj
    rw [List.getElem?_set] at hu
    simp only [if_true] at hu
    split at hu
    · cases hu
      exact h.2.2 (j, xcv ad v) List.mem_cons_self
    · cases hu
  · rw [List.getElem?_set_ne (Ne.symm hj)] at hu
    refine h.2.2 (j, xcv ad u) (List.mem_cons_of_mem _ (List.mem_filter.mpr ⟨xal_mem hu, ?_⟩))
    have h2 := fun e => xok_ne hk hu e
    by_cases e : j + 1 = i
    · simp [hj, e, xcv_cat, h2 e]
    · simp [hj, e]
theorem xst2 {ad : Nat → Nat} {ls' : Array Slot} {nL : Nat} {L : xL} {i : Nat} {v : Value} (hk : xok L i = true) (h : lv_has ls' nL ((i, xcv ad v) :: (xal ad L).filter (fun q => !(q.1 == i) && (!(q.1 == i + 1) && !(q.1 + 1 == i && q.2.category == 2))))) : xLH ad ls' nL ((L.set i (some v)).set (i + 1) none) := by
  refine ⟨h.1, h.2.1, fun j u hu => ?_⟩
  by_cases hj1 : j = i + 1
  · subst hj1
    rw [List.getElem?_set] at hu
    simp only [if_true] at hu
    split at hu <;> cases hu
  rw [List.getElem?_set_ne (Ne.symm hj1)] at hu
  by_cases hj : j = i
  · subst hj
    rw [List.getElem?_set] at hu
    simp only [if_true] at hu
    split at hu
    · cases hu
      exact h.2.2 (j, xcv ad v) List.mem_cons_self
    · cases hu
  · rw [List.getElem?_set_ne (Ne.symm hj)] at hu
    refine h.2.2 (j, xcv ad u) (List.mem_cons_of_mem _ (List.mem_filter.mpr ⟨xal_mem hu, ?_⟩))
    have h2 := fun e => xok_ne hk hu e
    by_cases e : j + 1 = i
    · simp [hj, hj1, e, xcv_cat, h2 e]
    · simp [hj, hj1, e]
def xro (ad : Nat → Nat) (v : Value) : Option Value := match v with
  | .null => none
  | v => some (xcv ad v)
def xpush (v : Value) (st : List Value) : List Value := match v with
  | .null => st
  | v => v :: st
theorem xro_push (ad : Nat → Nat) (v : Value) (st : List Value) : (xro ad v).toList ++ st.map (xcv ad) = (xpush v st).map (xcv ad) := by cases v <;> rfl
/-- a method's end -/
def xQ (G : xG) (r : Value × xW) : Array Value → State → Outcome → State → Prop := fun _ st o t => o = .returned (xro G.2.1 r.1) ∧ XW G r.2 t t.heap ∧ va_F (xA G) st t
/-- a method's start -/
def xPc (G : xG) (As : List Value) (w : xW) : Array Value → State → Prop := fun v U => v = (As.map (xcv G.2.1)).toArray ∧ XW G w U U.heap
/-- the words that every method has: its own code, and the tables -/
abbrev xwds (I : xI) : List Cond := .code I.1 I.2.1 I.2.2.1 I.2.2.2.1 :: xtb
/-- what holds of the machine in the method's body -/
def xScr (G : xG) (o : Option (Nat × (Nat → Int32))) (s : State) : Prop := match o with
  | none => True
  | some q => va_T .int (G.2.1 203) q.1 (fun j => .int (q.2 j)) (xA G) s s.heap
def xC (I : xI) (G : xG) (p : Program) (s : State) (m : MethodId) (args : Array Value) (meth : Method) (c : Code) : Prop :=
  p.tables.exec = Jvm.exec ∧ c.code = I.2.1 ∧ c.maxLocals = I.2.2.1 ∧ meth.sig.returnType = I.2.2.2.1 ∧ meth.locks = false ∧ s.vm.findClass I.1.cls = some m.cls ∧ (∀ w ∈ xtb, w.before args s = true) ∧ meth.name = I.1.name ∧ xScr G I.2.2.2.2.2 s
/-- a contract: with these arguments in this world the method answers what X says -/
def Ct (I : xI) {α : Type} (ρ : α → Value × xW) (As : List Value) (w : xW) (X : Option α) : Prop :=
  ∀ a, X = some a → ∀ (l : Launch) (G : xG), Met l I.1 (xwds I) I.2.2.2.2.1 (xPc G As w) (xQ G (ρ a)) I.2.2.2.2.1.cells I.2.2.2.2.1.slots (xA G)
/-- the judgement -/
def SP (I : xI) {α : Type} (ρ : α → Value × xW) (kc ks : Nat) (pc : Nat) (L : xL) (S : List Value) (w : xW) (X : Option α) : Prop :=
  ∀ a, X = some a → ∀ (p : Program) (l : Launch) (e : Env) (s : State) (m : MethodId) (args : Array Value) (below : List Frame) (meth : Method) (c : Code) (G : xG) (H : Heap) (locs : List Loc) (ls : Array Slot),
    xC I G p s m args meth c → XW G w s H → va_S (xA G) s.heap H locs → xLH G.2.1 ls I.2.2.1 L →
    W p l e I.2.2.2.2.1 s m args below meth c H locs kc ks (MQ below (xQ G (ρ a)) args s I.2.2.2.2.1.cells I.2.2.2.2.1.slots (xA G)) (F0 m pc ls (S.map (xcv G.2.1)))
theorem xargs_lv (ad : Nat → Nat) : ∀ (As : List Value) (k : Nat), lv_args k (As.map (xcv ad)) = (lv_args k As).map (fun q => (q.1, xcv ad q.2))
  | [], _ => rfl
  | v :: As, k => by
    simp only [List.map_cons, lv_args, xcv_cat, xargs_lv ad As]
def xin (L : xL) (q : Nat × Value) : Bool := match L[q.1]? with
  | some (some v) => v == q.2
  | _ => true
section SPR
variable {I : xI} {α : Type} {ρ : α → Value × xW} {kc ks pc : Nat} {L : xL} {S : List Value} {w : xW} {X : Option α}
set_option maxHeartbeats 1000000 in
theorem Ct.of {As : List Value} {L : xL} (hsc : I.2.2.2.2.2 = none) (hy : plainName I.1.cls = true) (hsz : (lg_sl As).length ≤ I.2.2.1) (hL : ∀ (i : Nat) (v : Value), L[i]? = some (some v) → (i, v) ∈ lv_args 0 As) (k : SP I ρ 0 0 0 L [] w X) : Ct I ρ As w X := by
  intro a hX l G
  obtain ⟨y, cc, nL, rt, rm, sc⟩ := I
  dsimp only at hsc
  subst hsc
  refine Met.ofW (cc := cc) (maxL := nL) (ret := rt) hy rfl ?_
  intro p e s m args below meth c s₁ B hml hv
  obtain ⟨rfl, hW⟩ := hv
  have hts := atoms_spec (ws := xwds (y, cc, nL, rt, rm, none)) B.pre
  have hown : s.vm.findClass y.cls = some m.cls := findClass_of_methodNamed B.named
  have hsz2 : (lg_sl (As.map (xcv G.2.1))).length ≤ nL := by
    have : (lg_sl (As.map (xcv G.2.1))).length = (lg_sl As).length := by
      unfold lg_sl
      rw [List.flatMap_map]
      simp only [List.length_flatMap]
      congr 1
      apply List.map_congr_left
      intro v _
      rw [xcv_cat]
      split <;> rfl
    rw [this]
    exact hsz
  have hl := lv_entry (As.map (xcv G.2.1)) hsz2
  rw [lg_entry_eq]
  generalize (lg_sl (As.map (xcv G.2.1)) ++ List.replicate (nL - (lg_sl (As.map (xcv G.2.1))).length) Slot.unset).toArray = ls at hl ⊢
  refine k a hX p l e s m _ below meth c G s.heap [] ls ⟨B.exec, B.bytes, hml, B.returns, B.notSynchronized, hown, fun w hw => hts w (List.mem_cons_of_mem _ hw), (name_of_methodNamed B.named B.method).1, trivial⟩ hW va_S.rf ⟨hl.1, hl.2.1, fun i v hv => ?_⟩
  refine hl.2.2 (i, xcv G.2.1 v) ?_
  rw [xargs_lv]
  exact List.mem_map.mpr ⟨(i, v), hL i v hv, rfl⟩
theorem SP.weak {L L' : xL} (h : ∀ (i : Nat) (v : Value), L'[i]? = some (some v) → L[i]? = some (some v)) (k : SP I ρ kc ks pc L' S w X) : SP I ρ kc ks pc L S w X :=
  fun a hX p l e s m args below meth c G H locs ls hC HW HS HL => k a hX p l e s m args below meth c G H locs ls hC HW HS ⟨HL.1, HL.2.1, fun i v hv => HL.2.2 i v (h i v hv)⟩
/-- fewer known locals -/
def xmask : List Bool → xL → xL
  | true :: ms, v :: L => v :: xmask ms L
  | false :: ms, _ :: L => none :: xmask ms L
  | _, _ => []
theorem xmask_le : ∀ (ms : List Bool) (L : xL) (i : Nat) (v : Value), (xmask ms L)[i]? = some (some v) → L[i]? = some (some v)
  | true :: ms, u :: L, 0, v, h => h
  | true :: ms, u :: L, i + 1, v, h => by
    simp only [xmask, List.getElem?_cons_succ] at h ⊢
    exact xmask_le ms L i v h
  | false :: ms, u :: L, 0, v, h => by simp [xmask] at h
  | false :: ms, u :: L, i + 1, v, h => by
    simp only [xmask, List.getElem?_cons_succ] at h ⊢
    exact xmask_le ms L i v h
  | [], L, i, v, h => by cases L <;> simp [xmask] at h
  | true :: ms, [], i, v, h => by simp [xmask] at h
  | false :: ms, [], i, v, h => by simp [xmask] at h
theorem SP.mask (ms : List Bool) {L L' : xL} (h : xmask ms L = L') (k : SP I ρ kc ks pc L' S w X) : SP I ρ kc ks pc L S w X := SP.weak (fun i v hv => by rw [← h] at hv; exact xmask_le ms L i v hv) k
theorem SP.none : SP I ρ kc ks pc L S w (Option.none) := fun a h => nomatch h
theorem SP.ite {c : Prop} [Decidable c] {X Y : Option α} (kt : c → SP I ρ kc ks pc L S w X) (kf : ¬ c → SP I ρ kc ks pc L S w Y) : SP I ρ kc ks pc L S w (if c then X else Y) := by
  by_cases h : c
  · rw [if_pos h]; exact kt h
  · rw [if_neg h]; exact kf h
theorem SP.grow {kc' ks' : Nat} (h1 : kc ≤ kc') (h2 : ks ≤ ks') (k : SP I ρ kc' ks' pc L S w X) : SP I ρ kc ks pc L S w X :=
  fun a hX p l e s m args below meth c G H locs ls hC HW HS HL => W.widen h1 h2 (k a hX p l e s m args below meth c G H locs ls hC HW HS HL)

theorem x_iconst {n : Int} {a : Int32} (d : decode I.2.1 pc = .ok (.iconst n, 1)) (ha : Int32.ofInt n = a) (k : SP I ρ kc ks (pc + 1) L (.int a :: S) w X) : SP I ρ kc ks pc L S w X := by
  intro v hX p l e s m args below meth c G H locs ls hC HW HS HL
  exact lv_iconst hC.1 hC.2.1 d ha (k v hX p l e s m args below meth c G H locs ls hC HW HS HL)
theorem x_bipush {n : Int} {a : Int32} (d : decode I.2.1 pc = .ok (.bipush n, 2)) (ha : (Int8.ofInt n).toInt32 = a) (k : SP I ρ kc ks (pc + 2) L (.int a :: S) w X) : SP I ρ kc ks pc L S w X := by
  intro v hX p l e s m args below meth c G H locs ls hC HW HS HL
  exact lv_bipush hC.1 hC.2.1 d ha (k v hX p l e s m args below meth c G H locs ls hC HW HS HL)
theorem x_sipush {n : Int} {a : Int32} (d : decode I.2.1 pc = .ok (.sipush n, 3)) (ha : (Int16.ofInt n).toInt32 = a) (k : SP I ρ kc ks (pc + 3) L (.int a :: S) w X) : SP I ρ kc ks pc L S w X := by
  intro v hX p l e s m args below meth c G H locs ls hC HW HS HL
  exact lv_sipush hC.1 hC.2.1 d ha (k v hX p l e s m args below meth c G H locs ls hC HW HS HL)
theorem x_lconst {n : Fin 2} {a : Int64} (d : decode I.2.1 pc = .ok (.lconst n, 1)) (ha : Int64.ofNat (n : Nat) = a) (k : SP I ρ kc ks (pc + 1) L (.long a :: S) w X) : SP I ρ kc ks pc L S w X := by
  intro v hX p l e s m args below meth c G H locs ls hC HW HS HL
  exact lv_lconst hC.1 hC.2.1 d ha (k v hX p l e s m args below meth c G H locs ls hC HW HS HL)
theorem x_ldc2 {i : Nat} {a : Int64} {own : String} (d : decode I.2.1 pc = .ok (.ldc2_w i, 3)) (ho : I.1.cls = own) (hw : Cond.constantLong own i a ∈ xtb) (k : SP I ρ kc ks (pc + 3) L (.long a :: S) w X) : SP I ρ kc ks pc L S w X := by
  intro v hX p l e s m args below meth c G H locs ls hC HW HS HL
  exact lv_ldc2 hC.1 hC.2.1 (ho ▸ hC.2.2.2.2.2.1) (hC.2.2.2.2.2.2.1 _ hw) d (k v hX p l e s m args below meth c G H locs ls hC HW HS HL)
theorem x_iload_n {q : Fin 4} {a : Int32} (d : decode I.2.1 pc = .ok (.iload_n q, 1)) (hl : L[(q : Nat)]? = some (some (.int a))) (k : SP I ρ kc ks (pc + 1) L (.int a :: S) w X) : SP I ρ kc ks pc L S w X := by
  intro v hX p l e s m args below meth c G H locs ls hC HW HS HL
  exact lv_iload_n hC.1 hC.2.1 d rfl (HL.at hl) (k v hX p l e s m args below meth c G H locs ls hC HW HS HL)
theorem x_iload {q : Nat} {a : Int32} (d : decode I.2.1 pc = .ok (.iload q, 2)) (hl : L[q]? = some (some (.int a))) (k : SP I ρ kc ks (pc + 2) L (.int a :: S) w X) : SP I ρ kc ks pc L S w X := by
  intro v hX p l e s m args below meth c G H locs ls hC HW HS HL
  exact lv_iload hC.1 hC.2.1 d (HL.at hl) (k v hX p l e s m args below meth c G H locs ls hC HW HS HL)
theorem x_lload_n {q : Fin 4} {a : Int64} (d : decode I.2.1 pc = .ok (.lload_n q, 1)) (hl : L[(q : Nat)]? = some (some (.long a))) (k : SP I ρ kc ks (pc + 1) L (.long a :: S) w X) : SP I ρ kc ks pc L S w X := by
  intro v hX p l e s m args below meth c G H locs ls hC HW HS HL
  exact lv_lload_n hC.1 hC.2.1 d rfl (HL.at hl) (k v hX p l e s m args below meth c G H locs ls hC HW HS HL)
theorem x_lload {q : Nat} {a : Int64} (d : decode I.2.1 pc = .ok (.lload q, 2)) (hl : L[q]? = some (some (.long a))) (k : SP I ρ kc ks (pc + 2) L (.long a :: S) w X) : SP I ρ kc ks pc L S w X := by
  intro v hX p l e s m args below meth c G H locs ls hC HW HS HL
  exact lv_lload hC.1 hC.2.1 d (HL.at hl) (k v hX p l e s m args below meth c G H locs ls hC HW HS HL)
theorem x_aload_n {q : Fin 4} {a : Nat} (d : decode I.2.1 pc = .ok (.aload_n q, 1)) (hl : L[(q : Nat)]? = some (some (.ref a))) (k : SP I ρ kc ks (pc + 1) L (.ref a :: S) w X) : SP I ρ kc ks pc L S w X := by
  intro v hX p l e s m args below meth c G H locs ls hC HW HS HL
  exact lv_aload_n hC.1 hC.2.1 d rfl (HL.at hl) (k v hX p l e s m args below meth c G H locs ls hC HW HS HL)
theorem x_aload {q : Nat} {a : Nat} (d : decode I.2.1 pc = .ok (.aload q, 2)) (hl : L[q]? = some (some (.ref a))) (k : SP I ρ kc ks (pc + 2) L (.ref a :: S) w X) : SP I ρ kc ks pc L S w X := by
  intro v hX p l e s m args below meth c G H locs ls hC HW HS HL
  exact lv_aload hC.1 hC.2.1 d (HL.at hl) (k v hX p l e s m args below meth c G H locs ls hC HW HS HL)
theorem x_istore_n {q : Fin 4} {a : Int32} {L' : xL} (d : decode I.2.1 pc = .ok (.istore_n q, 1)) (hn : (q : Nat) < I.2.2.1) (hk : xok L (q : Nat) = true) (hL : (L.set (q : Nat) (some (.int a))) = L') (k : SP I ρ kc ks (pc + 1) L' S w X) : SP I ρ kc ks pc L (.int a :: S) w X := by
  subst hL
  intro v hX p l e s m args below meth c G H locs ls hC HW HS HL
  exact lv_istore_n hC.1 hC.2.1 d rfl HL.has hn rfl (fun ls' h' => k v hX p l e s m args below meth c G H locs ls' hC HW HS (xst1 (v := .int a) hk h'))
theorem x_istore {q : Nat} {a : Int32} {L' : xL} (d : decode I.2.1 pc = .ok (.istore q, 2)) (hn : q < I.2.2.1) (hk : xok L q = true) (hL : (L.set q (some (.int a))) = L') (k : SP I ρ kc ks (pc + 2) L' S w X) : SP I ρ kc ks pc L (.int a :: S) w X := by
  subst hL
  intro v hX p l e s m args below meth c G H locs ls hC HW HS HL
  exact lv_istore hC.1 hC.2.1 d HL.has hn rfl (fun ls' h' => k v hX p l e s m args below meth c G H locs ls' hC HW HS (xst1 (v := .int a) hk h'))
theorem x_lstore_n {q : Fin 4} {a : Int64} {L' : xL} (d : decode I.2.1 pc = .ok (.lstore_n q, 1)) (hn : (q : Nat) + 1 < I.2.2.1) (hk : xok L (q : Nat) = true) (hL : ((L.set (q : Nat) (some (.long a))).set ((q : Nat) + 1) none) = L') (k : SP I ρ kc ks (pc + 1) L' S w X) : SP I ρ kc ks pc L (.long a :: S) w X := by
  subst hL
  intro v hX p l e s m args below meth c G H locs ls hC HW HS HL
  exact lv_lstore_n hC.1 hC.2.1 d rfl HL.has hn rfl (fun ls' h' => k v hX p l e s m args below meth c G H locs ls' hC HW HS (xst2 (v := .long a) hk h'))
theorem x_lstore {q : Nat} {a : Int64} {L' : xL} (d : decode I.2.1 pc = .ok (.lstore q, 2)) (hn : q + 1 < I.2.2.1) (hk : xok L q = true) (hL : ((L.set q (some (.long a))).set (q + 1) none) = L') (k : SP I ρ kc ks (pc + 2) L' S w X) : SP I ρ kc ks pc L (.long a :: S) w X := by
  subst hL
  intro v hX p l e s m args below meth c G H locs ls hC HW HS HL
  exact lv_lstore hC.1 hC.2.1 d HL.has hn rfl (fun ls' h' => k v hX p l e s m args below meth c G H locs ls' hC HW HS (xst2 (v := .long a) hk h'))
theorem x_astore_n {q : Fin 4} {a : Nat} {L' : xL} (d : decode I.2.1 pc = .ok (.astore_n q, 1)) (hn : (q : Nat) < I.2.2.1) (hk : xok L (q : Nat) = true) (hL : (L.set (q : Nat) (some (.ref a))) = L') (k : SP I ρ kc ks (pc + 1) L' S w X) : SP I ρ kc ks pc L (.ref a :: S) w X := by
  subst hL
  intro v hX p l e s m args below meth c G H locs ls hC HW HS HL
  exact lv_astore_n hC.1 hC.2.1 d rfl HL.has hn rfl (fun ls' h' => k v hX p l e s m args below meth c G H locs ls' hC HW HS (xst1 (v := .ref a) hk h'))
theorem x_astore {q : Nat} {a : Nat} {L' : xL} (d : decode I.2.1 pc = .ok (.astore q, 2)) (hn : q < I.2.2.1) (hk : xok L q = true) (hL : (L.set q (some (.ref a))) = L') (k : SP I ρ kc ks (pc + 2) L' S w X) : SP I ρ kc ks pc L (.ref a :: S) w X := by
  subst hL
  intro v hX p l e s m args below meth c G H locs ls hC HW HS HL
  exact lv_astore hC.1 hC.2.1 d HL.has hn rfl (fun ls' h' => k v hX p l e s m args below meth c G H locs ls' hC HW HS (xst1 (v := .ref a) hk h'))
theorem x_iinc {q : Nat} {n : Int} {a b : Int32} {L' : xL} (d : decode I.2.1 pc = .ok (.iinc q n, 3)) (hl : L[q]? = some (some (.int a))) (hb : a + Int32.ofInt n = b) (hn : q < I.2.2.1) (hk : xok L q = true) (hL : L.set q (some (.int b)) = L') (k : SP I ρ kc ks (pc + 3) L' S w X) : SP I ρ kc ks pc L S w X := by
  subst hL
  intro v hX p l e s m args below meth c G H locs ls hC HW HS HL
  obtain ⟨j, hj⟩ := List.getElem?_of_mem (xal_mem (ad := G.2.1) hl)
  exact lv_iinc hC.1 hC.2.1 d HL.has hj hb hn rfl (fun ls' h' => k v hX p l e s m args below meth c G H locs ls' hC HW HS (xst1 (v := .int b) hk h'))
theorem x_iadd {a b : Int32} (d : decode I.2.1 pc = .ok (.iadd, 1)) (k : SP I ρ kc ks (pc + 1) L (.int (a + b) :: S) w X) : SP I ρ kc ks pc L (.int b :: .int a :: S) w X := by
  intro v hX p l e s m args below meth c G H locs ls hC HW HS HL
  exact lv_iadd hC.1 hC.2.1 d (k v hX p l e s m args below meth c G H locs ls hC HW HS HL)
theorem x_isub {a b : Int32} (d : decode I.2.1 pc = .ok (.isub, 1)) (k : SP I ρ kc ks (pc + 1) L (.int (a - b) :: S) w X) : SP I ρ kc ks pc L (.int b :: .int a :: S) w X := by
  intro v hX p l e s m args below meth c G H locs ls hC HW HS HL
  exact lv_isub hC.1 hC.2.1 d (k v hX p l e s m args below meth c G H locs ls hC HW HS HL)
theorem x_imul {a b : Int32} (d : decode I.2.1 pc = .ok (.imul, 1)) (k : SP I ρ kc ks (pc + 1) L (.int (a * b) :: S) w X) : SP I ρ kc ks pc L (.int b :: .int a :: S) w X := by
  intro v hX p l e s m args below meth c G H locs ls hC HW HS HL
  exact lv_imul hC.1 hC.2.1 d (k v hX p l e s m args below meth c G H locs ls hC HW HS HL)
theorem x_iand {a b : Int32} (d : decode I.2.1 pc = .ok (.iand, 1)) (k : SP I ρ kc ks (pc + 1) L (.int (a &&& b) :: S) w X) : SP I ρ kc ks pc L (.int b :: .int a :: S) w X := by
  intro v hX p l e s m args below meth c G H locs ls hC HW HS HL
  exact lv_iand hC.1 hC.2.1 d (k v hX p l e s m args below meth c G H locs ls hC HW HS HL)
theorem x_ior {a b : Int32} (d : decode I.2.1 pc = .ok (.ior, 1)) (k : SP I ρ kc ks (pc + 1) L (.int (a ||| b) :: S) w X) : SP I ρ kc ks pc L (.int b :: .int a :: S) w X := by
  intro v hX p l e s m args below meth c G H locs ls hC HW HS HL
  exact lv_ior hC.1 hC.2.1 d (k v hX p l e s m args below meth c G H locs ls hC HW HS HL)
theorem x_ladd {a b : Int64} (d : decode I.2.1 pc = .ok (.ladd, 1)) (k : SP I ρ kc ks (pc + 1) L (.long (a + b) :: S) w X) : SP I ρ kc ks pc L (.long b :: .long a :: S) w X := by
  intro v hX p l e s m args below meth c G H locs ls hC HW HS HL
  exact lv_ladd hC.1 hC.2.1 d (k v hX p l e s m args below meth c G H locs ls hC HW HS HL)
theorem x_lsub {a b : Int64} (d : decode I.2.1 pc = .ok (.lsub, 1)) (k : SP I ρ kc ks (pc + 1) L (.long (a - b) :: S) w X) : SP I ρ kc ks pc L (.long b :: .long a :: S) w X := by
  intro v hX p l e s m args below meth c G H locs ls hC HW HS HL
  exact lv_lsub hC.1 hC.2.1 d (k v hX p l e s m args below meth c G H locs ls hC HW HS HL)
theorem x_lmul {a b : Int64} (d : decode I.2.1 pc = .ok (.lmul, 1)) (k : SP I ρ kc ks (pc + 1) L (.long (a * b) :: S) w X) : SP I ρ kc ks pc L (.long b :: .long a :: S) w X := by
  intro v hX p l e s m args below meth c G H locs ls hC HW HS HL
  exact lv_lmul hC.1 hC.2.1 d (k v hX p l e s m args below meth c G H locs ls hC HW HS HL)
theorem x_land {a b : Int64} (d : decode I.2.1 pc = .ok (.land, 1)) (k : SP I ρ kc ks (pc + 1) L (.long (a &&& b) :: S) w X) : SP I ρ kc ks pc L (.long b :: .long a :: S) w X := by
  intro v hX p l e s m args below meth c G H locs ls hC HW HS HL
  exact lv_land hC.1 hC.2.1 d (k v hX p l e s m args below meth c G H locs ls hC HW HS HL)
theorem x_lor {a b : Int64} (d : decode I.2.1 pc = .ok (.lor, 1)) (k : SP I ρ kc ks (pc + 1) L (.long (a ||| b) :: S) w X) : SP I ρ kc ks pc L (.long b :: .long a :: S) w X := by
  intro v hX p l e s m args below meth c G H locs ls hC HW HS HL
  exact lv_lor hC.1 hC.2.1 d (k v hX p l e s m args below meth c G H locs ls hC HW HS HL)
theorem x_ineg {a : Int32} (d : decode I.2.1 pc = .ok (.ineg, 1)) (k : SP I ρ kc ks (pc + 1) L (.int (-a) :: S) w X) : SP I ρ kc ks pc L (.int a :: S) w X := by
  intro v hX p l e s m args below meth c G H locs ls hC HW HS HL
  exact lv_ineg hC.1 hC.2.1 d (k v hX p l e s m args below meth c G H locs ls hC HW HS HL)
theorem x_lneg {a : Int64} (d : decode I.2.1 pc = .ok (.lneg, 1)) (k : SP I ρ kc ks (pc + 1) L (.long (-a) :: S) w X) : SP I ρ kc ks pc L (.long a :: S) w X := by
  intro v hX p l e s m args below meth c G H locs ls hC HW HS HL
  exact lv_lneg hC.1 hC.2.1 d (k v hX p l e s m args below meth c G H locs ls hC HW HS HL)
theorem x_i2l {a : Int32} (d : decode I.2.1 pc = .ok (.i2l, 1)) (k : SP I ρ kc ks (pc + 1) L (.long a.toInt64 :: S) w X) : SP I ρ kc ks pc L (.int a :: S) w X := by
  intro v hX p l e s m args below meth c G H locs ls hC HW HS HL
  exact lv_i2l hC.1 hC.2.1 d rfl (k v hX p l e s m args below meth c G H locs ls hC HW HS HL)
theorem x_l2i {a : Int64} (d : decode I.2.1 pc = .ok (.l2i, 1)) (k : SP I ρ kc ks (pc + 1) L (.int a.toInt32 :: S) w X) : SP I ρ kc ks pc L (.long a :: S) w X := by
  intro v hX p l e s m args below meth c G H locs ls hC HW HS HL
  exact lv_l2i hC.1 hC.2.1 d rfl (k v hX p l e s m args below meth c G H locs ls hC HW HS HL)
theorem x_lshl {a : Int64} {b : Int32} (d : decode I.2.1 pc = .ok (.lshl, 1)) (k : SP I ρ kc ks (pc + 1) L (.long (a <<< (b.toInt64 &&& 63)) :: S) w X) : SP I ρ kc ks pc L (.int b :: .long a :: S) w X := by
  intro v hX p l e s m args below meth c G H locs ls hC HW HS HL
  exact lv_lshl hC.1 hC.2.1 d rfl (k v hX p l e s m args below meth c G H locs ls hC HW HS HL)
theorem x_lcmp {a b : Int64} (d : decode I.2.1 pc = .ok (.lcmp, 1)) (k : SP I ρ kc ks (pc + 1) L (.int (lg_cmp a b) :: S) w X) : SP I ρ kc ks pc L (.long b :: .long a :: S) w X := by
  intro v hX p l e s m args below meth c G H locs ls hC HW HS HL
  exact W.lcmp hC.1 hC.2.1 d (k v hX p l e s m args below meth c G H locs ls hC HW HS HL)
theorem x_idiv {a b : Int32} (d : decode I.2.1 pc = .ok (.idiv, 1)) (k : ¬ b = 0 → SP I ρ kc ks (pc + 1) L (.int (a / b) :: S) w X) : SP I ρ kc ks pc L (.int b :: .int a :: S) w (if b = 0 then none else X) := by
  refine SP.ite (fun _ => SP.none) (fun hb => ?_)
  have k := k hb
  intro v hX p l e s m args below meth c G H locs ls hC HW HS HL
  exact lv_idiv hC.1 hC.2.1 d hb (k v hX p l e s m args below meth c G H locs ls hC HW HS HL)
theorem x_irem {a b : Int32} (d : decode I.2.1 pc = .ok (.irem, 1)) (k : ¬ b = 0 → SP I ρ kc ks (pc + 1) L (.int (a - a / b * b) :: S) w X) : SP I ρ kc ks pc L (.int b :: .int a :: S) w (if b = 0 then none else X) := by
  refine SP.ite (fun _ => SP.none) (fun hb => ?_)
  have k := k hb
  intro v hX p l e s m args below meth c G H locs ls hC HW HS HL
  exact lv_irem hC.1 hC.2.1 d hb (k v hX p l e s m args below meth c G H locs ls hC HW HS HL)
theorem x_ldiv {a b : Int64} (d : decode I.2.1 pc = .ok (.ldiv, 1)) (k : ¬ b = 0 → SP I ρ kc ks (pc + 1) L (.long (a / b) :: S) w X) : SP I ρ kc ks pc L (.long b :: .long a :: S) w (if b = 0 then none else X) := by
  refine SP.ite (fun _ => SP.none) (fun hb => ?_)
  have k := k hb
  intro v hX p l e s m args below meth c G H locs ls hC HW HS HL
  exact lv_ldiv hC.1 hC.2.1 d hb (k v hX p l e s m args below meth c G H locs ls hC HW HS HL)
theorem x_lrem {a b : Int64} (d : decode I.2.1 pc = .ok (.lrem, 1)) (k : ¬ b = 0 → SP I ρ kc ks (pc + 1) L (.long (a - a / b * b) :: S) w X) : SP I ρ kc ks pc L (.long b :: .long a :: S) w (if b = 0 then none else X) := by
  refine SP.ite (fun _ => SP.none) (fun hb => ?_)
  have k := k hb
  intro v hX p l e s m args below meth c G H locs ls hC HW HS HL
  exact lv_lrem hC.1 hC.2.1 d hb (k v hX p l e s m args below meth c G H locs ls hC HW HS HL)
theorem x_dup {a : Value} (d : decode I.2.1 pc = .ok (.dup, 1)) (ha : a.category = 1) (k : SP I ρ kc ks (pc + 1) L (a :: a :: S) w X) : SP I ρ kc ks pc L (a :: S) w X := by
  intro v hX p l e s m args below meth c G H locs ls hC HW HS HL
  exact lv_dup hC.1 hC.2.1 d (by rw [xcv_cat]; exact ha) (k v hX p l e s m args below meth c G H locs ls hC HW HS HL)
theorem x_pop {a : Value} (d : decode I.2.1 pc = .ok (.pop, 1)) (ha : a.category = 1) (k : SP I ρ kc ks (pc + 1) L S w X) : SP I ρ kc ks pc L (a :: S) w X := by
  intro v hX p l e s m args below meth c G H locs ls hC HW HS HL
  exact lv_pop hC.1 hC.2.1 d (by rw [xcv_cat]; exact ha) (k v hX p l e s m args below meth c G H locs ls hC HW HS HL)
theorem x_dup2 {a b : Value} (d : decode I.2.1 pc = .ok (.dup2, 1)) (ha : b.category = 1) (hb : a.category = 1) (k : SP I ρ kc ks (pc + 1) L (b :: a :: b :: a :: S) w X) : SP I ρ kc ks pc L (b :: a :: S) w X := by
  intro v hX p l e s m args below meth c G H locs ls hC HW HS HL
  exact lv_dup2_11 hC.1 hC.2.1 d (by rw [xcv_cat]; exact ha) (by rw [xcv_cat]; exact hb) (k v hX p l e s m args below meth c G H locs ls hC HW HS HL)
theorem x_dup_x1 {a b : Value} (d : decode I.2.1 pc = .ok (.dup_x1, 1)) (ha : b.category = 1) (hb : a.category = 1) (k : SP I ρ kc ks (pc + 1) L (b :: a :: b :: S) w X) : SP I ρ kc ks pc L (b :: a :: S) w X := by
  intro v hX p l e s m args below meth c G H locs ls hC HW HS HL
  exact lv_dup_x1 hC.1 hC.2.1 d (by rw [xcv_cat]; exact ha) (by rw [xcv_cat]; exact hb) (k v hX p l e s m args below meth c G H locs ls hC HW HS HL)
theorem x_goto {off : Int} {tgt : Nat} (d : decode I.2.1 pc = .ok (.goto off, 3)) (ht : (pc : Int) + off = (tgt : Int)) (k : SP I ρ kc ks tgt L S w X) : SP I ρ kc ks pc L S w X := by
  intro v hX p l e s m args below meth c G H locs ls hC HW HS HL
  exact lv_goto hC.1 hC.2.1 d ht (k v hX p l e s m args below meth c G H locs ls hC HW HS HL)
theorem x_if_eq {a : Int32} {off : Int} {tgt : Nat} {Y : Option α} (d : decode I.2.1 pc = .ok (.ifCond .eq off, 3)) (ht : (pc : Int) + off = (tgt : Int)) (kt : a = 0 → SP I ρ kc ks tgt L S w X) (kf : ¬ a = 0 → SP I ρ kc ks (pc + 3) L S w Y) : SP I ρ kc ks pc L (.int a :: S) w (if a = 0 then X else Y) := by
  intro v hX p l e s m args below meth c G H locs ls hC HW HS HL
  exact lv_if_eq hC.1 hC.2.1 d ht (fun h => by rw [if_pos h] at hX; exact kt h v hX p l e s m args below meth c G H locs ls hC HW HS HL) (fun h => by rw [if_neg h] at hX; exact kf h v hX p l e s m args below meth c G H locs ls hC HW HS HL)
theorem x_icmp_eq {a b : Int32} {off : Int} {tgt : Nat} {Y : Option α} (d : decode I.2.1 pc = .ok (.if_icmp .eq off, 3)) (ht : (pc : Int) + off = (tgt : Int)) (kt : a = b → SP I ρ kc ks tgt L S w X) (kf : ¬ a = b → SP I ρ kc ks (pc + 3) L S w Y) : SP I ρ kc ks pc L (.int b :: .int a :: S) w (if a = b then X else Y) := by
  intro v hX p l e s m args below meth c G H locs ls hC HW HS HL
  exact lv_icmp_eq hC.1 hC.2.1 d ht (fun h => by rw [if_pos h] at hX; exact kt h v hX p l e s m args below meth c G H locs ls hC HW HS HL) (fun h => by rw [if_neg h] at hX; exact kf h v hX p l e s m args below meth c G H locs ls hC HW HS HL)
theorem x_if_ne {a : Int32} {off : Int} {tgt : Nat} {Y : Option α} (d : decode I.2.1 pc = .ok (.ifCond .ne off, 3)) (ht : (pc : Int) + off = (tgt : Int)) (kt : ¬ a = 0 → SP I ρ kc ks tgt L S w X) (kf : a = 0 → SP I ρ kc ks (pc + 3) L S w Y) : SP I ρ kc ks pc L (.int a :: S) w (if a = 0 then Y else X) := by
  intro v hX p l e s m args below meth c G H locs ls hC HW HS HL
  exact lv_if_ne hC.1 hC.2.1 d ht (fun h => by rw [if_neg h] at hX; exact kt h v hX p l e s m args below meth c G H locs ls hC HW HS HL) (fun h => by rw [if_pos h] at hX; exact kf h v hX p l e s m args below meth c G H locs ls hC HW HS HL)
theorem x_icmp_ne {a b : Int32} {off : Int} {tgt : Nat} {Y : Option α} (d : decode I.2.1 pc = .ok (.if_icmp .ne off, 3)) (ht : (pc : Int) + off = (tgt : Int)) (kt : ¬ a = b → SP I ρ kc ks tgt L S w X) (kf : a = b → SP I ρ kc ks (pc + 3) L S w Y) : SP I ρ kc ks pc L (.int b :: .int a :: S) w (if a = b then Y else X) := by
  intro v hX p l e s m args below meth c G H locs ls hC HW HS HL
  exact lv_icmp_ne hC.1 hC.2.1 d ht (fun h => by rw [if_neg h] at hX; exact kt h v hX p l e s m args below meth c G H locs ls hC HW HS HL) (fun h => by rw [if_pos h] at hX; exact kf h v hX p l e s m args below meth c G H locs ls hC HW HS HL)
theorem x_if_lt {a : Int32} {off : Int} {tgt : Nat} {Y : Option α} (d : decode I.2.1 pc = .ok (.ifCond .lt off, 3)) (ht : (pc : Int) + off = (tgt : Int)) (kt : a < 0 → SP I ρ kc ks tgt L S w X) (kf : ¬ a < 0 → SP I ρ kc ks (pc + 3) L S w Y) : SP I ρ kc ks pc L (.int a :: S) w (if a < 0 then X else Y) := by
  intro v hX p l e s m args below meth c G H locs ls hC HW HS HL
  exact lv_if_lt hC.1 hC.2.1 d ht (fun h => by rw [if_pos h] at hX; exact kt h v hX p l e s m args below meth c G H locs ls hC HW HS HL) (fun h => by rw [if_neg h] at hX; exact kf h v hX p l e s m args below meth c G H locs ls hC HW HS HL)
theorem x_icmp_lt {a b : Int32} {off : Int} {tgt : Nat} {Y : Option α} (d : decode I.2.1 pc = .ok (.if_icmp .lt off, 3)) (ht : (pc : Int) + off = (tgt : Int)) (kt : a < b → SP I ρ kc ks tgt L S w X) (kf : ¬ a < b → SP I ρ kc ks (pc + 3) L S w Y) : SP I ρ kc ks pc L (.int b :: .int a :: S) w (if a < b then X else Y) := by
  intro v hX p l e s m args below meth c G H locs ls hC HW HS HL
  exact lv_icmp_lt hC.1 hC.2.1 d ht (fun h => by rw [if_pos h] at hX; exact kt h v hX p l e s m args below meth c G H locs ls hC HW HS HL) (fun h => by rw [if_neg h] at hX; exact kf h v hX p l e s m args below meth c G H locs ls hC HW HS HL)
theorem x_if_ge {a : Int32} {off : Int} {tgt : Nat} {Y : Option α} (d : decode I.2.1 pc = .ok (.ifCond .ge off, 3)) (ht : (pc : Int) + off = (tgt : Int)) (kt : 0 ≤ a → SP I ρ kc ks tgt L S w X) (kf : ¬ 0 ≤ a → SP I ρ kc ks (pc + 3) L S w Y) : SP I ρ kc ks pc L (.int a :: S) w (if 0 ≤ a then X else Y) := by
  intro v hX p l e s m args below meth c G H locs ls hC HW HS HL
  exact lv_if_ge hC.1 hC.2.1 d ht (fun h => by rw [if_pos h] at hX; exact kt h v hX p l e s m args below meth c G H locs ls hC HW HS HL) (fun h => by rw [if_neg h] at hX; exact kf h v hX p l e s m args below meth c G H locs ls hC HW HS HL)
theorem x_icmp_ge {a b : Int32} {off : Int} {tgt : Nat} {Y : Option α} (d : decode I.2.1 pc = .ok (.if_icmp .ge off, 3)) (ht : (pc : Int) + off = (tgt : Int)) (kt : b ≤ a → SP I ρ kc ks tgt L S w X) (kf : ¬ b ≤ a → SP I ρ kc ks (pc + 3) L S w Y) : SP I ρ kc ks pc L (.int b :: .int a :: S) w (if b ≤ a then X else Y) := by
  intro v hX p l e s m args below meth c G H locs ls hC HW HS HL
  exact lv_icmp_ge hC.1 hC.2.1 d ht (fun h => by rw [if_pos h] at hX; exact kt h v hX p l e s m args below meth c G H locs ls hC HW HS HL) (fun h => by rw [if_neg h] at hX; exact kf h v hX p l e s m args below meth c G H locs ls hC HW HS HL)
theorem x_if_gt {a : Int32} {off : Int} {tgt : Nat} {Y : Option α} (d : decode I.2.1 pc = .ok (.ifCond .gt off, 3)) (ht : (pc : Int) + off = (tgt : Int)) (kt : 0 < a → SP I ρ kc ks tgt L S w X) (kf : ¬ 0 < a → SP I ρ kc ks (pc + 3) L S w Y) : SP I ρ kc ks pc L (.int a :: S) w (if 0 < a then X else Y) := by
  intro v hX p l e s m args below meth c G H locs ls hC HW HS HL
  exact lv_if_gt hC.1 hC.2.1 d ht (fun h => by rw [if_pos h] at hX; exact kt h v hX p l e s m args below meth c G H locs ls hC HW HS HL) (fun h => by rw [if_neg h] at hX; exact kf h v hX p l e s m args below meth c G H locs ls hC HW HS HL)
theorem x_icmp_gt {a b : Int32} {off : Int} {tgt : Nat} {Y : Option α} (d : decode I.2.1 pc = .ok (.if_icmp .gt off, 3)) (ht : (pc : Int) + off = (tgt : Int)) (kt : b < a → SP I ρ kc ks tgt L S w X) (kf : ¬ b < a → SP I ρ kc ks (pc + 3) L S w Y) : SP I ρ kc ks pc L (.int b :: .int a :: S) w (if b < a then X else Y) := by
  intro v hX p l e s m args below meth c G H locs ls hC HW HS HL
  exact lv_icmp_gt hC.1 hC.2.1 d ht (fun h => by rw [if_pos h] at hX; exact kt h v hX p l e s m args below meth c G H locs ls hC HW HS HL) (fun h => by rw [if_neg h] at hX; exact kf h v hX p l e s m args below meth c G H locs ls hC HW HS HL)
theorem x_if_le {a : Int32} {off : Int} {tgt : Nat} {Y : Option α} (d : decode I.2.1 pc = .ok (.ifCond .le off, 3)) (ht : (pc : Int) + off = (tgt : Int)) (kt : a ≤ 0 → SP I ρ kc ks tgt L S w X) (kf : ¬ a ≤ 0 → SP I ρ kc ks (pc + 3) L S w Y) : SP I ρ kc ks pc L (.int a :: S) w (if a ≤ 0 then X else Y) := by
  intro v hX p l e s m args below meth c G H locs ls hC HW HS HL
  exact lv_if_le hC.1 hC.2.1 d ht (fun h => by rw [if_pos h] at hX; exact kt h v hX p l e s m args below meth c G H locs ls hC HW HS HL) (fun h => by rw [if_neg h] at hX; exact kf h v hX p l e s m args below meth c G H locs ls hC HW HS HL)
theorem x_icmp_le {a b : Int32} {off : Int} {tgt : Nat} {Y : Option α} (d : decode I.2.1 pc = .ok (.if_icmp .le off, 3)) (ht : (pc : Int) + off = (tgt : Int)) (kt : a ≤ b → SP I ρ kc ks tgt L S w X) (kf : ¬ a ≤ b → SP I ρ kc ks (pc + 3) L S w Y) : SP I ρ kc ks pc L (.int b :: .int a :: S) w (if a ≤ b then X else Y) := by
  intro v hX p l e s m args below meth c G H locs ls hC HW HS HL
  exact lv_icmp_le hC.1 hC.2.1 d ht (fun h => by rw [if_pos h] at hX; exact kt h v hX p l e s m args below meth c G H locs ls hC HW HS HL) (fun h => by rw [if_neg h] at hX; exact kf h v hX p l e s m args below meth c G H locs ls hC HW HS HL)
theorem x_tsw_in {dflt lo hi : Int} {offs : Array Int} {len : Nat} {a : Int32} {off : Int} {tgt : Nat} (d : decode I.2.1 pc = .ok (.tableswitch dflt lo hi offs, len)) (h1 : ¬ a.toInt < lo) (h2 : ¬ hi < a.toInt) (ho : offs[(a.toInt - lo).toNat]? = some off) (ht : (pc : Int) + off = (tgt : Int)) (k : SP I ρ kc ks tgt L S w X) : SP I ρ kc ks pc L (.int a :: S) w X := by
  intro v hX p l e s m args below meth c G H locs ls hC HW HS HL
  exact lv_tableIn hC.1 hC.2.1 d h1 h2 ho ht (k v hX p l e s m args below meth c G H locs ls hC HW HS HL)
theorem x_tsw_out {dflt lo hi : Int} {offs : Array Int} {len : Nat} {a : Int32} {tgt : Nat} (d : decode I.2.1 pc = .ok (.tableswitch dflt lo hi offs, len)) (h : a.toInt < lo ∨ hi < a.toInt) (ht : (pc : Int) + dflt = (tgt : Int)) (k : SP I ρ kc ks tgt L S w X) : SP I ρ kc ks pc L (.int a :: S) w X := by
  intro v hX p l e s m args below meth c G H locs ls hC HW HS HL
  exact lv_tableOut hC.1 hC.2.1 d h ht (k v hX p l e s m args below meth c G H locs ls hC HW HS HL)
theorem x_iret {a : Int32} {q : α} (hr : I.2.2.2.1 = some .int) (hq : ρ q = (.int a, w)) (d : decode I.2.1 pc = .ok (.ireturn, 1)) (hc : kc ≤ I.2.2.2.2.1.cells) (hs : ks ≤ I.2.2.2.2.1.slots) : SP I ρ kc ks pc L [.int a] w (some q) := by
  intro v hX p l e s m args below meth c G H locs ls hC HW HS HL
  cases hX
  refine W.widen hc hs ?_
  exact W.iret hC.1 hC.2.1 (hC.2.2.2.1.trans hr) (fun t ht hW => by rw [hq]; exact ⟨rfl, by rw [ht]; exact HW.warm hW, HS.F ht⟩) HS.2.2 d hC.2.2.2.2.1
theorem x_lret {a : Int64} {q : α} (hr : I.2.2.2.1 = some .long) (hq : ρ q = (.long a, w)) (d : decode I.2.1 pc = .ok (.lreturn, 1)) (hc : kc ≤ I.2.2.2.2.1.cells) (hs : ks ≤ I.2.2.2.2.1.slots) : SP I ρ kc ks pc L [.long a] w (some q) := by
  intro v hX p l e s m args below meth c G H locs ls hC HW HS HL
  cases hX
  refine W.widen hc hs ?_
  exact W.lret hC.1 hC.2.1 (hC.2.2.2.1.trans hr) (fun t ht hW => by rw [hq]; exact ⟨rfl, by rw [ht]; exact HW.warm hW, HS.F ht⟩) HS.2.2 d hC.2.2.2.2.1
theorem x_zret {a : Int32} {q : α} (hr : I.2.2.2.1 = some .boolean) (hn : narrow .boolean (.int a) = .int a) (hq : ρ q = (.int a, w)) (d : decode I.2.1 pc = .ok (.ireturn, 1)) (hc : kc ≤ I.2.2.2.2.1.cells) (hs : ks ≤ I.2.2.2.2.1.slots) : SP I ρ kc ks pc L [.int a] w (some q) := by
  intro v hX p l e s m args below meth c G H locs ls hC HW HS HL
  cases hX
  refine W.widen hc hs ?_
  exact W.zret hC.1 hC.2.1 (hC.2.2.2.1.trans hr) hn (fun t ht hW => by rw [hq]; exact ⟨rfl, by rw [ht]; exact HW.warm hW, HS.F ht⟩) HS.2.2 d hC.2.2.2.2.1
theorem x_vret {q : α} (hr : I.2.2.2.1 = none) (hq : ρ q = (.null, w)) (d : decode I.2.1 pc = .ok (.return_, 1)) (hc : kc ≤ I.2.2.2.2.1.cells) (hs : ks ≤ I.2.2.2.2.1.slots) : SP I ρ kc ks pc L [] w (some q) := by
  intro v hX p l e s m args below meth c G H locs ls hC HW HS HL
  cases hX
  refine W.widen hc hs ?_
  exact W.vret hC.1 hC.2.1 (hC.2.2.2.1.trans hr) (fun t ht hW => by rw [hq]; exact ⟨rfl, by rw [ht]; exact HW.warm hW, HS.F ht⟩) HS.2.2 d hC.2.2.2.2.1
end SPR

