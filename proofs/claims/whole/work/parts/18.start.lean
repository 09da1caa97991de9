
def xL0 : xPw := (0, (fun _ _ => 0, fun _ _ => 0), fun _ _ => false)
theorem len_lt {t : Term} {args : Array Value} {s : State} {v : Value} {a : Addr} {cell : Cell} (h : (Term.length t).eval args s none [] s = some v) (ht : t.eval args s none [] s = some (.ref a)) (ha : s.arrayAt? a = some cell) : cell.slots.size < 2 ^ 31 := by
  simp only [Term.eval, ht, ha, Option.bind_eq_bind, Option.bind_some] at h
  by_cases h2 : cell.slots.size < 2 ^ 31
  · exact h2
  · rw [if_neg h2] at h
    cases h
theorem W.mono {p : Program} {l : Launch} {e : Env} {R : Room} {s : State} {m : MethodId} {args : Array Value} {below : List Frame} {meth : Method} {c : Code} {H : Heap} {locs : List Loc} {cells slots : Nat} {Q Q' : State → Prop} {g : JFrame} (h : ∀ t, Q t → Q' t) (k : W p l e R s m args below meth c H locs cells slots Q g) : W p l e R s m args below meth c H locs cells slots Q' g := fun T hT X => by
  obtain ⟨t, a, b⟩ := k T hT X
  exact ⟨t, a, h t b⟩
/-- a static table, all of it -/
theorem xtab {args : Array Value} {s : State} {nm : String} {f : Nat → Int32} (harr : (Cond.arrayOf (.static "RainOffice" nm "[I") .int).before args s = true) (hlen : (Cond.eq (.length (.static "RainOffice" nm "[I")) (.int 12)).before args s = true) (hel : ∀ j : Nat, j < 12 → (Cond.eq (.elem (.static "RainOffice" nm "[I") (.int (Int32.ofNat j))) (.int (f j))).before args s = true) (hl : (Cond.laysStatic RX9 nm "[I").before args s = true) (hini : (Cond.initialized RX9).before args s = true) (A : Nat → Prop) (hA : ∀ a : Nat, a < s.heap.size → ¬ A a) : ∃ t : Nat, va_Z RX9 nm "[I" (.ref t) A s s.heap ∧ va_T .int t 12 (fun j => .int (f j)) A s s.heap ∧ (Term.static "RainOffice" nm "[I").eval args s none [] s = some (.ref t) := by
  obtain ⟨t, ht, hT⟩ := va_Tof (tm := .static "RainOffice" nm "[I") (ty := .int) (N := 12) (f := fun j => .int (f j)) (A := A) (by decide) harr (va_eqt hlen) (fun j hj => va_eqt (hel j hj)) hA
  exact ⟨t, va_Zref hl hini ht hA, hT, ht⟩
theorem xtabEx {args : Array Value} {s : State} {t : Nat} {f : Nat → Int32} {A : Nat → Prop} (hT : va_T .int t 12 (fun j => .int (f j)) A s s.heap) (ht : (Term.static "RainOffice" "RULES_AT_FIRST" "[I").eval args s none [] s = some (.ref t)) (hlen : (Cond.eq (.length (.static "RainOffice" "RULES_AT_FIRST" "[I")) (.int 12)).before args s = true) (hex : (Cond.exactly (.static "RainOffice" "RULES_AT_FIRST" "[I") "[I").before args s = true) : ∃ cell : Cell, s.heap[t]? = some cell ∧ s.vm.findClass "[I" = some cell.cls ∧ cell.vm ≠ .unknown ∧ cell.vm.isStatics = false ∧ cell.slots = Array.ofFn (n := 12) (fun j => Value.int (f j.val)) ∧ ¬ A t := by
  obtain ⟨cell, h1, h2, h3, h4, h5, h6, h7⟩ := hT
  obtain ⟨a, c, cell2, k, g1, g2, g3, g4, g5, g6, -⟩ := Cond.exactly_spec hex
  cases ht.symm.trans g1
  cases h1.symm.trans g3
  have hev := va_eqt hlen
  obtain ⟨a2, cell3, e1, e2, -⟩ := Term.length_spec hev
  cases ht.symm.trans e1
  obtain ⟨e3, -⟩ := State.arrayAt?_spec e2
  cases h1.symm.trans e3
  have hlt := len_lt hev ht e2
  have hsz : cell.slots.size = 12 := by
    have h9 : (Int32.ofNat cell.slots.size) = Int32.ofNat 12 := h5
    have h10 := congrArg Int32.toNatClampNeg h9
    rw [Int32.toNatClampNeg_ofNat_of_lt hlt, Int32.toNatClampNeg_ofNat_of_lt (by decide)] at h10
    exact h10
  refine ⟨cell, h1, by rw [g2, g6], h3, g5, ?_, h7⟩
  apply Array.ext
  · rw [hsz]; simp
  · intro j hj1 hj2
    have hj : j < 12 := by omega
    have := h6 j hj
    rw [Array.getElem?_eq_getElem hj1] at this
    simpa using this

set_option maxHeartbeats 8000000 in
set_option maxRecDepth 100000 in
theorem whole_of (hlaw : ∀ (n : Nat) (xs : Nat → Int32), n ≤ 3072 → ∃ M, fL_law n xs xL0 = some ((1:Int32), M)) {p : Program} {e : Env} {s : State} {m : MethodId} {below : List Frame} {meth : Method} {c : Code} (l : Launch) {b L : Nat} {xs : Nat → Int32} (hL : L ≤ 3072) (hx : p.tables.exec = Jvm.exec) (hb : c.code = code) (hr : meth.sig.returnType = ret) (hml : c.maxLocals = 4) (hown : s.vm.findClass RL = some m.cls) (hts : ∀ w ∈ lw_tbl, w.before #[Value.ref b] s = true) (hX : va_X b L xs s s.heap) (hbl : b < s.heap.size) (hlocks : meth.locks = false) (hgv : (Jvm.Cond.and given_1 narrow_1).before #[Value.ref b] s = true) : W p l e room_1 s m #[Value.ref b] below meth c s.heap [] 0 0 (fun t => ∃ o, t.status = .running ∧ Ended t below o ∧ o = .returned (some (.int 1)) ∧ Framed s o t [] 600000 7302250) (entryFrame m ([Value.ref b] : List Value).toArray 4) := by
  obtain ⟨M, hM⟩ := hlaw L xs hL
  have hs := flat_of_before _ hgv
  obtain ⟨c0, i0, k0⟩ := u_known (C := RX0) (T := TX0) (N := 7) (n := 7) hts (fun w h => (List.mem_filter.mp (xsub0 w h)).1) (hts (.instantiable RX0 7) (List.mem_of_getElem? (i := 190) (by decide +kernel)))
  obtain ⟨c1, i1, k1⟩ := u_known (C := RX1) (T := TX1) (N := 4) (n := 4) hts (fun w h => (List.mem_filter.mp (xsub1 w h)).1) (hts (.instantiable RX1 4) (List.mem_of_getElem? (i := 288) (by decide +kernel)))
  obtain ⟨c2, i2, k2⟩ := u_known (C := RX2) (T := TX2) (N := 3) (n := 3) hts (fun w h => (List.mem_filter.mp (xsub2 w h)).1) (hts (.instantiable RX2 3) (List.mem_of_getElem? (i := 228) (by decide +kernel)))
  obtain ⟨c3, i3, k3⟩ := u_known (C := RX3) (T := TX3) (N := 4) (n := 4) hts (fun w h => (List.mem_filter.mp (xsub3 w h)).1) (hts (.instantiable RX3 4) (List.mem_of_getElem? (i := 78) (by decide +kernel)))
  obtain ⟨c4, i4, k4⟩ := u_known (C := RX4) (T := TX4) (N := 2) (n := 2) hts (fun w h => (List.mem_filter.mp (xsub4 w h)).1) (hts (.instantiable RX4 2) (List.mem_of_getElem? (i := 256) (by decide +kernel)))
  obtain ⟨c5, i5, k5⟩ := u_known (C := RX5) (T := TX5) (N := 2) (n := 2) hts (fun w h => (List.mem_filter.mp (xsub5 w h)).1) (hts (.instantiable RX5 2) (List.mem_of_getElem? (i := 222) (by decide +kernel)))
  obtain ⟨c6, i6, k6⟩ := u_known (C := RX6) (T := TX6) (N := 5) (n := 5) hts (fun w h => (List.mem_filter.mp (xsub6 w h)).1) (hts (.instantiable RX6 5) (List.mem_of_getElem? (i := 70) (by decide +kernel)))
  obtain ⟨c7, i7, k7⟩ := u_known (C := RX7) (T := TX7) (N := 9) (n := 9) hts (fun w h => (List.mem_filter.mp (xsub7 w h)).1) (hts (.instantiable RX7 9) (List.mem_of_getElem? (i := 107) (by decide +kernel)))
  obtain ⟨c8, i8, k8⟩ := u_known (C := RX8) (T := TX8) (N := 2) (n := 2) hts (fun w h => (List.mem_filter.mp (xsub8 w h)).1) (hts (.instantiable RX8 2) (List.mem_of_getElem? (i := 263) (by decide +kernel)))
  obtain ⟨c9, i9, k9⟩ := u_known (C := RX9) (T := TX9) (N := 5) (n := 5) hts (fun w h => (List.mem_filter.mp (xsub9 w h)).1) (hts (.instantiable RX9 5) (List.mem_of_getElem? (i := 62) (by decide +kernel)))
  obtain ⟨c10, i10, k10⟩ := u_known (C := RX10) (T := TX10) (N := 26) (n := 26) hts (fun w h => (List.mem_filter.mp (xsub10 w h)).1) (hts (.instantiable RX10 26) (List.mem_of_getElem? (i := 697) (by decide +kernel)))
  obtain ⟨dC, dI, hKc⟩ : ∃ (dC : Nat → ClassId) (dI : Nat → Nat → Nat), ∀ (k : Nat) (q : vw_C), xcl[k]? = some q → u_Kn s q.1 q.2.1 q.2.2 (dC k) (dI k) := by
    refine ⟨fun k => ([c0, c1, c2, c3, c4, c5, c6, c7, c8, c9, c10] : List Nat).getD k 0, fun k => ([i0, i1, i2, i3, i4, i5, i6, i7, i8, i9, i10] : List (Nat → Nat)).getD k (fun _ => 0), ?_⟩
    intro k q hq
    match k, hq with
    | 0, hq => cases hq; exact k0
    | 1, hq => cases hq; exact k1
    | 2, hq => cases hq; exact k2
    | 3, hq => cases hq; exact k3
    | 4, hq => cases hq; exact k4
    | 5, hq => cases hq; exact k5
    | 6, hq => cases hq; exact k6
    | 7, hq => cases hq; exact k7
    | 8, hq => cases hq; exact k8
    | 9, hq => cases hq; exact k9
    | 10, hq => cases hq; exact k10
    | k + 11, hq => simp [xcl] at hq
  obtain ⟨a1, ka1, cp1, f11, f12, f13⟩ := Cond.arrayClass_spec (hts (.arrayClass .int) (List.mem_of_getElem? (i := 97) (by decide +kernel)))
  obtain ⟨a2, ka2, cp2, f21, f22, f23⟩ := Cond.arrayClass_spec (hts (.arrayClass .boolean) (List.mem_of_getElem? (i := 278) (by decide +kernel)))
  obtain ⟨a3, ka3, cp3, f31, f32, f33⟩ := Cond.arrayClass_spec (hts (.arrayClass .long) (List.mem_of_getElem? (i := 781) (by decide +kernel)))
  obtain ⟨cp4, a4, ka4, f41, f42, f43, f44, f45⟩ := Cond.arrayOver_spec (hts (.arrayOver (.object RX7)) (List.mem_of_getElem? (i := 76) (by decide +kernel)))
  obtain ⟨cp5, a5, ka5, f51, f52, f53, f54, f55⟩ := Cond.arrayOver_spec (hts (.arrayOver (.object RX8)) (List.mem_of_getElem? (i := 262) (by decide +kernel)))
  obtain ⟨cp6, a6, ka6, f61, f62, f63, f64⟩ := Cond.arrayOver_specA (hts (.arrayOver (.array .int)) (List.mem_of_getElem? (i := 196) (by decide +kernel)))
  have hA : ∀ a : Nat, a < s.heap.size → ¬ (fun q : Nat => s.heap.size ≤ q) a := fun a h => Nat.not_le.mpr h
  have hlen0 := hs (.eq (.length (.static "RainOffice" "RULES_AT_FIRST" "[I")) (.int 12)) (by decide +kernel)
  have hel0 : ∀ j : Nat, j < 12 → (Cond.eq (.elem (.static "RainOffice" "RULES_AT_FIRST" "[I") (.int (Int32.ofNat j))) (.int (xRF j))).before #[Value.ref b] s = true := by
    intro j hj
    match j, hj with
    | 0, _ => exact hs (.eq (.elem (.static "RainOffice" "RULES_AT_FIRST" "[I") (.int 0)) (.int 2000)) (by decide +kernel)
    | 1, _ => exact hs (.eq (.elem (.static "RainOffice" "RULES_AT_FIRST" "[I") (.int 1)) (.int 4)) (by decide +kernel)
    | 2, _ => exact hs (.eq (.elem (.static "RainOffice" "RULES_AT_FIRST" "[I") (.int 2)) (.int 10)) (by decide +kernel)
    | 3, _ => exact hs (.eq (.elem (.static "RainOffice" "RULES_AT_FIRST" "[I") (.int 3)) (.int 20)) (by decide +kernel)
    | 4, _ => exact hs (.eq (.elem (.static "RainOffice" "RULES_AT_FIRST" "[I") (.int 4)) (.int 1)) (by decide +kernel)
    | 5, _ => exact hs (.eq (.elem (.static "RainOffice" "RULES_AT_FIRST" "[I") (.int 5)) (.int 0)) (by decide +kernel)
    | 6, _ => exact hs (.eq (.elem (.static "RainOffice" "RULES_AT_FIRST" "[I") (.int 6)) (.int 0)) (by decide +kernel)
    | 7, _ => exact hs (.eq (.elem (.static "RainOffice" "RULES_AT_FIRST" "[I") (.int 7)) (.int 0)) (by decide +kernel)
    | 8, _ => exact hs (.eq (.elem (.static "RainOffice" "RULES_AT_FIRST" "[I") (.int 8)) (.int 0)) (by decide +kernel)
    | 9, _ => exact hs (.eq (.elem (.static "RainOffice" "RULES_AT_FIRST" "[I") (.int 9)) (.int 0)) (by decide +kernel)
    | 10, _ => exact hs (.eq (.elem (.static "RainOffice" "RULES_AT_FIRST" "[I") (.int 10)) (.int 0)) (by decide +kernel)
    | 11, _ => exact hs (.eq (.elem (.static "RainOffice" "RULES_AT_FIRST" "[I") (.int 11)) (.int 0)) (by decide +kernel)
    | j + 12, hj => exact absurd hj (by omega)
  obtain ⟨t0, z0, y0, v0⟩ := xtab (hs (.arrayOf (.static "RainOffice" "RULES_AT_FIRST" "[I") .int) (by decide +kernel)) hlen0 hel0 (hts (.laysStatic RX9 "RULES_AT_FIRST" "[I") (List.mem_of_getElem? (i := 99) (by decide +kernel))) (hts (.initialized RX9) (List.mem_of_getElem? (i := 48) (by decide +kernel))) _ hA
  have hlen1 := hs (.eq (.length (.static "RainOffice" "RULES_LEAST" "[I")) (.int 12)) (by decide +kernel)
  have hel1 : ∀ j : Nat, j < 12 → (Cond.eq (.elem (.static "RainOffice" "RULES_LEAST" "[I") (.int (Int32.ofNat j))) (.int (xRL j))).before #[Value.ref b] s = true := by
    intro j hj
    match j, hj with
    | 0, _ => exact hs (.eq (.elem (.static "RainOffice" "RULES_LEAST" "[I") (.int 0)) (.int 0)) (by decide +kernel)
    | 1, _ => exact hs (.eq (.elem (.static "RainOffice" "RULES_LEAST" "[I") (.int 1)) (.int 0)) (by decide +kernel)
    | 2, _ => exact hs (.eq (.elem (.static "RainOffice" "RULES_LEAST" "[I") (.int 2)) (.int 1)) (by decide +kernel)
    | 3, _ => exact hs (.eq (.elem (.static "RainOffice" "RULES_LEAST" "[I") (.int 3)) (.int 0)) (by decide +kernel)
    | 4, _ => exact hs (.eq (.elem (.static "RainOffice" "RULES_LEAST" "[I") (.int 4)) (.int 0)) (by decide +kernel)
    | 5, _ => exact hs (.eq (.elem (.static "RainOffice" "RULES_LEAST" "[I") (.int 5)) (.int 0)) (by decide +kernel)
    | 6, _ => exact hs (.eq (.elem (.static "RainOffice" "RULES_LEAST" "[I") (.int 6)) (.int 0)) (by decide +kernel)
    | 7, _ => exact hs (.eq (.elem (.static "RainOffice" "RULES_LEAST" "[I") (.int 7)) (.int 0)) (by decide +kernel)
    | 8, _ => exact hs (.eq (.elem (.static "RainOffice" "RULES_LEAST" "[I") (.int 8)) (.int 0)) (by decide +kernel)
    | 9, _ => exact hs (.eq (.elem (.static "RainOffice" "RULES_LEAST" "[I") (.int 9)) (.int 0)) (by decide +kernel)
    | 10, _ => exact hs (.eq (.elem (.static "RainOffice" "RULES_LEAST" "[I") (.int 10)) (.int 0)) (by decide +kernel)
    | 11, _ => exact hs (.eq (.elem (.static "RainOffice" "RULES_LEAST" "[I") (.int 11)) (.int 0)) (by decide +kernel)
    | j + 12, hj => exact absurd hj (by omega)
  obtain ⟨t1, z1, y1, v1⟩ := xtab (hs (.arrayOf (.static "RainOffice" "RULES_LEAST" "[I") .int) (by decide +kernel)) hlen1 hel1 (hts (.laysStatic RX9 "RULES_LEAST" "[I") (List.mem_of_getElem? (i := 419) (by decide +kernel))) (hts (.initialized RX9) (List.mem_of_getElem? (i := 48) (by decide +kernel))) _ hA
  have hlen2 := hs (.eq (.length (.static "RainOffice" "RULES_MOST" "[I")) (.int 12)) (by decide +kernel)
  have hel2 : ∀ j : Nat, j < 12 → (Cond.eq (.elem (.static "RainOffice" "RULES_MOST" "[I") (.int (Int32.ofNat j))) (.int (xRM j))).before #[Value.ref b] s = true := by
    intro j hj
    match j, hj with
    | 0, _ => exact hs (.eq (.elem (.static "RainOffice" "RULES_MOST" "[I") (.int 0)) (.int 5000)) (by decide +kernel)
    | 1, _ => exact hs (.eq (.elem (.static "RainOffice" "RULES_MOST" "[I") (.int 1)) (.int 200)) (by decide +kernel)
    | 2, _ => exact hs (.eq (.elem (.static "RainOffice" "RULES_MOST" "[I") (.int 2)) (.int 5000)) (by decide +kernel)
    | 3, _ => exact hs (.eq (.elem (.static "RainOffice" "RULES_MOST" "[I") (.int 3)) (.int 100)) (by decide +kernel)
    | 4, _ => exact hs (.eq (.elem (.static "RainOffice" "RULES_MOST" "[I") (.int 4)) (.int 1000)) (by decide +kernel)
    | 5, _ => exact hs (.eq (.elem (.static "RainOffice" "RULES_MOST" "[I") (.int 5)) (.int 1000)) (by decide +kernel)
    | 6, _ => exact hs (.eq (.elem (.static "RainOffice" "RULES_MOST" "[I") (.int 6)) (.int 1000)) (by decide +kernel)
    | 7, _ => exact hs (.eq (.elem (.static "RainOffice" "RULES_MOST" "[I") (.int 7)) (.int 1000)) (by decide +kernel)
    | 8, _ => exact hs (.eq (.elem (.static "RainOffice" "RULES_MOST" "[I") (.int 8)) (.int 1000)) (by decide +kernel)
    | 9, _ => exact hs (.eq (.elem (.static "RainOffice" "RULES_MOST" "[I") (.int 9)) (.int 1000)) (by decide +kernel)
    | 10, _ => exact hs (.eq (.elem (.static "RainOffice" "RULES_MOST" "[I") (.int 10)) (.int 1000)) (by decide +kernel)
    | 11, _ => exact hs (.eq (.elem (.static "RainOffice" "RULES_MOST" "[I") (.int 11)) (.int 1000)) (by decide +kernel)
    | j + 12, hj => exact absurd hj (by omega)
  obtain ⟨t2, z2, y2, v2⟩ := xtab (hs (.arrayOf (.static "RainOffice" "RULES_MOST" "[I") .int) (by decide +kernel)) hlen2 hel2 (hts (.laysStatic RX9 "RULES_MOST" "[I") (List.mem_of_getElem? (i := 421) (by decide +kernel))) (hts (.initialized RX9) (List.mem_of_getElem? (i := 48) (by decide +kernel))) _ hA
  have hex := xtabEx y0 v0 hlen0 (hs (.exactly (.static "RainOffice" "RULES_AT_FIRST" "[I") "[I") (by decide +kernel))
  let G : xG := ((dC, dI), (fun i => if i < 191 then s.heap.size + i else if i = 200 then t0 else if i = 201 then t1 else if i = 202 then t2 else b), (fun t => if t = 11 then a1 else if t = 12 then a2 else if t = 13 then a3 else if t = 14 then a4 else if t = 15 then a5 else a6), s.heap.size)
  have hK : va_K G.1 xcl (xtys G.2.2.1) s := by
    refine ⟨hKc, fun k q hq => ?_⟩
    match k, hq with
    | 0, hq => cases hq; exact ⟨fun N z => ⟨(fun k h => by cases h), ka1, f12, cp1, f13⟩, f11⟩
    | 1, hq => cases hq; exact ⟨fun N z => ⟨(fun k h => by cases h), ka2, f22, cp2, f23⟩, f21⟩
    | 2, hq => cases hq; exact ⟨fun N z => ⟨(fun k h => by cases h), ka3, f32, cp3, f33⟩, f31⟩
    | 3, hq => cases hq; exact ⟨fun N z => ⟨(fun k h => by cases h), ka4, f43, cp4, f44⟩, ka4, cp4, f43, f44, f41, f45⟩
    | 4, hq => cases hq; exact ⟨fun N z => ⟨(fun k h => by cases h), ka5, f53, cp5, f54⟩, ka5, cp5, f53, f54, f51, f55⟩
    | 5, hq => cases hq; exact ⟨fun N z => ⟨(fun k h => by cases h), ka6, f62, cp6, f63⟩, f64⟩
    | k + 6, hq => simp [xtys] at hq
  have hW : XW G (xwp xL0) s s.heap := by
    refine ⟨rfl, Nat.zero_le _, fun i hi => if_pos hi, fun k q hq => by simp [xws, xwp, xL0] at hq, hK, ⟨⟨z0, y0, hex⟩, ⟨z1, y1⟩, ⟨z2, y2⟩⟩, fun w hw => (by
      have h2 := (List.mem_filter.mp hw).2
      have h1 := hts w (List.mem_filter.mp hw).1
      cases w <;> first | exact va_Nw.of rfl h1 | exact h1 | exact absurd h2 (by simp [xisN]))⟩
  have hl := lv_entry ([.ref b]) (n := 4) (Nat.le_of_ble_eq_true rfl)
  rw [lg_entry_eq]
  generalize (lg_sl ([.ref b]) ++ List.replicate (4 - (lg_sl ([.ref b])).length) Slot.unset).toArray = ls at hl ⊢
  have hscr : va_T .int (G.2.1 203) L (fun j => .int (xs j)) (xA G) s s.heap := by
    obtain ⟨scr, h1, h2, h3, h4, h5⟩ := hX
    exact ⟨scr, h1, h2, h3, by omega, by rw [h4], h5, hA b hbl⟩
  refine W.mono (fun t ht => ?_) (sp_law meth.name L xs xL0 _ hM p l e s m #[Value.ref b] below meth c G s.heap [] ls ⟨hx, hb, hml, hr, hlocks, hown, fun w hw => hts w (List.mem_filter.mp hw).1, rfl, hscr⟩ hW va_S.rf ⟨hl.1, hl.2.1, fun i v hv => ?_⟩)
  · obtain ⟨o, h1, h2, ⟨h3, -, -⟩, L9, ⟨g1, g2, g3⟩, h5⟩ := ht
    refine ⟨o, h1, h2, h3, g1, g2, g3.weaken (fun y hy hlt => absurd hlt (Nat.not_lt.mpr (h5 y hy))) (Nat.le_refl _) (Nat.le_refl _)⟩
  · match i, hv with
    | 0, hv => cases hv; exact hl.2.2 (0, .ref b) List.mem_cons_self
    | 1, hv => cases hv
    | 2, hv => cases hv
    | 3, hv => cases hv
    | i + 4, hv => simp at hv

