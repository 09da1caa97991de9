section SPN
variable {I : xI} {α : Type} {ρ : α → Value × xW} {kc ks pc : Nat} {L : xL} {S : List Value} {X : Option α} {C : xPw}
set_option maxHeartbeats 1000000 in
/-- a copy of the table at 200 -/
theorem c_clone (e : Nat) {idx : Nat} (hlink : Cond.methodLink I.1.cls idx ⟨"[I", "clone", "()Ljava/lang/Object;"⟩ ∈ xtb) (hsame : Cond.sameMethod "[I" "java/lang/Object" "clone" "()Ljava/lang/Object;" ∈ xtb) (hnat : Cond.native ⟨"java/lang/Object", "clone", "()Ljava/lang/Object;"⟩ ∈ xtb) (hinst : Cond.instanceMethod ⟨"java/lang/Object", "clone", "()Ljava/lang/Object;"⟩ ∈ xtb) (hsel : Cond.selects "[I" ⟨"[I", "clone", "()Ljava/lang/Object;"⟩ ⟨"java/lang/Object", "clone", "()Ljava/lang/Object;"⟩ ∈ xtb) (hcl : Cond.castable "[I" "java/lang/Cloneable" ∈ xnt) (hT : xT e = 11) (hN : xN e = 12) (hframes : 1 ≤ I.2.2.2.2.1.frames) (hlocals : xSum S + 14 ≤ I.2.2.2.2.1.locals) (hcells : kc + 1 ≤ I.2.2.2.2.1.cells) (hslots : ks + 12 ≤ I.2.2.2.2.1.slots) (d : decode I.2.1 pc = .ok (.invokevirtual idx, 3)) (k : SP I ρ (kc + 1) (ks + 12) (pc + 3) L (.ref e :: S) (xwp (ccl C xRF)) X) : SP I ρ kc ks pc L (.ref 200 :: S) (xwp C) (if C.1 = e then X else none) := by
  refine SP.ite (fun he => ?_) (fun _ => SP.none)
  intro v hX p l en s m args below meth c G H locs ls hC HW HS HL
  have hts := hC.2.2.2.2.2.2.1
  have he9 : e < 191 := xT_lt (by omega)
  obtain ⟨cell, g1, g2, g3, g4, g5, g6⟩ := HW.2.2.2.2.2.1.1.2.2
  have hcI : cell.cls = G.2.2.1 11 := Option.some.inj (g2.symm.trans (va_nm_int (HW.2.2.2.2.1.2 0 _ rfl).2))
  obtain ⟨c0, t0', f1, f2, f3⟩ := Cond.castable_spec (va_Nw.use (A := args) rfl (HW.2.2.2.2.2.2 _ hcl))
  cases g2.symm.trans f1
  intro T hTh0 Xs
  have hcellT : T.heap[G.2.1 200]? = some cell := by rw [hTh0]; exact g1
  obtain ⟨-, kA, hkA, comp, hkind⟩ := State.isArrayOf_alike Xs.warmed.alike ((HW.2.2.2.2.1.2 0 _ rfl).1 0 (fun _ => .null))
  obtain ⟨-, kS, hkS, compS, hkindS⟩ := (HW.2.2.2.2.1.2 0 _ rfl).1 0 (fun _ => .null)
  have hsz : cell.slots.size = 12 := by rw [g5]; simp
  have hcellE : ({ cls := cell.cls, slots := cell.slots } : Cell) = arrV (G.2.2.1 11) 12 (fun j => .int (xRF j)) := by
    rw [hcI, g5]
    rfl
  obtain ⟨vm', X', st⟩ := Xs.cloneArray hC.1 hC.2.2.2.2.2.1 (hts _ hlink) (hts _ hsame) (hts _ hnat) (hts _ hinst) (hts _ hsel) (a := G.2.1 200) (cell := cell) hcellT (fun k h => by rw [h] at g4; cases g4) g3 g2 f2 f3
    (fun i v hv => by
      rw [hcI]
      have hk' : T.vm.classes[G.2.2.1 11]? = some kA := hkA
      have hv2 : fits .int v = true := by
        rw [g5] at hv
        simp only [Array.getElem?_ofFn] at hv
        split at hv
        · cases hv; rfl
        · cases hv
      simpa [State.fitsSlot, State.slotType?, hk', hkind] using hv2)
    (g := F0 m pc ls (.ref (G.2.1 200) :: S.map (xcv G.2.1))) rfl (by rw [hC.2.2.1]; exact HL.1) rfl (by rw [hC.2.1]; exact d) hframes (by show 2 * 0 + ((S.map (xcv G.2.1)).map fun v => v.category).sum + 14 ≤ _; rw [xSum_cv]; omega) hcells (by rw [hsz]; exact hslots) (hloader := by rw [hcI]; exact Vm.clonesLoader_of_array hkS hkindS)
  rw [hcellE, hsz] at X'
  generalize hH1 : H.push (arrV (G.2.2.1 11) 12 (fun j => .int (xRF j))) = H1
  have z1 : H1.size = H.size + 1 := by rw [← hH1, Array.size_push]
  have e1 : H1[H.size]? = some (arrV (G.2.2.1 11) 12 (fun j => .int (xRF j))) := by rw [← hH1, Array.getElem?_push_size]
  have o1 : ∀ q : Nat, q < H.size → H1[q]? = H[q]? := fun q hq => by rw [← hH1, Array.getElem?_push, if_neg (Nat.ne_of_lt hq)]
  have HW' : XW G (xwp (ccl C xRF)) s H1 := by
    have h0 := XW.push (n := C.1) (E := xentp C) (e := xentp (ccl C xRF) C.1) HW (by omega) z1 o1 (by
      rw [he, xentp_int hT hN]
      show H1[H.size]? = some (arrV _ _ (fun j => .int ((ccl C xRF).2.1.1 e j)))
      rw [e1]
      refine congrArg some (arrV_congr _ (fun j _ => ?_))
      simp [ccl, he])
    refine XW.congr (E' := xentp (ccl C xRF)) (n := C.1 + 1) (fun i hi => ?_) h0
    by_cases h : i = C.1
    · rw [if_pos h, h]
    · rw [if_neg h]
      refine (xentp_ne ?_ ?_ ?_).symm <;> funext b <;> simp [ccl, h]
  have hsz2 : H.size = G.2.1 e := by rw [HW.2.2.1 e he9, ← he]; exact HW.1
  obtain ⟨t, b1, b2⟩ := k v hX p l en s m args below meth c G H1 locs ls hC HW' (va_S.push HS (by omega) o1) HL ((T.setVm vm').pushCell (arrV (G.2.2.1 11) 12 (fun j => .int (xRF j)))) (by rw [← hH1, ← hTh0]; rfl) X'
  refine ⟨t, st t ?_, b2⟩
  rw [hcellE, hTh0, hsz2]
  exact b1
theorem c_cast {i n idx : Nat} (hT : xT i = 11) (hn : xN i = n) (hlink : Cond.classLink I.1.cls idx "[I" ∈ xtb) (d : decode I.2.1 pc = .ok (.checkcast idx, 3)) (k : SP I ρ kc ks (pc + 3) L (.ref i :: S) (xwp C) X) : SP I ρ kc ks pc L (.ref i :: S) (xwp C) (if i < C.1 then X else none) := by
  refine SP.ite (fun hi => ?_) (fun _ => SP.none)
  intro v hX p l en s m args below meth c G H locs ls hC HW HS HL
  have he : (xws G (xwp C))[i]? = some (G.2.1 i, .inl (G.2.2.1 11, n, .inl (C.2.1.1 i))) := by
    rw [xws_at (w := xwp C) hi]
    show some (G.2.1 i, xce _ _ (xentp C i)) = _
    rw [xentp_int hT hn]
    rfl
  exact va_castA hC.1 hC.2.1 hC.2.2.2.2.2.1 (hC.2.2.2.2.2.2.1 _ hlink) HW.2.2.2.1 i he (va_nm_int (HW.2.2.2.2.1.2 0 _ rfl).2) d (k v hX p l en s m args below meth c G H locs ls hC HW HS HL)
theorem SP.bdp {e : xPw} {K : xPw → Option α} (k : ∀ x, x = e → SP I ρ kc ks pc L S (xwp x) (K x)) : SP I ρ kc ks pc L S (xwp e) (bd e K) := k e rfl
end SPN
def xMeI (Iz : xI) : Prop := xMe Iz ∧ Cond.instanceMethod Iz.1 ∈ xtb ∧ Iz.1.name = "<init>" ∧ Iz.2.2.2.1 = none
section SPO
variable {I : xI} {α : Type} {ρ : α → Value × xW} {kc ks pc : Nat} {L : xL} {S : List Value} {w : xW} {X : Option α} {Iz : xI} {β : Type} {ρz : β → Value × xW} {Fz : Option β} {K : β → Option α} {As rest : List Value} {b idx n kc' ks' : Nat}
theorem x_objInit {b : Nat} (hl : Cond.methodLink I.1.cls idx Lib.objectInit ∈ xtb) (hi : Cond.instanceMethod Lib.objectInit ∈ xtb) (hcd : Cond.code Lib.objectInit ⟨#[0xb1]⟩ 1 none ∈ xtb) (hf : 1 ≤ I.2.2.2.2.1.frames) (hlo : xSum S + 12 ≤ I.2.2.2.2.1.locals) (d : decode I.2.1 pc = .ok (.invokespecial idx, 3)) (k : SP I ρ kc ks (pc + 3) L S w X) : SP I ρ kc ks pc L (.ref b :: S) w X := by
  intro v hX p l e s m args below meth c G H locs ls hC HW HS HL
  have hts := hC.2.2.2.2.2.2.1
  exact W.objInit hC.1 hC.2.1 hC.2.2.2.2.2.1 (hts _ hl) (hts _ hi) (hts _ hcd) rfl (HL.1.trans hC.2.2.1.symm) rfl d hf (by show 2 * 0 + ((S.map (xcv G.2.1)).map fun v => v.category).sum + 12 ≤ _; rw [xSum_cv]; omega) (k v hX p l e s m args below meth c G H locs ls hC HW HS HL)
set_option maxHeartbeats 1000000 in
theorem x_callI (hct : Ct Iz ρz (.ref b :: As) w Fz) (hS : S = As.reverse ++ .ref b :: rest) (hw : Cond.methodLink I.1.cls idx Iz.1 ∈ xtb) (hm : xMeI Iz) (hn : As.length = n) (hR : xRm I Iz kc ks n) (hrest : xSum rest ≤ 8) (hk1 : kc + Iz.2.2.2.2.1.cells = kc') (hk2 : ks + Iz.2.2.2.2.1.slots = ks') (d : decode I.2.1 pc = .ok (.invokespecial idx, 3))
    (k : ∀ q, SP I ρ kc' ks' (pc + 3) L (xpush (ρz q).1 rest) (ρz q).2 (K q)) : SP I ρ kc ks pc L S w (Fz.bind K) := by
  subst hk1
  subst hk2
  intro v hX p l e s m args below meth c G H locs ls hC HW HS HL
  obtain ⟨q, hq, hK⟩ := Option.bind_eq_some_iff.mp hX
  have hM := hct q hq l G
  have hts := hC.2.2.2.2.2.2.1
  obtain ⟨hm1, hm2, hm3, hm4⟩ := hm
  have hg : GoodIn xtb (xwds Iz) := xgood (fun _ h => h) (by
    intro u hu
    rcases List.mem_cons.mp hu with rfl | hu
    · exact hm1.1
    · exact hu)
  refine x_back (K := K) (va_runI (As := As.map (xcv G.2.1)) ⟨hC.1, hC.2.1, hC.2.2.1, hC.2.2.2.2.2.1, hts⟩ hM (cwI n hts hg (by rw [← hm4]) rfl rfl (hts _ hm1.2.1) (hts _ hw) (hts _ hm2) hm3 ⟨hm1.2.2.1, hm1.2.2.2, hR.1⟩ ⟨hR.2.1, hR.2.2.1⟩) ⟨xPc_blind G _ w, fun U hU hW => ⟨rfl, by rw [hU]; exact HW.warm hW⟩⟩ rfl (by rw [List.length_map]; exact hn) HL.1 (by rw [hS]; simp [xcv]) (lv_room (by rw [xSum_cv]; exact hrest)) d hR.2.2.2) hK hC HW HS HL (k q)
set_option maxHeartbeats 1000000 in
theorem x_callIN {host : String} (hct : Ct Iz ρz (.ref b :: As) w Fz) (hS : S = As.reverse ++ .ref b :: rest) (hw : Cond.methodLinkNest I.1.cls idx Iz.1 host ∈ xnt) (hm : xMeI Iz) (hn : As.length = n) (hR : xRm I Iz kc ks n) (hrest : xSum rest ≤ 8) (hk1 : kc + Iz.2.2.2.2.1.cells = kc') (hk2 : ks + Iz.2.2.2.2.1.slots = ks') (d : decode I.2.1 pc = .ok (.invokespecial idx, 3))
    (k : ∀ q, SP I ρ kc' ks' (pc + 3) L (xpush (ρz q).1 rest) (ρz q).2 (K q)) : SP I ρ kc ks pc L S w (Fz.bind K) := by
  subst hk1
  subst hk2
  intro v hX p l e s m args below meth c G H locs ls hC HW HS HL
  obtain ⟨q, hq, hK⟩ := Option.bind_eq_some_iff.mp hX
  have hM := hct q hq l G
  have hts := hC.2.2.2.2.2.2.1
  obtain ⟨hm1, hm2, hm3, hm4⟩ := hm
  have hg : GoodIn xtb (xwds Iz) := xgood (fun _ h => h) (by
    intro u hu
    rcases List.mem_cons.mp hu with rfl | hu
    · exact hm1.1
    · exact hu)
  refine x_back (K := K) (va_runIN (As := As.map (xcv G.2.1)) ⟨hC.1, hC.2.1, hC.2.2.1, hC.2.2.2.2.2.1, hts⟩ hM ⟨va_cnB n hts hg (by rw [← hm4]) rfl rfl (HW.2.2.2.2.2.2 _ hw) (hts _ hm1.2.1) ⟨hm1.2.2.1, hm1.2.2.2, hR.1⟩ ⟨hR.2.1, hR.2.2.1⟩, hm3, hts _ hm2⟩ ⟨xPc_blind G _ w, fun U hU hW => ⟨rfl, by rw [hU]; exact HW.warm hW⟩⟩ rfl (by rw [List.length_map]; exact hn) HL.1 (by rw [hS]; simp [xcv]) (lv_room (by rw [xSum_cv]; exact hrest)) d hR.2.2.2) hK hC HW HS HL (k q)
end SPO

theorem g_getsN {I : xI} {α : Type} {ρ : α → Value × xW} {kc ks pc : Nat} {L : xL} {S : List Value} {w : xW} {X : Option α} {idx t : Nat} {nm host : String} (hZ : ∀ (G : xG) (U : State) (H : Heap), xSt G U H → va_Z RX9 nm "[I" (.ref (G.2.1 t)) (xA G) U H) (hw : Cond.fieldLinkNest I.1.cls idx RX9 nm "[I" host ∈ xnt) (d : decode I.2.1 pc = .ok (.getstatic idx, 3)) (k : SP I ρ kc ks (pc + 3) L (.ref t :: S) w X) : SP I ρ kc ks pc L S w X := by
  intro v hX p l e s m args below meth c G H locs ls hC HW HS HL
  obtain ⟨cf, kf, fi, f, a, cell, h1, h2, h3, h4, h5, h6, h7, h8⟩ := hZ G s H HW.2.2.2.2.2.1
  exact va_WgetsN hC.1 hC.2.1 hC.2.2.2.2.2.1 (va_Nw.use rfl (HW.2.2.2.2.2.2 _ hw)) h1 h2 h3 h4 h5 (fun e => by rw [e] at h6; cases h6) h7 rfl d (k v hX p l e s m args below meth c G H locs ls hC HW HS HL)
abbrev rP : xPw → Value × xW := fun C => (.null, xwp C)
