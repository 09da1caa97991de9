
theorem xword (n : Nat) {w : Cond} (h : lw_tbl[n]? = some w) (hg : goodWord w = true) : w ∈ xtb := List.mem_filter.mpr ⟨List.mem_of_getElem? h, hg⟩
theorem xnest (n : Nat) {w : Cond} (h : lw_tbl[n]? = some w) (hg : xisN w = true) : w ∈ xnt := List.mem_filter.mpr ⟨List.mem_of_getElem? h, hg⟩
theorem xtbl_good : xtb.all goodWord = true := List.all_eq_true.mpr (fun w hw => (List.mem_filter.mp hw).2)
theorem xgood {big ws : List Cond} (hb : ∀ w ∈ xtb, w ∈ big) (h : ∀ w ∈ ws, w ∈ xtb) : GoodIn big ws := fun w hw => ⟨hb w (h w hw), good_of_word (List.all_eq_true.mp xtbl_good w (h w hw))⟩
theorem xsub0 : ∀ w ∈ wsX00, w ∈ xtb := fun w h => (goodIn_of wsX00 (by decide +kernel) w h).1
theorem xsub1 : ∀ w ∈ wsX10, w ∈ xtb := fun w h => (goodIn_of wsX10 (by decide +kernel) w h).1
theorem xsub2 : ∀ w ∈ wsX20, w ∈ xtb := fun w h => (goodIn_of wsX20 (by decide +kernel) w h).1
theorem xsub3 : ∀ w ∈ wsX30, w ∈ xtb := fun w h => (goodIn_of wsX30 (by decide +kernel) w h).1
theorem xsub4 : ∀ w ∈ wsX40, w ∈ xtb := fun w h => (goodIn_of wsX40 (by decide +kernel) w h).1
theorem xsub5 : ∀ w ∈ wsX50, w ∈ xtb := fun w h => (goodIn_of wsX50 (by decide +kernel) w h).1
theorem xsub6 : ∀ w ∈ wsX60, w ∈ xtb := fun w h => (goodIn_of wsX60 (by decide +kernel) w h).1
theorem xsub7 : ∀ w ∈ wsX70, w ∈ xtb := fun w h => (goodIn_of wsX70 (by decide +kernel) w h).1
theorem xsub8 : ∀ w ∈ wsX80, w ∈ xtb := fun w h => (goodIn_of wsX80 (by decide +kernel) w h).1
theorem xsub9 : ∀ w ∈ wsX90, w ∈ xtb := fun w h => (goodIn_of wsX90 (by decide +kernel) w h).1
theorem xsub10 : ∀ w ∈ wsX100, w ∈ xtb := fun w h => (goodIn_of wsX100 (by decide +kernel) w h).1
/-- all that a class's rows want, by its number -/
def xCls (ci : Nat) (C : String) (T : u_T) (N : Nat) (ty : Nat → FieldType) : Prop :=
  xcl[ci]? = some (C, T, N) ∧ (∀ w ∈ u_ws C T N, w ∈ xtb) ∧ (∀ k, k < N → parseFieldDescriptor (T k).2.2.1 = some (ty k)) ∧ (∀ a, a < N → ∀ b, b < N → a ≠ b → (T a).2.1 ≠ (T b).2.1) ∧ (∀ k, k < N → (T k).1 = C)
theorem xC0 : xCls 0 RX0 TX0 7 tyX0 := ⟨rfl, xsub0, tyX0_ok, nmX0, by decide +kernel⟩
theorem xC1 : xCls 1 RX1 TX1 4 tyX1 := ⟨rfl, xsub1, tyX1_ok, nmX1, by decide +kernel⟩
theorem xC2 : xCls 2 RX2 TX2 3 tyX2 := ⟨rfl, xsub2, tyX2_ok, nmX2, by decide +kernel⟩
theorem xC3 : xCls 3 RX3 TX3 4 tyX3 := ⟨rfl, xsub3, tyX3_ok, nmX3, by decide +kernel⟩
theorem xC4 : xCls 4 RX4 TX4 2 tyX4 := ⟨rfl, xsub4, tyX4_ok, nmX4, by decide +kernel⟩
theorem xC5 : xCls 5 RX5 TX5 2 tyX5 := ⟨rfl, xsub5, tyX5_ok, nmX5, by decide +kernel⟩
theorem xC6 : xCls 6 RX6 TX6 5 tyX6 := ⟨rfl, xsub6, tyX6_ok, nmX6, by decide +kernel⟩
theorem xC7 : xCls 7 RX7 TX7 9 tyX7 := ⟨rfl, xsub7, tyX7_ok, nmX7, by decide +kernel⟩
theorem xC8 : xCls 8 RX8 TX8 2 tyX8 := ⟨rfl, xsub8, tyX8_ok, nmX8, by decide +kernel⟩
theorem xC9 : xCls 9 RX9 TX9 5 tyX9 := ⟨rfl, xsub9, tyX9_ok, nmX9, by decide +kernel⟩
theorem xC10 : xCls 10 RX10 TX10 26 tyX10 := ⟨rfl, xsub10, tyX10_ok, nmX10, by decide +kernel⟩
/-- a field's entry in the pool: linked by the class itself, or by a nest mate -/
def xFl (own : String) (idx : Nat) (C : String) (T : u_T) (k : Nat) : Prop :=
  Cond.fieldLink own idx C (T k).2.1 (T k).2.2.1 ∈ xtb ∨ ∃ host, Cond.fieldLinkNest own idx C (T k).2.1 (T k).2.2.1 host ∈ xnt

/-- one cell written: the world behind it -/
theorem XW.put {G : xG} {w : xW} {s : State} {H H1 : Heap} {locs : List Loc} {i j : Nat} {e : va_E} (HW : XW G w s H) (HS : va_S (xA G) s.heap H locs) (hi : i < w.1) (hz : H1.size = H.size) (oq : ∀ q : Nat, q ≠ G.2.1 i → H1[q]? = H[q]?) (hat : va_at G.1 xcl (G.2.1 i, xce G.2.1 G.2.2.1 e) H1) : XW G (xset w i e) s H1 ∧ va_S (xA G) s.heap H1 (locs ++ [⟨G.2.1 i, j⟩]) := by
  have hA : xA G (G.2.1 i) := by
    show G.2.2.2 ≤ _
    rw [HW.2.2.1 i (Nat.lt_of_lt_of_le hi HW.2.1)]
    exact Nat.le_add_right _ _
  refine ⟨⟨by rw [hz]; exact HW.1, HW.2.1, HW.2.2.1, ?_, HW.2.2.2.2.1, HW.2.2.2.2.2.1.kept (fun q _ hq => oq q (fun e => hq (e ▸ hA))), HW.2.2.2.2.2.2⟩, HS.put hz oq hA⟩
  rw [← xws_set (G := G) (w := w) (i := i) (e := e) rfl]
  exact HW.2.2.2.1.set (xws_D HW) (xws_at hi) hat oq
def xinb (j : Int32) (n : Nat) : Bool := decide (0 ≤ j) && decide (j.toNatClampNeg < n)
theorem xinb_in {j : Int32} {n : Nat} (h : xinb j n = true) : vp_in j n := by
  simp only [xinb, Bool.and_eq_true, decide_eq_true_eq] at h
  intro q
  rcases q with q | q
  · exact absurd q (Int32.not_lt.mpr h.1)
  · omega
section SPC
variable {I : xI} {α : Type} {ρ : α → Value × xW} {kc ks pc : Nat} {L : xL} {S : List Value} {w : xW} {X : Option α}
set_option maxHeartbeats 1000000 in
theorem g_get {ci idx i : Nat} {C : String} {T : u_T} {N : Nat} {ty : Nat → FieldType} {fs : List Value} {u : Value} (hc : xCls ci C T N ty) (kf : Nat) (hf : xFl I.1.cls idx C T kf) (hkf : kf < N) (hi : i < w.1) (hE : w.2 i = .inr (ci, fs)) (hu : fs[kf]? = some u) (d : decode I.2.1 pc = .ok (.getfield idx, 3)) (k : SP I ρ kc ks (pc + 3) L (u :: S) w X) : SP I ρ kc ks pc L (.ref i :: S) w X := by
  intro v hX p l e s m args below meth c G H locs ls hC HW HS HL
  have he : (xws G w)[i]? = some (G.2.1 i, .inr (ci, fs.map (xcv G.2.1))) := by rw [xws_at hi, hE]; rfl
  have hv : (fs.map (xcv G.2.1))[kf]? = some (xcv G.2.1 u) := by rw [List.getElem?_map, hu]; rfl
  have hs : ∀ x, s.fieldFound? (T kf).1 (T kf).2.1 (T kf).2.2.1 = some x → s.fieldFound? C (T kf).2.1 (T kf).2.2.1 = some x := by rw [hc.2.2.2.2 kf hkf]; exact fun _ h => h
  rcases hf with hf | ⟨host, hf⟩
  · exact va_get hC.1 hC.2.1 hC.2.2.2.2.2.2.1 hc.2.1 hC.2.2.2.2.2.1 HW.2.2.2.2.1 HW.2.2.2.1 i he hc.1 kf hkf (hC.2.2.2.2.2.2.1 _ hf) hs hv d (k v hX p l e s m args below meth c G H locs ls hC HW HS HL)
  · exact va_getN hC.1 hC.2.1 hC.2.2.2.2.2.2.1 hc.2.1 hC.2.2.2.2.2.1 HW.2.2.2.2.1 HW.2.2.2.1 i he hc.1 kf hkf (va_Nw.use rfl (HW.2.2.2.2.2.2 _ hf)) hs hv d (k v hX p l e s m args below meth c G H locs ls hC HW HS HL)
set_option maxHeartbeats 1000000 in
theorem g_put {ci idx i : Nat} {C : String} {T : u_T} {N : Nat} {ty : Nat → FieldType} {fs : List Value} {u : Value} (hc : xCls ci C T N ty) (kf : Nat) (hf : xFl I.1.cls idx C T kf) (hkf : kf < N) (hi : i < w.1) (hE : w.2 i = .inr (ci, fs)) (hl : kf < fs.length) (hfin : (T kf).2.2.2 = false) (hn : ∀ ad, narrow (ty kf) (xcv ad u) = xcv ad u) (hfit : ∀ ad, fits (ty kf) (xcv ad u) = true) (d : decode I.2.1 pc = .ok (.putfield idx, 3)) (k : SP I ρ kc ks (pc + 3) L S (xset w i (.inr (ci, fs.set kf u))) X) : SP I ρ kc ks pc L (u :: .ref i :: S) w X := by
  intro v hX p l e s m args below meth c G H locs ls hC HW HS HL
  have he : (xws G w)[i]? = some (G.2.1 i, .inr (ci, fs.map (xcv G.2.1))) := by rw [xws_at hi, hE]; rfl
  have hs : ∀ x, s.fieldFound? (T kf).1 (T kf).2.1 (T kf).2.2.1 = some x → s.fieldFound? C (T kf).2.1 (T kf).2.2.1 = some x := by rw [hc.2.2.2.2 kf hkf]; exact fun _ h => h
  have hts := hC.2.2.2.2.2.2.1
  have hap := va_apart (own := I.1.cls) hts hc.2.1 ty hc.2.2.1 hc.2.2.2.1 HW.2.2.2.2.1 hc.1
  obtain ⟨r, h1, cell, q1, q2, q3, q4⟩ := HW.2.2.2.1 i _ he
  have hr : r = (C, T, N) := Option.some.inj ((show xcl[ci]? = some r from h1).symm.trans hc.1)
  subst hr
  obtain ⟨hS, hfc, kC, hkC, hkind⟩ := HW.2.2.2.2.1.1 ci _ hc.1
  obtain ⟨cf, kf2, fi, f, hi2, hsl⟩ := hS kf hkf
  have hlay := hts _ (hc.2.1 _ (u_in_lay hkf))
  unfold u_lay at hlay
  rw [if_neg (by rw [hfin]; decide)] at hlay
  have hst := (u_facts hfc hkC (u_lays hts hc.2.1 hkf) hi2).1
  have h6 := u_store hfc hkC hkind hlay hi2 (hc.2.2.1 kf hkf) (hn G.2.1) (hfit G.2.1)
  have go : ∀ H' : Heap, H'[G.2.1 i]? = some (cell.setSlot f.slot (xcv G.2.1 u)) → H'.size = H.size → (∀ q, q ≠ G.2.1 i → H'[q]? = H[q]?) → XW G (xset w i (.inr (ci, fs.set kf u))) s H' ∧ va_S (xA G) s.heap H' (locs ++ [⟨G.2.1 i, f.slot⟩]) := by
    intro H' e1 e2 e3
    rw [hsl] at e1
    refine XW.put HW HS hi e2 e3 ?_
    show ∃ r : vw_C, xcl[ci]? = some r ∧ t_OB (G.2.1 i) _ _ _ H' (vp_V ((fs.set kf u).map (xcv G.2.1)))
    refine ⟨_, hc.1, t_OB.to (V := updV (vp_V (fs.map (xcv G.2.1))) kf (xcv G.2.1 u)) ⟨_, e1, q2, q3, t_set q4 hap hkf _⟩ (fun j _ => ?_)⟩
    rw [List.map_set]
    exact vp_updV_set (by rw [List.length_map]; exact hl) _ j
  rcases hf with hf | ⟨host, hf⟩
  · refine W.putK hC.1 hC.2.1 (f := f) ⟨hC.2.2.2.2.2.1, hts _ hf, ⟨_, _, _, hs _ hi2⟩, hst⟩ (by rw [q2]; exact h6) q1 q3 (by rw [hsl]; exact k2_hasslot (q4 kf hkf)) rfl rfl d fun H' e1 e2 e3 => ?_
    obtain ⟨a1, a2⟩ := go H' e1 e2 e3
    exact (k v hX p l e s m args below meth c G H' _ ls hC a1 a2 HL)
  · refine va_WputK hC.1 hC.2.1 (f := f) hC.2.2.2.2.2.1 (va_Nw.use rfl (HW.2.2.2.2.2.2 _ hf)) (hs _ hi2) hst (by rw [q2]; exact h6) q1 q3 (by rw [hsl]; exact k2_hasslot (q4 kf hkf)) rfl rfl d fun H' e1 e2 e3 => ?_
    obtain ⟨a1, a2⟩ := go H' e1 e2 e3
    exact (k v hX p l e s m args below meth c G H' _ ls hC a1 a2 HL)

set_option maxHeartbeats 1000000 in
theorem g_iald {i n : Nat} {j : Int32} {f : Nat → Int32} (hi : i < w.1) (hE : w.2 i = .inl (11, n, .inl f)) (d : decode I.2.1 pc = .ok (.iaload, 1)) (k : xinb j n = true → SP I ρ kc ks (pc + 1) L (.int (f j.toNatClampNeg) :: S) w X) : SP I ρ kc ks pc L (.int j :: .ref i :: S) w (if xinb j n = true then X else none) := by
  refine SP.ite (fun hb => ?_) (fun _ => SP.none)
  have k := k hb
  intro v hX p l e s m args below meth c G H locs ls hC HW HS HL
  have he : (xws G w)[i]? = some (G.2.1 i, .inl (G.2.2.1 11, n, .inl f)) := by rw [xws_at hi, hE]; rfl
  exact va_iald hC.1 hC.2.1 HW.2.2.2.2.1 HW.2.2.2.1 i 0 he rfl (xinb_in hb) d (k v hX p l e s m args below meth c G H locs ls hC HW HS HL)
set_option maxHeartbeats 1000000 in
theorem g_zald {i n : Nat} {j : Int32} {f : Nat → Int32} (hi : i < w.1) (hE : w.2 i = .inl (12, n, .inl f)) (d : decode I.2.1 pc = .ok (.baload, 1)) (k : xinb j n = true → SP I ρ kc ks (pc + 1) L (.int (f j.toNatClampNeg) :: S) w X) : SP I ρ kc ks pc L (.int j :: .ref i :: S) w (if xinb j n = true then X else none) := by
  refine SP.ite (fun hb => ?_) (fun _ => SP.none)
  have k := k hb
  intro v hX p l e s m args below meth c G H locs ls hC HW HS HL
  have he : (xws G w)[i]? = some (G.2.1 i, .inl (G.2.2.1 12, n, .inl f)) := by rw [xws_at hi, hE]; rfl
  exact va_zald hC.1 hC.2.1 HW.2.2.2.2.1 HW.2.2.2.1 i 1 he rfl (xinb_in hb) d (k v hX p l e s m args below meth c G H locs ls hC HW HS HL)
set_option maxHeartbeats 1000000 in
theorem g_lald {i n : Nat} {j : Int32} {f : Nat → Int64} (hi : i < w.1) (hE : w.2 i = .inl (13, n, .inr (.inl f))) (d : decode I.2.1 pc = .ok (.laload, 1)) (k : xinb j n = true → SP I ρ kc ks (pc + 1) L (.long (f j.toNatClampNeg) :: S) w X) : SP I ρ kc ks pc L (.int j :: .ref i :: S) w (if xinb j n = true then X else none) := by
  refine SP.ite (fun hb => ?_) (fun _ => SP.none)
  have k := k hb
  intro v hX p l e s m args below meth c G H locs ls hC HW HS HL
  have he : (xws G w)[i]? = some (G.2.1 i, .inl (G.2.2.1 13, n, .inr (.inl f))) := by rw [xws_at hi, hE]; rfl
  exact va_lald hC.1 hC.2.1 HW.2.2.2.2.1 HW.2.2.2.1 i 2 he rfl (xinb_in hb) d (k v hX p l e s m args below meth c G H locs ls hC HW HS HL)
set_option maxHeartbeats 1000000 in
theorem g_iast {i n : Nat} {j : Int32} {x : Int32} {f : Nat → Int32} (hi : i < w.1) (hE : w.2 i = .inl (11, n, .inl f)) (d : decode I.2.1 pc = .ok (.iastore, 1)) (k : xinb j n = true → SP I ρ kc ks (pc + 1) L S (xset w i (.inl (11, n, .inl (upd f j.toNatClampNeg x)))) X) : SP I ρ kc ks pc L (.int x :: .int j :: .ref i :: S) w (if xinb j n = true then X else none) := by
  refine SP.ite (fun hb => ?_) (fun _ => SP.none)
  have k := k hb
  intro v hX p l e s m args below meth c G H locs ls hC HW HS HL
  have he : (xws G w)[i]? = some (G.2.1 i, .inl (G.2.2.1 11, n, .inl f)) := by rw [xws_at hi, hE]; rfl
  refine W.iast hC.1 hC.2.1 (HW.2.2.2.1 i _ he) ((HW.2.2.2.2.1.2 0 _ rfl).1 n (fun j => .int (f j))) (fun q => by cases q) (by show ¬ (j < 0 ∨ (arrV _ _ _).slots.size ≤ _); rw [arrV_size]; exact xinb_in hb) rfl rfl d fun H1 e9 z oq => ?_
  obtain ⟨a1, a2⟩ := XW.put (e := .inl (11, n, .inl (upd f j.toNatClampNeg x))) (j := j.toNatClampNeg) HW HS hi z oq (by
    show H1[G.2.1 i]? = some (vp_cell _ _)
    rw [e9]
    rw [vp_cell_i, vp_cell_i, arrV_store]
    congr 2
    funext q
    by_cases hq : q = j.toNatClampNeg
    · subst hq
      simp [updV, upd, vp_nar, narrow]
    · simp [updV, upd, hq])
  exact (k v hX p l e s m args below meth c G H1 _ ls hC a1 a2 HL)
set_option maxHeartbeats 1000000 in
theorem g_zast {i n : Nat} {j : Int32} {x : Int32} {f : Nat → Int32} (hi : i < w.1) (hE : w.2 i = .inl (12, n, .inl f)) (d : decode I.2.1 pc = .ok (.bastore, 1)) (k : xinb j n = true → SP I ρ kc ks (pc + 1) L S (xset w i (.inl (12, n, .inl (upd f j.toNatClampNeg (vp_nar .boolean x))))) X) : SP I ρ kc ks pc L (.int x :: .int j :: .ref i :: S) w (if xinb j n = true then X else none) := by
  refine SP.ite (fun hb => ?_) (fun _ => SP.none)
  have k := k hb
  intro v hX p l e s m args below meth c G H locs ls hC HW HS HL
  have he : (xws G w)[i]? = some (G.2.1 i, .inl (G.2.2.1 12, n, .inl f)) := by rw [xws_at hi, hE]; rfl
  refine W.zast hC.1 hC.2.1 (HW.2.2.2.1 i _ he) ((HW.2.2.2.2.1.2 1 _ rfl).1 n (fun j => .int (f j))) (fun q => by cases q) (by show ¬ (j < 0 ∨ (arrV _ _ _).slots.size ≤ _); rw [arrV_size]; exact xinb_in hb) rfl rfl d fun H1 e9 z oq => ?_
  obtain ⟨a1, a2⟩ := XW.put (e := .inl (12, n, .inl (upd f j.toNatClampNeg (vp_nar .boolean x)))) (j := j.toNatClampNeg) HW HS hi z oq (by
    show H1[G.2.1 i]? = some (vp_cell _ _)
    rw [e9]
    rw [vp_cell_i, vp_cell_i, arrV_store]
    congr 2
    funext q
    by_cases hq : q = j.toNatClampNeg
    · subst hq
      simp [updV, upd, vp_nar, narrow]
    · simp [updV, upd, hq])
  exact (k v hX p l e s m args below meth c G H1 _ ls hC a1 a2 HL)
set_option maxHeartbeats 1000000 in
theorem g_last {i n : Nat} {j : Int32} {x : Int64} {f : Nat → Int64} (hi : i < w.1) (hE : w.2 i = .inl (13, n, .inr (.inl f))) (d : decode I.2.1 pc = .ok (.lastore, 1)) (k : xinb j n = true → SP I ρ kc ks (pc + 1) L S (xset w i (.inl (13, n, .inr (.inl (vp_updL f j.toNatClampNeg x))))) X) : SP I ρ kc ks pc L (.long x :: .int j :: .ref i :: S) w (if xinb j n = true then X else none) := by
  refine SP.ite (fun hb => ?_) (fun _ => SP.none)
  have k := k hb
  intro v hX p l e s m args below meth c G H locs ls hC HW HS HL
  have he : (xws G w)[i]? = some (G.2.1 i, .inl (G.2.2.1 13, n, .inr (.inl f))) := by rw [xws_at hi, hE]; rfl
  refine W.last hC.1 hC.2.1 (HW.2.2.2.1 i _ he) ((HW.2.2.2.2.1.2 2 _ rfl).1 n (fun j => .long (f j))) (fun q => by cases q) (by show ¬ (j < 0 ∨ (arrV _ _ _).slots.size ≤ _); rw [arrV_size]; exact xinb_in hb) rfl rfl d fun H1 e9 z oq => ?_
  obtain ⟨a1, a2⟩ := XW.put (e := .inl (13, n, .inr (.inl (vp_updL f j.toNatClampNeg x)))) (j := j.toNatClampNeg) HW HS hi z oq (by
    show H1[G.2.1 i]? = some (vp_cell _ _)
    rw [e9]
    rw [vp_cell_l, vp_cell_l, arrV_store]
    congr 2
    funext q
    by_cases hq : q = j.toNatClampNeg
    · subst hq
      simp [updV, vp_updL, vp_nar, narrow]
    · simp [updV, vp_updL, hq])
  exact (k v hX p l e s m args below meth c G H1 _ ls hC a1 a2 HL)
set_option maxHeartbeats 1000000 in
theorem g_aald {i n t t0 : Nat} {ty : FieldType} {j : Int32} {f : Nat → Option Nat} {q : Nat} (hi : i < w.1) (hE : w.2 i = .inl (t, n, .inr (.inr (.inr (.inr f))))) (ht : ∀ cA : Nat → ClassId, (xtys cA)[t0]? = some (cA t, ty)) (hr : ty.isReference = true) (d : decode I.2.1 pc = .ok (.aaload, 1)) (hq : xinb j n = true → f j.toNatClampNeg = some q) (k : xinb j n = true → SP I ρ kc ks (pc + 1) L (.ref q :: S) w X) : SP I ρ kc ks pc L (.int j :: .ref i :: S) w (if xinb j n = true then X else none) := by
  refine SP.ite (fun hb => ?_) (fun _ => SP.none)
  have k := k hb
  intro v hX p l e s m args below meth c G H locs ls hC HW HS HL
  have he : (xws G w)[i]? = some (G.2.1 i, .inl (G.2.2.1 t, n, .inr (.inr (.inr (.inr (fun j => (f j).map G.2.1)))))) := by rw [xws_at hi, hE]; rfl
  have hlt : j.toNatClampNeg < n := Nat.not_le.mp fun q => (xinb_in hb) (Or.inr q)
  refine W.aald (v := .ref (G.2.1 q)) (ty := ty) hC.1 hC.2.1 (HW.2.2.2.1 i _ he) ((HW.2.2.2.2.1.2 t0 _ (ht G.2.2.1)).1 n (fun j => va_rf ((f j).map G.2.1))) hr (fun q => by cases q) (by show ¬ (j < 0 ∨ (arrV _ _ _).slots.size ≤ _); rw [arrV_size]; exact xinb_in hb) (by show (arrV _ _ _).slots[_]? = _; rw [arrV_read _ _ hlt]; show some (va_rf ((f j.toNatClampNeg).map G.2.1)) = _; rw [hq hb]; rfl) rfl rfl d (k v hX p l e s m args below meth c G H locs ls hC HW HS HL)
set_option maxHeartbeats 1000000 in
theorem g_alen {i t0 : Nat} {t : ClassId} {x : vp_A} {ty : FieldType} {a : Int32} (hi : i < w.1) (hE : w.2 i = .inl (t, x)) (ht : ∀ cA : Nat → ClassId, (xtys cA)[t0]? = some (cA t, ty)) (ha : Int32.ofNat x.1 = a) (d : decode I.2.1 pc = .ok (.arraylength, 1)) (k : SP I ρ kc ks (pc + 1) L (.int a :: S) w X) : SP I ρ kc ks pc L (.ref i :: S) w X := by
  intro v hX p l e s m args below meth c G H locs ls hC HW HS HL
  have he : ∃ y : vp_A, y.1 = x.1 ∧ (xws G w)[i]? = some (G.2.1 i, .inl (G.2.2.1 t, y)) := by
    rw [xws_at hi, hE]
    obtain ⟨n, f | f | f | f | f⟩ := x
    · exact ⟨(n, .inl f), rfl, rfl⟩
    · exact ⟨(n, .inr (.inl f)), rfl, rfl⟩
    · exact ⟨(n, .inr (.inr (.inl f))), rfl, rfl⟩
    · exact ⟨(n, .inr (.inr (.inr (.inl f)))), rfl, rfl⟩
    · exact ⟨(n, .inr (.inr (.inr (.inr (fun j => (f j).map G.2.1))))), rfl, rfl⟩
  obtain ⟨y, hy, he⟩ := he
  exact va_alen hC.1 hC.2.1 HW.2.2.2.2.1 HW.2.2.2.1 i t0 he (ht G.2.2.1) (by rw [hy]; exact ha) d (k v hX p l e s m args below meth c G H locs ls hC HW HS HL)
set_option maxHeartbeats 1000000 in
/-- a static table: 200 + k is its number -/
theorem g_gets {idx t : Nat} {nm : String} (hZ : ∀ (G : xG) (U : State) (H : Heap), xSt G U H → va_Z RX9 nm "[I" (.ref (G.2.1 t)) (xA G) U H) (hw : Cond.fieldLink I.1.cls idx RX9 nm "[I" ∈ xtb) (d : decode I.2.1 pc = .ok (.getstatic idx, 3)) (k : SP I ρ kc ks (pc + 3) L (.ref t :: S) w X) : SP I ρ kc ks pc L S w X := by
  intro v hX p l e s m args below meth c G H locs ls hC HW HS HL
  obtain ⟨cf, kf, fi, f, a, cell, h1, h2, h3, h4, h5, h6, h7, h8⟩ := hZ G s H HW.2.2.2.2.2.1
  exact W.gets hC.1 hC.2.1 hC.2.2.2.2.2.1 (hC.2.2.2.2.2.2.1 _ hw) h1 h2 h3 h4 h5 (fun e => by rw [e] at h6; cases h6) h7 rfl d (k v hX p l e s m args below meth c G H locs ls hC HW HS HL)
set_option maxHeartbeats 1000000 in
theorem g_tld {t n : Nat} {f : Nat → Int32} {j : Int32} (hT : ∀ (G : xG) (U : State) (H : Heap), xSt G U H → va_T .int (G.2.1 t) n (fun j => .int (f j)) (xA G) U H) (d : decode I.2.1 pc = .ok (.iaload, 1)) (k : xinb j n = true → SP I ρ kc ks (pc + 1) L (.int (f j.toNatClampNeg) :: S) w X) : SP I ρ kc ks pc L (.int j :: .ref t :: S) w (if xinb j n = true then X else none) := by
  refine SP.ite (fun hb => ?_) (fun _ => SP.none)
  have k := k hb
  intro v hX p l e s m args below meth c G H locs ls hC HW HS HL
  obtain ⟨cell, h1, h2, h3, h4, h5, h6, h7⟩ := hT G s H HW.2.2.2.2.2.1
  have hlt : j.toNatClampNeg < n := Nat.not_le.mp fun q => (xinb_in hb) (Or.inr q)
  exact W.iald (v := .int (f j.toNatClampNeg)) hC.1 hC.2.1 h1 h2 h3 (fun q => q.elim (fun q => (xinb_in hb) (Or.inl q)) (fun q => by omega)) (h6 _ hlt) rfl rfl d (k v hX p l e s m args below meth c G H locs ls hC HW HS HL)

set_option maxHeartbeats 1000000 in
/-- the script -/
theorem x_sld {n : Nat} {f : Nat → Int32} {j : Int32} (hsc : I.2.2.2.2.2 = some (n, f)) (d : decode I.2.1 pc = .ok (.iaload, 1)) (k : xinb j n = true → SP I ρ kc ks (pc + 1) L (.int (f j.toNatClampNeg) :: S) w X) : SP I ρ kc ks pc L (.int j :: .ref 203 :: S) w (if xinb j n = true then X else none) := by
  refine SP.ite (fun hb => ?_) (fun _ => SP.none)
  have k := k hb
  intro v hX p l e s m args below meth c G H locs ls hC HW HS HL
  have hT := hC.2.2.2.2.2.2.2.2
  rw [hsc] at hT
  exact va_ti hC.1 hC.2.1 hT HS (xinb_in hb) rfl d (k v hX p l e s m args below meth c G H locs ls hC HW HS HL)
theorem x_slen {n : Nat} {f : Nat → Int32} {a : Int32} (hsc : I.2.2.2.2.2 = some (n, f)) (ha : Int32.ofNat n = a) (d : decode I.2.1 pc = .ok (.arraylength, 1)) (k : SP I ρ kc ks (pc + 1) L (.int a :: S) w X) : SP I ρ kc ks pc L (.ref 203 :: S) w X := by
  intro v hX p l e s m args below meth c G H locs ls hC HW HS HL
  have hT := hC.2.2.2.2.2.2.2.2
  rw [hsc] at hT
  exact va_tlen hC.1 hC.2.1 hT HS ha d (k v hX p l e s m args below meth c G H locs ls hC HW HS HL)

/-- what a callee's words are in the tables -/
def xMe (Iz : xI) : Prop := Cond.code Iz.1 Iz.2.1 Iz.2.2.1 Iz.2.2.2.1 ∈ xtb ∧ Cond.initialized Iz.1.cls ∈ xtb ∧ (Iz.1.cls ≠ "java/lang/invoke/MethodHandle" ∧ Iz.1.cls ≠ "java/lang/invoke/VarHandle")
def xMeV (Iz : xI) : Prop := xMe Iz ∧ Cond.instanceMethod Iz.1 ∈ xtb ∧ Cond.selects Iz.1.cls Iz.1 Iz.1 ∈ xtb
def xMeS (Iz : xI) : Prop := xMe Iz ∧ Cond.static Iz.1 ∈ xtb
/-- a call's room -/
def xRm (I Iz : xI) (kc ks n : Nat) : Prop := (parseMethodDescriptor Iz.1.desc).map (fun d => d.parameters.length) = some n ∧ Iz.2.2.2.2.1.frames + 1 ≤ I.2.2.2.2.1.frames ∧ 8 + (Iz.2.2.1 + 11) + Iz.2.2.2.2.1.locals ≤ I.2.2.2.2.1.locals ∧ kc + Iz.2.2.2.2.1.cells ≤ I.2.2.2.2.1.cells ∧ ks + Iz.2.2.2.2.1.slots ≤ I.2.2.2.2.1.slots
def xSum (st : List Value) : Nat := (st.map fun v => v.category).sum
theorem xSum_cv (ad : Nat → Nat) (st : List Value) : ((st.map (xcv ad)).map fun v => v.category).sum = xSum st := by
  unfold xSum
  rw [List.map_map]
  congr 1
  apply List.map_congr_left
  intro v _
  exact xcv_cat ad v
theorem xPc_blind (G : xG) (As : List Value) (w : xW) : FrameBlind (xPc G As w) := fun a U g mk q => ⟨q.1, q.2.same (u := U) (U := U.calling g mk a) rfl⟩
section SPCC
variable {Iz : xI} {β : Type} {ρz : β → Value × xW} {Fz : Option β} {K : β → Option α} {As rest : List Value} {b ci idx n : Nat} {C : String} {T : u_T} {N : Nat} {ty : Nat → FieldType} {fs : List Value}
/-- behind a call, whichever -/
theorem x_back {v : α} {q : β} {p : Program} {l : Launch} {e : Env} {s : State} {m : MethodId} {args : Array Value} {below : List Frame} {meth : Method} {c : Code} {G : xG} {H : Heap} {locs : List Loc} {ls : Array Slot} {a : Array Value}
    (hr : va_Run p l e I.2.2.2.2.1 s m args below meth c H locs kc ks Iz.2.2.2.2.1.cells Iz.2.2.2.2.1.slots (F0 m pc ls (S.map (xcv G.2.1))) (rest.map (xcv G.2.1)) (xQ G (ρz q) a) (xA G)) (hK : K q = some v) (hC : xC I G p s m args meth c) (HW : XW G w s H) (HS : va_S (xA G) s.heap H locs) (HL : xLH G.2.1 ls I.2.2.1 L)
    (k : SP I ρ (kc + Iz.2.2.2.2.1.cells) (ks + Iz.2.2.2.2.1.slots) (pc + 3) L (xpush (ρz q).1 rest) (ρz q).2 (K q)) : W p l e I.2.2.2.2.1 s m args below meth c H locs kc ks (MQ below (xQ G (ρ v)) args s I.2.2.2.2.1.cells I.2.2.2.2.1.slots (xA G)) (F0 m pc ls (S.map (xcv G.2.1))) := by
  intro T0 hT X0
  obtain ⟨u, st₀, t, T', L1, h0, X', hL, e1, e2, ⟨hu, hW, hz, hk⟩, st⟩ := hr T0 hT X0
  have hu := Outcome.returned.inj hu
  subst hu
  rw [h0] at hz hk
  obtain ⟨t2, a1, b1⟩ := k v hK p l e s m args below meth c G T'.heap (locs ++ L1) ls hC (by
      rw [e1]
      exact HW.back (by rw [← e2]; exact X'.warmed.alike.symm) hW)
    ⟨Nat.le_trans HS.1 (by rw [e1]; exact hz), fun q h1 h2 => by rw [e1, hk q (Nat.lt_of_lt_of_le h1 HS.1) h2]; exact HS.2.1 q h1 h2, fun q hq => by
      rcases List.mem_append.mp hq with h | h
      · exact HS.2.2 q h
      · exact hL q h⟩ HL T' rfl X'
  refine ⟨t2, st t2 ?_, b1⟩
  rw [xro_push]
  exact a1
set_option maxHeartbeats 1000000 in
theorem x_callV (hct : Ct Iz ρz (.ref b :: As) w Fz) (hS : S = As.reverse ++ .ref b :: rest) (hc : xCls ci Iz.1.cls T N ty) (hi : b < w.1) (hE : w.2 b = .inr (ci, fs)) (hw : Cond.methodLink I.1.cls idx Iz.1 ∈ xtb) (hm : xMeV Iz) (hn : As.length = n) (hR : xRm I Iz kc ks n) (hrest : xSum rest ≤ 8) (d : decode I.2.1 pc = .ok (.invokevirtual idx, 3))
    (k : ∀ q, SP I ρ (kc + Iz.2.2.2.2.1.cells) (ks + Iz.2.2.2.2.1.slots) (pc + 3) L (xpush (ρz q).1 rest) (ρz q).2 (K q)) : SP I ρ kc ks pc L S w (Fz.bind K) := by
  intro v hX p l e s m args below meth c G H locs ls hC HW HS HL
  obtain ⟨q, hq, hK⟩ := Option.bind_eq_some_iff.mp hX
  have hM := hct q hq l G
  have he : (xws G w)[b]? = some (G.2.1 b, .inr (ci, fs.map (xcv G.2.1))) := by rw [xws_at hi, hE]; rfl
  have hts := hC.2.2.2.2.2.2.1
  have hg : GoodIn xtb (wsV I.1.cls idx Iz.1.cls Iz.1 (xwds Iz)) := xgood (fun _ h => h) (by
    intro u hu
    simp only [wsV, List.cons_append, List.nil_append, List.mem_cons] at hu
    rcases hu with rfl | rfl | rfl | rfl | rfl | hu
    · exact hw
    · exact hm.2.1
    · exact hm.2.2
    · exact hm.1.2.1
    · exact hm.1.1
    · exact hu)
  refine x_back (K := K) (va_runV (As := As.map (xcv G.2.1)) ⟨hC.1, hC.2.1, hC.2.2.1, hC.2.2.2.2.2.1, hts⟩ hM (cwV n hts hg rfl rfl rfl ⟨rfl, hm.1.2.2.1, hm.1.2.2.2, hR.1⟩ ⟨hR.2.1, hR.2.2.1⟩) ⟨xPc_blind G _ w, va_recv HW.2.2.2.2.1 HW.2.2.2.1 hc.1 he, fun U hU hW => ⟨rfl, by rw [hU]; exact HW.warm hW⟩⟩ rfl (by rw [List.length_map]; exact hn) HL.1 (by rw [hS]; simp [xcv]) (lv_room (by rw [xSum_cv]; exact hrest)) d hR.2.2.2) hK hC HW HS HL (k q)
set_option maxHeartbeats 1000000 in
theorem x_callVN {host : String} (hct : Ct Iz ρz (.ref b :: As) w Fz) (hS : S = As.reverse ++ .ref b :: rest) (hc : xCls ci Iz.1.cls T N ty) (hi : b < w.1) (hE : w.2 b = .inr (ci, fs)) (hw : Cond.methodLinkNest I.1.cls idx Iz.1 host ∈ xnt) (hm : xMeV Iz) (hn : As.length = n) (hR : xRm I Iz kc ks n) (hrest : xSum rest ≤ 8) (d : decode I.2.1 pc = .ok (.invokevirtual idx, 3))
    (k : ∀ q, SP I ρ (kc + Iz.2.2.2.2.1.cells) (ks + Iz.2.2.2.2.1.slots) (pc + 3) L (xpush (ρz q).1 rest) (ρz q).2 (K q)) : SP I ρ kc ks pc L S w (Fz.bind K) := by
  intro v hX p l e s m args below meth c G H locs ls hC HW HS HL
  obtain ⟨q, hq, hK⟩ := Option.bind_eq_some_iff.mp hX
  have hM := hct q hq l G
  have he : (xws G w)[b]? = some (G.2.1 b, .inr (ci, fs.map (xcv G.2.1))) := by rw [xws_at hi, hE]; rfl
  have hts := hC.2.2.2.2.2.2.1
  have hg : GoodIn xtb (xwds Iz) := xgood (fun _ h => h) (by
    intro u hu
    rcases List.mem_cons.mp hu with rfl | hu
    · exact hm.1.1
    · exact hu)
  refine x_back (K := K) (va_runVN (As := As.map (xcv G.2.1)) ⟨hC.1, hC.2.1, hC.2.2.1, hC.2.2.2.2.2.1, hts⟩ hM ⟨va_cnB n hts hg rfl rfl rfl (HW.2.2.2.2.2.2 _ hw) (hts _ hm.1.2.1) ⟨hm.1.2.2.1, hm.1.2.2.2, hR.1⟩ ⟨hR.2.1, hR.2.2.1⟩, hts _ hm.2.1, hts _ hm.2.2⟩ ⟨xPc_blind G _ w, va_recv HW.2.2.2.2.1 HW.2.2.2.1 hc.1 he, fun U hU hW => ⟨rfl, by rw [hU]; exact HW.warm hW⟩⟩ rfl (by rw [List.length_map]; exact hn) HL.1 (by rw [hS]; simp [xcv]) (lv_room (by rw [xSum_cv]; exact hrest)) d hR.2.2.2) hK hC HW HS HL (k q)
set_option maxHeartbeats 1000000 in
theorem x_callS (hct : Ct Iz ρz As w Fz) (hS : S = As.reverse ++ rest) (hw : Cond.methodLink I.1.cls idx Iz.1 ∈ xtb) (hm : xMeS Iz) (hn : As.length = n) (hR : xRm I Iz kc ks n) (hrest : xSum rest ≤ 8) (d : decode I.2.1 pc = .ok (.invokestatic idx, 3))
    (k : ∀ q, SP I ρ (kc + Iz.2.2.2.2.1.cells) (ks + Iz.2.2.2.2.1.slots) (pc + 3) L (xpush (ρz q).1 rest) (ρz q).2 (K q)) : SP I ρ kc ks pc L S w (Fz.bind K) := by
  intro v hX p l e s m args below meth c G H locs ls hC HW HS HL
  obtain ⟨q, hq, hK⟩ := Option.bind_eq_some_iff.mp hX
  have hM := hct q hq l G
  have hts := hC.2.2.2.2.2.2.1
  have hg : GoodIn xtb (va_wsS I.1.cls idx Iz.1 (xwds Iz)) := xgood (fun _ h => h) (by
    intro u hu
    simp only [va_wsS, List.cons_append, List.nil_append, List.mem_cons] at hu
    rcases hu with rfl | rfl | rfl | rfl | hu
    · exact hw
    · exact hm.2
    · exact hm.1.2.1
    · exact hm.1.1
    · exact hu)
  refine x_back (K := K) (va_runS (As := As.map (xcv G.2.1)) ⟨hC.1, hC.2.1, hC.2.2.1, hC.2.2.2.2.2.1, hts⟩ hM (va_cwS n hts hg rfl rfl rfl ⟨hm.1.2.2.1, hm.1.2.2.2, hR.1⟩ ⟨hR.2.1, hR.2.2.1⟩) ⟨xPc_blind G _ w, fun U hU hW => ⟨rfl, by rw [hU]; exact HW.warm hW⟩⟩ rfl (by rw [List.length_map]; exact hn) HL.1 (by rw [hS]; simp [xcv]) (lv_room (by rw [xSum_cv]; exact hrest)) d hR.2.2.2) hK hC HW HS HL (k q)
set_option maxHeartbeats 1000000 in
theorem x_callSN {host : String} (hct : Ct Iz ρz As w Fz) (hS : S = As.reverse ++ rest) (hw : Cond.methodLinkNest I.1.cls idx Iz.1 host ∈ xnt) (hm : xMeS Iz) (hn : As.length = n) (hR : xRm I Iz kc ks n) (hrest : xSum rest ≤ 8) (d : decode I.2.1 pc = .ok (.invokestatic idx, 3))
    (k : ∀ q, SP I ρ (kc + Iz.2.2.2.2.1.cells) (ks + Iz.2.2.2.2.1.slots) (pc + 3) L (xpush (ρz q).1 rest) (ρz q).2 (K q)) : SP I ρ kc ks pc L S w (Fz.bind K) := by
  intro v hX p l e s m args below meth c G H locs ls hC HW HS HL
  obtain ⟨q, hq, hK⟩ := Option.bind_eq_some_iff.mp hX
  have hM := hct q hq l G
  have hts := hC.2.2.2.2.2.2.1
  have hg : GoodIn xtb (xwds Iz) := xgood (fun _ h => h) (by
    intro u hu
    rcases List.mem_cons.mp hu with rfl | hu
    · exact hm.1.1
    · exact hu)
  refine x_back (K := K) (va_runSN (As := As.map (xcv G.2.1)) ⟨hC.1, hC.2.1, hC.2.2.1, hC.2.2.2.2.2.1, hts⟩ hM ⟨va_cnB n hts hg rfl rfl rfl (HW.2.2.2.2.2.2 _ hw) (hts _ hm.1.2.1) ⟨hm.1.2.2.1, hm.1.2.2.2, hR.1⟩ ⟨hR.2.1, hR.2.2.1⟩, hts _ hm.2, trivial⟩ ⟨xPc_blind G _ w, fun U hU hW => ⟨rfl, by rw [hU]; exact HW.warm hW⟩⟩ rfl (by rw [List.length_map]; exact hn) HL.1 (by rw [hS]; simp [xcv]) (lv_room (by rw [xSum_cv]; exact hrest)) d hR.2.2.2) hK hC HW HS HL (k q)
end SPCC
/-! Math.max, min, abs of ints -/

set_option maxHeartbeats 1000000 in
theorem x_mmax {idx : Nat} {a b : Int32} (hw : Cond.methodLink I.1.cls idx Lib.Math.max.name ∈ xtb) (hs : Cond.static Lib.Math.max.name ∈ xtb) (hi : Cond.initialized "java/lang/Math" ∈ xtb) (hcd : Cond.code Lib.Math.max.name Lib.Math.max.code 2 (some .int) ∈ xtb) (hf : 1 ≤ I.2.2.2.2.1.frames) (hr : xSum S + 15 ≤ I.2.2.2.2.1.locals) (hc : kc ≤ I.2.2.2.2.1.cells) (hs2 : ks ≤ I.2.2.2.2.1.slots) (d : decode I.2.1 pc = .ok (.invokestatic idx, 3)) (k : SP I ρ kc ks (pc + 3) L (.int (if a < b then b else a) :: S) w X) : SP I ρ kc ks pc L (.int b :: .int a :: S) w X := by
  intro v hX p l e s m args below meth c G H locs ls hC HW HS HL
  have hts := hC.2.2.2.2.2.2.1
  exact va_mmax hC.1 hC.2.1 (hC.2.2.1.trans HL.1.symm) hC.2.2.2.2.2.1 (hts _ hw) (hts _ hs) (hts _ hi) (hts _ hcd) hf (by rw [xSum_cv]; omega) hc hs2 d (k v hX p l e s m args below meth c G H locs ls hC HW HS HL)
set_option maxHeartbeats 1000000 in
theorem x_mmin {idx : Nat} {a b : Int32} (hw : Cond.methodLink I.1.cls idx Lib.Math.min.name ∈ xtb) (hs : Cond.static Lib.Math.min.name ∈ xtb) (hi : Cond.initialized "java/lang/Math" ∈ xtb) (hcd : Cond.code Lib.Math.min.name Lib.Math.min.code 2 (some .int) ∈ xtb) (hf : 1 ≤ I.2.2.2.2.1.frames) (hr : xSum S + 15 ≤ I.2.2.2.2.1.locals) (hc : kc ≤ I.2.2.2.2.1.cells) (hs2 : ks ≤ I.2.2.2.2.1.slots) (d : decode I.2.1 pc = .ok (.invokestatic idx, 3)) (k : SP I ρ kc ks (pc + 3) L (.int (if b < a then b else a) :: S) w X) : SP I ρ kc ks pc L (.int b :: .int a :: S) w X := by
  intro v hX p l e s m args below meth c G H locs ls hC HW HS HL
  have hts := hC.2.2.2.2.2.2.1
  exact va_mmin hC.1 hC.2.1 (hC.2.2.1.trans HL.1.symm) hC.2.2.2.2.2.1 (hts _ hw) (hts _ hs) (hts _ hi) (hts _ hcd) hf (by rw [xSum_cv]; omega) hc hs2 d (k v hX p l e s m args below meth c G H locs ls hC HW HS HL)
set_option maxHeartbeats 1000000 in
theorem x_mabs {idx : Nat} {a : Int32} (hw : Cond.methodLink I.1.cls idx Lib.Math.abs.name ∈ xtb) (hs : Cond.static Lib.Math.abs.name ∈ xtb) (hi : Cond.initialized "java/lang/Math" ∈ xtb) (hcd : Cond.code Lib.Math.abs.name Lib.Math.abs.code 1 (some .int) ∈ xtb) (hf : 1 ≤ I.2.2.2.2.1.frames) (hr : xSum S + 15 ≤ I.2.2.2.2.1.locals) (hc : kc ≤ I.2.2.2.2.1.cells) (hs2 : ks ≤ I.2.2.2.2.1.slots) (d : decode I.2.1 pc = .ok (.invokestatic idx, 3)) (k : SP I ρ kc ks (pc + 3) L (.int (if 0 ≤ a then a else 0 - a) :: S) w X) : SP I ρ kc ks pc L (.int a :: S) w X := by
  intro v hX p l e s m args below meth c G H locs ls hC HW HS HL
  have hts := hC.2.2.2.2.2.2.1
  exact va_mabs hC.1 hC.2.1 (hC.2.2.1.trans HL.1.symm) hC.2.2.2.2.2.1 (hts _ hw) (hts _ hs) (hts _ hi) (hts _ hcd) hf (by rw [xSum_cv]; omega) hc hs2 d (k v hX p l e s m args below meth c G H locs ls hC HW HS HL)
set_option maxHeartbeats 1000000 in
theorem x_mabsL {idx : Nat} {a : Int64} (hw : Cond.methodLink I.1.cls idx Lib.MathLoose.abs_long.x ∈ xtb) (hs : Cond.static Lib.MathLoose.abs_long.x ∈ xtb) (hi : Cond.initialized "java/lang/Math" ∈ xtb) (hcd : Cond.code Lib.MathLoose.abs_long.x Lib.MathLoose.abs_long.code 2 (some .long) ∈ xtb) (hf : 1 ≤ I.2.2.2.2.1.frames) (hr : xSum S + 15 ≤ I.2.2.2.2.1.locals) (hc : kc ≤ I.2.2.2.2.1.cells) (hs2 : ks ≤ I.2.2.2.2.1.slots) (d : decode I.2.1 pc = .ok (.invokestatic idx, 3)) (k : SP I ρ kc ks (pc + 3) L (.long (if 0 < a then a else -a) :: S) w X) : SP I ρ kc ks pc L (.long a :: S) w X := by
  intro v hX p l e s m args below meth c G H locs ls hC HW HS HL
  have hts := hC.2.2.2.2.2.2.1
  exact va_mabs_long hC.1 hC.2.1 (hC.2.2.1.trans HL.1.symm) hC.2.2.2.2.2.1 (hts _ hw) (hts _ hs) (hts _ hi) (hts _ hcd) hf (by rw [xSum_cv]; omega) hc hs2 d (k v hX p l e s m args below meth c G H locs ls hC HW HS HL)
end SPC
