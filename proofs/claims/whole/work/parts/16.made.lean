
/-- no reference is null any more -/
def xdone (C : xPw) : Bool := (List.range 191).all (fun i => if xT i < 11 then (List.range (xF (xT i))).all (fun k => (xK (xT i) k i).isNone || !C.2.2 i k) else if xT i < 14 then true else (List.range (xN i)).all (fun j => !C.2.2 i j))
theorem xdone_at {C : xPw} (h : xdone C = true) {i : Nat} (hi : i < 191) : (if xT i < 11 then (List.range (xF (xT i))).all (fun k => (xK (xT i) k i).isNone || !C.2.2 i k) else if xT i < 14 then true else (List.range (xN i)).all (fun j => !C.2.2 i j)) = true := List.all_eq_true.mp h i (List.mem_range.mpr hi)
theorem XW.made {G : xG} {C : xPw} {s : State} {H : Heap} (h1 : C.1 = 191) (hz : xdone C = true) (HW : XW G (xwp C) s H) : XW G (xwd C.2.1) s H := by
  refine ⟨by rw [HW.1]; show _ + C.1 = _; rw [h1]; rfl, Nat.le_refl _, HW.2.2.1, fun a q hq => ?_, HW.2.2.2.2⟩
  have ha : a < 191 := by
    have := (List.getElem?_eq_some_iff.mp hq).1
    simpa [xws, xwd] using this
  rw [xws_at (w := xwd C.2.1) ha] at hq
  cases hq
  have hold := HW.2.2.2.1 a _ (xws_at (G := G) (w := xwp C) (show a < C.1 by omega))
  have hd := xdone_at hz ha
  show va_at G.1 xcl (G.2.1 a, xce _ _ (xent C.2.1 a)) H
  have hold : va_at G.1 xcl (G.2.1 a, xce G.2.1 G.2.2.1 (xentp C a)) H := hold
  by_cases hc : xT a < 11
  · rw [if_pos hc] at hd
    have e : xentp C a = xent C.2.1 a := by
      rw [xentp_obj rfl hc, xent_obj rfl hc]
      congr 2
      apply List.map_congr_left
      intro k hk
      have h2 := List.all_eq_true.mp hd k hk
      unfold xVp xV
      cases h3 : xK (xT a) k a with
      | none => rfl
      | some t =>
        rw [h3] at h2
        have h4 : C.2.2 a k = false := by simpa using h2
        simp [h4]
    rw [← e]
    exact hold
  · rw [if_neg hc] at hd
    by_cases hc2 : xT a < 14
    · have e : xentp C a = xent C.2.1 a := by
        unfold xentp xent
        rw [if_neg hc, if_neg hc]
        by_cases h3 : xT a < 13
        · rw [if_pos h3, if_pos h3]
        · rw [if_neg h3, if_neg h3, if_pos (by omega), if_pos (by omega)]
      rw [← e]
      exact hold
    · rw [if_neg hc2] at hd
      rw [xentp_ref rfl rfl (by omega)] at hold
      rw [xent_ref rfl rfl (by omega)]
      have h5 : H[G.2.1 a]? = some (arrV (G.2.2.1 (xT a)) (xN a) (fun j => va_rf (((if C.2.2 a j then none else some (xE a j)) : Option Nat).map G.2.1))) := hold
      show H[G.2.1 a]? = some (arrV (G.2.2.1 (xT a)) (xN a) (fun j => va_rf ((some (xE a j)).map G.2.1)))
      rw [h5]
      refine congrArg some (arrV_congr _ (fun j hj => ?_))
      have h6 : C.2.2 a j = false := by simpa using List.all_eq_true.mp hd j (List.mem_range.mpr hj)
      rw [h6]
      rfl
section SPL
variable {I : xI} {α : Type} {ρ : α → Value × xW} {kc ks pc : Nat} {L : xL} {S : List Value} {X : Option α} {C : xPw} {M : xM} {Iz : xI} {As rest : List Value} {b ci idx n : Nat} {T : u_T} {N : Nat} {ty : Nat → FieldType}
theorem sp_made (k : SP I ρ kc ks pc L S (xwd C.2.1) X) : SP I ρ kc ks pc L S (xwp C) (if C.1 = 191 ∧ xdone C = true then X else none) :=
  SP.ite (fun h v hX p l en s m args below meth c G H locs ls hC HW HS HL => k v hX p l en s m args below meth c G H locs ls hC (HW.made h.1 h.2) HS HL) (fun _ => SP.none)
theorem lV_I {Fz : Option Int32} {K : Int32 → Option α} (hct : Ct Iz (rI M) (.ref b :: As) (xwd M) Fz) (hS : S = As.reverse ++ .ref b :: rest) (hc : xCls ci Iz.1.cls T N ty) (hT : xT b = ci) (h1 : ci < 11) (hw : Cond.methodLink I.1.cls idx Iz.1 ∈ xtb) (hm : xMeV Iz) (hn : As.length = n) (hR : xRm0 I Iz n) (hrest : xSum rest ≤ 8) (hkc : kc ≤ I.2.2.2.2.1.cells) (hks : ks ≤ I.2.2.2.2.1.slots) (d : decode I.2.1 pc = .ok (.invokevirtual idx, 3)) (k : ∀ q, SP I ρ kc ks (pc + 3) L (.int q :: rest) (xwd M) (K q)) : SP I ρ kc ks pc L S (xwd M) (Fz.bind K) :=
  x_callV hct hS hc (xT_lt (by omega)) (xent_obj hT h1) hw hm hn ⟨hR.1, hR.2.1, hR.2.2.1, by rw [hR.2.2.2.1]; exact hkc, by rw [hR.2.2.2.2]; exact hks⟩ hrest d (fun q => by rw [hR.2.2.2.1, hR.2.2.2.2]; exact k q)
theorem lV_J {Fz : Option Int64} {K : Int64 → Option α} (hct : Ct Iz (rJ M) (.ref b :: As) (xwd M) Fz) (hS : S = As.reverse ++ .ref b :: rest) (hc : xCls ci Iz.1.cls T N ty) (hT : xT b = ci) (h1 : ci < 11) (hw : Cond.methodLink I.1.cls idx Iz.1 ∈ xtb) (hm : xMeV Iz) (hn : As.length = n) (hR : xRm0 I Iz n) (hrest : xSum rest ≤ 8) (hkc : kc ≤ I.2.2.2.2.1.cells) (hks : ks ≤ I.2.2.2.2.1.slots) (d : decode I.2.1 pc = .ok (.invokevirtual idx, 3)) (k : ∀ q, SP I ρ kc ks (pc + 3) L (.long q :: rest) (xwd M) (K q)) : SP I ρ kc ks pc L S (xwd M) (Fz.bind K) :=
  x_callV hct hS hc (xT_lt (by omega)) (xent_obj hT h1) hw hm hn ⟨hR.1, hR.2.1, hR.2.2.1, by rw [hR.2.2.2.1]; exact hkc, by rw [hR.2.2.2.2]; exact hks⟩ hrest d (fun q => by rw [hR.2.2.2.1, hR.2.2.2.2]; exact k q)
theorem lV_IM {Fz : Option (Int32 × xM)} {K : Int32 × xM → Option α} (hct : Ct Iz (rIM) (.ref b :: As) (xwd M) Fz) (hS : S = As.reverse ++ .ref b :: rest) (hc : xCls ci Iz.1.cls T N ty) (hT : xT b = ci) (h1 : ci < 11) (hw : Cond.methodLink I.1.cls idx Iz.1 ∈ xtb) (hm : xMeV Iz) (hn : As.length = n) (hR : xRm0 I Iz n) (hrest : xSum rest ≤ 8) (hkc : kc ≤ I.2.2.2.2.1.cells) (hks : ks ≤ I.2.2.2.2.1.slots) (d : decode I.2.1 pc = .ok (.invokevirtual idx, 3)) (k : ∀ q, SP I ρ kc ks (pc + 3) L (.int q.1 :: rest) (xwd q.2) (K q)) : SP I ρ kc ks pc L S (xwd M) (Fz.bind K) :=
  x_callV hct hS hc (xT_lt (by omega)) (xent_obj hT h1) hw hm hn ⟨hR.1, hR.2.1, hR.2.2.1, by rw [hR.2.2.2.1]; exact hkc, by rw [hR.2.2.2.2]; exact hks⟩ hrest d (fun q => by rw [hR.2.2.2.1, hR.2.2.2.2]; exact k q)
theorem lV_JM {Fz : Option (Int64 × xM)} {K : Int64 × xM → Option α} (hct : Ct Iz (rJM) (.ref b :: As) (xwd M) Fz) (hS : S = As.reverse ++ .ref b :: rest) (hc : xCls ci Iz.1.cls T N ty) (hT : xT b = ci) (h1 : ci < 11) (hw : Cond.methodLink I.1.cls idx Iz.1 ∈ xtb) (hm : xMeV Iz) (hn : As.length = n) (hR : xRm0 I Iz n) (hrest : xSum rest ≤ 8) (hkc : kc ≤ I.2.2.2.2.1.cells) (hks : ks ≤ I.2.2.2.2.1.slots) (d : decode I.2.1 pc = .ok (.invokevirtual idx, 3)) (k : ∀ q, SP I ρ kc ks (pc + 3) L (.long q.1 :: rest) (xwd q.2) (K q)) : SP I ρ kc ks pc L S (xwd M) (Fz.bind K) :=
  x_callV hct hS hc (xT_lt (by omega)) (xent_obj hT h1) hw hm hn ⟨hR.1, hR.2.1, hR.2.2.1, by rw [hR.2.2.2.1]; exact hkc, by rw [hR.2.2.2.2]; exact hks⟩ hrest d (fun q => by rw [hR.2.2.2.1, hR.2.2.2.2]; exact k q)
end SPL
