set_option maxRecDepth 100000 in
set_option maxHeartbeats 4000000 in
theorem ct_X3_init  (C : xPw)  : Ct iX3_init rP [(.ref 3)] (xwp C) (fX3_init C) := by
  refine Ct.of' (L := [some (.ref 3)]) 0 rfl (by decide +kernel) (Nat.le_of_ble_eq_true rfl) rfl ?_
  unfold fX3_init
  refine x_aload_n (pc := 0) dX3_init_0 rfl ?_
  refine x_objInit (pc := 1) (xword 82 (by decide +kernel) rfl) (xword 67 (by decide +kernel) rfl) (xword 68 (by decide +kernel) rfl) (Nat.le_of_ble_eq_true rfl) (Nat.le_of_ble_eq_true rfl) dX3_init_1 ?_
  refine x_aload_n (pc := 4) dX3_init_4 rfl ?_
  refine x_bipush (pc := 5) (a := 100) dX3_init_5 (by decide) ?_
  refine c_newaI (pc := 7) (kc := 0) (ks := 0) 4 (N := 100) (xword 97 (by decide +kernel) rfl) rfl rfl (by decide) (by decide) (by decide) (Nat.le_of_ble_eq_true rfl) (Nat.le_of_ble_eq_true rfl) dX3_init_7 ?_
  refine SP.bdp (fun m1 e2 => ?_)
  refine c_putR (pc := 9) (t := 4) xC3 0 (xword 83 (by decide +kernel) rfl) rfl (by decide) rfl (by decide) rfl rfl rfl rfl (fun _ => rfl) (fun _ => rfl) dX3_init_9 ?_
  refine SP.bdp (fun m3 e4 => ?_)
  refine x_aload_n (pc := 12) dX3_init_12 rfl ?_
  refine x_bipush (pc := 13) (a := 100) dX3_init_13 (by decide) ?_
  refine c_newaI (pc := 15) (kc := 1) (ks := 100) 5 (N := 100) (xword 97 (by decide +kernel) rfl) rfl rfl (by decide) (by decide) (by decide) (Nat.le_of_ble_eq_true rfl) (Nat.le_of_ble_eq_true rfl) dX3_init_15 ?_
  refine SP.bdp (fun m5 e6 => ?_)
  refine c_putR (pc := 17) (t := 5) xC3 1 (xword 85 (by decide +kernel) rfl) rfl (by decide) rfl (by decide) rfl rfl rfl rfl (fun _ => rfl) (fun _ => rfl) dX3_init_17 ?_
  refine SP.bdp (fun m7 e8 => ?_)
  refine x_aload_n (pc := 20) dX3_init_20 rfl ?_
  refine x_bipush (pc := 21) (a := 100) dX3_init_21 (by decide) ?_
  refine c_newaI (pc := 23) (kc := 2) (ks := 200) 6 (N := 100) (xword 97 (by decide +kernel) rfl) rfl rfl (by decide) (by decide) (by decide) (Nat.le_of_ble_eq_true rfl) (Nat.le_of_ble_eq_true rfl) dX3_init_23 ?_
  refine SP.bdp (fun m9 e10 => ?_)
  refine c_putR (pc := 25) (t := 6) xC3 2 (xword 86 (by decide +kernel) rfl) rfl (by decide) rfl (by decide) rfl rfl rfl rfl (fun _ => rfl) (fun _ => rfl) dX3_init_25 ?_
  refine SP.bdp (fun m11 e12 => ?_)
  exact x_vret (pc := 28) rfl rfl dX3_init_28 (Nat.le_of_ble_eq_true rfl) (Nat.le_of_ble_eq_true rfl)

set_option maxRecDepth 100000 in
set_option maxHeartbeats 4000000 in
theorem ct_X7_init (k : Nat) (C : xPw) (hk : k < 16) : Ct iX7_init rP [(.ref (8 + 4 * k))] (xwp C) (fX7_init k C) := by
  refine Ct.of' (L := [some (.ref (8 + 4 * k))]) 0 rfl (by decide +kernel) (Nat.le_of_ble_eq_true rfl) rfl ?_
  unfold fX7_init
  refine x_aload_n (pc := 0) dX7_init_0 rfl ?_
  refine x_objInit (pc := 1) (xword 111 (by decide +kernel) rfl) (xword 67 (by decide +kernel) rfl) (xword 68 (by decide +kernel) rfl) (Nat.le_of_ble_eq_true rfl) (Nat.le_of_ble_eq_true rfl) dX7_init_1 ?_
  refine x_aload_n (pc := 4) dX7_init_4 rfl ?_
  refine x_iconst (pc := 5) (a := -1) dX7_init_5 (by decide) ?_
  refine c_putI (pc := 6) xC7 0 fl_X7_9 (xPl hk) (by decide) rfl (by decide) rfl rfl rfl dX7_init_6 ?_
  refine SP.bdp (fun m1 e2 => ?_)
  refine x_aload_n (pc := 9) dX7_init_9 rfl ?_
  refine x_bipush (pc := 10) (a := 56) dX7_init_10 (by decide) ?_
  refine c_newaI (pc := 12) (kc := 0) (ks := 0) (8 + 4 * k + 1) (N := 56) (xword 97 (by decide +kernel) rfl) (xPlA hk (Or.inl rfl)) (xPlN hk (Or.inl rfl)) (by decide) (by decide) (by decide) (Nat.le_of_ble_eq_true rfl) (Nat.le_of_ble_eq_true rfl) dX7_init_12 ?_
  refine SP.bdp (fun m3 e4 => ?_)
  refine c_putR (pc := 14) (t := (8 + 4 * k + 1)) xC7 6 (xword 136 (by decide +kernel) rfl) (xPl hk) (by decide) rfl (by decide) rfl rfl rfl rfl (fun _ => rfl) (fun _ => rfl) dX7_init_14 ?_
  refine SP.bdp (fun m5 e6 => ?_)
  refine x_aload_n (pc := 17) dX7_init_17 rfl ?_
  refine x_bipush (pc := 18) (a := 56) dX7_init_18 (by decide) ?_
  refine c_newaI (pc := 20) (kc := 1) (ks := 56) (8 + 4 * k + 2) (N := 56) (xword 97 (by decide +kernel) rfl) (xPlA hk (Or.inr (Or.inl rfl))) (xPlN hk (Or.inr (Or.inl rfl))) (by decide) (by decide) (by decide) (Nat.le_of_ble_eq_true rfl) (Nat.le_of_ble_eq_true rfl) dX7_init_20 ?_
  refine SP.bdp (fun m7 e8 => ?_)
  refine c_putR (pc := 22) (t := (8 + 4 * k + 2)) xC7 7 (xword 139 (by decide +kernel) rfl) (xPl hk) (by decide) rfl (by decide) rfl rfl rfl rfl (fun _ => rfl) (fun _ => rfl) dX7_init_22 ?_
  refine SP.bdp (fun m9 e10 => ?_)
  refine x_aload_n (pc := 25) dX7_init_25 rfl ?_
  refine x_bipush (pc := 26) (a := 56) dX7_init_26 (by decide) ?_
  refine c_newaI (pc := 28) (kc := 2) (ks := 112) (8 + 4 * k + 3) (N := 56) (xword 97 (by decide +kernel) rfl) (xPlA hk (Or.inr (Or.inr rfl))) (xPlN hk (Or.inr (Or.inr rfl))) (by decide) (by decide) (by decide) (Nat.le_of_ble_eq_true rfl) (Nat.le_of_ble_eq_true rfl) dX7_init_28 ?_
  refine SP.bdp (fun m11 e12 => ?_)
  refine c_putR (pc := 30) (t := (8 + 4 * k + 3)) xC7 8 (xword 141 (by decide +kernel) rfl) (xPl hk) (by decide) rfl (by decide) rfl rfl rfl rfl (fun _ => rfl) (fun _ => rfl) dX7_init_30 ?_
  refine SP.bdp (fun m13 e14 => ?_)
  refine x_aload_n (pc := 33) dX7_init_33 rfl ?_
  refine c_getR (pc := 34) (t := (8 + 4 * k + 1)) xC7 6 fl_X7_15 (xPl hk) (by decide) rfl (by decide) rfl dX7_init_34 ?_
  refine x_iconst (pc := 37) (a := -1) dX7_init_37 (by decide) ?_
  refine x_callS (pc := 38) (Iz := iJ7_fill_53178) (ρz := rP) (kc := 3) (ks := 168) (As := [(.ref (8 + 4 * k + 1)), (.int (-1:Int32))]) (rest := []) (ct_fillC (8 + 4 * k + 1) 56 (-1:Int32) m13 (xPlA hk (Or.inl rfl)) (xPlN hk (Or.inl rfl)) (by decide)) rfl ml_X7_25 meJ7_fill_53178 rfl ⟨prJ7_fill_53178, (Nat.le_of_ble_eq_true rfl), (Nat.le_of_ble_eq_true rfl), (Nat.le_of_ble_eq_true rfl), (Nat.le_of_ble_eq_true rfl)⟩ (Nat.le_of_ble_eq_true rfl) dX7_init_38 (fun q15 => ?_)
  dsimp only [xpush]
  refine x_aload_n (pc := 41) dX7_init_41 rfl ?_
  refine c_getR (pc := 42) (t := (8 + 4 * k + 2)) xC7 7 fl_X7_19 (xPl hk) (by decide) rfl (by decide) rfl dX7_init_42 ?_
  refine x_iconst (pc := 45) (a := -1) dX7_init_45 (by decide) ?_
  refine x_callS (pc := 46) (Iz := iJ7_fill_53178) (ρz := rP) (kc := 3) (ks := 168) (As := [(.ref (8 + 4 * k + 2)), (.int (-1:Int32))]) (rest := []) (ct_fillC (8 + 4 * k + 2) 56 (-1:Int32) q15 (xPlA hk (Or.inr (Or.inl rfl))) (xPlN hk (Or.inr (Or.inl rfl))) (by decide)) rfl ml_X7_25 meJ7_fill_53178 rfl ⟨prJ7_fill_53178, (Nat.le_of_ble_eq_true rfl), (Nat.le_of_ble_eq_true rfl), (Nat.le_of_ble_eq_true rfl), (Nat.le_of_ble_eq_true rfl)⟩ (Nat.le_of_ble_eq_true rfl) dX7_init_46 (fun q16 => ?_)
  dsimp only [xpush]
  refine x_aload_n (pc := 49) dX7_init_49 rfl ?_
  refine c_getR (pc := 50) (t := (8 + 4 * k + 3)) xC7 8 fl_X7_22 (xPl hk) (by decide) rfl (by decide) rfl dX7_init_50 ?_
  refine x_iconst (pc := 53) (a := -1) dX7_init_53 (by decide) ?_
  refine x_callS (pc := 54) (Iz := iJ7_fill_53178) (ρz := rP) (kc := 3) (ks := 168) (As := [(.ref (8 + 4 * k + 3)), (.int (-1:Int32))]) (rest := []) (ct_fillC (8 + 4 * k + 3) 56 (-1:Int32) q16 (xPlA hk (Or.inr (Or.inr rfl))) (xPlN hk (Or.inr (Or.inr rfl))) (by decide)) rfl ml_X7_25 meJ7_fill_53178 rfl ⟨prJ7_fill_53178, (Nat.le_of_ble_eq_true rfl), (Nat.le_of_ble_eq_true rfl), (Nat.le_of_ble_eq_true rfl), (Nat.le_of_ble_eq_true rfl)⟩ (Nat.le_of_ble_eq_true rfl) dX7_init_54 (fun q17 => ?_)
  dsimp only [xpush]
  exact x_vret (pc := 57) rfl rfl dX7_init_57 (Nat.le_of_ble_eq_true rfl) (Nat.le_of_ble_eq_true rfl)

set_option maxRecDepth 100000 in
set_option maxHeartbeats 4000000 in
theorem ct_X6_init  (C : xPw)  : Ct iX6_init rP [(.ref 1)] (xwp C) (fX6_init C) := by
  refine Ct.of' (L := [some (.ref 1), none]) 1 rfl (by decide +kernel) (Nat.le_of_ble_eq_true rfl) rfl ?_
  unfold fX6_init
  refine x_aload_n (pc := 0) dX6_init_0 rfl ?_
  refine x_objInit (pc := 1) (xword 74 (by decide +kernel) rfl) (xword 67 (by decide +kernel) rfl) (xword 68 (by decide +kernel) rfl) (Nat.le_of_ble_eq_true rfl) (Nat.le_of_ble_eq_true rfl) dX6_init_1 ?_
  refine x_aload_n (pc := 4) dX6_init_4 rfl ?_
  refine x_bipush (pc := 5) (a := 16) dX6_init_5 (by decide) ?_
  refine c_newq (pc := 7) (kc := 0) (ks := 0) 2 14 3 (N := 16) (xword 75 (by decide +kernel) rfl) (xnest 76 (by decide +kernel) rfl) rfl (by decide) (fun _ => rfl) rfl (by decide) (by decide) (by decide) (Nat.le_of_ble_eq_true rfl) (Nat.le_of_ble_eq_true rfl) dX6_init_7 ?_
  refine SP.bdp (fun m1 e2 => ?_)
  refine c_putR (pc := 10) (t := 2) xC6 0 (xword 163 (by decide +kernel) rfl) rfl (by decide) rfl (by decide) rfl rfl rfl rfl (fun _ => rfl) (fun _ => rfl) dX6_init_10 ?_
  refine SP.bdp (fun m3 e4 => ?_)
  refine x_aload_n (pc := 13) dX6_init_13 rfl ?_
  refine c_new (pc := 14) (kc := 1) (ks := 16) 3 xC3 (xword 77 (by decide +kernel) rfl) (xword 78 (by decide +kernel) rfl) (xword 50 (by decide +kernel) rfl) rfl (by decide) rfl (by decide +kernel) (Nat.le_of_ble_eq_true rfl) (Nat.le_of_ble_eq_true rfl) dX6_init_14 ?_
  refine SP.bdp (fun m5 e6 => ?_)
  refine x_dup (pc := 17) dX6_init_17 rfl ?_
  refine x_callIN (pc := 18) (Iz := iX3_init) (ρz := rP) (kc := 2) (ks := 20) (kc' := 5) (ks' := 320) (As := []) (rest := [(.ref 3), (.ref 1)]) (ct_X3_init m5) rfl ml_X6_19 miX3_init rfl ⟨prX3_init, (Nat.le_of_ble_eq_true rfl), (Nat.le_of_ble_eq_true rfl), (Nat.le_of_ble_eq_true rfl), (Nat.le_of_ble_eq_true rfl)⟩ (Nat.le_of_ble_eq_true rfl) rfl rfl dX6_init_18 (fun q7 => ?_)
  dsimp only [xpush]
  refine c_putR (pc := 21) (t := 3) xC6 1 (xword 169 (by decide +kernel) rfl) rfl (by decide) rfl (by decide) rfl rfl rfl rfl (fun _ => rfl) (fun _ => rfl) dX6_init_21 ?_
  refine SP.bdp (fun m8 e9 => ?_)
  refine x_aload_n (pc := 24) dX6_init_24 rfl ?_
  refine g_getsN (pc := 25) (host := "RainOffice") (t := 200) (fun G U H h => h.1.1) (xnest 98 (by decide +kernel) rfl) dX6_init_25 ?_
  refine c_clone (pc := 28) (kc := 5) (ks := 320) 7 (xword 100 (by decide +kernel) rfl) (xword 101 (by decide +kernel) rfl) (xword 102 (by decide +kernel) rfl) (xword 103 (by decide +kernel) rfl) (xword 104 (by decide +kernel) rfl) (xnest 105 (by decide +kernel) rfl) rfl rfl (Nat.le_of_ble_eq_true rfl) (Nat.le_of_ble_eq_true rfl) (Nat.le_of_ble_eq_true rfl) (Nat.le_of_ble_eq_true rfl) dX6_init_28 ?_
  refine SP.bdp (fun m10 e11 => ?_)
  refine c_cast (pc := 31) rfl rfl (xword 106 (by decide +kernel) rfl) dX6_init_31 ?_
  refine c_putR (pc := 34) (t := 7) xC6 2 (xword 171 (by decide +kernel) rfl) rfl (by decide) rfl (by decide) rfl rfl rfl rfl (fun _ => rfl) (fun _ => rfl) dX6_init_34 ?_
  refine SP.bdp (fun m12 e13 => ?_)
  refine x_iconst (pc := 37) (a := 0) dX6_init_37 (by decide) ?_
  refine x_istore_n (pc := 38) (L' := [some (.ref 1), some (.int (0:Int32))]) dX6_init_38 (Nat.le_of_ble_eq_true rfl) rfl rfl ?_
  refine x_iload_n (pc := 39) dX6_init_39 rfl ?_
  refine x_bipush (pc := 40) (a := 16) dX6_init_40 (by decide) ?_
  refine x_icmp_ge (pc := 42) (tgt := 64) dX6_init_42 (by decide) (fun h14 => absurd h14 (by decide)) (fun h14 => ?_)
  refine x_aload_n (pc := 45) dX6_init_45 rfl ?_
  refine c_getR (pc := 46) (t := 2) xC6 0 fl_X6_11 rfl (by decide) rfl (by decide) rfl dX6_init_46 ?_
  refine x_iload_n (pc := 49) dX6_init_49 rfl ?_
  refine c_new (pc := 50) (kc := 6) (ks := 332) 8 xC7 (xword 75 (by decide +kernel) rfl) (xword 107 (by decide +kernel) rfl) (xword 51 (by decide +kernel) rfl) rfl (by decide) rfl (by decide +kernel) (Nat.le_of_ble_eq_true rfl) (Nat.le_of_ble_eq_true rfl) dX6_init_50 ?_
  refine SP.bdp (fun m15 e16 => ?_)
  refine x_dup (pc := 53) dX6_init_53 rfl ?_
  refine x_callI (pc := 54) (Iz := iX7_init) (ρz := rP) (kc := 7) (ks := 341) (kc' := 10) (ks' := 509) (As := []) (rest := [(.ref 8), (.int (0:Int32)), (.ref 2)]) (ct_X7_init 0 m15 (by decide)) rfl ml_X6_36 miX7_init rfl ⟨prX7_init, (Nat.le_of_ble_eq_true rfl), (Nat.le_of_ble_eq_true rfl), (Nat.le_of_ble_eq_true rfl), (Nat.le_of_ble_eq_true rfl)⟩ (Nat.le_of_ble_eq_true rfl) rfl rfl dX6_init_54 (fun q17 => ?_)
  dsimp only [xpush]
  refine c_aast (pc := 57) (t0 := 3) xC7 (by decide) rfl (by decide) rfl (fun _ => rfl) rfl (by decide) dX6_init_57 ?_
  refine SP.bdp (fun m18 e19 => ?_)
  refine x_iinc (pc := 58) (b := (1:Int32)) (L' := [some (.ref 1), some (.int (1:Int32))]) dX6_init_58 rfl (by decide) (Nat.le_of_ble_eq_true rfl) rfl rfl ?_
  refine x_goto (pc := 61) (tgt := 39) dX6_init_61 (by decide) ?_
  refine x_iload_n (pc := 39) dX6_init_39 rfl ?_
  refine x_bipush (pc := 40) (a := 16) dX6_init_40 (by decide) ?_
  refine x_icmp_ge (pc := 42) (tgt := 64) dX6_init_42 (by decide) (fun h20 => absurd h20 (by decide)) (fun h20 => ?_)
  refine x_aload_n (pc := 45) dX6_init_45 rfl ?_
  refine c_getR (pc := 46) (t := 2) xC6 0 fl_X6_11 rfl (by decide) rfl (by decide) rfl dX6_init_46 ?_
  refine x_iload_n (pc := 49) dX6_init_49 rfl ?_
  refine c_new (pc := 50) (kc := 10) (ks := 509) 12 xC7 (xword 75 (by decide +kernel) rfl) (xword 107 (by decide +kernel) rfl) (xword 51 (by decide +kernel) rfl) rfl (by decide) rfl (by decide +kernel) (Nat.le_of_ble_eq_true rfl) (Nat.le_of_ble_eq_true rfl) dX6_init_50 ?_
  refine SP.bdp (fun m21 e22 => ?_)
  refine x_dup (pc := 53) dX6_init_53 rfl ?_
  refine x_callI (pc := 54) (Iz := iX7_init) (ρz := rP) (kc := 11) (ks := 518) (kc' := 14) (ks' := 686) (As := []) (rest := [(.ref 12), (.int (1:Int32)), (.ref 2)]) (ct_X7_init 1 m21 (by decide)) rfl ml_X6_36 miX7_init rfl ⟨prX7_init, (Nat.le_of_ble_eq_true rfl), (Nat.le_of_ble_eq_true rfl), (Nat.le_of_ble_eq_true rfl), (Nat.le_of_ble_eq_true rfl)⟩ (Nat.le_of_ble_eq_true rfl) rfl rfl dX6_init_54 (fun q23 => ?_)
  dsimp only [xpush]
  refine c_aast (pc := 57) (t0 := 3) xC7 (by decide) rfl (by decide) rfl (fun _ => rfl) rfl (by decide) dX6_init_57 ?_
  refine SP.bdp (fun m24 e25 => ?_)
  refine x_iinc (pc := 58) (b := (2:Int32)) (L' := [some (.ref 1), some (.int (2:Int32))]) dX6_init_58 rfl (by decide) (Nat.le_of_ble_eq_true rfl) rfl rfl ?_
  refine x_goto (pc := 61) (tgt := 39) dX6_init_61 (by decide) ?_
  refine x_iload_n (pc := 39) dX6_init_39 rfl ?_
  refine x_bipush (pc := 40) (a := 16) dX6_init_40 (by decide) ?_
  refine x_icmp_ge (pc := 42) (tgt := 64) dX6_init_42 (by decide) (fun h26 => absurd h26 (by decide)) (fun h26 => ?_)
  refine x_aload_n (pc := 45) dX6_init_45 rfl ?_
  refine c_getR (pc := 46) (t := 2) xC6 0 fl_X6_11 rfl (by decide) rfl (by decide) rfl dX6_init_46 ?_
  refine x_iload_n (pc := 49) dX6_init_49 rfl ?_
  refine c_new (pc := 50) (kc := 14) (ks := 686) 16 xC7 (xword 75 (by decide +kernel) rfl) (xword 107 (by decide +kernel) rfl) (xword 51 (by decide +kernel) rfl) rfl (by decide) rfl (by decide +kernel) (Nat.le_of_ble_eq_true rfl) (Nat.le_of_ble_eq_true rfl) dX6_init_50 ?_
  refine SP.bdp (fun m27 e28 => ?_)
  refine x_dup (pc := 53) dX6_init_53 rfl ?_
  refine x_callI (pc := 54) (Iz := iX7_init) (ρz := rP) (kc := 15) (ks := 695) (kc' := 18) (ks' := 863) (As := []) (rest := [(.ref 16), (.int (2:Int32)), (.ref 2)]) (ct_X7_init 2 m27 (by decide)) rfl ml_X6_36 miX7_init rfl ⟨prX7_init, (Nat.le_of_ble_eq_true rfl), (Nat.le_of_ble_eq_true rfl), (Nat.le_of_ble_eq_true rfl), (Nat.le_of_ble_eq_true rfl)⟩ (Nat.le_of_ble_eq_true rfl) rfl rfl dX6_init_54 (fun q29 => ?_)
  dsimp only [xpush]
  refine c_aast (pc := 57) (t0 := 3) xC7 (by decide) rfl (by decide) rfl (fun _ => rfl) rfl (by decide) dX6_init_57 ?_
  refine SP.bdp (fun m30 e31 => ?_)
  refine x_iinc (pc := 58) (b := (3:Int32)) (L' := [some (.ref 1), some (.int (3:Int32))]) dX6_init_58 rfl (by decide) (Nat.le_of_ble_eq_true rfl) rfl rfl ?_
  refine x_goto (pc := 61) (tgt := 39) dX6_init_61 (by decide) ?_
  refine x_iload_n (pc := 39) dX6_init_39 rfl ?_
  refine x_bipush (pc := 40) (a := 16) dX6_init_40 (by decide) ?_
  refine x_icmp_ge (pc := 42) (tgt := 64) dX6_init_42 (by decide) (fun h32 => absurd h32 (by decide)) (fun h32 => ?_)
  refine x_aload_n (pc := 45) dX6_init_45 rfl ?_
  refine c_getR (pc := 46) (t := 2) xC6 0 fl_X6_11 rfl (by decide) rfl (by decide) rfl dX6_init_46 ?_
  refine x_iload_n (pc := 49) dX6_init_49 rfl ?_
  refine c_new (pc := 50) (kc := 18) (ks := 863) 20 xC7 (xword 75 (by decide +kernel) rfl) (xword 107 (by decide +kernel) rfl) (xword 51 (by decide +kernel) rfl) rfl (by decide) rfl (by decide +kernel) (Nat.le_of_ble_eq_true rfl) (Nat.le_of_ble_eq_true rfl) dX6_init_50 ?_
  refine SP.bdp (fun m33 e34 => ?_)
  refine x_dup (pc := 53) dX6_init_53 rfl ?_
  refine x_callI (pc := 54) (Iz := iX7_init) (ρz := rP) (kc := 19) (ks := 872) (kc' := 22) (ks' := 1040) (As := []) (rest := [(.ref 20), (.int (3:Int32)), (.ref 2)]) (ct_X7_init 3 m33 (by decide)) rfl ml_X6_36 miX7_init rfl ⟨prX7_init, (Nat.le_of_ble_eq_true rfl), (Nat.le_of_ble_eq_true rfl), (Nat.le_of_ble_eq_true rfl), (Nat.le_of_ble_eq_true rfl)⟩ (Nat.le_of_ble_eq_true rfl) rfl rfl dX6_init_54 (fun q35 => ?_)
  dsimp only [xpush]
  refine c_aast (pc := 57) (t0 := 3) xC7 (by decide) rfl (by decide) rfl (fun _ => rfl) rfl (by decide) dX6_init_57 ?_
  refine SP.bdp (fun m36 e37 => ?_)
  refine x_iinc (pc := 58) (b := (4:Int32)) (L' := [some (.ref 1), some (.int (4:Int32))]) dX6_init_58 rfl (by decide) (Nat.le_of_ble_eq_true rfl) rfl rfl ?_
  refine x_goto (pc := 61) (tgt := 39) dX6_init_61 (by decide) ?_
  refine x_iload_n (pc := 39) dX6_init_39 rfl ?_
  refine x_bipush (pc := 40) (a := 16) dX6_init_40 (by decide) ?_
  refine x_icmp_ge (pc := 42) (tgt := 64) dX6_init_42 (by decide) (fun h38 => absurd h38 (by decide)) (fun h38 => ?_)
  refine x_aload_n (pc := 45) dX6_init_45 rfl ?_
  refine c_getR (pc := 46) (t := 2) xC6 0 fl_X6_11 rfl (by decide) rfl (by decide) rfl dX6_init_46 ?_
  refine x_iload_n (pc := 49) dX6_init_49 rfl ?_
  refine c_new (pc := 50) (kc := 22) (ks := 1040) 24 xC7 (xword 75 (by decide +kernel) rfl) (xword 107 (by decide +kernel) rfl) (xword 51 (by decide +kernel) rfl) rfl (by decide) rfl (by decide +kernel) (Nat.le_of_ble_eq_true rfl) (Nat.le_of_ble_eq_true rfl) dX6_init_50 ?_
  refine SP.bdp (fun m39 e40 => ?_)
  refine x_dup (pc := 53) dX6_init_53 rfl ?_
  refine x_callI (pc := 54) (Iz := iX7_init) (ρz := rP) (kc := 23) (ks := 1049) (kc' := 26) (ks' := 1217) (As := []) (rest := [(.ref 24), (.int (4:Int32)), (.ref 2)]) (ct_X7_init 4 m39 (by decide)) rfl ml_X6_36 miX7_init rfl ⟨prX7_init, (Nat.le_of_ble_eq_true rfl), (Nat.le_of_ble_eq_true rfl), (Nat.le_of_ble_eq_true rfl), (Nat.le_of_ble_eq_true rfl)⟩ (Nat.le_of_ble_eq_true rfl) rfl rfl dX6_init_54 (fun q41 => ?_)
  dsimp only [xpush]
  refine c_aast (pc := 57) (t0 := 3) xC7 (by decide) rfl (by decide) rfl (fun _ => rfl) rfl (by decide) dX6_init_57 ?_
  refine SP.bdp (fun m42 e43 => ?_)
  refine x_iinc (pc := 58) (b := (5:Int32)) (L' := [some (.ref 1), some (.int (5:Int32))]) dX6_init_58 rfl (by decide) (Nat.le_of_ble_eq_true rfl) rfl rfl ?_
  refine x_goto (pc := 61) (tgt := 39) dX6_init_61 (by decide) ?_
  refine x_iload_n (pc := 39) dX6_init_39 rfl ?_
  refine x_bipush (pc := 40) (a := 16) dX6_init_40 (by decide) ?_
  refine x_icmp_ge (pc := 42) (tgt := 64) dX6_init_42 (by decide) (fun h44 => absurd h44 (by decide)) (fun h44 => ?_)
  refine x_aload_n (pc := 45) dX6_init_45 rfl ?_
  refine c_getR (pc := 46) (t := 2) xC6 0 fl_X6_11 rfl (by decide) rfl (by decide) rfl dX6_init_46 ?_
  refine x_iload_n (pc := 49) dX6_init_49 rfl ?_
  refine c_new (pc := 50) (kc := 26) (ks := 1217) 28 xC7 (xword 75 (by decide +kernel) rfl) (xword 107 (by decide +kernel) rfl) (xword 51 (by decide +kernel) rfl) rfl (by decide) rfl (by decide +kernel) (Nat.le_of_ble_eq_true rfl) (Nat.le_of_ble_eq_true rfl) dX6_init_50 ?_
  refine SP.bdp (fun m45 e46 => ?_)
  refine x_dup (pc := 53) dX6_init_53 rfl ?_
  refine x_callI (pc := 54) (Iz := iX7_init) (ρz := rP) (kc := 27) (ks := 1226) (kc' := 30) (ks' := 1394) (As := []) (rest := [(.ref 28), (.int (5:Int32)), (.ref 2)]) (ct_X7_init 5 m45 (by decide)) rfl ml_X6_36 miX7_init rfl ⟨prX7_init, (Nat.le_of_ble_eq_true rfl), (Nat.le_of_ble_eq_true rfl), (Nat.le_of_ble_eq_true rfl), (Nat.le_of_ble_eq_true rfl)⟩ (Nat.le_of_ble_eq_true rfl) rfl rfl dX6_init_54 (fun q47 => ?_)
  dsimp only [xpush]
  refine c_aast (pc := 57) (t0 := 3) xC7 (by decide) rfl (by decide) rfl (fun _ => rfl) rfl (by decide) dX6_init_57 ?_
  refine SP.bdp (fun m48 e49 => ?_)
  refine x_iinc (pc := 58) (b := (6:Int32)) (L' := [some (.ref 1), some (.int (6:Int32))]) dX6_init_58 rfl (by decide) (Nat.le_of_ble_eq_true rfl) rfl rfl ?_
  refine x_goto (pc := 61) (tgt := 39) dX6_init_61 (by decide) ?_
  refine x_iload_n (pc := 39) dX6_init_39 rfl ?_
  refine x_bipush (pc := 40) (a := 16) dX6_init_40 (by decide) ?_
  refine x_icmp_ge (pc := 42) (tgt := 64) dX6_init_42 (by decide) (fun h50 => absurd h50 (by decide)) (fun h50 => ?_)
  refine x_aload_n (pc := 45) dX6_init_45 rfl ?_
  refine c_getR (pc := 46) (t := 2) xC6 0 fl_X6_11 rfl (by decide) rfl (by decide) rfl dX6_init_46 ?_
  refine x_iload_n (pc := 49) dX6_init_49 rfl ?_
  refine c_new (pc := 50) (kc := 30) (ks := 1394) 32 xC7 (xword 75 (by decide +kernel) rfl) (xword 107 (by decide +kernel) rfl) (xword 51 (by decide +kernel) rfl) rfl (by decide) rfl (by decide +kernel) (Nat.le_of_ble_eq_true rfl) (Nat.le_of_ble_eq_true rfl) dX6_init_50 ?_
  refine SP.bdp (fun m51 e52 => ?_)
  refine x_dup (pc := 53) dX6_init_53 rfl ?_
  refine x_callI (pc := 54) (Iz := iX7_init) (ρz := rP) (kc := 31) (ks := 1403) (kc' := 34) (ks' := 1571) (As := []) (rest := [(.ref 32), (.int (6:Int32)), (.ref 2)]) (ct_X7_init 6 m51 (by decide)) rfl ml_X6_36 miX7_init rfl ⟨prX7_init, (Nat.le_of_ble_eq_true rfl), (Nat.le_of_ble_eq_true rfl), (Nat.le_of_ble_eq_true rfl), (Nat.le_of_ble_eq_true rfl)⟩ (Nat.le_of_ble_eq_true rfl) rfl rfl dX6_init_54 (fun q53 => ?_)
  dsimp only [xpush]
  refine c_aast (pc := 57) (t0 := 3) xC7 (by decide) rfl (by decide) rfl (fun _ => rfl) rfl (by decide) dX6_init_57 ?_
  refine SP.bdp (fun m54 e55 => ?_)
  refine x_iinc (pc := 58) (b := (7:Int32)) (L' := [some (.ref 1), some (.int (7:Int32))]) dX6_init_58 rfl (by decide) (Nat.le_of_ble_eq_true rfl) rfl rfl ?_
  refine x_goto (pc := 61) (tgt := 39) dX6_init_61 (by decide) ?_
  refine x_iload_n (pc := 39) dX6_init_39 rfl ?_
  refine x_bipush (pc := 40) (a := 16) dX6_init_40 (by decide) ?_
  refine x_icmp_ge (pc := 42) (tgt := 64) dX6_init_42 (by decide) (fun h56 => absurd h56 (by decide)) (fun h56 => ?_)
  refine x_aload_n (pc := 45) dX6_init_45 rfl ?_
  refine c_getR (pc := 46) (t := 2) xC6 0 fl_X6_11 rfl (by decide) rfl (by decide) rfl dX6_init_46 ?_
  refine x_iload_n (pc := 49) dX6_init_49 rfl ?_
  refine c_new (pc := 50) (kc := 34) (ks := 1571) 36 xC7 (xword 75 (by decide +kernel) rfl) (xword 107 (by decide +kernel) rfl) (xword 51 (by decide +kernel) rfl) rfl (by decide) rfl (by decide +kernel) (Nat.le_of_ble_eq_true rfl) (Nat.le_of_ble_eq_true rfl) dX6_init_50 ?_
  refine SP.bdp (fun m57 e58 => ?_)
  refine x_dup (pc := 53) dX6_init_53 rfl ?_
  refine x_callI (pc := 54) (Iz := iX7_init) (ρz := rP) (kc := 35) (ks := 1580) (kc' := 38) (ks' := 1748) (As := []) (rest := [(.ref 36), (.int (7:Int32)), (.ref 2)]) (ct_X7_init 7 m57 (by decide)) rfl ml_X6_36 miX7_init rfl ⟨prX7_init, (Nat.le_of_ble_eq_true rfl), (Nat.le_of_ble_eq_true rfl), (Nat.le_of_ble_eq_true rfl), (Nat.le_of_ble_eq_true rfl)⟩ (Nat.le_of_ble_eq_true rfl) rfl rfl dX6_init_54 (fun q59 => ?_)
  dsimp only [xpush]
  refine c_aast (pc := 57) (t0 := 3) xC7 (by decide) rfl (by decide) rfl (fun _ => rfl) rfl (by decide) dX6_init_57 ?_
  refine SP.bdp (fun m60 e61 => ?_)
  refine x_iinc (pc := 58) (b := (8:Int32)) (L' := [some (.ref 1), some (.int (8:Int32))]) dX6_init_58 rfl (by decide) (Nat.le_of_ble_eq_true rfl) rfl rfl ?_
  refine x_goto (pc := 61) (tgt := 39) dX6_init_61 (by decide) ?_
  refine x_iload_n (pc := 39) dX6_init_39 rfl ?_
  refine x_bipush (pc := 40) (a := 16) dX6_init_40 (by decide) ?_
  refine x_icmp_ge (pc := 42) (tgt := 64) dX6_init_42 (by decide) (fun h62 => absurd h62 (by decide)) (fun h62 => ?_)
  refine x_aload_n (pc := 45) dX6_init_45 rfl ?_
  refine c_getR (pc := 46) (t := 2) xC6 0 fl_X6_11 rfl (by decide) rfl (by decide) rfl dX6_init_46 ?_
  refine x_iload_n (pc := 49) dX6_init_49 rfl ?_
  refine c_new (pc := 50) (kc := 38) (ks := 1748) 40 xC7 (xword 75 (by decide +kernel) rfl) (xword 107 (by decide +kernel) rfl) (xword 51 (by decide +kernel) rfl) rfl (by decide) rfl (by decide +kernel) (Nat.le_of_ble_eq_true rfl) (Nat.le_of_ble_eq_true rfl) dX6_init_50 ?_
  refine SP.bdp (fun m63 e64 => ?_)
  refine x_dup (pc := 53) dX6_init_53 rfl ?_
  refine x_callI (pc := 54) (Iz := iX7_init) (ρz := rP) (kc := 39) (ks := 1757) (kc' := 42) (ks' := 1925) (As := []) (rest := [(.ref 40), (.int (8:Int32)), (.ref 2)]) (ct_X7_init 8 m63 (by decide)) rfl ml_X6_36 miX7_init rfl ⟨prX7_init, (Nat.le_of_ble_eq_true rfl), (Nat.le_of_ble_eq_true rfl), (Nat.le_of_ble_eq_true rfl), (Nat.le_of_ble_eq_true rfl)⟩ (Nat.le_of_ble_eq_true rfl) rfl rfl dX6_init_54 (fun q65 => ?_)
  dsimp only [xpush]
  refine c_aast (pc := 57) (t0 := 3) xC7 (by decide) rfl (by decide) rfl (fun _ => rfl) rfl (by decide) dX6_init_57 ?_
  refine SP.bdp (fun m66 e67 => ?_)
  refine x_iinc (pc := 58) (b := (9:Int32)) (L' := [some (.ref 1), some (.int (9:Int32))]) dX6_init_58 rfl (by decide) (Nat.le_of_ble_eq_true rfl) rfl rfl ?_
  refine x_goto (pc := 61) (tgt := 39) dX6_init_61 (by decide) ?_
  refine x_iload_n (pc := 39) dX6_init_39 rfl ?_
  refine x_bipush (pc := 40) (a := 16) dX6_init_40 (by decide) ?_
  refine x_icmp_ge (pc := 42) (tgt := 64) dX6_init_42 (by decide) (fun h68 => absurd h68 (by decide)) (fun h68 => ?_)
  refine x_aload_n (pc := 45) dX6_init_45 rfl ?_
  refine c_getR (pc := 46) (t := 2) xC6 0 fl_X6_11 rfl (by decide) rfl (by decide) rfl dX6_init_46 ?_
  refine x_iload_n (pc := 49) dX6_init_49 rfl ?_
  refine c_new (pc := 50) (kc := 42) (ks := 1925) 44 xC7 (xword 75 (by decide +kernel) rfl) (xword 107 (by decide +kernel) rfl) (xword 51 (by decide +kernel) rfl) rfl (by decide) rfl (by decide +kernel) (Nat.le_of_ble_eq_true rfl) (Nat.le_of_ble_eq_true rfl) dX6_init_50 ?_
  refine SP.bdp (fun m69 e70 => ?_)
  refine x_dup (pc := 53) dX6_init_53 rfl ?_
  refine x_callI (pc := 54) (Iz := iX7_init) (ρz := rP) (kc := 43) (ks := 1934) (kc' := 46) (ks' := 2102) (As := []) (rest := [(.ref 44), (.int (9:Int32)), (.ref 2)]) (ct_X7_init 9 m69 (by decide)) rfl ml_X6_36 miX7_init rfl ⟨prX7_init, (Nat.le_of_ble_eq_true rfl), (Nat.le_of_ble_eq_true rfl), (Nat.le_of_ble_eq_true rfl), (Nat.le_of_ble_eq_true rfl)⟩ (Nat.le_of_ble_eq_true rfl) rfl rfl dX6_init_54 (fun q71 => ?_)
  dsimp only [xpush]
  refine c_aast (pc := 57) (t0 := 3) xC7 (by decide) rfl (by decide) rfl (fun _ => rfl) rfl (by decide) dX6_init_57 ?_
  refine SP.bdp (fun m72 e73 => ?_)
  refine x_iinc (pc := 58) (b := (10:Int32)) (L' := [some (.ref 1), some (.int (10:Int32))]) dX6_init_58 rfl (by decide) (Nat.le_of_ble_eq_true rfl) rfl rfl ?_
  refine x_goto (pc := 61) (tgt := 39) dX6_init_61 (by decide) ?_
  refine x_iload_n (pc := 39) dX6_init_39 rfl ?_
  refine x_bipush (pc := 40) (a := 16) dX6_init_40 (by decide) ?_
  refine x_icmp_ge (pc := 42) (tgt := 64) dX6_init_42 (by decide) (fun h74 => absurd h74 (by decide)) (fun h74 => ?_)
  refine x_aload_n (pc := 45) dX6_init_45 rfl ?_
  refine c_getR (pc := 46) (t := 2) xC6 0 fl_X6_11 rfl (by decide) rfl (by decide) rfl dX6_init_46 ?_
  refine x_iload_n (pc := 49) dX6_init_49 rfl ?_
  refine c_new (pc := 50) (kc := 46) (ks := 2102) 48 xC7 (xword 75 (by decide +kernel) rfl) (xword 107 (by decide +kernel) rfl) (xword 51 (by decide +kernel) rfl) rfl (by decide) rfl (by decide +kernel) (Nat.le_of_ble_eq_true rfl) (Nat.le_of_ble_eq_true rfl) dX6_init_50 ?_
  refine SP.bdp (fun m75 e76 => ?_)
  refine x_dup (pc := 53) dX6_init_53 rfl ?_
  refine x_callI (pc := 54) (Iz := iX7_init) (ρz := rP) (kc := 47) (ks := 2111) (kc' := 50) (ks' := 2279) (As := []) (rest := [(.ref 48), (.int (10:Int32)), (.ref 2)]) (ct_X7_init 10 m75 (by decide)) rfl ml_X6_36 miX7_init rfl ⟨prX7_init, (Nat.le_of_ble_eq_true rfl), (Nat.le_of_ble_eq_true rfl), (Nat.le_of_ble_eq_true rfl), (Nat.le_of_ble_eq_true rfl)⟩ (Nat.le_of_ble_eq_true rfl) rfl rfl dX6_init_54 (fun q77 => ?_)
  dsimp only [xpush]
  refine c_aast (pc := 57) (t0 := 3) xC7 (by decide) rfl (by decide) rfl (fun _ => rfl) rfl (by decide) dX6_init_57 ?_
  refine SP.bdp (fun m78 e79 => ?_)
  refine x_iinc (pc := 58) (b := (11:Int32)) (L' := [some (.ref 1), some (.int (11:Int32))]) dX6_init_58 rfl (by decide) (Nat.le_of_ble_eq_true rfl) rfl rfl ?_
  refine x_goto (pc := 61) (tgt := 39) dX6_init_61 (by decide) ?_
  refine x_iload_n (pc := 39) dX6_init_39 rfl ?_
  refine x_bipush (pc := 40) (a := 16) dX6_init_40 (by decide) ?_
  refine x_icmp_ge (pc := 42) (tgt := 64) dX6_init_42 (by decide) (fun h80 => absurd h80 (by decide)) (fun h80 => ?_)
  refine x_aload_n (pc := 45) dX6_init_45 rfl ?_
  refine c_getR (pc := 46) (t := 2) xC6 0 fl_X6_11 rfl (by decide) rfl (by decide) rfl dX6_init_46 ?_
  refine x_iload_n (pc := 49) dX6_init_49 rfl ?_
  refine c_new (pc := 50) (kc := 50) (ks := 2279) 52 xC7 (xword 75 (by decide +kernel) rfl) (xword 107 (by decide +kernel) rfl) (xword 51 (by decide +kernel) rfl) rfl (by decide) rfl (by decide +kernel) (Nat.le_of_ble_eq_true rfl) (Nat.le_of_ble_eq_true rfl) dX6_init_50 ?_
  refine SP.bdp (fun m81 e82 => ?_)
  refine x_dup (pc := 53) dX6_init_53 rfl ?_
  refine x_callI (pc := 54) (Iz := iX7_init) (ρz := rP) (kc := 51) (ks := 2288) (kc' := 54) (ks' := 2456) (As := []) (rest := [(.ref 52), (.int (11:Int32)), (.ref 2)]) (ct_X7_init 11 m81 (by decide)) rfl ml_X6_36 miX7_init rfl ⟨prX7_init, (Nat.le_of_ble_eq_true rfl), (Nat.le_of_ble_eq_true rfl), (Nat.le_of_ble_eq_true rfl), (Nat.le_of_ble_eq_true rfl)⟩ (Nat.le_of_ble_eq_true rfl) rfl rfl dX6_init_54 (fun q83 => ?_)
  dsimp only [xpush]
  refine c_aast (pc := 57) (t0 := 3) xC7 (by decide) rfl (by decide) rfl (fun _ => rfl) rfl (by decide) dX6_init_57 ?_
  refine SP.bdp (fun m84 e85 => ?_)
  refine x_iinc (pc := 58) (b := (12:Int32)) (L' := [some (.ref 1), some (.int (12:Int32))]) dX6_init_58 rfl (by decide) (Nat.le_of_ble_eq_true rfl) rfl rfl ?_
  refine x_goto (pc := 61) (tgt := 39) dX6_init_61 (by decide) ?_
  refine x_iload_n (pc := 39) dX6_init_39 rfl ?_
  refine x_bipush (pc := 40) (a := 16) dX6_init_40 (by decide) ?_
  refine x_icmp_ge (pc := 42) (tgt := 64) dX6_init_42 (by decide) (fun h86 => absurd h86 (by decide)) (fun h86 => ?_)
  refine x_aload_n (pc := 45) dX6_init_45 rfl ?_
  refine c_getR (pc := 46) (t := 2) xC6 0 fl_X6_11 rfl (by decide) rfl (by decide) rfl dX6_init_46 ?_
  refine x_iload_n (pc := 49) dX6_init_49 rfl ?_
  refine c_new (pc := 50) (kc := 54) (ks := 2456) 56 xC7 (xword 75 (by decide +kernel) rfl) (xword 107 (by decide +kernel) rfl) (xword 51 (by decide +kernel) rfl) rfl (by decide) rfl (by decide +kernel) (Nat.le_of_ble_eq_true rfl) (Nat.le_of_ble_eq_true rfl) dX6_init_50 ?_
  refine SP.bdp (fun m87 e88 => ?_)
  refine x_dup (pc := 53) dX6_init_53 rfl ?_
  refine x_callI (pc := 54) (Iz := iX7_init) (ρz := rP) (kc := 55) (ks := 2465) (kc' := 58) (ks' := 2633) (As := []) (rest := [(.ref 56), (.int (12:Int32)), (.ref 2)]) (ct_X7_init 12 m87 (by decide)) rfl ml_X6_36 miX7_init rfl ⟨prX7_init, (Nat.le_of_ble_eq_true rfl), (Nat.le_of_ble_eq_true rfl), (Nat.le_of_ble_eq_true rfl), (Nat.le_of_ble_eq_true rfl)⟩ (Nat.le_of_ble_eq_true rfl) rfl rfl dX6_init_54 (fun q89 => ?_)
  dsimp only [xpush]
  refine c_aast (pc := 57) (t0 := 3) xC7 (by decide) rfl (by decide) rfl (fun _ => rfl) rfl (by decide) dX6_init_57 ?_
  refine SP.bdp (fun m90 e91 => ?_)
  refine x_iinc (pc := 58) (b := (13:Int32)) (L' := [some (.ref 1), some (.int (13:Int32))]) dX6_init_58 rfl (by decide) (Nat.le_of_ble_eq_true rfl) rfl rfl ?_
  refine x_goto (pc := 61) (tgt := 39) dX6_init_61 (by decide) ?_
  refine x_iload_n (pc := 39) dX6_init_39 rfl ?_
  refine x_bipush (pc := 40) (a := 16) dX6_init_40 (by decide) ?_
  refine x_icmp_ge (pc := 42) (tgt := 64) dX6_init_42 (by decide) (fun h92 => absurd h92 (by decide)) (fun h92 => ?_)
  refine x_aload_n (pc := 45) dX6_init_45 rfl ?_
  refine c_getR (pc := 46) (t := 2) xC6 0 fl_X6_11 rfl (by decide) rfl (by decide) rfl dX6_init_46 ?_
  refine x_iload_n (pc := 49) dX6_init_49 rfl ?_
  refine c_new (pc := 50) (kc := 58) (ks := 2633) 60 xC7 (xword 75 (by decide +kernel) rfl) (xword 107 (by decide +kernel) rfl) (xword 51 (by decide +kernel) rfl) rfl (by decide) rfl (by decide +kernel) (Nat.le_of_ble_eq_true rfl) (Nat.le_of_ble_eq_true rfl) dX6_init_50 ?_
  refine SP.bdp (fun m93 e94 => ?_)
  refine x_dup (pc := 53) dX6_init_53 rfl ?_
  refine x_callI (pc := 54) (Iz := iX7_init) (ρz := rP) (kc := 59) (ks := 2642) (kc' := 62) (ks' := 2810) (As := []) (rest := [(.ref 60), (.int (13:Int32)), (.ref 2)]) (ct_X7_init 13 m93 (by decide)) rfl ml_X6_36 miX7_init rfl ⟨prX7_init, (Nat.le_of_ble_eq_true rfl), (Nat.le_of_ble_eq_true rfl), (Nat.le_of_ble_eq_true rfl), (Nat.le_of_ble_eq_true rfl)⟩ (Nat.le_of_ble_eq_true rfl) rfl rfl dX6_init_54 (fun q95 => ?_)
  dsimp only [xpush]
  refine c_aast (pc := 57) (t0 := 3) xC7 (by decide) rfl (by decide) rfl (fun _ => rfl) rfl (by decide) dX6_init_57 ?_
  refine SP.bdp (fun m96 e97 => ?_)
  refine x_iinc (pc := 58) (b := (14:Int32)) (L' := [some (.ref 1), some (.int (14:Int32))]) dX6_init_58 rfl (by decide) (Nat.le_of_ble_eq_true rfl) rfl rfl ?_
  refine x_goto (pc := 61) (tgt := 39) dX6_init_61 (by decide) ?_
  refine x_iload_n (pc := 39) dX6_init_39 rfl ?_
  refine x_bipush (pc := 40) (a := 16) dX6_init_40 (by decide) ?_
  refine x_icmp_ge (pc := 42) (tgt := 64) dX6_init_42 (by decide) (fun h98 => absurd h98 (by decide)) (fun h98 => ?_)
  refine x_aload_n (pc := 45) dX6_init_45 rfl ?_
  refine c_getR (pc := 46) (t := 2) xC6 0 fl_X6_11 rfl (by decide) rfl (by decide) rfl dX6_init_46 ?_
  refine x_iload_n (pc := 49) dX6_init_49 rfl ?_
  refine c_new (pc := 50) (kc := 62) (ks := 2810) 64 xC7 (xword 75 (by decide +kernel) rfl) (xword 107 (by decide +kernel) rfl) (xword 51 (by decide +kernel) rfl) rfl (by decide) rfl (by decide +kernel) (Nat.le_of_ble_eq_true rfl) (Nat.le_of_ble_eq_true rfl) dX6_init_50 ?_
  refine SP.bdp (fun m99 e100 => ?_)
  refine x_dup (pc := 53) dX6_init_53 rfl ?_
  refine x_callI (pc := 54) (Iz := iX7_init) (ρz := rP) (kc := 63) (ks := 2819) (kc' := 66) (ks' := 2987) (As := []) (rest := [(.ref 64), (.int (14:Int32)), (.ref 2)]) (ct_X7_init 14 m99 (by decide)) rfl ml_X6_36 miX7_init rfl ⟨prX7_init, (Nat.le_of_ble_eq_true rfl), (Nat.le_of_ble_eq_true rfl), (Nat.le_of_ble_eq_true rfl), (Nat.le_of_ble_eq_true rfl)⟩ (Nat.le_of_ble_eq_true rfl) rfl rfl dX6_init_54 (fun q101 => ?_)
  dsimp only [xpush]
  refine c_aast (pc := 57) (t0 := 3) xC7 (by decide) rfl (by decide) rfl (fun _ => rfl) rfl (by decide) dX6_init_57 ?_
  refine SP.bdp (fun m102 e103 => ?_)
  refine x_iinc (pc := 58) (b := (15:Int32)) (L' := [some (.ref 1), some (.int (15:Int32))]) dX6_init_58 rfl (by decide) (Nat.le_of_ble_eq_true rfl) rfl rfl ?_
  refine x_goto (pc := 61) (tgt := 39) dX6_init_61 (by decide) ?_
  refine x_iload_n (pc := 39) dX6_init_39 rfl ?_
  refine x_bipush (pc := 40) (a := 16) dX6_init_40 (by decide) ?_
  refine x_icmp_ge (pc := 42) (tgt := 64) dX6_init_42 (by decide) (fun h104 => absurd h104 (by decide)) (fun h104 => ?_)
  refine x_aload_n (pc := 45) dX6_init_45 rfl ?_
  refine c_getR (pc := 46) (t := 2) xC6 0 fl_X6_11 rfl (by decide) rfl (by decide) rfl dX6_init_46 ?_
  refine x_iload_n (pc := 49) dX6_init_49 rfl ?_
  refine c_new (pc := 50) (kc := 66) (ks := 2987) 68 xC7 (xword 75 (by decide +kernel) rfl) (xword 107 (by decide +kernel) rfl) (xword 51 (by decide +kernel) rfl) rfl (by decide) rfl (by decide +kernel) (Nat.le_of_ble_eq_true rfl) (Nat.le_of_ble_eq_true rfl) dX6_init_50 ?_
  refine SP.bdp (fun m105 e106 => ?_)
  refine x_dup (pc := 53) dX6_init_53 rfl ?_
  refine x_callI (pc := 54) (Iz := iX7_init) (ρz := rP) (kc := 67) (ks := 2996) (kc' := 70) (ks' := 3164) (As := []) (rest := [(.ref 68), (.int (15:Int32)), (.ref 2)]) (ct_X7_init 15 m105 (by decide)) rfl ml_X6_36 miX7_init rfl ⟨prX7_init, (Nat.le_of_ble_eq_true rfl), (Nat.le_of_ble_eq_true rfl), (Nat.le_of_ble_eq_true rfl), (Nat.le_of_ble_eq_true rfl)⟩ (Nat.le_of_ble_eq_true rfl) rfl rfl dX6_init_54 (fun q107 => ?_)
  dsimp only [xpush]
  refine c_aast (pc := 57) (t0 := 3) xC7 (by decide) rfl (by decide) rfl (fun _ => rfl) rfl (by decide) dX6_init_57 ?_
  refine SP.bdp (fun m108 e109 => ?_)
  refine x_iinc (pc := 58) (b := (16:Int32)) (L' := [some (.ref 1), some (.int (16:Int32))]) dX6_init_58 rfl (by decide) (Nat.le_of_ble_eq_true rfl) rfl rfl ?_
  refine x_goto (pc := 61) (tgt := 39) dX6_init_61 (by decide) ?_
  refine x_iload_n (pc := 39) dX6_init_39 rfl ?_
  refine x_bipush (pc := 40) (a := 16) dX6_init_40 (by decide) ?_
  refine x_icmp_ge (pc := 42) (tgt := 64) dX6_init_42 (by decide) (fun h110 => ?_) (fun h110 => absurd h110 (by decide))
  exact x_vret (pc := 64) rfl rfl dX6_init_64 (Nat.le_of_ble_eq_true rfl) (Nat.le_of_ble_eq_true rfl)

set_option maxRecDepth 100000 in
set_option maxHeartbeats 4000000 in
theorem ct_X0_init  (C : xPw)  : Ct iX0_init rP [(.ref 72), (.ref 1)] (xwp C) (fX0_init C) := by
  refine Ct.of' (L := [some (.ref 72), some (.ref 1), none]) 1 rfl (by decide +kernel) (Nat.le_of_ble_eq_true rfl) rfl ?_
  unfold fX0_init
  refine x_aload_n (pc := 0) dX0_init_0 rfl ?_
  refine x_objInit (pc := 1) (xword 194 (by decide +kernel) rfl) (xword 67 (by decide +kernel) rfl) (xword 68 (by decide +kernel) rfl) (Nat.le_of_ble_eq_true rfl) (Nat.le_of_ble_eq_true rfl) dX0_init_1 ?_
  refine x_aload_n (pc := 4) dX0_init_4 rfl ?_
  refine x_bipush (pc := 5) (a := 16) dX0_init_5 (by decide) ?_
  refine x_bipush (pc := 7) (a := 56) dX0_init_7 (by decide) ?_
  refine c_mna (pc := 9) (kc := 0) (ks := 0) 73 (N := 16) (K0 := 56) (xword 195 (by decide +kernel) rfl) (xnest 196 (by decide +kernel) rfl) (xword 97 (by decide +kernel) rfl) rfl rfl (by decide +kernel) (by decide) (by decide) (by decide) (by decide) (by decide) (by decide) (by decide) xbk73 (by decide) (Nat.le_of_ble_eq_true rfl) (Nat.le_of_ble_eq_true rfl) dX0_init_9 ?_
  refine SP.bdp (fun m1 e2 => ?_)
  refine c_putR (pc := 13) (t := 73) xC0 1 (xword 199 (by decide +kernel) rfl) rfl (by decide) rfl (by decide) rfl rfl rfl rfl (fun _ => rfl) (fun _ => rfl) dX0_init_13 ?_
  refine SP.bdp (fun m3 e4 => ?_)
  refine x_aload_n (pc := 16) dX0_init_16 rfl ?_
  refine x_bipush (pc := 17) (a := 16) dX0_init_17 (by decide) ?_
  refine x_bipush (pc := 19) (a := 56) dX0_init_19 (by decide) ?_
  refine c_mna (pc := 21) (kc := 17) (ks := 912) 90 (N := 16) (K0 := 56) (xword 195 (by decide +kernel) rfl) (xnest 196 (by decide +kernel) rfl) (xword 97 (by decide +kernel) rfl) rfl rfl (by decide +kernel) (by decide) (by decide) (by decide) (by decide) (by decide) (by decide) (by decide) xbk90 (by decide) (Nat.le_of_ble_eq_true rfl) (Nat.le_of_ble_eq_true rfl) dX0_init_21 ?_
  refine SP.bdp (fun m5 e6 => ?_)
  refine c_putR (pc := 25) (t := 90) xC0 2 (xword 200 (by decide +kernel) rfl) rfl (by decide) rfl (by decide) rfl rfl rfl rfl (fun _ => rfl) (fun _ => rfl) dX0_init_25 ?_
  refine SP.bdp (fun m7 e8 => ?_)
  refine x_aload_n (pc := 28) dX0_init_28 rfl ?_
  refine x_bipush (pc := 29) (a := 16) dX0_init_29 (by decide) ?_
  refine x_bipush (pc := 31) (a := 56) dX0_init_31 (by decide) ?_
  refine c_mna (pc := 33) (kc := 34) (ks := 1824) 107 (N := 16) (K0 := 56) (xword 195 (by decide +kernel) rfl) (xnest 196 (by decide +kernel) rfl) (xword 97 (by decide +kernel) rfl) rfl rfl (by decide +kernel) (by decide) (by decide) (by decide) (by decide) (by decide) (by decide) (by decide) xbk107 (by decide) (Nat.le_of_ble_eq_true rfl) (Nat.le_of_ble_eq_true rfl) dX0_init_33 ?_
  refine SP.bdp (fun m9 e10 => ?_)
  refine c_putR (pc := 37) (t := 107) xC0 3 (xword 201 (by decide +kernel) rfl) rfl (by decide) rfl (by decide) rfl rfl rfl rfl (fun _ => rfl) (fun _ => rfl) dX0_init_37 ?_
  refine SP.bdp (fun m11 e12 => ?_)
  refine x_aload_n (pc := 40) dX0_init_40 rfl ?_
  refine x_bipush (pc := 41) (a := 16) dX0_init_41 (by decide) ?_
  refine x_bipush (pc := 43) (a := 56) dX0_init_43 (by decide) ?_
  refine c_mna (pc := 45) (kc := 51) (ks := 2736) 124 (N := 16) (K0 := 56) (xword 195 (by decide +kernel) rfl) (xnest 196 (by decide +kernel) rfl) (xword 97 (by decide +kernel) rfl) rfl rfl (by decide +kernel) (by decide) (by decide) (by decide) (by decide) (by decide) (by decide) (by decide) xbk124 (by decide) (Nat.le_of_ble_eq_true rfl) (Nat.le_of_ble_eq_true rfl) dX0_init_45 ?_
  refine SP.bdp (fun m13 e14 => ?_)
  refine c_putR (pc := 49) (t := 124) xC0 4 (xword 202 (by decide +kernel) rfl) rfl (by decide) rfl (by decide) rfl rfl rfl rfl (fun _ => rfl) (fun _ => rfl) dX0_init_49 ?_
  refine SP.bdp (fun m15 e16 => ?_)
  refine x_aload_n (pc := 52) dX0_init_52 rfl ?_
  refine x_bipush (pc := 53) (a := 56) dX0_init_53 (by decide) ?_
  refine c_newaI (pc := 55) (kc := 68) (ks := 3648) 141 (N := 56) (xword 97 (by decide +kernel) rfl) rfl rfl (by decide) (by decide) (by decide) (Nat.le_of_ble_eq_true rfl) (Nat.le_of_ble_eq_true rfl) dX0_init_55 ?_
  refine SP.bdp (fun m17 e18 => ?_)
  refine c_putR (pc := 57) (t := 141) xC0 5 (xword 203 (by decide +kernel) rfl) rfl (by decide) rfl (by decide) rfl rfl rfl rfl (fun _ => rfl) (fun _ => rfl) dX0_init_57 ?_
  refine SP.bdp (fun m19 e20 => ?_)
  refine x_aload_n (pc := 60) dX0_init_60 rfl ?_
  refine x_aload_n (pc := 61) dX0_init_61 rfl ?_
  refine c_putR (pc := 62) (t := 1) xC0 0 (xword 198 (by decide +kernel) rfl) rfl (by decide) rfl (by decide) rfl rfl rfl rfl (fun _ => rfl) (fun _ => rfl) dX0_init_62 ?_
  refine SP.bdp (fun m21 e22 => ?_)
  refine x_iconst (pc := 65) (a := 0) dX0_init_65 (by decide) ?_
  refine x_istore_n (pc := 66) (L' := [some (.ref 72), some (.ref 1), some (.int (0:Int32))]) dX0_init_66 (Nat.le_of_ble_eq_true rfl) rfl rfl ?_
  refine x_iload_n (pc := 67) dX0_init_67 rfl ?_
  refine x_bipush (pc := 68) (a := 16) dX0_init_68 (by decide) ?_
  refine x_icmp_ge (pc := 70) (tgt := 109) dX0_init_70 (by decide) (fun h23 => absurd h23 (by decide)) (fun h23 => ?_)
  refine x_aload_n (pc := 73) dX0_init_73 rfl ?_
  refine c_getR (pc := 74) (t := 73) xC0 1 fl_X0_11 rfl (by decide) rfl (by decide) rfl dX0_init_74 ?_
  refine x_iload_n (pc := 77) dX0_init_77 rfl ?_
  refine c_aald (pc := 78) (t0 := 5) rfl (by decide) rfl (fun _ => rfl) rfl (q := 74) (by decide) dX0_init_78 ?_
  refine x_iconst (pc := 79) (a := -1) dX0_init_79 (by decide) ?_
  refine x_callS (pc := 80) (Iz := iJ7_fill_53178) (ρz := rP) (kc := 69) (ks := 3704) (As := [(.ref 74), (.int (-1:Int32))]) (rest := []) (ct_fillC 74 56 (-1:Int32) m21 rfl rfl (by decide)) rfl ml_X0_33 meJ7_fill_53178 rfl ⟨prJ7_fill_53178, (Nat.le_of_ble_eq_true rfl), (Nat.le_of_ble_eq_true rfl), (Nat.le_of_ble_eq_true rfl), (Nat.le_of_ble_eq_true rfl)⟩ (Nat.le_of_ble_eq_true rfl) dX0_init_80 (fun q24 => ?_)
  dsimp only [xpush]
  refine x_aload_n (pc := 83) dX0_init_83 rfl ?_
  refine c_getR (pc := 84) (t := 107) xC0 3 fl_X0_19 rfl (by decide) rfl (by decide) rfl dX0_init_84 ?_
  refine x_iload_n (pc := 87) dX0_init_87 rfl ?_
  refine c_aald (pc := 88) (t0 := 5) rfl (by decide) rfl (fun _ => rfl) rfl (q := 108) (by decide) dX0_init_88 ?_
  refine x_iconst (pc := 89) (a := -1) dX0_init_89 (by decide) ?_
  refine x_callS (pc := 90) (Iz := iJ7_fill_53178) (ρz := rP) (kc := 69) (ks := 3704) (As := [(.ref 108), (.int (-1:Int32))]) (rest := []) (ct_fillC 108 56 (-1:Int32) q24 rfl rfl (by decide)) rfl ml_X0_33 meJ7_fill_53178 rfl ⟨prJ7_fill_53178, (Nat.le_of_ble_eq_true rfl), (Nat.le_of_ble_eq_true rfl), (Nat.le_of_ble_eq_true rfl), (Nat.le_of_ble_eq_true rfl)⟩ (Nat.le_of_ble_eq_true rfl) dX0_init_90 (fun q25 => ?_)
  dsimp only [xpush]
  refine x_aload_n (pc := 93) dX0_init_93 rfl ?_
  refine c_getR (pc := 94) (t := 124) xC0 4 fl_X0_22 rfl (by decide) rfl (by decide) rfl dX0_init_94 ?_
  refine x_iload_n (pc := 97) dX0_init_97 rfl ?_
  refine c_aald (pc := 98) (t0 := 5) rfl (by decide) rfl (fun _ => rfl) rfl (q := 125) (by decide) dX0_init_98 ?_
  refine x_iconst (pc := 99) (a := -1) dX0_init_99 (by decide) ?_
  refine x_callS (pc := 100) (Iz := iJ7_fill_53178) (ρz := rP) (kc := 69) (ks := 3704) (As := [(.ref 125), (.int (-1:Int32))]) (rest := []) (ct_fillC 125 56 (-1:Int32) q25 rfl rfl (by decide)) rfl ml_X0_33 meJ7_fill_53178 rfl ⟨prJ7_fill_53178, (Nat.le_of_ble_eq_true rfl), (Nat.le_of_ble_eq_true rfl), (Nat.le_of_ble_eq_true rfl), (Nat.le_of_ble_eq_true rfl)⟩ (Nat.le_of_ble_eq_true rfl) dX0_init_100 (fun q26 => ?_)
  dsimp only [xpush]
  refine x_iinc (pc := 103) (b := (1:Int32)) (L' := [some (.ref 72), some (.ref 1), some (.int (1:Int32))]) dX0_init_103 rfl (by decide) (Nat.le_of_ble_eq_true rfl) rfl rfl ?_
  refine x_goto (pc := 106) (tgt := 67) dX0_init_106 (by decide) ?_
  refine x_iload_n (pc := 67) dX0_init_67 rfl ?_
  refine x_bipush (pc := 68) (a := 16) dX0_init_68 (by decide) ?_
  refine x_icmp_ge (pc := 70) (tgt := 109) dX0_init_70 (by decide) (fun h27 => absurd h27 (by decide)) (fun h27 => ?_)
  refine x_aload_n (pc := 73) dX0_init_73 rfl ?_
  refine c_getR (pc := 74) (t := 73) xC0 1 fl_X0_11 rfl (by decide) rfl (by decide) rfl dX0_init_74 ?_
  refine x_iload_n (pc := 77) dX0_init_77 rfl ?_
  refine c_aald (pc := 78) (t0 := 5) rfl (by decide) rfl (fun _ => rfl) rfl (q := 75) (by decide) dX0_init_78 ?_
  refine x_iconst (pc := 79) (a := -1) dX0_init_79 (by decide) ?_
  refine x_callS (pc := 80) (Iz := iJ7_fill_53178) (ρz := rP) (kc := 69) (ks := 3704) (As := [(.ref 75), (.int (-1:Int32))]) (rest := []) (ct_fillC 75 56 (-1:Int32) q26 rfl rfl (by decide)) rfl ml_X0_33 meJ7_fill_53178 rfl ⟨prJ7_fill_53178, (Nat.le_of_ble_eq_true rfl), (Nat.le_of_ble_eq_true rfl), (Nat.le_of_ble_eq_true rfl), (Nat.le_of_ble_eq_true rfl)⟩ (Nat.le_of_ble_eq_true rfl) dX0_init_80 (fun q28 => ?_)
  dsimp only [xpush]
  refine x_aload_n (pc := 83) dX0_init_83 rfl ?_
  refine c_getR (pc := 84) (t := 107) xC0 3 fl_X0_19 rfl (by decide) rfl (by decide) rfl dX0_init_84 ?_
  refine x_iload_n (pc := 87) dX0_init_87 rfl ?_
  refine c_aald (pc := 88) (t0 := 5) rfl (by decide) rfl (fun _ => rfl) rfl (q := 109) (by decide) dX0_init_88 ?_
  refine x_iconst (pc := 89) (a := -1) dX0_init_89 (by decide) ?_
  refine x_callS (pc := 90) (Iz := iJ7_fill_53178) (ρz := rP) (kc := 69) (ks := 3704) (As := [(.ref 109), (.int (-1:Int32))]) (rest := []) (ct_fillC 109 56 (-1:Int32) q28 rfl rfl (by decide)) rfl ml_X0_33 meJ7_fill_53178 rfl ⟨prJ7_fill_53178, (Nat.le_of_ble_eq_true rfl), (Nat.le_of_ble_eq_true rfl), (Nat.le_of_ble_eq_true rfl), (Nat.le_of_ble_eq_true rfl)⟩ (Nat.le_of_ble_eq_true rfl) dX0_init_90 (fun q29 => ?_)
  dsimp only [xpush]
  refine x_aload_n (pc := 93) dX0_init_93 rfl ?_
  refine c_getR (pc := 94) (t := 124) xC0 4 fl_X0_22 rfl (by decide) rfl (by decide) rfl dX0_init_94 ?_
  refine x_iload_n (pc := 97) dX0_init_97 rfl ?_
  refine c_aald (pc := 98) (t0 := 5) rfl (by decide) rfl (fun _ => rfl) rfl (q := 126) (by decide) dX0_init_98 ?_
  refine x_iconst (pc := 99) (a := -1) dX0_init_99 (by decide) ?_
  refine x_callS (pc := 100) (Iz := iJ7_fill_53178) (ρz := rP) (kc := 69) (ks := 3704) (As := [(.ref 126), (.int (-1:Int32))]) (rest := []) (ct_fillC 126 56 (-1:Int32) q29 rfl rfl (by decide)) rfl ml_X0_33 meJ7_fill_53178 rfl ⟨prJ7_fill_53178, (Nat.le_of_ble_eq_true rfl), (Nat.le_of_ble_eq_true rfl), (Nat.le_of_ble_eq_true rfl), (Nat.le_of_ble_eq_true rfl)⟩ (Nat.le_of_ble_eq_true rfl) dX0_init_100 (fun q30 => ?_)
  dsimp only [xpush]
  refine x_iinc (pc := 103) (b := (2:Int32)) (L' := [some (.ref 72), some (.ref 1), some (.int (2:Int32))]) dX0_init_103 rfl (by decide) (Nat.le_of_ble_eq_true rfl) rfl rfl ?_
  refine x_goto (pc := 106) (tgt := 67) dX0_init_106 (by decide) ?_
  refine x_iload_n (pc := 67) dX0_init_67 rfl ?_
  refine x_bipush (pc := 68) (a := 16) dX0_init_68 (by decide) ?_
  refine x_icmp_ge (pc := 70) (tgt := 109) dX0_init_70 (by decide) (fun h31 => absurd h31 (by decide)) (fun h31 => ?_)
  refine x_aload_n (pc := 73) dX0_init_73 rfl ?_
  refine c_getR (pc := 74) (t := 73) xC0 1 fl_X0_11 rfl (by decide) rfl (by decide) rfl dX0_init_74 ?_
  refine x_iload_n (pc := 77) dX0_init_77 rfl ?_
  refine c_aald (pc := 78) (t0 := 5) rfl (by decide) rfl (fun _ => rfl) rfl (q := 76) (by decide) dX0_init_78 ?_
  refine x_iconst (pc := 79) (a := -1) dX0_init_79 (by decide) ?_
  refine x_callS (pc := 80) (Iz := iJ7_fill_53178) (ρz := rP) (kc := 69) (ks := 3704) (As := [(.ref 76), (.int (-1:Int32))]) (rest := []) (ct_fillC 76 56 (-1:Int32) q30 rfl rfl (by decide)) rfl ml_X0_33 meJ7_fill_53178 rfl ⟨prJ7_fill_53178, (Nat.le_of_ble_eq_true rfl), (Nat.le_of_ble_eq_true rfl), (Nat.le_of_ble_eq_true rfl), (Nat.le_of_ble_eq_true rfl)⟩ (Nat.le_of_ble_eq_true rfl) dX0_init_80 (fun q32 => ?_)
  dsimp only [xpush]
  refine x_aload_n (pc := 83) dX0_init_83 rfl ?_
  refine c_getR (pc := 84) (t := 107) xC0 3 fl_X0_19 rfl (by decide) rfl (by decide) rfl dX0_init_84 ?_
  refine x_iload_n (pc := 87) dX0_init_87 rfl ?_
  refine c_aald (pc := 88) (t0 := 5) rfl (by decide) rfl (fun _ => rfl) rfl (q := 110) (by decide) dX0_init_88 ?_
  refine x_iconst (pc := 89) (a := -1) dX0_init_89 (by decide) ?_
  refine x_callS (pc := 90) (Iz := iJ7_fill_53178) (ρz := rP) (kc := 69) (ks := 3704) (As := [(.ref 110), (.int (-1:Int32))]) (rest := []) (ct_fillC 110 56 (-1:Int32) q32 rfl rfl (by decide)) rfl ml_X0_33 meJ7_fill_53178 rfl ⟨prJ7_fill_53178, (Nat.le_of_ble_eq_true rfl), (Nat.le_of_ble_eq_true rfl), (Nat.le_of_ble_eq_true rfl), (Nat.le_of_ble_eq_true rfl)⟩ (Nat.le_of_ble_eq_true rfl) dX0_init_90 (fun q33 => ?_)
  dsimp only [xpush]
  refine x_aload_n (pc := 93) dX0_init_93 rfl ?_
  refine c_getR (pc := 94) (t := 124) xC0 4 fl_X0_22 rfl (by decide) rfl (by decide) rfl dX0_init_94 ?_
  refine x_iload_n (pc := 97) dX0_init_97 rfl ?_
  refine c_aald (pc := 98) (t0 := 5) rfl (by decide) rfl (fun _ => rfl) rfl (q := 127) (by decide) dX0_init_98 ?_
  refine x_iconst (pc := 99) (a := -1) dX0_init_99 (by decide) ?_
  refine x_callS (pc := 100) (Iz := iJ7_fill_53178) (ρz := rP) (kc := 69) (ks := 3704) (As := [(.ref 127), (.int (-1:Int32))]) (rest := []) (ct_fillC 127 56 (-1:Int32) q33 rfl rfl (by decide)) rfl ml_X0_33 meJ7_fill_53178 rfl ⟨prJ7_fill_53178, (Nat.le_of_ble_eq_true rfl), (Nat.le_of_ble_eq_true rfl), (Nat.le_of_ble_eq_true rfl), (Nat.le_of_ble_eq_true rfl)⟩ (Nat.le_of_ble_eq_true rfl) dX0_init_100 (fun q34 => ?_)
  dsimp only [xpush]
  refine x_iinc (pc := 103) (b := (3:Int32)) (L' := [some (.ref 72), some (.ref 1), some (.int (3:Int32))]) dX0_init_103 rfl (by decide) (Nat.le_of_ble_eq_true rfl) rfl rfl ?_
  refine x_goto (pc := 106) (tgt := 67) dX0_init_106 (by decide) ?_
  refine x_iload_n (pc := 67) dX0_init_67 rfl ?_
  refine x_bipush (pc := 68) (a := 16) dX0_init_68 (by decide) ?_
  refine x_icmp_ge (pc := 70) (tgt := 109) dX0_init_70 (by decide) (fun h35 => absurd h35 (by decide)) (fun h35 => ?_)
  refine x_aload_n (pc := 73) dX0_init_73 rfl ?_
  refine c_getR (pc := 74) (t := 73) xC0 1 fl_X0_11 rfl (by decide) rfl (by decide) rfl dX0_init_74 ?_
  refine x_iload_n (pc := 77) dX0_init_77 rfl ?_
  refine c_aald (pc := 78) (t0 := 5) rfl (by decide) rfl (fun _ => rfl) rfl (q := 77) (by decide) dX0_init_78 ?_
  refine x_iconst (pc := 79) (a := -1) dX0_init_79 (by decide) ?_
  refine x_callS (pc := 80) (Iz := iJ7_fill_53178) (ρz := rP) (kc := 69) (ks := 3704) (As := [(.ref 77), (.int (-1:Int32))]) (rest := []) (ct_fillC 77 56 (-1:Int32) q34 rfl rfl (by decide)) rfl ml_X0_33 meJ7_fill_53178 rfl ⟨prJ7_fill_53178, (Nat.le_of_ble_eq_true rfl), (Nat.le_of_ble_eq_true rfl), (Nat.le_of_ble_eq_true rfl), (Nat.le_of_ble_eq_true rfl)⟩ (Nat.le_of_ble_eq_true rfl) dX0_init_80 (fun q36 => ?_)
  dsimp only [xpush]
  refine x_aload_n (pc := 83) dX0_init_83 rfl ?_
  refine c_getR (pc := 84) (t := 107) xC0 3 fl_X0_19 rfl (by decide) rfl (by decide) rfl dX0_init_84 ?_
  refine x_iload_n (pc := 87) dX0_init_87 rfl ?_
  refine c_aald (pc := 88) (t0 := 5) rfl (by decide) rfl (fun _ => rfl) rfl (q := 111) (by decide) dX0_init_88 ?_
  refine x_iconst (pc := 89) (a := -1) dX0_init_89 (by decide) ?_
  refine x_callS (pc := 90) (Iz := iJ7_fill_53178) (ρz := rP) (kc := 69) (ks := 3704) (As := [(.ref 111), (.int (-1:Int32))]) (rest := []) (ct_fillC 111 56 (-1:Int32) q36 rfl rfl (by decide)) rfl ml_X0_33 meJ7_fill_53178 rfl ⟨prJ7_fill_53178, (Nat.le_of_ble_eq_true rfl), (Nat.le_of_ble_eq_true rfl), (Nat.le_of_ble_eq_true rfl), (Nat.le_of_ble_eq_true rfl)⟩ (Nat.le_of_ble_eq_true rfl) dX0_init_90 (fun q37 => ?_)
  dsimp only [xpush]
  refine x_aload_n (pc := 93) dX0_init_93 rfl ?_
  refine c_getR (pc := 94) (t := 124) xC0 4 fl_X0_22 rfl (by decide) rfl (by decide) rfl dX0_init_94 ?_
  refine x_iload_n (pc := 97) dX0_init_97 rfl ?_
  refine c_aald (pc := 98) (t0 := 5) rfl (by decide) rfl (fun _ => rfl) rfl (q := 128) (by decide) dX0_init_98 ?_
  refine x_iconst (pc := 99) (a := -1) dX0_init_99 (by decide) ?_
  refine x_callS (pc := 100) (Iz := iJ7_fill_53178) (ρz := rP) (kc := 69) (ks := 3704) (As := [(.ref 128), (.int (-1:Int32))]) (rest := []) (ct_fillC 128 56 (-1:Int32) q37 rfl rfl (by decide)) rfl ml_X0_33 meJ7_fill_53178 rfl ⟨prJ7_fill_53178, (Nat.le_of_ble_eq_true rfl), (Nat.le_of_ble_eq_true rfl), (Nat.le_of_ble_eq_true rfl), (Nat.le_of_ble_eq_true rfl)⟩ (Nat.le_of_ble_eq_true rfl) dX0_init_100 (fun q38 => ?_)
  dsimp only [xpush]
  refine x_iinc (pc := 103) (b := (4:Int32)) (L' := [some (.ref 72), some (.ref 1), some (.int (4:Int32))]) dX0_init_103 rfl (by decide) (Nat.le_of_ble_eq_true rfl) rfl rfl ?_
  refine x_goto (pc := 106) (tgt := 67) dX0_init_106 (by decide) ?_
  refine x_iload_n (pc := 67) dX0_init_67 rfl ?_
  refine x_bipush (pc := 68) (a := 16) dX0_init_68 (by decide) ?_
  refine x_icmp_ge (pc := 70) (tgt := 109) dX0_init_70 (by decide) (fun h39 => absurd h39 (by decide)) (fun h39 => ?_)
  refine x_aload_n (pc := 73) dX0_init_73 rfl ?_
  refine c_getR (pc := 74) (t := 73) xC0 1 fl_X0_11 rfl (by decide) rfl (by decide) rfl dX0_init_74 ?_
  refine x_iload_n (pc := 77) dX0_init_77 rfl ?_
  refine c_aald (pc := 78) (t0 := 5) rfl (by decide) rfl (fun _ => rfl) rfl (q := 78) (by decide) dX0_init_78 ?_
  refine x_iconst (pc := 79) (a := -1) dX0_init_79 (by decide) ?_
  refine x_callS (pc := 80) (Iz := iJ7_fill_53178) (ρz := rP) (kc := 69) (ks := 3704) (As := [(.ref 78), (.int (-1:Int32))]) (rest := []) (ct_fillC 78 56 (-1:Int32) q38 rfl rfl (by decide)) rfl ml_X0_33 meJ7_fill_53178 rfl ⟨prJ7_fill_53178, (Nat.le_of_ble_eq_true rfl), (Nat.le_of_ble_eq_true rfl), (Nat.le_of_ble_eq_true rfl), (Nat.le_of_ble_eq_true rfl)⟩ (Nat.le_of_ble_eq_true rfl) dX0_init_80 (fun q40 => ?_)
  dsimp only [xpush]
  refine x_aload_n (pc := 83) dX0_init_83 rfl ?_
  refine c_getR (pc := 84) (t := 107) xC0 3 fl_X0_19 rfl (by decide) rfl (by decide) rfl dX0_init_84 ?_
  refine x_iload_n (pc := 87) dX0_init_87 rfl ?_
  refine c_aald (pc := 88) (t0 := 5) rfl (by decide) rfl (fun _ => rfl) rfl (q := 112) (by decide) dX0_init_88 ?_
  refine x_iconst (pc := 89) (a := -1) dX0_init_89 (by decide) ?_
  refine x_callS (pc := 90) (Iz := iJ7_fill_53178) (ρz := rP) (kc := 69) (ks := 3704) (As := [(.ref 112), (.int (-1:Int32))]) (rest := []) (ct_fillC 112 56 (-1:Int32) q40 rfl rfl (by decide)) rfl ml_X0_33 meJ7_fill_53178 rfl ⟨prJ7_fill_53178, (Nat.le_of_ble_eq_true rfl), (Nat.le_of_ble_eq_true rfl), (Nat.le_of_ble_eq_true rfl), (Nat.le_of_ble_eq_true rfl)⟩ (Nat.le_of_ble_eq_true rfl) dX0_init_90 (fun q41 => ?_)
  dsimp only [xpush]
  refine x_aload_n (pc := 93) dX0_init_93 rfl ?_
  refine c_getR (pc := 94) (t := 124) xC0 4 fl_X0_22 rfl (by decide) rfl (by decide) rfl dX0_init_94 ?_
  refine x_iload_n (pc := 97) dX0_init_97 rfl ?_
  refine c_aald (pc := 98) (t0 := 5) rfl (by decide) rfl (fun _ => rfl) rfl (q := 129) (by decide) dX0_init_98 ?_
  refine x_iconst (pc := 99) (a := -1) dX0_init_99 (by decide) ?_
  refine x_callS (pc := 100) (Iz := iJ7_fill_53178) (ρz := rP) (kc := 69) (ks := 3704) (As := [(.ref 129), (.int (-1:Int32))]) (rest := []) (ct_fillC 129 56 (-1:Int32) q41 rfl rfl (by decide)) rfl ml_X0_33 meJ7_fill_53178 rfl ⟨prJ7_fill_53178, (Nat.le_of_ble_eq_true rfl), (Nat.le_of_ble_eq_true rfl), (Nat.le_of_ble_eq_true rfl), (Nat.le_of_ble_eq_true rfl)⟩ (Nat.le_of_ble_eq_true rfl) dX0_init_100 (fun q42 => ?_)
  dsimp only [xpush]
  refine x_iinc (pc := 103) (b := (5:Int32)) (L' := [some (.ref 72), some (.ref 1), some (.int (5:Int32))]) dX0_init_103 rfl (by decide) (Nat.le_of_ble_eq_true rfl) rfl rfl ?_
  refine x_goto (pc := 106) (tgt := 67) dX0_init_106 (by decide) ?_
  refine x_iload_n (pc := 67) dX0_init_67 rfl ?_
  refine x_bipush (pc := 68) (a := 16) dX0_init_68 (by decide) ?_
  refine x_icmp_ge (pc := 70) (tgt := 109) dX0_init_70 (by decide) (fun h43 => absurd h43 (by decide)) (fun h43 => ?_)
  refine x_aload_n (pc := 73) dX0_init_73 rfl ?_
  refine c_getR (pc := 74) (t := 73) xC0 1 fl_X0_11 rfl (by decide) rfl (by decide) rfl dX0_init_74 ?_
  refine x_iload_n (pc := 77) dX0_init_77 rfl ?_
  refine c_aald (pc := 78) (t0 := 5) rfl (by decide) rfl (fun _ => rfl) rfl (q := 79) (by decide) dX0_init_78 ?_
  refine x_iconst (pc := 79) (a := -1) dX0_init_79 (by decide) ?_
  refine x_callS (pc := 80) (Iz := iJ7_fill_53178) (ρz := rP) (kc := 69) (ks := 3704) (As := [(.ref 79), (.int (-1:Int32))]) (rest := []) (ct_fillC 79 56 (-1:Int32) q42 rfl rfl (by decide)) rfl ml_X0_33 meJ7_fill_53178 rfl ⟨prJ7_fill_53178, (Nat.le_of_ble_eq_true rfl), (Nat.le_of_ble_eq_true rfl), (Nat.le_of_ble_eq_true rfl), (Nat.le_of_ble_eq_true rfl)⟩ (Nat.le_of_ble_eq_true rfl) dX0_init_80 (fun q44 => ?_)
  dsimp only [xpush]
  refine x_aload_n (pc := 83) dX0_init_83 rfl ?_
  refine c_getR (pc := 84) (t := 107) xC0 3 fl_X0_19 rfl (by decide) rfl (by decide) rfl dX0_init_84 ?_
  refine x_iload_n (pc := 87) dX0_init_87 rfl ?_
  refine c_aald (pc := 88) (t0 := 5) rfl (by decide) rfl (fun _ => rfl) rfl (q := 113) (by decide) dX0_init_88 ?_
  refine x_iconst (pc := 89) (a := -1) dX0_init_89 (by decide) ?_
  refine x_callS (pc := 90) (Iz := iJ7_fill_53178) (ρz := rP) (kc := 69) (ks := 3704) (As := [(.ref 113), (.int (-1:Int32))]) (rest := []) (ct_fillC 113 56 (-1:Int32) q44 rfl rfl (by decide)) rfl ml_X0_33 meJ7_fill_53178 rfl ⟨prJ7_fill_53178, (Nat.le_of_ble_eq_true rfl), (Nat.le_of_ble_eq_true rfl), (Nat.le_of_ble_eq_true rfl), (Nat.le_of_ble_eq_true rfl)⟩ (Nat.le_of_ble_eq_true rfl) dX0_init_90 (fun q45 => ?_)
  dsimp only [xpush]
  refine x_aload_n (pc := 93) dX0_init_93 rfl ?_
  refine c_getR (pc := 94) (t := 124) xC0 4 fl_X0_22 rfl (by decide) rfl (by decide) rfl dX0_init_94 ?_
  refine x_iload_n (pc := 97) dX0_init_97 rfl ?_
  refine c_aald (pc := 98) (t0 := 5) rfl (by decide) rfl (fun _ => rfl) rfl (q := 130) (by decide) dX0_init_98 ?_
  refine x_iconst (pc := 99) (a := -1) dX0_init_99 (by decide) ?_
  refine x_callS (pc := 100) (Iz := iJ7_fill_53178) (ρz := rP) (kc := 69) (ks := 3704) (As := [(.ref 130), (.int (-1:Int32))]) (rest := []) (ct_fillC 130 56 (-1:Int32) q45 rfl rfl (by decide)) rfl ml_X0_33 meJ7_fill_53178 rfl ⟨prJ7_fill_53178, (Nat.le_of_ble_eq_true rfl), (Nat.le_of_ble_eq_true rfl), (Nat.le_of_ble_eq_true rfl), (Nat.le_of_ble_eq_true rfl)⟩ (Nat.le_of_ble_eq_true rfl) dX0_init_100 (fun q46 => ?_)
  dsimp only [xpush]
  refine x_iinc (pc := 103) (b := (6:Int32)) (L' := [some (.ref 72), some (.ref 1), some (.int (6:Int32))]) dX0_init_103 rfl (by decide) (Nat.le_of_ble_eq_true rfl) rfl rfl ?_
  refine x_goto (pc := 106) (tgt := 67) dX0_init_106 (by decide) ?_
  refine x_iload_n (pc := 67) dX0_init_67 rfl ?_
  refine x_bipush (pc := 68) (a := 16) dX0_init_68 (by decide) ?_
  refine x_icmp_ge (pc := 70) (tgt := 109) dX0_init_70 (by decide) (fun h47 => absurd h47 (by decide)) (fun h47 => ?_)
  refine x_aload_n (pc := 73) dX0_init_73 rfl ?_
  refine c_getR (pc := 74) (t := 73) xC0 1 fl_X0_11 rfl (by decide) rfl (by decide) rfl dX0_init_74 ?_
  refine x_iload_n (pc := 77) dX0_init_77 rfl ?_
  refine c_aald (pc := 78) (t0 := 5) rfl (by decide) rfl (fun _ => rfl) rfl (q := 80) (by decide) dX0_init_78 ?_
  refine x_iconst (pc := 79) (a := -1) dX0_init_79 (by decide) ?_
  refine x_callS (pc := 80) (Iz := iJ7_fill_53178) (ρz := rP) (kc := 69) (ks := 3704) (As := [(.ref 80), (.int (-1:Int32))]) (rest := []) (ct_fillC 80 56 (-1:Int32) q46 rfl rfl (by decide)) rfl ml_X0_33 meJ7_fill_53178 rfl ⟨prJ7_fill_53178, (Nat.le_of_ble_eq_true rfl), (Nat.le_of_ble_eq_true rfl), (Nat.le_of_ble_eq_true rfl), (Nat.le_of_ble_eq_true rfl)⟩ (Nat.le_of_ble_eq_true rfl) dX0_init_80 (fun q48 => ?_)
  dsimp only [xpush]
  refine x_aload_n (pc := 83) dX0_init_83 rfl ?_
  refine c_getR (pc := 84) (t := 107) xC0 3 fl_X0_19 rfl (by decide) rfl (by decide) rfl dX0_init_84 ?_
  refine x_iload_n (pc := 87) dX0_init_87 rfl ?_
  refine c_aald (pc := 88) (t0 := 5) rfl (by decide) rfl (fun _ => rfl) rfl (q := 114) (by decide) dX0_init_88 ?_
  refine x_iconst (pc := 89) (a := -1) dX0_init_89 (by decide) ?_
  refine x_callS (pc := 90) (Iz := iJ7_fill_53178) (ρz := rP) (kc := 69) (ks := 3704) (As := [(.ref 114), (.int (-1:Int32))]) (rest := []) (ct_fillC 114 56 (-1:Int32) q48 rfl rfl (by decide)) rfl ml_X0_33 meJ7_fill_53178 rfl ⟨prJ7_fill_53178, (Nat.le_of_ble_eq_true rfl), (Nat.le_of_ble_eq_true rfl), (Nat.le_of_ble_eq_true rfl), (Nat.le_of_ble_eq_true rfl)⟩ (Nat.le_of_ble_eq_true rfl) dX0_init_90 (fun q49 => ?_)
  dsimp only [xpush]
  refine x_aload_n (pc := 93) dX0_init_93 rfl ?_
  refine c_getR (pc := 94) (t := 124) xC0 4 fl_X0_22 rfl (by decide) rfl (by decide) rfl dX0_init_94 ?_
  refine x_iload_n (pc := 97) dX0_init_97 rfl ?_
  refine c_aald (pc := 98) (t0 := 5) rfl (by decide) rfl (fun _ => rfl) rfl (q := 131) (by decide) dX0_init_98 ?_
  refine x_iconst (pc := 99) (a := -1) dX0_init_99 (by decide) ?_
  refine x_callS (pc := 100) (Iz := iJ7_fill_53178) (ρz := rP) (kc := 69) (ks := 3704) (As := [(.ref 131), (.int (-1:Int32))]) (rest := []) (ct_fillC 131 56 (-1:Int32) q49 rfl rfl (by decide)) rfl ml_X0_33 meJ7_fill_53178 rfl ⟨prJ7_fill_53178, (Nat.le_of_ble_eq_true rfl), (Nat.le_of_ble_eq_true rfl), (Nat.le_of_ble_eq_true rfl), (Nat.le_of_ble_eq_true rfl)⟩ (Nat.le_of_ble_eq_true rfl) dX0_init_100 (fun q50 => ?_)
  dsimp only [xpush]
  refine x_iinc (pc := 103) (b := (7:Int32)) (L' := [some (.ref 72), some (.ref 1), some (.int (7:Int32))]) dX0_init_103 rfl (by decide) (Nat.le_of_ble_eq_true rfl) rfl rfl ?_
  refine x_goto (pc := 106) (tgt := 67) dX0_init_106 (by decide) ?_
  refine x_iload_n (pc := 67) dX0_init_67 rfl ?_
  refine x_bipush (pc := 68) (a := 16) dX0_init_68 (by decide) ?_
  refine x_icmp_ge (pc := 70) (tgt := 109) dX0_init_70 (by decide) (fun h51 => absurd h51 (by decide)) (fun h51 => ?_)
  refine x_aload_n (pc := 73) dX0_init_73 rfl ?_
  refine c_getR (pc := 74) (t := 73) xC0 1 fl_X0_11 rfl (by decide) rfl (by decide) rfl dX0_init_74 ?_
  refine x_iload_n (pc := 77) dX0_init_77 rfl ?_
  refine c_aald (pc := 78) (t0 := 5) rfl (by decide) rfl (fun _ => rfl) rfl (q := 81) (by decide) dX0_init_78 ?_
  refine x_iconst (pc := 79) (a := -1) dX0_init_79 (by decide) ?_
  refine x_callS (pc := 80) (Iz := iJ7_fill_53178) (ρz := rP) (kc := 69) (ks := 3704) (As := [(.ref 81), (.int (-1:Int32))]) (rest := []) (ct_fillC 81 56 (-1:Int32) q50 rfl rfl (by decide)) rfl ml_X0_33 meJ7_fill_53178 rfl ⟨prJ7_fill_53178, (Nat.le_of_ble_eq_true rfl), (Nat.le_of_ble_eq_true rfl), (Nat.le_of_ble_eq_true rfl), (Nat.le_of_ble_eq_true rfl)⟩ (Nat.le_of_ble_eq_true rfl) dX0_init_80 (fun q52 => ?_)
  dsimp only [xpush]
  refine x_aload_n (pc := 83) dX0_init_83 rfl ?_
  refine c_getR (pc := 84) (t := 107) xC0 3 fl_X0_19 rfl (by decide) rfl (by decide) rfl dX0_init_84 ?_
  refine x_iload_n (pc := 87) dX0_init_87 rfl ?_
  refine c_aald (pc := 88) (t0 := 5) rfl (by decide) rfl (fun _ => rfl) rfl (q := 115) (by decide) dX0_init_88 ?_
  refine x_iconst (pc := 89) (a := -1) dX0_init_89 (by decide) ?_
  refine x_callS (pc := 90) (Iz := iJ7_fill_53178) (ρz := rP) (kc := 69) (ks := 3704) (As := [(.ref 115), (.int (-1:Int32))]) (rest := []) (ct_fillC 115 56 (-1:Int32) q52 rfl rfl (by decide)) rfl ml_X0_33 meJ7_fill_53178 rfl ⟨prJ7_fill_53178, (Nat.le_of_ble_eq_true rfl), (Nat.le_of_ble_eq_true rfl), (Nat.le_of_ble_eq_true rfl), (Nat.le_of_ble_eq_true rfl)⟩ (Nat.le_of_ble_eq_true rfl) dX0_init_90 (fun q53 => ?_)
  dsimp only [xpush]
  refine x_aload_n (pc := 93) dX0_init_93 rfl ?_
  refine c_getR (pc := 94) (t := 124) xC0 4 fl_X0_22 rfl (by decide) rfl (by decide) rfl dX0_init_94 ?_
  refine x_iload_n (pc := 97) dX0_init_97 rfl ?_
  refine c_aald (pc := 98) (t0 := 5) rfl (by decide) rfl (fun _ => rfl) rfl (q := 132) (by decide) dX0_init_98 ?_
  refine x_iconst (pc := 99) (a := -1) dX0_init_99 (by decide) ?_
  refine x_callS (pc := 100) (Iz := iJ7_fill_53178) (ρz := rP) (kc := 69) (ks := 3704) (As := [(.ref 132), (.int (-1:Int32))]) (rest := []) (ct_fillC 132 56 (-1:Int32) q53 rfl rfl (by decide)) rfl ml_X0_33 meJ7_fill_53178 rfl ⟨prJ7_fill_53178, (Nat.le_of_ble_eq_true rfl), (Nat.le_of_ble_eq_true rfl), (Nat.le_of_ble_eq_true rfl), (Nat.le_of_ble_eq_true rfl)⟩ (Nat.le_of_ble_eq_true rfl) dX0_init_100 (fun q54 => ?_)
  dsimp only [xpush]
  refine x_iinc (pc := 103) (b := (8:Int32)) (L' := [some (.ref 72), some (.ref 1), some (.int (8:Int32))]) dX0_init_103 rfl (by decide) (Nat.le_of_ble_eq_true rfl) rfl rfl ?_
  refine x_goto (pc := 106) (tgt := 67) dX0_init_106 (by decide) ?_
  refine x_iload_n (pc := 67) dX0_init_67 rfl ?_
  refine x_bipush (pc := 68) (a := 16) dX0_init_68 (by decide) ?_
  refine x_icmp_ge (pc := 70) (tgt := 109) dX0_init_70 (by decide) (fun h55 => absurd h55 (by decide)) (fun h55 => ?_)
  refine x_aload_n (pc := 73) dX0_init_73 rfl ?_
  refine c_getR (pc := 74) (t := 73) xC0 1 fl_X0_11 rfl (by decide) rfl (by decide) rfl dX0_init_74 ?_
  refine x_iload_n (pc := 77) dX0_init_77 rfl ?_
  refine c_aald (pc := 78) (t0 := 5) rfl (by decide) rfl (fun _ => rfl) rfl (q := 82) (by decide) dX0_init_78 ?_
  refine x_iconst (pc := 79) (a := -1) dX0_init_79 (by decide) ?_
  refine x_callS (pc := 80) (Iz := iJ7_fill_53178) (ρz := rP) (kc := 69) (ks := 3704) (As := [(.ref 82), (.int (-1:Int32))]) (rest := []) (ct_fillC 82 56 (-1:Int32) q54 rfl rfl (by decide)) rfl ml_X0_33 meJ7_fill_53178 rfl ⟨prJ7_fill_53178, (Nat.le_of_ble_eq_true rfl), (Nat.le_of_ble_eq_true rfl), (Nat.le_of_ble_eq_true rfl), (Nat.le_of_ble_eq_true rfl)⟩ (Nat.le_of_ble_eq_true rfl) dX0_init_80 (fun q56 => ?_)
  dsimp only [xpush]
  refine x_aload_n (pc := 83) dX0_init_83 rfl ?_
  refine c_getR (pc := 84) (t := 107) xC0 3 fl_X0_19 rfl (by decide) rfl (by decide) rfl dX0_init_84 ?_
  refine x_iload_n (pc := 87) dX0_init_87 rfl ?_
  refine c_aald (pc := 88) (t0 := 5) rfl (by decide) rfl (fun _ => rfl) rfl (q := 116) (by decide) dX0_init_88 ?_
  refine x_iconst (pc := 89) (a := -1) dX0_init_89 (by decide) ?_
  refine x_callS (pc := 90) (Iz := iJ7_fill_53178) (ρz := rP) (kc := 69) (ks := 3704) (As := [(.ref 116), (.int (-1:Int32))]) (rest := []) (ct_fillC 116 56 (-1:Int32) q56 rfl rfl (by decide)) rfl ml_X0_33 meJ7_fill_53178 rfl ⟨prJ7_fill_53178, (Nat.le_of_ble_eq_true rfl), (Nat.le_of_ble_eq_true rfl), (Nat.le_of_ble_eq_true rfl), (Nat.le_of_ble_eq_true rfl)⟩ (Nat.le_of_ble_eq_true rfl) dX0_init_90 (fun q57 => ?_)
  dsimp only [xpush]
  refine x_aload_n (pc := 93) dX0_init_93 rfl ?_
  refine c_getR (pc := 94) (t := 124) xC0 4 fl_X0_22 rfl (by decide) rfl (by decide) rfl dX0_init_94 ?_
  refine x_iload_n (pc := 97) dX0_init_97 rfl ?_
  refine c_aald (pc := 98) (t0 := 5) rfl (by decide) rfl (fun _ => rfl) rfl (q := 133) (by decide) dX0_init_98 ?_
  refine x_iconst (pc := 99) (a := -1) dX0_init_99 (by decide) ?_
  refine x_callS (pc := 100) (Iz := iJ7_fill_53178) (ρz := rP) (kc := 69) (ks := 3704) (As := [(.ref 133), (.int (-1:Int32))]) (rest := []) (ct_fillC 133 56 (-1:Int32) q57 rfl rfl (by decide)) rfl ml_X0_33 meJ7_fill_53178 rfl ⟨prJ7_fill_53178, (Nat.le_of_ble_eq_true rfl), (Nat.le_of_ble_eq_true rfl), (Nat.le_of_ble_eq_true rfl), (Nat.le_of_ble_eq_true rfl)⟩ (Nat.le_of_ble_eq_true rfl) dX0_init_100 (fun q58 => ?_)
  dsimp only [xpush]
  refine x_iinc (pc := 103) (b := (9:Int32)) (L' := [some (.ref 72), some (.ref 1), some (.int (9:Int32))]) dX0_init_103 rfl (by decide) (Nat.le_of_ble_eq_true rfl) rfl rfl ?_
  refine x_goto (pc := 106) (tgt := 67) dX0_init_106 (by decide) ?_
  refine x_iload_n (pc := 67) dX0_init_67 rfl ?_
  refine x_bipush (pc := 68) (a := 16) dX0_init_68 (by decide) ?_
  refine x_icmp_ge (pc := 70) (tgt := 109) dX0_init_70 (by decide) (fun h59 => absurd h59 (by decide)) (fun h59 => ?_)
  refine x_aload_n (pc := 73) dX0_init_73 rfl ?_
  refine c_getR (pc := 74) (t := 73) xC0 1 fl_X0_11 rfl (by decide) rfl (by decide) rfl dX0_init_74 ?_
  refine x_iload_n (pc := 77) dX0_init_77 rfl ?_
  refine c_aald (pc := 78) (t0 := 5) rfl (by decide) rfl (fun _ => rfl) rfl (q := 83) (by decide) dX0_init_78 ?_
  refine x_iconst (pc := 79) (a := -1) dX0_init_79 (by decide) ?_
  refine x_callS (pc := 80) (Iz := iJ7_fill_53178) (ρz := rP) (kc := 69) (ks := 3704) (As := [(.ref 83), (.int (-1:Int32))]) (rest := []) (ct_fillC 83 56 (-1:Int32) q58 rfl rfl (by decide)) rfl ml_X0_33 meJ7_fill_53178 rfl ⟨prJ7_fill_53178, (Nat.le_of_ble_eq_true rfl), (Nat.le_of_ble_eq_true rfl), (Nat.le_of_ble_eq_true rfl), (Nat.le_of_ble_eq_true rfl)⟩ (Nat.le_of_ble_eq_true rfl) dX0_init_80 (fun q60 => ?_)
  dsimp only [xpush]
  refine x_aload_n (pc := 83) dX0_init_83 rfl ?_
  refine c_getR (pc := 84) (t := 107) xC0 3 fl_X0_19 rfl (by decide) rfl (by decide) rfl dX0_init_84 ?_
  refine x_iload_n (pc := 87) dX0_init_87 rfl ?_
  refine c_aald (pc := 88) (t0 := 5) rfl (by decide) rfl (fun _ => rfl) rfl (q := 117) (by decide) dX0_init_88 ?_
  refine x_iconst (pc := 89) (a := -1) dX0_init_89 (by decide) ?_
  refine x_callS (pc := 90) (Iz := iJ7_fill_53178) (ρz := rP) (kc := 69) (ks := 3704) (As := [(.ref 117), (.int (-1:Int32))]) (rest := []) (ct_fillC 117 56 (-1:Int32) q60 rfl rfl (by decide)) rfl ml_X0_33 meJ7_fill_53178 rfl ⟨prJ7_fill_53178, (Nat.le_of_ble_eq_true rfl), (Nat.le_of_ble_eq_true rfl), (Nat.le_of_ble_eq_true rfl), (Nat.le_of_ble_eq_true rfl)⟩ (Nat.le_of_ble_eq_true rfl) dX0_init_90 (fun q61 => ?_)
  dsimp only [xpush]
  refine x_aload_n (pc := 93) dX0_init_93 rfl ?_
  refine c_getR (pc := 94) (t := 124) xC0 4 fl_X0_22 rfl (by decide) rfl (by decide) rfl dX0_init_94 ?_
  refine x_iload_n (pc := 97) dX0_init_97 rfl ?_
  refine c_aald (pc := 98) (t0 := 5) rfl (by decide) rfl (fun _ => rfl) rfl (q := 134) (by decide) dX0_init_98 ?_
  refine x_iconst (pc := 99) (a := -1) dX0_init_99 (by decide) ?_
  refine x_callS (pc := 100) (Iz := iJ7_fill_53178) (ρz := rP) (kc := 69) (ks := 3704) (As := [(.ref 134), (.int (-1:Int32))]) (rest := []) (ct_fillC 134 56 (-1:Int32) q61 rfl rfl (by decide)) rfl ml_X0_33 meJ7_fill_53178 rfl ⟨prJ7_fill_53178, (Nat.le_of_ble_eq_true rfl), (Nat.le_of_ble_eq_true rfl), (Nat.le_of_ble_eq_true rfl), (Nat.le_of_ble_eq_true rfl)⟩ (Nat.le_of_ble_eq_true rfl) dX0_init_100 (fun q62 => ?_)
  dsimp only [xpush]
  refine x_iinc (pc := 103) (b := (10:Int32)) (L' := [some (.ref 72), some (.ref 1), some (.int (10:Int32))]) dX0_init_103 rfl (by decide) (Nat.le_of_ble_eq_true rfl) rfl rfl ?_
  refine x_goto (pc := 106) (tgt := 67) dX0_init_106 (by decide) ?_
  refine x_iload_n (pc := 67) dX0_init_67 rfl ?_
  refine x_bipush (pc := 68) (a := 16) dX0_init_68 (by decide) ?_
  refine x_icmp_ge (pc := 70) (tgt := 109) dX0_init_70 (by decide) (fun h63 => absurd h63 (by decide)) (fun h63 => ?_)
  refine x_aload_n (pc := 73) dX0_init_73 rfl ?_
  refine c_getR (pc := 74) (t := 73) xC0 1 fl_X0_11 rfl (by decide) rfl (by decide) rfl dX0_init_74 ?_
  refine x_iload_n (pc := 77) dX0_init_77 rfl ?_
  refine c_aald (pc := 78) (t0 := 5) rfl (by decide) rfl (fun _ => rfl) rfl (q := 84) (by decide) dX0_init_78 ?_
  refine x_iconst (pc := 79) (a := -1) dX0_init_79 (by decide) ?_
  refine x_callS (pc := 80) (Iz := iJ7_fill_53178) (ρz := rP) (kc := 69) (ks := 3704) (As := [(.ref 84), (.int (-1:Int32))]) (rest := []) (ct_fillC 84 56 (-1:Int32) q62 rfl rfl (by decide)) rfl ml_X0_33 meJ7_fill_53178 rfl ⟨prJ7_fill_53178, (Nat.le_of_ble_eq_true rfl), (Nat.le_of_ble_eq_true rfl), (Nat.le_of_ble_eq_true rfl), (Nat.le_of_ble_eq_true rfl)⟩ (Nat.le_of_ble_eq_true rfl) dX0_init_80 (fun q64 => ?_)
  dsimp only [xpush]
  refine x_aload_n (pc := 83) dX0_init_83 rfl ?_
  refine c_getR (pc := 84) (t := 107) xC0 3 fl_X0_19 rfl (by decide) rfl (by decide) rfl dX0_init_84 ?_
  refine x_iload_n (pc := 87) dX0_init_87 rfl ?_
  refine c_aald (pc := 88) (t0 := 5) rfl (by decide) rfl (fun _ => rfl) rfl (q := 118) (by decide) dX0_init_88 ?_
  refine x_iconst (pc := 89) (a := -1) dX0_init_89 (by decide) ?_
  refine x_callS (pc := 90) (Iz := iJ7_fill_53178) (ρz := rP) (kc := 69) (ks := 3704) (As := [(.ref 118), (.int (-1:Int32))]) (rest := []) (ct_fillC 118 56 (-1:Int32) q64 rfl rfl (by decide)) rfl ml_X0_33 meJ7_fill_53178 rfl ⟨prJ7_fill_53178, (Nat.le_of_ble_eq_true rfl), (Nat.le_of_ble_eq_true rfl), (Nat.le_of_ble_eq_true rfl), (Nat.le_of_ble_eq_true rfl)⟩ (Nat.le_of_ble_eq_true rfl) dX0_init_90 (fun q65 => ?_)
  dsimp only [xpush]
  refine x_aload_n (pc := 93) dX0_init_93 rfl ?_
  refine c_getR (pc := 94) (t := 124) xC0 4 fl_X0_22 rfl (by decide) rfl (by decide) rfl dX0_init_94 ?_
  refine x_iload_n (pc := 97) dX0_init_97 rfl ?_
  refine c_aald (pc := 98) (t0 := 5) rfl (by decide) rfl (fun _ => rfl) rfl (q := 135) (by decide) dX0_init_98 ?_
  refine x_iconst (pc := 99) (a := -1) dX0_init_99 (by decide) ?_
  refine x_callS (pc := 100) (Iz := iJ7_fill_53178) (ρz := rP) (kc := 69) (ks := 3704) (As := [(.ref 135), (.int (-1:Int32))]) (rest := []) (ct_fillC 135 56 (-1:Int32) q65 rfl rfl (by decide)) rfl ml_X0_33 meJ7_fill_53178 rfl ⟨prJ7_fill_53178, (Nat.le_of_ble_eq_true rfl), (Nat.le_of_ble_eq_true rfl), (Nat.le_of_ble_eq_true rfl), (Nat.le_of_ble_eq_true rfl)⟩ (Nat.le_of_ble_eq_true rfl) dX0_init_100 (fun q66 => ?_)
  dsimp only [xpush]
  refine x_iinc (pc := 103) (b := (11:Int32)) (L' := [some (.ref 72), some (.ref 1), some (.int (11:Int32))]) dX0_init_103 rfl (by decide) (Nat.le_of_ble_eq_true rfl) rfl rfl ?_
  refine x_goto (pc := 106) (tgt := 67) dX0_init_106 (by decide) ?_
  refine x_iload_n (pc := 67) dX0_init_67 rfl ?_
  refine x_bipush (pc := 68) (a := 16) dX0_init_68 (by decide) ?_
  refine x_icmp_ge (pc := 70) (tgt := 109) dX0_init_70 (by decide) (fun h67 => absurd h67 (by decide)) (fun h67 => ?_)
  refine x_aload_n (pc := 73) dX0_init_73 rfl ?_
  refine c_getR (pc := 74) (t := 73) xC0 1 fl_X0_11 rfl (by decide) rfl (by decide) rfl dX0_init_74 ?_
  refine x_iload_n (pc := 77) dX0_init_77 rfl ?_
  refine c_aald (pc := 78) (t0 := 5) rfl (by decide) rfl (fun _ => rfl) rfl (q := 85) (by decide) dX0_init_78 ?_
  refine x_iconst (pc := 79) (a := -1) dX0_init_79 (by decide) ?_
  refine x_callS (pc := 80) (Iz := iJ7_fill_53178) (ρz := rP) (kc := 69) (ks := 3704) (As := [(.ref 85), (.int (-1:Int32))]) (rest := []) (ct_fillC 85 56 (-1:Int32) q66 rfl rfl (by decide)) rfl ml_X0_33 meJ7_fill_53178 rfl ⟨prJ7_fill_53178, (Nat.le_of_ble_eq_true rfl), (Nat.le_of_ble_eq_true rfl), (Nat.le_of_ble_eq_true rfl), (Nat.le_of_ble_eq_true rfl)⟩ (Nat.le_of_ble_eq_true rfl) dX0_init_80 (fun q68 => ?_)
  dsimp only [xpush]
  refine x_aload_n (pc := 83) dX0_init_83 rfl ?_
  refine c_getR (pc := 84) (t := 107) xC0 3 fl_X0_19 rfl (by decide) rfl (by decide) rfl dX0_init_84 ?_
  refine x_iload_n (pc := 87) dX0_init_87 rfl ?_
  refine c_aald (pc := 88) (t0 := 5) rfl (by decide) rfl (fun _ => rfl) rfl (q := 119) (by decide) dX0_init_88 ?_
  refine x_iconst (pc := 89) (a := -1) dX0_init_89 (by decide) ?_
  refine x_callS (pc := 90) (Iz := iJ7_fill_53178) (ρz := rP) (kc := 69) (ks := 3704) (As := [(.ref 119), (.int (-1:Int32))]) (rest := []) (ct_fillC 119 56 (-1:Int32) q68 rfl rfl (by decide)) rfl ml_X0_33 meJ7_fill_53178 rfl ⟨prJ7_fill_53178, (Nat.le_of_ble_eq_true rfl), (Nat.le_of_ble_eq_true rfl), (Nat.le_of_ble_eq_true rfl), (Nat.le_of_ble_eq_true rfl)⟩ (Nat.le_of_ble_eq_true rfl) dX0_init_90 (fun q69 => ?_)
  dsimp only [xpush]
  refine x_aload_n (pc := 93) dX0_init_93 rfl ?_
  refine c_getR (pc := 94) (t := 124) xC0 4 fl_X0_22 rfl (by decide) rfl (by decide) rfl dX0_init_94 ?_
  refine x_iload_n (pc := 97) dX0_init_97 rfl ?_
  refine c_aald (pc := 98) (t0 := 5) rfl (by decide) rfl (fun _ => rfl) rfl (q := 136) (by decide) dX0_init_98 ?_
  refine x_iconst (pc := 99) (a := -1) dX0_init_99 (by decide) ?_
  refine x_callS (pc := 100) (Iz := iJ7_fill_53178) (ρz := rP) (kc := 69) (ks := 3704) (As := [(.ref 136), (.int (-1:Int32))]) (rest := []) (ct_fillC 136 56 (-1:Int32) q69 rfl rfl (by decide)) rfl ml_X0_33 meJ7_fill_53178 rfl ⟨prJ7_fill_53178, (Nat.le_of_ble_eq_true rfl), (Nat.le_of_ble_eq_true rfl), (Nat.le_of_ble_eq_true rfl), (Nat.le_of_ble_eq_true rfl)⟩ (Nat.le_of_ble_eq_true rfl) dX0_init_100 (fun q70 => ?_)
  dsimp only [xpush]
  refine x_iinc (pc := 103) (b := (12:Int32)) (L' := [some (.ref 72), some (.ref 1), some (.int (12:Int32))]) dX0_init_103 rfl (by decide) (Nat.le_of_ble_eq_true rfl) rfl rfl ?_
  refine x_goto (pc := 106) (tgt := 67) dX0_init_106 (by decide) ?_
  refine x_iload_n (pc := 67) dX0_init_67 rfl ?_
  refine x_bipush (pc := 68) (a := 16) dX0_init_68 (by decide) ?_
  refine x_icmp_ge (pc := 70) (tgt := 109) dX0_init_70 (by decide) (fun h71 => absurd h71 (by decide)) (fun h71 => ?_)
  refine x_aload_n (pc := 73) dX0_init_73 rfl ?_
  refine c_getR (pc := 74) (t := 73) xC0 1 fl_X0_11 rfl (by decide) rfl (by decide) rfl dX0_init_74 ?_
  refine x_iload_n (pc := 77) dX0_init_77 rfl ?_
  refine c_aald (pc := 78) (t0 := 5) rfl (by decide) rfl (fun _ => rfl) rfl (q := 86) (by decide) dX0_init_78 ?_
  refine x_iconst (pc := 79) (a := -1) dX0_init_79 (by decide) ?_
  refine x_callS (pc := 80) (Iz := iJ7_fill_53178) (ρz := rP) (kc := 69) (ks := 3704) (As := [(.ref 86), (.int (-1:Int32))]) (rest := []) (ct_fillC 86 56 (-1:Int32) q70 rfl rfl (by decide)) rfl ml_X0_33 meJ7_fill_53178 rfl ⟨prJ7_fill_53178, (Nat.le_of_ble_eq_true rfl), (Nat.le_of_ble_eq_true rfl), (Nat.le_of_ble_eq_true rfl), (Nat.le_of_ble_eq_true rfl)⟩ (Nat.le_of_ble_eq_true rfl) dX0_init_80 (fun q72 => ?_)
  dsimp only [xpush]
  refine x_aload_n (pc := 83) dX0_init_83 rfl ?_
  refine c_getR (pc := 84) (t := 107) xC0 3 fl_X0_19 rfl (by decide) rfl (by decide) rfl dX0_init_84 ?_
  refine x_iload_n (pc := 87) dX0_init_87 rfl ?_
  refine c_aald (pc := 88) (t0 := 5) rfl (by decide) rfl (fun _ => rfl) rfl (q := 120) (by decide) dX0_init_88 ?_
  refine x_iconst (pc := 89) (a := -1) dX0_init_89 (by decide) ?_
  refine x_callS (pc := 90) (Iz := iJ7_fill_53178) (ρz := rP) (kc := 69) (ks := 3704) (As := [(.ref 120), (.int (-1:Int32))]) (rest := []) (ct_fillC 120 56 (-1:Int32) q72 rfl rfl (by decide)) rfl ml_X0_33 meJ7_fill_53178 rfl ⟨prJ7_fill_53178, (Nat.le_of_ble_eq_true rfl), (Nat.le_of_ble_eq_true rfl), (Nat.le_of_ble_eq_true rfl), (Nat.le_of_ble_eq_true rfl)⟩ (Nat.le_of_ble_eq_true rfl) dX0_init_90 (fun q73 => ?_)
  dsimp only [xpush]
  refine x_aload_n (pc := 93) dX0_init_93 rfl ?_
  refine c_getR (pc := 94) (t := 124) xC0 4 fl_X0_22 rfl (by decide) rfl (by decide) rfl dX0_init_94 ?_
  refine x_iload_n (pc := 97) dX0_init_97 rfl ?_
  refine c_aald (pc := 98) (t0 := 5) rfl (by decide) rfl (fun _ => rfl) rfl (q := 137) (by decide) dX0_init_98 ?_
  refine x_iconst (pc := 99) (a := -1) dX0_init_99 (by decide) ?_
  refine x_callS (pc := 100) (Iz := iJ7_fill_53178) (ρz := rP) (kc := 69) (ks := 3704) (As := [(.ref 137), (.int (-1:Int32))]) (rest := []) (ct_fillC 137 56 (-1:Int32) q73 rfl rfl (by decide)) rfl ml_X0_33 meJ7_fill_53178 rfl ⟨prJ7_fill_53178, (Nat.le_of_ble_eq_true rfl), (Nat.le_of_ble_eq_true rfl), (Nat.le_of_ble_eq_true rfl), (Nat.le_of_ble_eq_true rfl)⟩ (Nat.le_of_ble_eq_true rfl) dX0_init_100 (fun q74 => ?_)
  dsimp only [xpush]
  refine x_iinc (pc := 103) (b := (13:Int32)) (L' := [some (.ref 72), some (.ref 1), some (.int (13:Int32))]) dX0_init_103 rfl (by decide) (Nat.le_of_ble_eq_true rfl) rfl rfl ?_
  refine x_goto (pc := 106) (tgt := 67) dX0_init_106 (by decide) ?_
  refine x_iload_n (pc := 67) dX0_init_67 rfl ?_
  refine x_bipush (pc := 68) (a := 16) dX0_init_68 (by decide) ?_
  refine x_icmp_ge (pc := 70) (tgt := 109) dX0_init_70 (by decide) (fun h75 => absurd h75 (by decide)) (fun h75 => ?_)
  refine x_aload_n (pc := 73) dX0_init_73 rfl ?_
  refine c_getR (pc := 74) (t := 73) xC0 1 fl_X0_11 rfl (by decide) rfl (by decide) rfl dX0_init_74 ?_
  refine x_iload_n (pc := 77) dX0_init_77 rfl ?_
  refine c_aald (pc := 78) (t0 := 5) rfl (by decide) rfl (fun _ => rfl) rfl (q := 87) (by decide) dX0_init_78 ?_
  refine x_iconst (pc := 79) (a := -1) dX0_init_79 (by decide) ?_
  refine x_callS (pc := 80) (Iz := iJ7_fill_53178) (ρz := rP) (kc := 69) (ks := 3704) (As := [(.ref 87), (.int (-1:Int32))]) (rest := []) (ct_fillC 87 56 (-1:Int32) q74 rfl rfl (by decide)) rfl ml_X0_33 meJ7_fill_53178 rfl ⟨prJ7_fill_53178, (Nat.le_of_ble_eq_true rfl), (Nat.le_of_ble_eq_true rfl), (Nat.le_of_ble_eq_true rfl), (Nat.le_of_ble_eq_true rfl)⟩ (Nat.le_of_ble_eq_true rfl) dX0_init_80 (fun q76 => ?_)
  dsimp only [xpush]
  refine x_aload_n (pc := 83) dX0_init_83 rfl ?_
  refine c_getR (pc := 84) (t := 107) xC0 3 fl_X0_19 rfl (by decide) rfl (by decide) rfl dX0_init_84 ?_
  refine x_iload_n (pc := 87) dX0_init_87 rfl ?_
  refine c_aald (pc := 88) (t0 := 5) rfl (by decide) rfl (fun _ => rfl) rfl (q := 121) (by decide) dX0_init_88 ?_
  refine x_iconst (pc := 89) (a := -1) dX0_init_89 (by decide) ?_
  refine x_callS (pc := 90) (Iz := iJ7_fill_53178) (ρz := rP) (kc := 69) (ks := 3704) (As := [(.ref 121), (.int (-1:Int32))]) (rest := []) (ct_fillC 121 56 (-1:Int32) q76 rfl rfl (by decide)) rfl ml_X0_33 meJ7_fill_53178 rfl ⟨prJ7_fill_53178, (Nat.le_of_ble_eq_true rfl), (Nat.le_of_ble_eq_true rfl), (Nat.le_of_ble_eq_true rfl), (Nat.le_of_ble_eq_true rfl)⟩ (Nat.le_of_ble_eq_true rfl) dX0_init_90 (fun q77 => ?_)
  dsimp only [xpush]
  refine x_aload_n (pc := 93) dX0_init_93 rfl ?_
  refine c_getR (pc := 94) (t := 124) xC0 4 fl_X0_22 rfl (by decide) rfl (by decide) rfl dX0_init_94 ?_
  refine x_iload_n (pc := 97) dX0_init_97 rfl ?_
  refine c_aald (pc := 98) (t0 := 5) rfl (by decide) rfl (fun _ => rfl) rfl (q := 138) (by decide) dX0_init_98 ?_
  refine x_iconst (pc := 99) (a := -1) dX0_init_99 (by decide) ?_
  refine x_callS (pc := 100) (Iz := iJ7_fill_53178) (ρz := rP) (kc := 69) (ks := 3704) (As := [(.ref 138), (.int (-1:Int32))]) (rest := []) (ct_fillC 138 56 (-1:Int32) q77 rfl rfl (by decide)) rfl ml_X0_33 meJ7_fill_53178 rfl ⟨prJ7_fill_53178, (Nat.le_of_ble_eq_true rfl), (Nat.le_of_ble_eq_true rfl), (Nat.le_of_ble_eq_true rfl), (Nat.le_of_ble_eq_true rfl)⟩ (Nat.le_of_ble_eq_true rfl) dX0_init_100 (fun q78 => ?_)
  dsimp only [xpush]
  refine x_iinc (pc := 103) (b := (14:Int32)) (L' := [some (.ref 72), some (.ref 1), some (.int (14:Int32))]) dX0_init_103 rfl (by decide) (Nat.le_of_ble_eq_true rfl) rfl rfl ?_
  refine x_goto (pc := 106) (tgt := 67) dX0_init_106 (by decide) ?_
  refine x_iload_n (pc := 67) dX0_init_67 rfl ?_
  refine x_bipush (pc := 68) (a := 16) dX0_init_68 (by decide) ?_
  refine x_icmp_ge (pc := 70) (tgt := 109) dX0_init_70 (by decide) (fun h79 => absurd h79 (by decide)) (fun h79 => ?_)
  refine x_aload_n (pc := 73) dX0_init_73 rfl ?_
  refine c_getR (pc := 74) (t := 73) xC0 1 fl_X0_11 rfl (by decide) rfl (by decide) rfl dX0_init_74 ?_
  refine x_iload_n (pc := 77) dX0_init_77 rfl ?_
  refine c_aald (pc := 78) (t0 := 5) rfl (by decide) rfl (fun _ => rfl) rfl (q := 88) (by decide) dX0_init_78 ?_
  refine x_iconst (pc := 79) (a := -1) dX0_init_79 (by decide) ?_
  refine x_callS (pc := 80) (Iz := iJ7_fill_53178) (ρz := rP) (kc := 69) (ks := 3704) (As := [(.ref 88), (.int (-1:Int32))]) (rest := []) (ct_fillC 88 56 (-1:Int32) q78 rfl rfl (by decide)) rfl ml_X0_33 meJ7_fill_53178 rfl ⟨prJ7_fill_53178, (Nat.le_of_ble_eq_true rfl), (Nat.le_of_ble_eq_true rfl), (Nat.le_of_ble_eq_true rfl), (Nat.le_of_ble_eq_true rfl)⟩ (Nat.le_of_ble_eq_true rfl) dX0_init_80 (fun q80 => ?_)
  dsimp only [xpush]
  refine x_aload_n (pc := 83) dX0_init_83 rfl ?_
  refine c_getR (pc := 84) (t := 107) xC0 3 fl_X0_19 rfl (by decide) rfl (by decide) rfl dX0_init_84 ?_
  refine x_iload_n (pc := 87) dX0_init_87 rfl ?_
  refine c_aald (pc := 88) (t0 := 5) rfl (by decide) rfl (fun _ => rfl) rfl (q := 122) (by decide) dX0_init_88 ?_
  refine x_iconst (pc := 89) (a := -1) dX0_init_89 (by decide) ?_
  refine x_callS (pc := 90) (Iz := iJ7_fill_53178) (ρz := rP) (kc := 69) (ks := 3704) (As := [(.ref 122), (.int (-1:Int32))]) (rest := []) (ct_fillC 122 56 (-1:Int32) q80 rfl rfl (by decide)) rfl ml_X0_33 meJ7_fill_53178 rfl ⟨prJ7_fill_53178, (Nat.le_of_ble_eq_true rfl), (Nat.le_of_ble_eq_true rfl), (Nat.le_of_ble_eq_true rfl), (Nat.le_of_ble_eq_true rfl)⟩ (Nat.le_of_ble_eq_true rfl) dX0_init_90 (fun q81 => ?_)
  dsimp only [xpush]
  refine x_aload_n (pc := 93) dX0_init_93 rfl ?_
  refine c_getR (pc := 94) (t := 124) xC0 4 fl_X0_22 rfl (by decide) rfl (by decide) rfl dX0_init_94 ?_
  refine x_iload_n (pc := 97) dX0_init_97 rfl ?_
  refine c_aald (pc := 98) (t0 := 5) rfl (by decide) rfl (fun _ => rfl) rfl (q := 139) (by decide) dX0_init_98 ?_
  refine x_iconst (pc := 99) (a := -1) dX0_init_99 (by decide) ?_
  refine x_callS (pc := 100) (Iz := iJ7_fill_53178) (ρz := rP) (kc := 69) (ks := 3704) (As := [(.ref 139), (.int (-1:Int32))]) (rest := []) (ct_fillC 139 56 (-1:Int32) q81 rfl rfl (by decide)) rfl ml_X0_33 meJ7_fill_53178 rfl ⟨prJ7_fill_53178, (Nat.le_of_ble_eq_true rfl), (Nat.le_of_ble_eq_true rfl), (Nat.le_of_ble_eq_true rfl), (Nat.le_of_ble_eq_true rfl)⟩ (Nat.le_of_ble_eq_true rfl) dX0_init_100 (fun q82 => ?_)
  dsimp only [xpush]
  refine x_iinc (pc := 103) (b := (15:Int32)) (L' := [some (.ref 72), some (.ref 1), some (.int (15:Int32))]) dX0_init_103 rfl (by decide) (Nat.le_of_ble_eq_true rfl) rfl rfl ?_
  refine x_goto (pc := 106) (tgt := 67) dX0_init_106 (by decide) ?_
  refine x_iload_n (pc := 67) dX0_init_67 rfl ?_
  refine x_bipush (pc := 68) (a := 16) dX0_init_68 (by decide) ?_
  refine x_icmp_ge (pc := 70) (tgt := 109) dX0_init_70 (by decide) (fun h83 => absurd h83 (by decide)) (fun h83 => ?_)
  refine x_aload_n (pc := 73) dX0_init_73 rfl ?_
  refine c_getR (pc := 74) (t := 73) xC0 1 fl_X0_11 rfl (by decide) rfl (by decide) rfl dX0_init_74 ?_
  refine x_iload_n (pc := 77) dX0_init_77 rfl ?_
  refine c_aald (pc := 78) (t0 := 5) rfl (by decide) rfl (fun _ => rfl) rfl (q := 89) (by decide) dX0_init_78 ?_
  refine x_iconst (pc := 79) (a := -1) dX0_init_79 (by decide) ?_
  refine x_callS (pc := 80) (Iz := iJ7_fill_53178) (ρz := rP) (kc := 69) (ks := 3704) (As := [(.ref 89), (.int (-1:Int32))]) (rest := []) (ct_fillC 89 56 (-1:Int32) q82 rfl rfl (by decide)) rfl ml_X0_33 meJ7_fill_53178 rfl ⟨prJ7_fill_53178, (Nat.le_of_ble_eq_true rfl), (Nat.le_of_ble_eq_true rfl), (Nat.le_of_ble_eq_true rfl), (Nat.le_of_ble_eq_true rfl)⟩ (Nat.le_of_ble_eq_true rfl) dX0_init_80 (fun q84 => ?_)
  dsimp only [xpush]
  refine x_aload_n (pc := 83) dX0_init_83 rfl ?_
  refine c_getR (pc := 84) (t := 107) xC0 3 fl_X0_19 rfl (by decide) rfl (by decide) rfl dX0_init_84 ?_
  refine x_iload_n (pc := 87) dX0_init_87 rfl ?_
  refine c_aald (pc := 88) (t0 := 5) rfl (by decide) rfl (fun _ => rfl) rfl (q := 123) (by decide) dX0_init_88 ?_
  refine x_iconst (pc := 89) (a := -1) dX0_init_89 (by decide) ?_
  refine x_callS (pc := 90) (Iz := iJ7_fill_53178) (ρz := rP) (kc := 69) (ks := 3704) (As := [(.ref 123), (.int (-1:Int32))]) (rest := []) (ct_fillC 123 56 (-1:Int32) q84 rfl rfl (by decide)) rfl ml_X0_33 meJ7_fill_53178 rfl ⟨prJ7_fill_53178, (Nat.le_of_ble_eq_true rfl), (Nat.le_of_ble_eq_true rfl), (Nat.le_of_ble_eq_true rfl), (Nat.le_of_ble_eq_true rfl)⟩ (Nat.le_of_ble_eq_true rfl) dX0_init_90 (fun q85 => ?_)
  dsimp only [xpush]
  refine x_aload_n (pc := 93) dX0_init_93 rfl ?_
  refine c_getR (pc := 94) (t := 124) xC0 4 fl_X0_22 rfl (by decide) rfl (by decide) rfl dX0_init_94 ?_
  refine x_iload_n (pc := 97) dX0_init_97 rfl ?_
  refine c_aald (pc := 98) (t0 := 5) rfl (by decide) rfl (fun _ => rfl) rfl (q := 140) (by decide) dX0_init_98 ?_
  refine x_iconst (pc := 99) (a := -1) dX0_init_99 (by decide) ?_
  refine x_callS (pc := 100) (Iz := iJ7_fill_53178) (ρz := rP) (kc := 69) (ks := 3704) (As := [(.ref 140), (.int (-1:Int32))]) (rest := []) (ct_fillC 140 56 (-1:Int32) q85 rfl rfl (by decide)) rfl ml_X0_33 meJ7_fill_53178 rfl ⟨prJ7_fill_53178, (Nat.le_of_ble_eq_true rfl), (Nat.le_of_ble_eq_true rfl), (Nat.le_of_ble_eq_true rfl), (Nat.le_of_ble_eq_true rfl)⟩ (Nat.le_of_ble_eq_true rfl) dX0_init_100 (fun q86 => ?_)
  dsimp only [xpush]
  refine x_iinc (pc := 103) (b := (16:Int32)) (L' := [some (.ref 72), some (.ref 1), some (.int (16:Int32))]) dX0_init_103 rfl (by decide) (Nat.le_of_ble_eq_true rfl) rfl rfl ?_
  refine x_goto (pc := 106) (tgt := 67) dX0_init_106 (by decide) ?_
  refine x_iload_n (pc := 67) dX0_init_67 rfl ?_
  refine x_bipush (pc := 68) (a := 16) dX0_init_68 (by decide) ?_
  refine x_icmp_ge (pc := 70) (tgt := 109) dX0_init_70 (by decide) (fun h87 => ?_) (fun h87 => absurd h87 (by decide))
  exact x_vret (pc := 109) rfl rfl dX0_init_109 (Nat.le_of_ble_eq_true rfl) (Nat.le_of_ble_eq_true rfl)

set_option maxRecDepth 100000 in
set_option maxHeartbeats 4000000 in
theorem ct_X2_init (c : Nat) (C : xPw) (hc : xCi c) : Ct iX2_init rP [(.ref c)] (xwp C) (fX2_init c C) := by
  refine Ct.of' (L := [some (.ref c)]) 0 rfl (by decide +kernel) (Nat.le_of_ble_eq_true rfl) rfl ?_
  unfold fX2_init
  refine x_aload_n (pc := 0) dX2_init_0 rfl ?_
  refine x_objInit (pc := 1) (xword 232 (by decide +kernel) rfl) (xword 67 (by decide +kernel) rfl) (xword 68 (by decide +kernel) rfl) (Nat.le_of_ble_eq_true rfl) (Nat.le_of_ble_eq_true rfl) dX2_init_1 ?_
  refine x_aload_n (pc := 4) dX2_init_4 rfl ?_
  refine x_iconst (pc := 5) (a := 4) dX2_init_5 (by decide) ?_
  refine c_newaI (pc := 6) (kc := 0) (ks := 0) (c + 1) (N := 4) (xword 97 (by decide +kernel) rfl) (xCi_T1 hc) (xCi_N1 hc) (by decide) (by decide) (by decide) (Nat.le_of_ble_eq_true rfl) (Nat.le_of_ble_eq_true rfl) dX2_init_6 ?_
  refine SP.bdp (fun m1 e2 => ?_)
  refine c_putR (pc := 8) (t := (c + 1)) xC2 0 (xword 233 (by decide +kernel) rfl) (xCi_T hc) (by decide) rfl (by decide) rfl rfl rfl rfl (fun _ => rfl) (fun _ => rfl) dX2_init_8 ?_
  refine SP.bdp (fun m3 e4 => ?_)
  refine x_aload_n (pc := 11) dX2_init_11 rfl ?_
  refine x_iconst (pc := 12) (a := 4) dX2_init_12 (by decide) ?_
  refine c_newaI (pc := 13) (kc := 1) (ks := 4) (c + 2) (N := 4) (xword 97 (by decide +kernel) rfl) (xCi_T2 hc) (xCi_N2 hc) (by decide) (by decide) (by decide) (Nat.le_of_ble_eq_true rfl) (Nat.le_of_ble_eq_true rfl) dX2_init_13 ?_
  refine SP.bdp (fun m5 e6 => ?_)
  refine c_putR (pc := 15) (t := (c + 2)) xC2 1 (xword 235 (by decide +kernel) rfl) (xCi_T hc) (by decide) rfl (by decide) rfl rfl rfl rfl (fun _ => rfl) (fun _ => rfl) dX2_init_15 ?_
  refine SP.bdp (fun m7 e8 => ?_)
  exact x_vret (pc := 18) rfl rfl dX2_init_18 (Nat.le_of_ble_eq_true rfl) (Nat.le_of_ble_eq_true rfl)

set_option maxRecDepth 100000 in
set_option maxHeartbeats 4000000 in
theorem ct_X5_init  (C : xPw)  : Ct iX5_init rP [(.ref 142), (.ref 1)] (xwp C) (fX5_init C) := by
  refine Ct.of' (L := [some (.ref 142), some (.ref 1)]) 0 rfl (by decide +kernel) (Nat.le_of_ble_eq_true rfl) rfl ?_
  unfold fX5_init
  refine x_aload_n (pc := 0) dX5_init_0 rfl ?_
  refine x_objInit (pc := 1) (xword 226 (by decide +kernel) rfl) (xword 67 (by decide +kernel) rfl) (xword 68 (by decide +kernel) rfl) (Nat.le_of_ble_eq_true rfl) (Nat.le_of_ble_eq_true rfl) dX5_init_1 ?_
  refine x_aload_n (pc := 4) dX5_init_4 rfl ?_
  refine c_new (pc := 5) (kc := 0) (ks := 0) 143 xC2 (xword 227 (by decide +kernel) rfl) (xword 228 (by decide +kernel) rfl) (xword 55 (by decide +kernel) rfl) rfl (by decide) rfl (by decide +kernel) (Nat.le_of_ble_eq_true rfl) (Nat.le_of_ble_eq_true rfl) dX5_init_5 ?_
  refine SP.bdp (fun m1 e2 => ?_)
  refine x_dup (pc := 8) dX5_init_8 rfl ?_
  refine x_callIN (pc := 9) (Iz := iX2_init) (ρz := rP) (kc := 1) (ks := 3) (kc' := 3) (ks' := 11) (As := []) (rest := [(.ref 143), (.ref 142)]) (ct_X2_init 143 m1 (Or.inl rfl)) rfl ml_X5_11 miX2_init rfl ⟨prX2_init, (Nat.le_of_ble_eq_true rfl), (Nat.le_of_ble_eq_true rfl), (Nat.le_of_ble_eq_true rfl), (Nat.le_of_ble_eq_true rfl)⟩ (Nat.le_of_ble_eq_true rfl) rfl rfl dX5_init_9 (fun q3 => ?_)
  dsimp only [xpush]
  refine c_putR (pc := 12) (t := 143) xC5 1 (xword 248 (by decide +kernel) rfl) rfl (by decide) rfl (by decide) rfl rfl rfl rfl (fun _ => rfl) (fun _ => rfl) dX5_init_12 ?_
  refine SP.bdp (fun m4 e5 => ?_)
  refine x_aload_n (pc := 15) dX5_init_15 rfl ?_
  refine x_aload_n (pc := 16) dX5_init_16 rfl ?_
  refine c_putR (pc := 17) (t := 1) xC5 0 (xword 247 (by decide +kernel) rfl) rfl (by decide) rfl (by decide) rfl rfl rfl rfl (fun _ => rfl) (fun _ => rfl) dX5_init_17 ?_
  refine SP.bdp (fun m6 e7 => ?_)
  exact x_vret (pc := 20) rfl rfl dX5_init_20 (Nat.le_of_ble_eq_true rfl) (Nat.le_of_ble_eq_true rfl)

set_option maxRecDepth 100000 in
set_option maxHeartbeats 4000000 in
theorem ct_X8_init (k : Nat) (C : xPw) (hk : k < 8) : Ct iX8_init rP [(.ref (148 + 2 * k))] (xwp C) (fX8_init k C) := by
  refine Ct.of' (L := [some (.ref (148 + 2 * k))]) 0 rfl (by decide +kernel) (Nat.le_of_ble_eq_true rfl) rfl ?_
  unfold fX8_init
  refine x_aload_n (pc := 0) dX8_init_0 rfl ?_
  refine x_objInit (pc := 1) (xword 267 (by decide +kernel) rfl) (xword 67 (by decide +kernel) rfl) (xword 68 (by decide +kernel) rfl) (Nat.le_of_ble_eq_true rfl) (Nat.le_of_ble_eq_true rfl) dX8_init_1 ?_
  refine x_aload_n (pc := 4) dX8_init_4 rfl ?_
  refine x_bipush (pc := 5) (a := 100) dX8_init_5 (by decide) ?_
  refine c_newaZ (pc := 7) (kc := 0) (ks := 0) (148 + 2 * k + 1) (N := 100) (xword 278 (by decide +kernel) rfl) (xVaA hk) (xVaN hk) (by decide) (by decide) (by decide) (Nat.le_of_ble_eq_true rfl) (Nat.le_of_ble_eq_true rfl) dX8_init_7 ?_
  refine SP.bdp (fun m1 e2 => ?_)
  refine c_putR (pc := 9) (t := (148 + 2 * k + 1)) xC8 0 (xword 268 (by decide +kernel) rfl) (xVa hk) (by decide) rfl (by decide) rfl rfl rfl rfl (fun _ => rfl) (fun _ => rfl) dX8_init_9 ?_
  refine SP.bdp (fun m3 e4 => ?_)
  exact x_vret (pc := 12) rfl rfl dX8_init_12 (Nat.le_of_ble_eq_true rfl) (Nat.le_of_ble_eq_true rfl)

set_option maxRecDepth 100000 in
set_option maxHeartbeats 4000000 in
theorem ct_X4_init  (C : xPw)  : Ct iX4_init rP [(.ref 146), (.ref 1)] (xwp C) (fX4_init C) := by
  refine Ct.of' (L := [some (.ref 146), some (.ref 1), none]) 1 rfl (by decide +kernel) (Nat.le_of_ble_eq_true rfl) rfl ?_
  unfold fX4_init
  refine x_aload_n (pc := 0) dX4_init_0 rfl ?_
  refine x_objInit (pc := 1) (xword 260 (by decide +kernel) rfl) (xword 67 (by decide +kernel) rfl) (xword 68 (by decide +kernel) rfl) (Nat.le_of_ble_eq_true rfl) (Nat.le_of_ble_eq_true rfl) dX4_init_1 ?_
  refine x_aload_n (pc := 4) dX4_init_4 rfl ?_
  refine x_bipush (pc := 5) (a := 8) dX4_init_5 (by decide) ?_
  refine c_newq (pc := 7) (kc := 0) (ks := 0) 147 15 4 (N := 8) (xword 261 (by decide +kernel) rfl) (xnest 262 (by decide +kernel) rfl) rfl (by decide) (fun _ => rfl) rfl (by decide) (by decide) (by decide) (Nat.le_of_ble_eq_true rfl) (Nat.le_of_ble_eq_true rfl) dX4_init_7 ?_
  refine SP.bdp (fun m1 e2 => ?_)
  refine c_putR (pc := 10) (t := 147) xC4 1 (xword 280 (by decide +kernel) rfl) rfl (by decide) rfl (by decide) rfl rfl rfl rfl (fun _ => rfl) (fun _ => rfl) dX4_init_10 ?_
  refine SP.bdp (fun m3 e4 => ?_)
  refine x_aload_n (pc := 13) dX4_init_13 rfl ?_
  refine x_aload_n (pc := 14) dX4_init_14 rfl ?_
  refine c_putR (pc := 15) (t := 1) xC4 0 (xword 279 (by decide +kernel) rfl) rfl (by decide) rfl (by decide) rfl rfl rfl rfl (fun _ => rfl) (fun _ => rfl) dX4_init_15 ?_
  refine SP.bdp (fun m5 e6 => ?_)
  refine x_iconst (pc := 18) (a := 0) dX4_init_18 (by decide) ?_
  refine x_istore_n (pc := 19) (L' := [some (.ref 146), some (.ref 1), some (.int (0:Int32))]) dX4_init_19 (Nat.le_of_ble_eq_true rfl) rfl rfl ?_
  refine x_iload_n (pc := 20) dX4_init_20 rfl ?_
  refine x_bipush (pc := 21) (a := 8) dX4_init_21 (by decide) ?_
  refine x_icmp_ge (pc := 23) (tgt := 45) dX4_init_23 (by decide) (fun h7 => absurd h7 (by decide)) (fun h7 => ?_)
  refine x_aload_n (pc := 26) dX4_init_26 rfl ?_
  refine c_getR (pc := 27) (t := 147) xC4 1 fl_X4_11 rfl (by decide) rfl (by decide) rfl dX4_init_27 ?_
  refine x_iload_n (pc := 30) dX4_init_30 rfl ?_
  refine c_new (pc := 31) (kc := 1) (ks := 8) 148 xC8 (xword 261 (by decide +kernel) rfl) (xword 263 (by decide +kernel) rfl) (xword 57 (by decide +kernel) rfl) rfl (by decide) rfl (by decide +kernel) (Nat.le_of_ble_eq_true rfl) (Nat.le_of_ble_eq_true rfl) dX4_init_31 ?_
  refine SP.bdp (fun m8 e9 => ?_)
  refine x_dup (pc := 34) dX4_init_34 rfl ?_
  refine x_callIN (pc := 35) (Iz := iX8_init) (ρz := rP) (kc := 2) (ks := 10) (kc' := 3) (ks' := 110) (As := []) (rest := [(.ref 148), (.int (0:Int32)), (.ref 147)]) (ct_X8_init 0 m8 (by decide)) rfl ml_X4_21 miX8_init rfl ⟨prX8_init, (Nat.le_of_ble_eq_true rfl), (Nat.le_of_ble_eq_true rfl), (Nat.le_of_ble_eq_true rfl), (Nat.le_of_ble_eq_true rfl)⟩ (Nat.le_of_ble_eq_true rfl) rfl rfl dX4_init_35 (fun q10 => ?_)
  dsimp only [xpush]
  refine c_aast (pc := 38) (t0 := 4) xC8 (by decide) rfl (by decide) rfl (fun _ => rfl) rfl (by decide) dX4_init_38 ?_
  refine SP.bdp (fun m11 e12 => ?_)
  refine x_iinc (pc := 39) (b := (1:Int32)) (L' := [some (.ref 146), some (.ref 1), some (.int (1:Int32))]) dX4_init_39 rfl (by decide) (Nat.le_of_ble_eq_true rfl) rfl rfl ?_
  refine x_goto (pc := 42) (tgt := 20) dX4_init_42 (by decide) ?_
  refine x_iload_n (pc := 20) dX4_init_20 rfl ?_
  refine x_bipush (pc := 21) (a := 8) dX4_init_21 (by decide) ?_
  refine x_icmp_ge (pc := 23) (tgt := 45) dX4_init_23 (by decide) (fun h13 => absurd h13 (by decide)) (fun h13 => ?_)
  refine x_aload_n (pc := 26) dX4_init_26 rfl ?_
  refine c_getR (pc := 27) (t := 147) xC4 1 fl_X4_11 rfl (by decide) rfl (by decide) rfl dX4_init_27 ?_
  refine x_iload_n (pc := 30) dX4_init_30 rfl ?_
  refine c_new (pc := 31) (kc := 3) (ks := 110) 150 xC8 (xword 261 (by decide +kernel) rfl) (xword 263 (by decide +kernel) rfl) (xword 57 (by decide +kernel) rfl) rfl (by decide) rfl (by decide +kernel) (Nat.le_of_ble_eq_true rfl) (Nat.le_of_ble_eq_true rfl) dX4_init_31 ?_
  refine SP.bdp (fun m14 e15 => ?_)
  refine x_dup (pc := 34) dX4_init_34 rfl ?_
  refine x_callIN (pc := 35) (Iz := iX8_init) (ρz := rP) (kc := 4) (ks := 112) (kc' := 5) (ks' := 212) (As := []) (rest := [(.ref 150), (.int (1:Int32)), (.ref 147)]) (ct_X8_init 1 m14 (by decide)) rfl ml_X4_21 miX8_init rfl ⟨prX8_init, (Nat.le_of_ble_eq_true rfl), (Nat.le_of_ble_eq_true rfl), (Nat.le_of_ble_eq_true rfl), (Nat.le_of_ble_eq_true rfl)⟩ (Nat.le_of_ble_eq_true rfl) rfl rfl dX4_init_35 (fun q16 => ?_)
  dsimp only [xpush]
  refine c_aast (pc := 38) (t0 := 4) xC8 (by decide) rfl (by decide) rfl (fun _ => rfl) rfl (by decide) dX4_init_38 ?_
  refine SP.bdp (fun m17 e18 => ?_)
  refine x_iinc (pc := 39) (b := (2:Int32)) (L' := [some (.ref 146), some (.ref 1), some (.int (2:Int32))]) dX4_init_39 rfl (by decide) (Nat.le_of_ble_eq_true rfl) rfl rfl ?_
  refine x_goto (pc := 42) (tgt := 20) dX4_init_42 (by decide) ?_
  refine x_iload_n (pc := 20) dX4_init_20 rfl ?_
  refine x_bipush (pc := 21) (a := 8) dX4_init_21 (by decide) ?_
  refine x_icmp_ge (pc := 23) (tgt := 45) dX4_init_23 (by decide) (fun h19 => absurd h19 (by decide)) (fun h19 => ?_)
  refine x_aload_n (pc := 26) dX4_init_26 rfl ?_
  refine c_getR (pc := 27) (t := 147) xC4 1 fl_X4_11 rfl (by decide) rfl (by decide) rfl dX4_init_27 ?_
  refine x_iload_n (pc := 30) dX4_init_30 rfl ?_
  refine c_new (pc := 31) (kc := 5) (ks := 212) 152 xC8 (xword 261 (by decide +kernel) rfl) (xword 263 (by decide +kernel) rfl) (xword 57 (by decide +kernel) rfl) rfl (by decide) rfl (by decide +kernel) (Nat.le_of_ble_eq_true rfl) (Nat.le_of_ble_eq_true rfl) dX4_init_31 ?_
  refine SP.bdp (fun m20 e21 => ?_)
  refine x_dup (pc := 34) dX4_init_34 rfl ?_
  refine x_callIN (pc := 35) (Iz := iX8_init) (ρz := rP) (kc := 6) (ks := 214) (kc' := 7) (ks' := 314) (As := []) (rest := [(.ref 152), (.int (2:Int32)), (.ref 147)]) (ct_X8_init 2 m20 (by decide)) rfl ml_X4_21 miX8_init rfl ⟨prX8_init, (Nat.le_of_ble_eq_true rfl), (Nat.le_of_ble_eq_true rfl), (Nat.le_of_ble_eq_true rfl), (Nat.le_of_ble_eq_true rfl)⟩ (Nat.le_of_ble_eq_true rfl) rfl rfl dX4_init_35 (fun q22 => ?_)
  dsimp only [xpush]
  refine c_aast (pc := 38) (t0 := 4) xC8 (by decide) rfl (by decide) rfl (fun _ => rfl) rfl (by decide) dX4_init_38 ?_
  refine SP.bdp (fun m23 e24 => ?_)
  refine x_iinc (pc := 39) (b := (3:Int32)) (L' := [some (.ref 146), some (.ref 1), some (.int (3:Int32))]) dX4_init_39 rfl (by decide) (Nat.le_of_ble_eq_true rfl) rfl rfl ?_
  refine x_goto (pc := 42) (tgt := 20) dX4_init_42 (by decide) ?_
  refine x_iload_n (pc := 20) dX4_init_20 rfl ?_
  refine x_bipush (pc := 21) (a := 8) dX4_init_21 (by decide) ?_
  refine x_icmp_ge (pc := 23) (tgt := 45) dX4_init_23 (by decide) (fun h25 => absurd h25 (by decide)) (fun h25 => ?_)
  refine x_aload_n (pc := 26) dX4_init_26 rfl ?_
  refine c_getR (pc := 27) (t := 147) xC4 1 fl_X4_11 rfl (by decide) rfl (by decide) rfl dX4_init_27 ?_
  refine x_iload_n (pc := 30) dX4_init_30 rfl ?_
  refine c_new (pc := 31) (kc := 7) (ks := 314) 154 xC8 (xword 261 (by decide +kernel) rfl) (xword 263 (by decide +kernel) rfl) (xword 57 (by decide +kernel) rfl) rfl (by decide) rfl (by decide +kernel) (Nat.le_of_ble_eq_true rfl) (Nat.le_of_ble_eq_true rfl) dX4_init_31 ?_
  refine SP.bdp (fun m26 e27 => ?_)
  refine x_dup (pc := 34) dX4_init_34 rfl ?_
  refine x_callIN (pc := 35) (Iz := iX8_init) (ρz := rP) (kc := 8) (ks := 316) (kc' := 9) (ks' := 416) (As := []) (rest := [(.ref 154), (.int (3:Int32)), (.ref 147)]) (ct_X8_init 3 m26 (by decide)) rfl ml_X4_21 miX8_init rfl ⟨prX8_init, (Nat.le_of_ble_eq_true rfl), (Nat.le_of_ble_eq_true rfl), (Nat.le_of_ble_eq_true rfl), (Nat.le_of_ble_eq_true rfl)⟩ (Nat.le_of_ble_eq_true rfl) rfl rfl dX4_init_35 (fun q28 => ?_)
  dsimp only [xpush]
  refine c_aast (pc := 38) (t0 := 4) xC8 (by decide) rfl (by decide) rfl (fun _ => rfl) rfl (by decide) dX4_init_38 ?_
  refine SP.bdp (fun m29 e30 => ?_)
  refine x_iinc (pc := 39) (b := (4:Int32)) (L' := [some (.ref 146), some (.ref 1), some (.int (4:Int32))]) dX4_init_39 rfl (by decide) (Nat.le_of_ble_eq_true rfl) rfl rfl ?_
  refine x_goto (pc := 42) (tgt := 20) dX4_init_42 (by decide) ?_
  refine x_iload_n (pc := 20) dX4_init_20 rfl ?_
  refine x_bipush (pc := 21) (a := 8) dX4_init_21 (by decide) ?_
  refine x_icmp_ge (pc := 23) (tgt := 45) dX4_init_23 (by decide) (fun h31 => absurd h31 (by decide)) (fun h31 => ?_)
  refine x_aload_n (pc := 26) dX4_init_26 rfl ?_
  refine c_getR (pc := 27) (t := 147) xC4 1 fl_X4_11 rfl (by decide) rfl (by decide) rfl dX4_init_27 ?_
  refine x_iload_n (pc := 30) dX4_init_30 rfl ?_
  refine c_new (pc := 31) (kc := 9) (ks := 416) 156 xC8 (xword 261 (by decide +kernel) rfl) (xword 263 (by decide +kernel) rfl) (xword 57 (by decide +kernel) rfl) rfl (by decide) rfl (by decide +kernel) (Nat.le_of_ble_eq_true rfl) (Nat.le_of_ble_eq_true rfl) dX4_init_31 ?_
  refine SP.bdp (fun m32 e33 => ?_)
  refine x_dup (pc := 34) dX4_init_34 rfl ?_
  refine x_callIN (pc := 35) (Iz := iX8_init) (ρz := rP) (kc := 10) (ks := 418) (kc' := 11) (ks' := 518) (As := []) (rest := [(.ref 156), (.int (4:Int32)), (.ref 147)]) (ct_X8_init 4 m32 (by decide)) rfl ml_X4_21 miX8_init rfl ⟨prX8_init, (Nat.le_of_ble_eq_true rfl), (Nat.le_of_ble_eq_true rfl), (Nat.le_of_ble_eq_true rfl), (Nat.le_of_ble_eq_true rfl)⟩ (Nat.le_of_ble_eq_true rfl) rfl rfl dX4_init_35 (fun q34 => ?_)
  dsimp only [xpush]
  refine c_aast (pc := 38) (t0 := 4) xC8 (by decide) rfl (by decide) rfl (fun _ => rfl) rfl (by decide) dX4_init_38 ?_
  refine SP.bdp (fun m35 e36 => ?_)
  refine x_iinc (pc := 39) (b := (5:Int32)) (L' := [some (.ref 146), some (.ref 1), some (.int (5:Int32))]) dX4_init_39 rfl (by decide) (Nat.le_of_ble_eq_true rfl) rfl rfl ?_
  refine x_goto (pc := 42) (tgt := 20) dX4_init_42 (by decide) ?_
  refine x_iload_n (pc := 20) dX4_init_20 rfl ?_
  refine x_bipush (pc := 21) (a := 8) dX4_init_21 (by decide) ?_
  refine x_icmp_ge (pc := 23) (tgt := 45) dX4_init_23 (by decide) (fun h37 => absurd h37 (by decide)) (fun h37 => ?_)
  refine x_aload_n (pc := 26) dX4_init_26 rfl ?_
  refine c_getR (pc := 27) (t := 147) xC4 1 fl_X4_11 rfl (by decide) rfl (by decide) rfl dX4_init_27 ?_
  refine x_iload_n (pc := 30) dX4_init_30 rfl ?_
  refine c_new (pc := 31) (kc := 11) (ks := 518) 158 xC8 (xword 261 (by decide +kernel) rfl) (xword 263 (by decide +kernel) rfl) (xword 57 (by decide +kernel) rfl) rfl (by decide) rfl (by decide +kernel) (Nat.le_of_ble_eq_true rfl) (Nat.le_of_ble_eq_true rfl) dX4_init_31 ?_
  refine SP.bdp (fun m38 e39 => ?_)
  refine x_dup (pc := 34) dX4_init_34 rfl ?_
  refine x_callIN (pc := 35) (Iz := iX8_init) (ρz := rP) (kc := 12) (ks := 520) (kc' := 13) (ks' := 620) (As := []) (rest := [(.ref 158), (.int (5:Int32)), (.ref 147)]) (ct_X8_init 5 m38 (by decide)) rfl ml_X4_21 miX8_init rfl ⟨prX8_init, (Nat.le_of_ble_eq_true rfl), (Nat.le_of_ble_eq_true rfl), (Nat.le_of_ble_eq_true rfl), (Nat.le_of_ble_eq_true rfl)⟩ (Nat.le_of_ble_eq_true rfl) rfl rfl dX4_init_35 (fun q40 => ?_)
  dsimp only [xpush]
  refine c_aast (pc := 38) (t0 := 4) xC8 (by decide) rfl (by decide) rfl (fun _ => rfl) rfl (by decide) dX4_init_38 ?_
  refine SP.bdp (fun m41 e42 => ?_)
  refine x_iinc (pc := 39) (b := (6:Int32)) (L' := [some (.ref 146), some (.ref 1), some (.int (6:Int32))]) dX4_init_39 rfl (by decide) (Nat.le_of_ble_eq_true rfl) rfl rfl ?_
  refine x_goto (pc := 42) (tgt := 20) dX4_init_42 (by decide) ?_
  refine x_iload_n (pc := 20) dX4_init_20 rfl ?_
  refine x_bipush (pc := 21) (a := 8) dX4_init_21 (by decide) ?_
  refine x_icmp_ge (pc := 23) (tgt := 45) dX4_init_23 (by decide) (fun h43 => absurd h43 (by decide)) (fun h43 => ?_)
  refine x_aload_n (pc := 26) dX4_init_26 rfl ?_
  refine c_getR (pc := 27) (t := 147) xC4 1 fl_X4_11 rfl (by decide) rfl (by decide) rfl dX4_init_27 ?_
  refine x_iload_n (pc := 30) dX4_init_30 rfl ?_
  refine c_new (pc := 31) (kc := 13) (ks := 620) 160 xC8 (xword 261 (by decide +kernel) rfl) (xword 263 (by decide +kernel) rfl) (xword 57 (by decide +kernel) rfl) rfl (by decide) rfl (by decide +kernel) (Nat.le_of_ble_eq_true rfl) (Nat.le_of_ble_eq_true rfl) dX4_init_31 ?_
  refine SP.bdp (fun m44 e45 => ?_)
  refine x_dup (pc := 34) dX4_init_34 rfl ?_
  refine x_callIN (pc := 35) (Iz := iX8_init) (ρz := rP) (kc := 14) (ks := 622) (kc' := 15) (ks' := 722) (As := []) (rest := [(.ref 160), (.int (6:Int32)), (.ref 147)]) (ct_X8_init 6 m44 (by decide)) rfl ml_X4_21 miX8_init rfl ⟨prX8_init, (Nat.le_of_ble_eq_true rfl), (Nat.le_of_ble_eq_true rfl), (Nat.le_of_ble_eq_true rfl), (Nat.le_of_ble_eq_true rfl)⟩ (Nat.le_of_ble_eq_true rfl) rfl rfl dX4_init_35 (fun q46 => ?_)
  dsimp only [xpush]
  refine c_aast (pc := 38) (t0 := 4) xC8 (by decide) rfl (by decide) rfl (fun _ => rfl) rfl (by decide) dX4_init_38 ?_
  refine SP.bdp (fun m47 e48 => ?_)
  refine x_iinc (pc := 39) (b := (7:Int32)) (L' := [some (.ref 146), some (.ref 1), some (.int (7:Int32))]) dX4_init_39 rfl (by decide) (Nat.le_of_ble_eq_true rfl) rfl rfl ?_
  refine x_goto (pc := 42) (tgt := 20) dX4_init_42 (by decide) ?_
  refine x_iload_n (pc := 20) dX4_init_20 rfl ?_
  refine x_bipush (pc := 21) (a := 8) dX4_init_21 (by decide) ?_
  refine x_icmp_ge (pc := 23) (tgt := 45) dX4_init_23 (by decide) (fun h49 => absurd h49 (by decide)) (fun h49 => ?_)
  refine x_aload_n (pc := 26) dX4_init_26 rfl ?_
  refine c_getR (pc := 27) (t := 147) xC4 1 fl_X4_11 rfl (by decide) rfl (by decide) rfl dX4_init_27 ?_
  refine x_iload_n (pc := 30) dX4_init_30 rfl ?_
  refine c_new (pc := 31) (kc := 15) (ks := 722) 162 xC8 (xword 261 (by decide +kernel) rfl) (xword 263 (by decide +kernel) rfl) (xword 57 (by decide +kernel) rfl) rfl (by decide) rfl (by decide +kernel) (Nat.le_of_ble_eq_true rfl) (Nat.le_of_ble_eq_true rfl) dX4_init_31 ?_
  refine SP.bdp (fun m50 e51 => ?_)
  refine x_dup (pc := 34) dX4_init_34 rfl ?_
  refine x_callIN (pc := 35) (Iz := iX8_init) (ρz := rP) (kc := 16) (ks := 724) (kc' := 17) (ks' := 824) (As := []) (rest := [(.ref 162), (.int (7:Int32)), (.ref 147)]) (ct_X8_init 7 m50 (by decide)) rfl ml_X4_21 miX8_init rfl ⟨prX8_init, (Nat.le_of_ble_eq_true rfl), (Nat.le_of_ble_eq_true rfl), (Nat.le_of_ble_eq_true rfl), (Nat.le_of_ble_eq_true rfl)⟩ (Nat.le_of_ble_eq_true rfl) rfl rfl dX4_init_35 (fun q52 => ?_)
  dsimp only [xpush]
  refine c_aast (pc := 38) (t0 := 4) xC8 (by decide) rfl (by decide) rfl (fun _ => rfl) rfl (by decide) dX4_init_38 ?_
  refine SP.bdp (fun m53 e54 => ?_)
  refine x_iinc (pc := 39) (b := (8:Int32)) (L' := [some (.ref 146), some (.ref 1), some (.int (8:Int32))]) dX4_init_39 rfl (by decide) (Nat.le_of_ble_eq_true rfl) rfl rfl ?_
  refine x_goto (pc := 42) (tgt := 20) dX4_init_42 (by decide) ?_
  refine x_iload_n (pc := 20) dX4_init_20 rfl ?_
  refine x_bipush (pc := 21) (a := 8) dX4_init_21 (by decide) ?_
  refine x_icmp_ge (pc := 23) (tgt := 45) dX4_init_23 (by decide) (fun h55 => ?_) (fun h55 => absurd h55 (by decide))
  exact x_vret (pc := 45) rfl rfl dX4_init_45 (Nat.le_of_ble_eq_true rfl) (Nat.le_of_ble_eq_true rfl)

set_option maxRecDepth 100000 in
set_option maxHeartbeats 4000000 in
theorem ct_X1_init  (C : xPw)  : Ct iX1_init rP [(.ref 164), (.ref 1)] (xwp C) (fX1_init C) := by
  refine Ct.of' (L := [some (.ref 164), some (.ref 1)]) 0 rfl (by decide +kernel) (Nat.le_of_ble_eq_true rfl) rfl ?_
  unfold fX1_init
  refine x_aload_n (pc := 0) dX1_init_0 rfl ?_
  refine x_objInit (pc := 1) (xword 292 (by decide +kernel) rfl) (xword 67 (by decide +kernel) rfl) (xword 68 (by decide +kernel) rfl) (Nat.le_of_ble_eq_true rfl) (Nat.le_of_ble_eq_true rfl) dX1_init_1 ?_
  refine x_aload_n (pc := 4) dX1_init_4 rfl ?_
  refine c_new (pc := 5) (kc := 0) (ks := 0) 165 xC2 (xword 293 (by decide +kernel) rfl) (xword 228 (by decide +kernel) rfl) (xword 55 (by decide +kernel) rfl) rfl (by decide) rfl (by decide +kernel) (Nat.le_of_ble_eq_true rfl) (Nat.le_of_ble_eq_true rfl) dX1_init_5 ?_
  refine SP.bdp (fun m1 e2 => ?_)
  refine x_dup (pc := 8) dX1_init_8 rfl ?_
  refine x_callIN (pc := 9) (Iz := iX2_init) (ρz := rP) (kc := 1) (ks := 3) (kc' := 3) (ks' := 11) (As := []) (rest := [(.ref 165), (.ref 164)]) (ct_X2_init 165 m1 (Or.inr rfl)) rfl ml_X1_11 miX2_init rfl ⟨prX2_init, (Nat.le_of_ble_eq_true rfl), (Nat.le_of_ble_eq_true rfl), (Nat.le_of_ble_eq_true rfl), (Nat.le_of_ble_eq_true rfl)⟩ (Nat.le_of_ble_eq_true rfl) rfl rfl dX1_init_9 (fun q3 => ?_)
  dsimp only [xpush]
  refine c_putR (pc := 12) (t := 165) xC1 1 (xword 296 (by decide +kernel) rfl) rfl (by decide) rfl (by decide) rfl rfl rfl rfl (fun _ => rfl) (fun _ => rfl) dX1_init_12 ?_
  refine SP.bdp (fun m4 e5 => ?_)
  refine x_aload_n (pc := 15) dX1_init_15 rfl ?_
  refine x_bipush (pc := 16) (a := 8) dX1_init_16 (by decide) ?_
  refine c_newaI (pc := 18) (kc := 3) (ks := 11) 168 (N := 8) (xword 97 (by decide +kernel) rfl) rfl rfl (by decide) (by decide) (by decide) (Nat.le_of_ble_eq_true rfl) (Nat.le_of_ble_eq_true rfl) dX1_init_18 ?_
  refine SP.bdp (fun m6 e7 => ?_)
  refine c_putR (pc := 20) (t := 168) xC1 2 (xword 297 (by decide +kernel) rfl) rfl (by decide) rfl (by decide) rfl rfl rfl rfl (fun _ => rfl) (fun _ => rfl) dX1_init_20 ?_
  refine SP.bdp (fun m8 e9 => ?_)
  refine x_aload_n (pc := 23) dX1_init_23 rfl ?_
  refine x_bipush (pc := 24) (a := 8) dX1_init_24 (by decide) ?_
  refine c_newaI (pc := 26) (kc := 4) (ks := 19) 169 (N := 8) (xword 97 (by decide +kernel) rfl) rfl rfl (by decide) (by decide) (by decide) (Nat.le_of_ble_eq_true rfl) (Nat.le_of_ble_eq_true rfl) dX1_init_26 ?_
  refine SP.bdp (fun m10 e11 => ?_)
  refine c_putR (pc := 28) (t := 169) xC1 3 (xword 299 (by decide +kernel) rfl) rfl (by decide) rfl (by decide) rfl rfl rfl rfl (fun _ => rfl) (fun _ => rfl) dX1_init_28 ?_
  refine SP.bdp (fun m12 e13 => ?_)
  refine x_aload_n (pc := 31) dX1_init_31 rfl ?_
  refine x_aload_n (pc := 32) dX1_init_32 rfl ?_
  refine c_putR (pc := 33) (t := 1) xC1 0 (xword 295 (by decide +kernel) rfl) rfl (by decide) rfl (by decide) rfl rfl rfl rfl (fun _ => rfl) (fun _ => rfl) dX1_init_33 ?_
  refine SP.bdp (fun m14 e15 => ?_)
  exact x_vret (pc := 36) rfl rfl dX1_init_36 (Nat.le_of_ble_eq_true rfl) (Nat.le_of_ble_eq_true rfl)

set_option maxRecDepth 100000 in
set_option maxHeartbeats 4000000 in
theorem ct_X9_init  (C : xPw)  : Ct iX9_init rP [(.ref 0)] (xwp C) (fX9_init C) := by
  refine Ct.of' (L := [some (.ref 0)]) 0 rfl (by decide +kernel) (Nat.le_of_ble_eq_true rfl) rfl ?_
  unfold fX9_init
  refine x_aload_n (pc := 0) dX9_init_0 rfl ?_
  refine x_objInit (pc := 1) (xword 66 (by decide +kernel) rfl) (xword 67 (by decide +kernel) rfl) (xword 68 (by decide +kernel) rfl) (Nat.le_of_ble_eq_true rfl) (Nat.le_of_ble_eq_true rfl) dX9_init_1 ?_
  refine x_aload_n (pc := 4) dX9_init_4 rfl ?_
  refine c_new (pc := 5) (kc := 0) (ks := 0) 1 xC6 (xword 69 (by decide +kernel) rfl) (xword 70 (by decide +kernel) rfl) (xword 49 (by decide +kernel) rfl) rfl (by decide) rfl (by decide +kernel) (Nat.le_of_ble_eq_true rfl) (Nat.le_of_ble_eq_true rfl) dX9_init_5 ?_
  refine SP.bdp (fun m1 e2 => ?_)
  refine x_dup (pc := 8) dX9_init_8 rfl ?_
  refine x_callI (pc := 9) (Iz := iX6_init) (ρz := rP) (kc := 1) (ks := 5) (kc' := 71) (ks' := 3169) (As := []) (rest := [(.ref 1), (.ref 0)]) (ct_X6_init m1) rfl ml_X9_9 miX6_init rfl ⟨prX6_init, (Nat.le_of_ble_eq_true rfl), (Nat.le_of_ble_eq_true rfl), (Nat.le_of_ble_eq_true rfl), (Nat.le_of_ble_eq_true rfl)⟩ (Nat.le_of_ble_eq_true rfl) rfl rfl dX9_init_9 (fun q3 => ?_)
  dsimp only [xpush]
  refine c_putR (pc := 12) (t := 1) xC9 0 (xword 310 (by decide +kernel) rfl) rfl (by decide) rfl (by decide) rfl rfl rfl rfl (fun _ => rfl) (fun _ => rfl) dX9_init_12 ?_
  refine SP.bdp (fun m4 e5 => ?_)
  refine x_aload_n (pc := 15) dX9_init_15 rfl ?_
  refine c_new (pc := 16) (kc := 71) (ks := 3169) 72 xC0 (xword 189 (by decide +kernel) rfl) (xword 190 (by decide +kernel) rfl) (xword 53 (by decide +kernel) rfl) rfl (by decide) rfl (by decide +kernel) (Nat.le_of_ble_eq_true rfl) (Nat.le_of_ble_eq_true rfl) dX9_init_16 ?_
  refine SP.bdp (fun m6 e7 => ?_)
  refine x_dup (pc := 19) dX9_init_19 rfl ?_
  refine x_aload_n (pc := 20) dX9_init_20 rfl ?_
  refine c_getR (pc := 21) (t := 1) xC9 0 fl_X9_10 rfl (by decide) rfl (by decide) rfl dX9_init_21 ?_
  refine x_callI (pc := 24) (Iz := iX0_init) (ρz := rP) (kc := 72) (ks := 3176) (kc' := 141) (ks' := 6880) (As := [(.ref 1)]) (rest := [(.ref 72), (.ref 0)]) (ct_X0_init m6) rfl ml_X9_18 miX0_init rfl ⟨prX0_init, (Nat.le_of_ble_eq_true rfl), (Nat.le_of_ble_eq_true rfl), (Nat.le_of_ble_eq_true rfl), (Nat.le_of_ble_eq_true rfl)⟩ (Nat.le_of_ble_eq_true rfl) rfl rfl dX9_init_24 (fun q8 => ?_)
  dsimp only [xpush]
  refine c_putR (pc := 27) (t := 72) xC9 1 (xword 311 (by decide +kernel) rfl) rfl (by decide) rfl (by decide) rfl rfl rfl rfl (fun _ => rfl) (fun _ => rfl) dX9_init_27 ?_
  refine SP.bdp (fun m9 e10 => ?_)
  refine x_aload_n (pc := 30) dX9_init_30 rfl ?_
  refine c_new (pc := 31) (kc := 141) (ks := 6880) 142 xC5 (xword 221 (by decide +kernel) rfl) (xword 222 (by decide +kernel) rfl) (xword 54 (by decide +kernel) rfl) rfl (by decide) rfl (by decide +kernel) (Nat.le_of_ble_eq_true rfl) (Nat.le_of_ble_eq_true rfl) dX9_init_31 ?_
  refine SP.bdp (fun m11 e12 => ?_)
  refine x_dup (pc := 34) dX9_init_34 rfl ?_
  refine x_aload_n (pc := 35) dX9_init_35 rfl ?_
  refine c_getR (pc := 36) (t := 1) xC9 0 fl_X9_10 rfl (by decide) rfl (by decide) rfl dX9_init_36 ?_
  refine x_callI (pc := 39) (Iz := iX5_init) (ρz := rP) (kc := 142) (ks := 6882) (kc' := 145) (ks' := 6893) (As := [(.ref 1)]) (rest := [(.ref 142), (.ref 0)]) (ct_X5_init m11) rfl ml_X9_27 miX5_init rfl ⟨prX5_init, (Nat.le_of_ble_eq_true rfl), (Nat.le_of_ble_eq_true rfl), (Nat.le_of_ble_eq_true rfl), (Nat.le_of_ble_eq_true rfl)⟩ (Nat.le_of_ble_eq_true rfl) rfl rfl dX9_init_39 (fun q13 => ?_)
  dsimp only [xpush]
  refine c_putR (pc := 42) (t := 142) xC9 2 (xword 312 (by decide +kernel) rfl) rfl (by decide) rfl (by decide) rfl rfl rfl rfl (fun _ => rfl) (fun _ => rfl) dX9_init_42 ?_
  refine SP.bdp (fun m14 e15 => ?_)
  refine x_aload_n (pc := 45) dX9_init_45 rfl ?_
  refine c_new (pc := 46) (kc := 145) (ks := 6893) 146 xC4 (xword 255 (by decide +kernel) rfl) (xword 256 (by decide +kernel) rfl) (xword 56 (by decide +kernel) rfl) rfl (by decide) rfl (by decide +kernel) (Nat.le_of_ble_eq_true rfl) (Nat.le_of_ble_eq_true rfl) dX9_init_46 ?_
  refine SP.bdp (fun m16 e17 => ?_)
  refine x_dup (pc := 49) dX9_init_49 rfl ?_
  refine x_aload_n (pc := 50) dX9_init_50 rfl ?_
  refine c_getR (pc := 51) (t := 1) xC9 0 fl_X9_10 rfl (by decide) rfl (by decide) rfl dX9_init_51 ?_
  refine x_callI (pc := 54) (Iz := iX4_init) (ρz := rP) (kc := 146) (ks := 6895) (kc' := 163) (ks' := 7719) (As := [(.ref 1)]) (rest := [(.ref 146), (.ref 0)]) (ct_X4_init m16) rfl ml_X9_34 miX4_init rfl ⟨prX4_init, (Nat.le_of_ble_eq_true rfl), (Nat.le_of_ble_eq_true rfl), (Nat.le_of_ble_eq_true rfl), (Nat.le_of_ble_eq_true rfl)⟩ (Nat.le_of_ble_eq_true rfl) rfl rfl dX9_init_54 (fun q18 => ?_)
  dsimp only [xpush]
  refine c_putR (pc := 57) (t := 146) xC9 3 (xword 313 (by decide +kernel) rfl) rfl (by decide) rfl (by decide) rfl rfl rfl rfl (fun _ => rfl) (fun _ => rfl) dX9_init_57 ?_
  refine SP.bdp (fun m19 e20 => ?_)
  refine x_aload_n (pc := 60) dX9_init_60 rfl ?_
  refine c_new (pc := 61) (kc := 163) (ks := 7719) 164 xC1 (xword 287 (by decide +kernel) rfl) (xword 288 (by decide +kernel) rfl) (xword 58 (by decide +kernel) rfl) rfl (by decide) rfl (by decide +kernel) (Nat.le_of_ble_eq_true rfl) (Nat.le_of_ble_eq_true rfl) dX9_init_61 ?_
  refine SP.bdp (fun m21 e22 => ?_)
  refine x_dup (pc := 64) dX9_init_64 rfl ?_
  refine x_aload_n (pc := 65) dX9_init_65 rfl ?_
  refine c_getR (pc := 66) (t := 1) xC9 0 fl_X9_10 rfl (by decide) rfl (by decide) rfl dX9_init_66 ?_
  refine x_callI (pc := 69) (Iz := iX1_init) (ρz := rP) (kc := 164) (ks := 7723) (kc' := 169) (ks' := 7750) (As := [(.ref 1)]) (rest := [(.ref 164), (.ref 0)]) (ct_X1_init m21) rfl ml_X9_41 miX1_init rfl ⟨prX1_init, (Nat.le_of_ble_eq_true rfl), (Nat.le_of_ble_eq_true rfl), (Nat.le_of_ble_eq_true rfl), (Nat.le_of_ble_eq_true rfl)⟩ (Nat.le_of_ble_eq_true rfl) rfl rfl dX9_init_69 (fun q23 => ?_)
  dsimp only [xpush]
  refine c_putR (pc := 72) (t := 164) xC9 4 (xword 314 (by decide +kernel) rfl) rfl (by decide) rfl (by decide) rfl rfl rfl rfl (fun _ => rfl) (fun _ => rfl) dX9_init_72 ?_
  refine SP.bdp (fun m24 e25 => ?_)
  exact x_vret (pc := 75) rfl rfl dX9_init_75 (Nat.le_of_ble_eq_true rfl) (Nat.le_of_ble_eq_true rfl)

set_option maxRecDepth 100000 in
set_option maxHeartbeats 4000000 in
theorem ct_X10_init  (C : xPw)  : Ct iX10_init rP [(.ref 170)] (xwp C) (fX10_init C) := by
  refine Ct.of' (L := [some (.ref 170)]) 0 rfl (by decide +kernel) (Nat.le_of_ble_eq_true rfl) rfl ?_
  unfold fX10_init
  refine x_aload_n (pc := 0) dX10_init_0 rfl ?_
  refine x_objInit (pc := 1) (xword 701 (by decide +kernel) rfl) (xword 67 (by decide +kernel) rfl) (xword 68 (by decide +kernel) rfl) (Nat.le_of_ble_eq_true rfl) (Nat.le_of_ble_eq_true rfl) dX10_init_1 ?_
  refine x_aload_n (pc := 4) dX10_init_4 rfl ?_
  refine x_bipush (pc := 5) (a := 16) dX10_init_5 (by decide) ?_
  refine c_newaI (pc := 7) (kc := 0) (ks := 0) 171 (N := 16) (xword 97 (by decide +kernel) rfl) rfl rfl (by decide) (by decide) (by decide) (Nat.le_of_ble_eq_true rfl) (Nat.le_of_ble_eq_true rfl) dX10_init_7 ?_
  refine SP.bdp (fun m1 e2 => ?_)
  refine x_dup (pc := 9) dX10_init_9 rfl ?_
  refine x_iconst (pc := 10) (a := 0) dX10_init_10 (by decide) ?_
  refine x_iconst (pc := 11) (a := -1) dX10_init_11 (by decide) ?_
  refine c_iast (pc := 12) rfl rfl dX10_init_12 (fun _ => ?_)
  refine SP.bdp (fun m3 e4 => ?_)
  refine x_dup (pc := 13) dX10_init_13 rfl ?_
  refine x_iconst (pc := 14) (a := 1) dX10_init_14 (by decide) ?_
  refine x_iconst (pc := 15) (a := -1) dX10_init_15 (by decide) ?_
  refine c_iast (pc := 16) rfl rfl dX10_init_16 (fun _ => ?_)
  refine SP.bdp (fun m5 e6 => ?_)
  refine x_dup (pc := 17) dX10_init_17 rfl ?_
  refine x_iconst (pc := 18) (a := 2) dX10_init_18 (by decide) ?_
  refine x_iconst (pc := 19) (a := -1) dX10_init_19 (by decide) ?_
  refine c_iast (pc := 20) rfl rfl dX10_init_20 (fun _ => ?_)
  refine SP.bdp (fun m7 e8 => ?_)
  refine x_dup (pc := 21) dX10_init_21 rfl ?_
  refine x_iconst (pc := 22) (a := 3) dX10_init_22 (by decide) ?_
  refine x_iconst (pc := 23) (a := -1) dX10_init_23 (by decide) ?_
  refine c_iast (pc := 24) rfl rfl dX10_init_24 (fun _ => ?_)
  refine SP.bdp (fun m9 e10 => ?_)
  refine x_dup (pc := 25) dX10_init_25 rfl ?_
  refine x_iconst (pc := 26) (a := 4) dX10_init_26 (by decide) ?_
  refine x_iconst (pc := 27) (a := -1) dX10_init_27 (by decide) ?_
  refine c_iast (pc := 28) rfl rfl dX10_init_28 (fun _ => ?_)
  refine SP.bdp (fun m11 e12 => ?_)
  refine x_dup (pc := 29) dX10_init_29 rfl ?_
  refine x_iconst (pc := 30) (a := 5) dX10_init_30 (by decide) ?_
  refine x_iconst (pc := 31) (a := -1) dX10_init_31 (by decide) ?_
  refine c_iast (pc := 32) rfl rfl dX10_init_32 (fun _ => ?_)
  refine SP.bdp (fun m13 e14 => ?_)
  refine x_dup (pc := 33) dX10_init_33 rfl ?_
  refine x_bipush (pc := 34) (a := 6) dX10_init_34 (by decide) ?_
  refine x_iconst (pc := 36) (a := -1) dX10_init_36 (by decide) ?_
  refine c_iast (pc := 37) rfl rfl dX10_init_37 (fun _ => ?_)
  refine SP.bdp (fun m15 e16 => ?_)
  refine x_dup (pc := 38) dX10_init_38 rfl ?_
  refine x_bipush (pc := 39) (a := 7) dX10_init_39 (by decide) ?_
  refine x_iconst (pc := 41) (a := -1) dX10_init_41 (by decide) ?_
  refine c_iast (pc := 42) rfl rfl dX10_init_42 (fun _ => ?_)
  refine SP.bdp (fun m17 e18 => ?_)
  refine x_dup (pc := 43) dX10_init_43 rfl ?_
  refine x_bipush (pc := 44) (a := 8) dX10_init_44 (by decide) ?_
  refine x_iconst (pc := 46) (a := -1) dX10_init_46 (by decide) ?_
  refine c_iast (pc := 47) rfl rfl dX10_init_47 (fun _ => ?_)
  refine SP.bdp (fun m19 e20 => ?_)
  refine x_dup (pc := 48) dX10_init_48 rfl ?_
  refine x_bipush (pc := 49) (a := 9) dX10_init_49 (by decide) ?_
  refine x_iconst (pc := 51) (a := -1) dX10_init_51 (by decide) ?_
  refine c_iast (pc := 52) rfl rfl dX10_init_52 (fun _ => ?_)
  refine SP.bdp (fun m21 e22 => ?_)
  refine x_dup (pc := 53) dX10_init_53 rfl ?_
  refine x_bipush (pc := 54) (a := 10) dX10_init_54 (by decide) ?_
  refine x_iconst (pc := 56) (a := -1) dX10_init_56 (by decide) ?_
  refine c_iast (pc := 57) rfl rfl dX10_init_57 (fun _ => ?_)
  refine SP.bdp (fun m23 e24 => ?_)
  refine x_dup (pc := 58) dX10_init_58 rfl ?_
  refine x_bipush (pc := 59) (a := 11) dX10_init_59 (by decide) ?_
  refine x_iconst (pc := 61) (a := -1) dX10_init_61 (by decide) ?_
  refine c_iast (pc := 62) rfl rfl dX10_init_62 (fun _ => ?_)
  refine SP.bdp (fun m25 e26 => ?_)
  refine x_dup (pc := 63) dX10_init_63 rfl ?_
  refine x_bipush (pc := 64) (a := 12) dX10_init_64 (by decide) ?_
  refine x_iconst (pc := 66) (a := -1) dX10_init_66 (by decide) ?_
  refine c_iast (pc := 67) rfl rfl dX10_init_67 (fun _ => ?_)
  refine SP.bdp (fun m27 e28 => ?_)
  refine x_dup (pc := 68) dX10_init_68 rfl ?_
  refine x_bipush (pc := 69) (a := 13) dX10_init_69 (by decide) ?_
  refine x_iconst (pc := 71) (a := -1) dX10_init_71 (by decide) ?_
  refine c_iast (pc := 72) rfl rfl dX10_init_72 (fun _ => ?_)
  refine SP.bdp (fun m29 e30 => ?_)
  refine x_dup (pc := 73) dX10_init_73 rfl ?_
  refine x_bipush (pc := 74) (a := 14) dX10_init_74 (by decide) ?_
  refine x_iconst (pc := 76) (a := -1) dX10_init_76 (by decide) ?_
  refine c_iast (pc := 77) rfl rfl dX10_init_77 (fun _ => ?_)
  refine SP.bdp (fun m31 e32 => ?_)
  refine x_dup (pc := 78) dX10_init_78 rfl ?_
  refine x_bipush (pc := 79) (a := 15) dX10_init_79 (by decide) ?_
  refine x_iconst (pc := 81) (a := -1) dX10_init_81 (by decide) ?_
  refine c_iast (pc := 82) rfl rfl dX10_init_82 (fun _ => ?_)
  refine SP.bdp (fun m33 e34 => ?_)
  refine c_putR (pc := 83) (t := 171) xC10 0 (xword 702 (by decide +kernel) rfl) rfl (by decide) rfl (by decide) rfl rfl rfl rfl (fun _ => rfl) (fun _ => rfl) dX10_init_83 ?_
  refine SP.bdp (fun m35 e36 => ?_)
  refine x_aload_n (pc := 86) dX10_init_86 rfl ?_
  refine x_bipush (pc := 87) (a := 16) dX10_init_87 (by decide) ?_
  refine c_newaI (pc := 89) (kc := 1) (ks := 16) 172 (N := 16) (xword 97 (by decide +kernel) rfl) rfl rfl (by decide) (by decide) (by decide) (Nat.le_of_ble_eq_true rfl) (Nat.le_of_ble_eq_true rfl) dX10_init_89 ?_
  refine SP.bdp (fun m37 e38 => ?_)
  refine c_putR (pc := 91) (t := 172) xC10 1 (xword 703 (by decide +kernel) rfl) rfl (by decide) rfl (by decide) rfl rfl rfl rfl (fun _ => rfl) (fun _ => rfl) dX10_init_91 ?_
  refine SP.bdp (fun m39 e40 => ?_)
  refine x_aload_n (pc := 94) dX10_init_94 rfl ?_
  refine x_bipush (pc := 95) (a := 16) dX10_init_95 (by decide) ?_
  refine c_newaI (pc := 97) (kc := 2) (ks := 32) 173 (N := 16) (xword 97 (by decide +kernel) rfl) rfl rfl (by decide) (by decide) (by decide) (Nat.le_of_ble_eq_true rfl) (Nat.le_of_ble_eq_true rfl) dX10_init_97 ?_
  refine SP.bdp (fun m41 e42 => ?_)
  refine c_putR (pc := 99) (t := 173) xC10 2 (xword 704 (by decide +kernel) rfl) rfl (by decide) rfl (by decide) rfl rfl rfl rfl (fun _ => rfl) (fun _ => rfl) dX10_init_99 ?_
  refine SP.bdp (fun m43 e44 => ?_)
  refine x_aload_n (pc := 102) dX10_init_102 rfl ?_
  refine x_bipush (pc := 103) (a := 16) dX10_init_103 (by decide) ?_
  refine c_newaI (pc := 105) (kc := 3) (ks := 48) 174 (N := 16) (xword 97 (by decide +kernel) rfl) rfl rfl (by decide) (by decide) (by decide) (Nat.le_of_ble_eq_true rfl) (Nat.le_of_ble_eq_true rfl) dX10_init_105 ?_
  refine SP.bdp (fun m45 e46 => ?_)
  refine c_putR (pc := 107) (t := 174) xC10 3 (xword 705 (by decide +kernel) rfl) rfl (by decide) rfl (by decide) rfl rfl rfl rfl (fun _ => rfl) (fun _ => rfl) dX10_init_107 ?_
  refine SP.bdp (fun m47 e48 => ?_)
  refine x_aload_n (pc := 110) dX10_init_110 rfl ?_
  refine x_bipush (pc := 111) (a := 16) dX10_init_111 (by decide) ?_
  refine c_newaI (pc := 113) (kc := 4) (ks := 64) 175 (N := 16) (xword 97 (by decide +kernel) rfl) rfl rfl (by decide) (by decide) (by decide) (Nat.le_of_ble_eq_true rfl) (Nat.le_of_ble_eq_true rfl) dX10_init_113 ?_
  refine SP.bdp (fun m49 e50 => ?_)
  refine c_putR (pc := 115) (t := 175) xC10 4 (xword 706 (by decide +kernel) rfl) rfl (by decide) rfl (by decide) rfl rfl rfl rfl (fun _ => rfl) (fun _ => rfl) dX10_init_115 ?_
  refine SP.bdp (fun m51 e52 => ?_)
  refine x_aload_n (pc := 118) dX10_init_118 rfl ?_
  refine x_bipush (pc := 119) (a := 16) dX10_init_119 (by decide) ?_
  refine c_newaI (pc := 121) (kc := 5) (ks := 80) 176 (N := 16) (xword 97 (by decide +kernel) rfl) rfl rfl (by decide) (by decide) (by decide) (Nat.le_of_ble_eq_true rfl) (Nat.le_of_ble_eq_true rfl) dX10_init_121 ?_
  refine SP.bdp (fun m53 e54 => ?_)
  refine c_putR (pc := 123) (t := 176) xC10 5 (xword 707 (by decide +kernel) rfl) rfl (by decide) rfl (by decide) rfl rfl rfl rfl (fun _ => rfl) (fun _ => rfl) dX10_init_123 ?_
  refine SP.bdp (fun m55 e56 => ?_)
  refine x_aload_n (pc := 126) dX10_init_126 rfl ?_
  refine x_sipush (pc := 127) (a := 896) dX10_init_127 (by decide) ?_
  refine c_newaI (pc := 130) (kc := 6) (ks := 96) 177 (N := 896) (xword 97 (by decide +kernel) rfl) rfl rfl (by decide) (by decide) (by decide) (Nat.le_of_ble_eq_true rfl) (Nat.le_of_ble_eq_true rfl) dX10_init_130 ?_
  refine SP.bdp (fun m57 e58 => ?_)
  refine c_putR (pc := 132) (t := 177) xC10 6 (xword 708 (by decide +kernel) rfl) rfl (by decide) rfl (by decide) rfl rfl rfl rfl (fun _ => rfl) (fun _ => rfl) dX10_init_132 ?_
  refine SP.bdp (fun m59 e60 => ?_)
  refine x_aload_n (pc := 135) dX10_init_135 rfl ?_
  refine x_sipush (pc := 136) (a := 896) dX10_init_136 (by decide) ?_
  refine c_newaI (pc := 139) (kc := 7) (ks := 992) 178 (N := 896) (xword 97 (by decide +kernel) rfl) rfl rfl (by decide) (by decide) (by decide) (Nat.le_of_ble_eq_true rfl) (Nat.le_of_ble_eq_true rfl) dX10_init_139 ?_
  refine SP.bdp (fun m61 e62 => ?_)
  refine c_putR (pc := 141) (t := 178) xC10 7 (xword 709 (by decide +kernel) rfl) rfl (by decide) rfl (by decide) rfl rfl rfl rfl (fun _ => rfl) (fun _ => rfl) dX10_init_141 ?_
  refine SP.bdp (fun m63 e64 => ?_)
  refine x_aload_n (pc := 144) dX10_init_144 rfl ?_
  refine x_sipush (pc := 145) (a := 896) dX10_init_145 (by decide) ?_
  refine c_newaI (pc := 148) (kc := 8) (ks := 1888) 179 (N := 896) (xword 97 (by decide +kernel) rfl) rfl rfl (by decide) (by decide) (by decide) (Nat.le_of_ble_eq_true rfl) (Nat.le_of_ble_eq_true rfl) dX10_init_148 ?_
  refine SP.bdp (fun m65 e66 => ?_)
  refine c_putR (pc := 150) (t := 179) xC10 8 (xword 710 (by decide +kernel) rfl) rfl (by decide) rfl (by decide) rfl rfl rfl rfl (fun _ => rfl) (fun _ => rfl) dX10_init_150 ?_
  refine SP.bdp (fun m67 e68 => ?_)
  refine x_aload_n (pc := 153) dX10_init_153 rfl ?_
  refine x_sipush (pc := 154) (a := 896) dX10_init_154 (by decide) ?_
  refine c_newaI (pc := 157) (kc := 9) (ks := 2784) 180 (N := 896) (xword 97 (by decide +kernel) rfl) rfl rfl (by decide) (by decide) (by decide) (Nat.le_of_ble_eq_true rfl) (Nat.le_of_ble_eq_true rfl) dX10_init_157 ?_
  refine SP.bdp (fun m69 e70 => ?_)
  refine c_putR (pc := 159) (t := 180) xC10 9 (xword 711 (by decide +kernel) rfl) rfl (by decide) rfl (by decide) rfl rfl rfl rfl (fun _ => rfl) (fun _ => rfl) dX10_init_159 ?_
  refine SP.bdp (fun m71 e72 => ?_)
  refine x_aload_n (pc := 162) dX10_init_162 rfl ?_
  refine x_bipush (pc := 163) (a := 100) dX10_init_163 (by decide) ?_
  refine c_newaI (pc := 165) (kc := 10) (ks := 3680) 181 (N := 100) (xword 97 (by decide +kernel) rfl) rfl rfl (by decide) (by decide) (by decide) (Nat.le_of_ble_eq_true rfl) (Nat.le_of_ble_eq_true rfl) dX10_init_165 ?_
  refine SP.bdp (fun m73 e74 => ?_)
  refine c_putR (pc := 167) (t := 181) xC10 10 (xword 712 (by decide +kernel) rfl) rfl (by decide) rfl (by decide) rfl rfl rfl rfl (fun _ => rfl) (fun _ => rfl) dX10_init_167 ?_
  refine SP.bdp (fun m75 e76 => ?_)
  refine x_aload_n (pc := 170) dX10_init_170 rfl ?_
  refine x_bipush (pc := 171) (a := 100) dX10_init_171 (by decide) ?_
  refine c_newaI (pc := 173) (kc := 11) (ks := 3780) 182 (N := 100) (xword 97 (by decide +kernel) rfl) rfl rfl (by decide) (by decide) (by decide) (Nat.le_of_ble_eq_true rfl) (Nat.le_of_ble_eq_true rfl) dX10_init_173 ?_
  refine SP.bdp (fun m77 e78 => ?_)
  refine c_putR (pc := 175) (t := 182) xC10 11 (xword 713 (by decide +kernel) rfl) rfl (by decide) rfl (by decide) rfl rfl rfl rfl (fun _ => rfl) (fun _ => rfl) dX10_init_175 ?_
  refine SP.bdp (fun m79 e80 => ?_)
  refine x_aload_n (pc := 178) dX10_init_178 rfl ?_
  refine x_bipush (pc := 179) (a := 100) dX10_init_179 (by decide) ?_
  refine c_newaI (pc := 181) (kc := 12) (ks := 3880) 183 (N := 100) (xword 97 (by decide +kernel) rfl) rfl rfl (by decide) (by decide) (by decide) (Nat.le_of_ble_eq_true rfl) (Nat.le_of_ble_eq_true rfl) dX10_init_181 ?_
  refine SP.bdp (fun m81 e82 => ?_)
  refine c_putR (pc := 183) (t := 183) xC10 12 (xword 714 (by decide +kernel) rfl) rfl (by decide) rfl (by decide) rfl rfl rfl rfl (fun _ => rfl) (fun _ => rfl) dX10_init_183 ?_
  refine SP.bdp (fun m83 e84 => ?_)
  refine x_aload_n (pc := 186) dX10_init_186 rfl ?_
  refine x_bipush (pc := 187) (a := 100) dX10_init_187 (by decide) ?_
  refine c_newaI (pc := 189) (kc := 13) (ks := 3980) 184 (N := 100) (xword 97 (by decide +kernel) rfl) rfl rfl (by decide) (by decide) (by decide) (Nat.le_of_ble_eq_true rfl) (Nat.le_of_ble_eq_true rfl) dX10_init_189 ?_
  refine SP.bdp (fun m85 e86 => ?_)
  refine c_putR (pc := 191) (t := 184) xC10 13 (xword 715 (by decide +kernel) rfl) rfl (by decide) rfl (by decide) rfl rfl rfl rfl (fun _ => rfl) (fun _ => rfl) dX10_init_191 ?_
  refine SP.bdp (fun m87 e88 => ?_)
  refine x_aload_n (pc := 194) dX10_init_194 rfl ?_
  refine x_sipush (pc := 195) (a := 2000) dX10_init_195 (by decide) ?_
  refine c_putI (pc := 198) xC10 16 fl_X10_52 rfl (by decide) rfl (by decide) rfl rfl rfl dX10_init_198 ?_
  refine SP.bdp (fun m89 e90 => ?_)
  refine x_aload_n (pc := 201) dX10_init_201 rfl ?_
  refine x_iconst (pc := 202) (a := 4) dX10_init_202 (by decide) ?_
  refine c_putI (pc := 203) xC10 17 fl_X10_56 rfl (by decide) rfl (by decide) rfl rfl rfl dX10_init_203 ?_
  refine SP.bdp (fun m91 e92 => ?_)
  refine x_aload_n (pc := 206) dX10_init_206 rfl ?_
  refine x_bipush (pc := 207) (a := 10) dX10_init_207 (by decide) ?_
  refine c_putI (pc := 209) xC10 18 fl_X10_59 rfl (by decide) rfl (by decide) rfl rfl rfl dX10_init_209 ?_
  refine SP.bdp (fun m93 e94 => ?_)
  refine x_aload_n (pc := 212) dX10_init_212 rfl ?_
  refine x_bipush (pc := 213) (a := 20) dX10_init_213 (by decide) ?_
  refine c_putI (pc := 215) xC10 19 fl_X10_62 rfl (by decide) rfl (by decide) rfl rfl rfl dX10_init_215 ?_
  refine SP.bdp (fun m95 e96 => ?_)
  refine x_aload_n (pc := 218) dX10_init_218 rfl ?_
  refine x_bipush (pc := 219) (a := 8) dX10_init_219 (by decide) ?_
  refine c_newaI (pc := 221) (kc := 14) (ks := 4080) 185 (N := 8) (xword 97 (by decide +kernel) rfl) rfl rfl (by decide) (by decide) (by decide) (Nat.le_of_ble_eq_true rfl) (Nat.le_of_ble_eq_true rfl) dX10_init_221 ?_
  refine SP.bdp (fun m97 e98 => ?_)
  refine x_dup (pc := 223) dX10_init_223 rfl ?_
  refine x_iconst (pc := 224) (a := 0) dX10_init_224 (by decide) ?_
  refine x_iconst (pc := 225) (a := 1) dX10_init_225 (by decide) ?_
  refine c_iast (pc := 226) rfl rfl dX10_init_226 (fun _ => ?_)
  refine SP.bdp (fun m99 e100 => ?_)
  refine x_dup (pc := 227) dX10_init_227 rfl ?_
  refine x_iconst (pc := 228) (a := 1) dX10_init_228 (by decide) ?_
  refine x_iconst (pc := 229) (a := 0) dX10_init_229 (by decide) ?_
  refine c_iast (pc := 230) rfl rfl dX10_init_230 (fun _ => ?_)
  refine SP.bdp (fun m101 e102 => ?_)
  refine x_dup (pc := 231) dX10_init_231 rfl ?_
  refine x_iconst (pc := 232) (a := 2) dX10_init_232 (by decide) ?_
  refine x_iconst (pc := 233) (a := 0) dX10_init_233 (by decide) ?_
  refine c_iast (pc := 234) rfl rfl dX10_init_234 (fun _ => ?_)
  refine SP.bdp (fun m103 e104 => ?_)
  refine x_dup (pc := 235) dX10_init_235 rfl ?_
  refine x_iconst (pc := 236) (a := 3) dX10_init_236 (by decide) ?_
  refine x_iconst (pc := 237) (a := 0) dX10_init_237 (by decide) ?_
  refine c_iast (pc := 238) rfl rfl dX10_init_238 (fun _ => ?_)
  refine SP.bdp (fun m105 e106 => ?_)
  refine x_dup (pc := 239) dX10_init_239 rfl ?_
  refine x_iconst (pc := 240) (a := 4) dX10_init_240 (by decide) ?_
  refine x_iconst (pc := 241) (a := 0) dX10_init_241 (by decide) ?_
  refine c_iast (pc := 242) rfl rfl dX10_init_242 (fun _ => ?_)
  refine SP.bdp (fun m107 e108 => ?_)
  refine x_dup (pc := 243) dX10_init_243 rfl ?_
  refine x_iconst (pc := 244) (a := 5) dX10_init_244 (by decide) ?_
  refine x_iconst (pc := 245) (a := 0) dX10_init_245 (by decide) ?_
  refine c_iast (pc := 246) rfl rfl dX10_init_246 (fun _ => ?_)
  refine SP.bdp (fun m109 e110 => ?_)
  refine x_dup (pc := 247) dX10_init_247 rfl ?_
  refine x_bipush (pc := 248) (a := 6) dX10_init_248 (by decide) ?_
  refine x_iconst (pc := 250) (a := 0) dX10_init_250 (by decide) ?_
  refine c_iast (pc := 251) rfl rfl dX10_init_251 (fun _ => ?_)
  refine SP.bdp (fun m111 e112 => ?_)
  refine x_dup (pc := 252) dX10_init_252 rfl ?_
  refine x_bipush (pc := 253) (a := 7) dX10_init_253 (by decide) ?_
  refine x_iconst (pc := 255) (a := 0) dX10_init_255 (by decide) ?_
  refine c_iast (pc := 256) rfl rfl dX10_init_256 (fun _ => ?_)
  refine SP.bdp (fun m113 e114 => ?_)
  refine c_putR (pc := 257) (t := 185) xC10 20 (xword 722 (by decide +kernel) rfl) rfl (by decide) rfl (by decide) rfl rfl rfl rfl (fun _ => rfl) (fun _ => rfl) dX10_init_257 ?_
  refine SP.bdp (fun m115 e116 => ?_)
  refine x_aload_n (pc := 260) dX10_init_260 rfl ?_
  refine x_sipush (pc := 261) (a := 800) dX10_init_261 (by decide) ?_
  refine c_newaZ (pc := 264) (kc := 15) (ks := 4088) 186 (N := 800) (xword 278 (by decide +kernel) rfl) rfl rfl (by decide) (by decide) (by decide) (Nat.le_of_ble_eq_true rfl) (Nat.le_of_ble_eq_true rfl) dX10_init_264 ?_
  refine SP.bdp (fun m117 e118 => ?_)
  refine c_putR (pc := 266) (t := 186) xC10 21 (xword 723 (by decide +kernel) rfl) rfl (by decide) rfl (by decide) rfl rfl rfl rfl (fun _ => rfl) (fun _ => rfl) dX10_init_266 ?_
  refine SP.bdp (fun m119 e120 => ?_)
  refine x_aload_n (pc := 269) dX10_init_269 rfl ?_
  refine x_bipush (pc := 270) (a := 16) dX10_init_270 (by decide) ?_
  refine c_newaI (pc := 272) (kc := 16) (ks := 4888) 187 (N := 16) (xword 97 (by decide +kernel) rfl) rfl rfl (by decide) (by decide) (by decide) (Nat.le_of_ble_eq_true rfl) (Nat.le_of_ble_eq_true rfl) dX10_init_272 ?_
  refine SP.bdp (fun m121 e122 => ?_)
  refine c_putR (pc := 274) (t := 187) xC10 22 (xword 724 (by decide +kernel) rfl) rfl (by decide) rfl (by decide) rfl rfl rfl rfl (fun _ => rfl) (fun _ => rfl) dX10_init_274 ?_
  refine SP.bdp (fun m123 e124 => ?_)
  refine x_aload_n (pc := 277) dX10_init_277 rfl ?_
  refine x_iconst (pc := 278) (a := 4) dX10_init_278 (by decide) ?_
  refine c_newaI (pc := 279) (kc := 17) (ks := 4904) 188 (N := 4) (xword 97 (by decide +kernel) rfl) rfl rfl (by decide) (by decide) (by decide) (Nat.le_of_ble_eq_true rfl) (Nat.le_of_ble_eq_true rfl) dX10_init_279 ?_
  refine SP.bdp (fun m125 e126 => ?_)
  refine c_putR (pc := 281) (t := 188) xC10 23 (xword 725 (by decide +kernel) rfl) rfl (by decide) rfl (by decide) rfl rfl rfl rfl (fun _ => rfl) (fun _ => rfl) dX10_init_281 ?_
  refine SP.bdp (fun m127 e128 => ?_)
  refine x_aload_n (pc := 284) dX10_init_284 rfl ?_
  refine x_bipush (pc := 285) (a := 8) dX10_init_285 (by decide) ?_
  refine c_newaJ (pc := 287) (kc := 18) (ks := 4908) 189 (N := 8) (xword 781 (by decide +kernel) rfl) rfl rfl (by decide) (by decide) (by decide) (Nat.le_of_ble_eq_true rfl) (Nat.le_of_ble_eq_true rfl) dX10_init_287 ?_
  refine SP.bdp (fun m129 e130 => ?_)
  refine c_putR (pc := 289) (t := 189) xC10 24 (xword 726 (by decide +kernel) rfl) rfl (by decide) rfl (by decide) rfl rfl rfl rfl (fun _ => rfl) (fun _ => rfl) dX10_init_289 ?_
  refine SP.bdp (fun m131 e132 => ?_)
  refine x_aload_n (pc := 292) dX10_init_292 rfl ?_
  refine x_bipush (pc := 293) (a := 8) dX10_init_293 (by decide) ?_
  refine c_newaJ (pc := 295) (kc := 19) (ks := 4916) 190 (N := 8) (xword 781 (by decide +kernel) rfl) rfl rfl (by decide) (by decide) (by decide) (Nat.le_of_ble_eq_true rfl) (Nat.le_of_ble_eq_true rfl) dX10_init_295 ?_
  refine SP.bdp (fun m133 e134 => ?_)
  refine c_putR (pc := 297) (t := 190) xC10 25 (xword 727 (by decide +kernel) rfl) rfl (by decide) rfl (by decide) rfl rfl rfl rfl (fun _ => rfl) (fun _ => rfl) dX10_init_297 ?_
  refine SP.bdp (fun m135 e136 => ?_)
  exact x_vret (pc := 300) rfl rfl dX10_init_300 (Nat.le_of_ble_eq_true rfl) (Nat.le_of_ble_eq_true rfl)

