set_option maxRecDepth 100000 in
set_option maxHeartbeats 4000000 in
theorem ct_X9_lift (p1 : Int32) (M : xM)  : Ct iX9_lift rIM [(.ref 0), (.int p1)] (xwd M) (fX9_lift p1 M) := by
  refine Ct.of' (L := [some (.ref 0), some (.int p1), none]) 1 rfl (by decide +kernel) (Nat.le_of_ble_eq_true rfl) rfl ?_
  unfold fX9_lift
  refine x_iload_n (pc := 0) dX9_lift_0 rfl ?_
  refine cS_I (pc := 1) (As := [(.int p1)]) (rest := []) (ct_X9_isPlace p1 M) rfl ml_X9_46 meX9_isPlace rfl ⟨prX9_isPlace, (Nat.le_of_ble_eq_true rfl), (Nat.le_of_ble_eq_true rfl), rfl, rfl⟩ (Nat.le_of_ble_eq_true rfl) dX9_lift_1 (fun v1 => ?_)
  refine x_if_eq (pc := 4) (tgt := 23) dX9_lift_4 (by decide) (fun h2 => ?_) (fun h2 => ?_)
  · refine x_iconst (pc := 23) (a := -1) dX9_lift_23 (by decide) ?_
    exact x_iret (pc := 24) rfl rfl dX9_lift_24 (Nat.zero_le _) (Nat.zero_le _)
  · refine x_aload_n (pc := 7) dX9_lift_7 rfl ?_
    refine m_getR (pc := 8) (t := 1) xC9 0 fl_X9_10 rfl (by decide) rfl (by decide) rfl dX9_lift_8 ?_
    refine m_getR (pc := 11) (t := 2) xC6 0 fl_X9_57 rfl (by decide) rfl (by decide) rfl dX9_lift_11 ?_
    refine x_iload_n (pc := 14) dX9_lift_14 rfl ?_
    refine m_aald (pc := 15) (t0 := 3) rfl (by decide) rfl (fun _ => rfl) rfl (xE_pl _) dX9_lift_15 (fun hb3 => ?_)
    refine m_getI (pc := 16) xC7 0 fl_X9_61 (xPl (xinb_lt hb3)) (by decide) rfl (by decide) rfl dX9_lift_16 ?_
    refine x_iconst (pc := 19) (a := -1) dX9_lift_19 (by decide) ?_
    refine x_icmp_ne (pc := 20) (tgt := 25) dX9_lift_20 (by decide) (fun h4 => ?_) (fun h4 => ?_)
    · refine x_aload_n (pc := 25) dX9_lift_25 rfl ?_
      refine m_getR (pc := 26) (t := 1) xC9 0 fl_X9_10 rfl (by decide) rfl (by decide) rfl dX9_lift_26 ?_
      refine m_getR (pc := 29) (t := 2) xC6 0 fl_X9_57 rfl (by decide) rfl (by decide) rfl dX9_lift_29 ?_
      refine x_iload_n (pc := 32) dX9_lift_32 rfl ?_
      refine m_aald (pc := 33) (t0 := 3) rfl (by decide) rfl (fun _ => rfl) rfl (xE_pl _) dX9_lift_33 (fun hb5 => ?_)
      refine m_getI (pc := 34) xC7 0 fl_X9_61 (xPl (xinb_lt hb5)) (by decide) rfl (by decide) rfl dX9_lift_34 ?_
      refine SP.bdi (fun x6 e7 => ?_)
      refine x_istore_n (pc := 37) (L' := [some (.ref 0), some (.int p1), some (.int x6)]) dX9_lift_37 (Nat.le_of_ble_eq_true rfl) rfl rfl ?_
      refine x_aload_n (pc := 38) dX9_lift_38 rfl ?_
      refine m_getR (pc := 39) (t := 1) xC9 0 fl_X9_10 rfl (by decide) rfl (by decide) rfl dX9_lift_39 ?_
      refine m_getR (pc := 42) (t := 2) xC6 0 fl_X9_57 rfl (by decide) rfl (by decide) rfl dX9_lift_42 ?_
      refine x_iload_n (pc := 45) dX9_lift_45 rfl ?_
      refine m_aald (pc := 46) (t0 := 3) rfl (by decide) rfl (fun _ => rfl) rfl (xE_pl _) dX9_lift_46 (fun hb8 => ?_)
      refine cV_M (pc := 47) (As := []) (rest := []) (ct_X7_clear p1.toNatClampNeg M (xinb_lt hb8)) rfl xC7 (xPl (xinb_lt hb8)) (by decide) ml_X9_77 meX7_clear rfl ⟨prX7_clear, (Nat.le_of_ble_eq_true rfl), (Nat.le_of_ble_eq_true rfl), rfl, rfl⟩ (Nat.le_of_ble_eq_true rfl) dX9_lift_47 (fun q9 => ?_)
      refine x_aload_n (pc := 50) dX9_lift_50 rfl ?_
      refine m_getR (pc := 51) (t := 1) xC9 0 fl_X9_10 rfl (by decide) rfl (by decide) rfl dX9_lift_51 ?_
      refine x_dup (pc := 54) dX9_lift_54 rfl ?_
      refine m_getI (pc := 55) xC6 4 fl_X9_74 rfl (by decide) rfl (by decide) rfl dX9_lift_55 ?_
      refine x_iconst (pc := 58) (a := 1) dX9_lift_58 (by decide) ?_
      refine x_iadd (pc := 59) dX9_lift_59 ?_
      refine m_putI (pc := 60) xC6 4 fl_X9_74 rfl (by decide) rfl (by decide) rfl rfl rfl dX9_lift_60 ?_
      refine SP.bdm (fun m10 e11 => ?_)
      refine x_iload_n (pc := 63) dX9_lift_63 rfl ?_
      exact x_iret (pc := 64) rfl rfl dX9_lift_64 (Nat.zero_le _) (Nat.zero_le _)
    · refine x_iconst (pc := 23) (a := -1) dX9_lift_23 (by decide) ?_
      exact x_iret (pc := 24) rfl rfl dX9_lift_24 (Nat.zero_le _) (Nat.zero_le _)

set_option maxRecDepth 100000 in
set_option maxHeartbeats 4000000 in
theorem ct_X9_look (p1 : Int32) (p2 : Int32) (M : xM)  : Ct iX9_look (rI M) [(.ref 0), (.int p1), (.int p2)] (xwd M) (fX9_look p1 p2 M) := by
  refine Ct.of' (L := [some (.ref 0), some (.int p1), some (.int p2), none]) 1 rfl (by decide +kernel) (Nat.le_of_ble_eq_true rfl) rfl ?_
  unfold fX9_look
  refine x_iload_n (pc := 0) dX9_look_0 rfl ?_
  refine cS_I (pc := 1) (As := [(.int p1)]) (rest := []) (ct_X9_isPlace p1 M) rfl ml_X9_46 meX9_isPlace rfl ⟨prX9_isPlace, (Nat.le_of_ble_eq_true rfl), (Nat.le_of_ble_eq_true rfl), rfl, rfl⟩ (Nat.le_of_ble_eq_true rfl) dX9_look_1 (fun v1 => ?_)
  refine x_if_eq (pc := 4) (tgt := 23) dX9_look_4 (by decide) (fun h2 => ?_) (fun h2 => ?_)
  · refine x_iconst (pc := 23) (a := -1) dX9_look_23 (by decide) ?_
    exact x_iret (pc := 24) rfl rfl dX9_look_24 (Nat.zero_le _) (Nat.zero_le _)
  · refine x_aload_n (pc := 7) dX9_look_7 rfl ?_
    refine m_getR (pc := 8) (t := 1) xC9 0 fl_X9_10 rfl (by decide) rfl (by decide) rfl dX9_look_8 ?_
    refine m_getR (pc := 11) (t := 2) xC6 0 fl_X9_57 rfl (by decide) rfl (by decide) rfl dX9_look_11 ?_
    refine x_iload_n (pc := 14) dX9_look_14 rfl ?_
    refine m_aald (pc := 15) (t0 := 3) rfl (by decide) rfl (fun _ => rfl) rfl (xE_pl _) dX9_look_15 (fun hb3 => ?_)
    refine m_getI (pc := 16) xC7 0 fl_X9_61 (xPl (xinb_lt hb3)) (by decide) rfl (by decide) rfl dX9_look_16 ?_
    refine x_iconst (pc := 19) (a := -1) dX9_look_19 (by decide) ?_
    refine x_icmp_ne (pc := 20) (tgt := 25) dX9_look_20 (by decide) (fun h4 => ?_) (fun h4 => ?_)
    · refine x_aload_n (pc := 25) dX9_look_25 rfl ?_
      refine m_getR (pc := 26) (t := 1) xC9 0 fl_X9_10 rfl (by decide) rfl (by decide) rfl dX9_look_26 ?_
      refine m_getR (pc := 29) (t := 2) xC6 0 fl_X9_57 rfl (by decide) rfl (by decide) rfl dX9_look_29 ?_
      refine x_iload_n (pc := 32) dX9_look_32 rfl ?_
      refine m_aald (pc := 33) (t0 := 3) rfl (by decide) rfl (fun _ => rfl) rfl (xE_pl _) dX9_look_33 (fun hb5 => ?_)
      refine x_astore_n (pc := 34) (L' := [some (.ref 0), some (.int p1), some (.int p2), some (.ref (8 + 4 * p1.toNatClampNeg))]) dX9_look_34 (Nat.le_of_ble_eq_true rfl) rfl rfl ?_
      refine x_iload_n (pc := 35) dX9_look_35 rfl ?_
      refine SP.ite (fun h6 => ?_) (fun h6 => ?_)
      · refine x_tsw_in (pc := 36) (tgt := 76) (off := 40) dX9_look_36 (by rw [h6]; decide) (by rw [h6]; decide) (by rw [h6]; rfl) (by decide) ?_
        refine x_aload_n (pc := 76) dX9_look_76 rfl ?_
        refine m_getI (pc := 77) xC7 0 fl_X9_61 (xPl (xinb_lt hb5)) (by decide) rfl (by decide) rfl dX9_look_77 ?_
        exact x_iret (pc := 80) rfl rfl dX9_look_80 (Nat.zero_le _) (Nat.zero_le _)
      refine SP.ite (fun h7 => ?_) (fun h7 => ?_)
      · refine x_tsw_in (pc := 36) (tgt := 81) (off := 45) dX9_look_36 (by rw [h7]; decide) (by rw [h7]; decide) (by rw [h7]; rfl) (by decide) ?_
        refine x_aload_n (pc := 81) dX9_look_81 rfl ?_
        refine m_getI (pc := 82) xC7 1 fl_X9_80 (xPl (xinb_lt hb5)) (by decide) rfl (by decide) rfl dX9_look_82 ?_
        exact x_iret (pc := 85) rfl rfl dX9_look_85 (Nat.zero_le _) (Nat.zero_le _)
      refine SP.ite (fun h8 => ?_) (fun h8 => ?_)
      · refine x_tsw_in (pc := 36) (tgt := 86) (off := 50) dX9_look_36 (by rw [h8]; decide) (by rw [h8]; decide) (by rw [h8]; rfl) (by decide) ?_
        refine x_aload_n (pc := 86) dX9_look_86 rfl ?_
        refine m_getI (pc := 87) xC7 2 fl_X9_83 (xPl (xinb_lt hb5)) (by decide) rfl (by decide) rfl dX9_look_87 ?_
        exact x_iret (pc := 90) rfl rfl dX9_look_90 (Nat.zero_le _) (Nat.zero_le _)
      refine SP.ite (fun h9 => ?_) (fun h9 => ?_)
      · refine x_tsw_in (pc := 36) (tgt := 91) (off := 55) dX9_look_36 (by rw [h9]; decide) (by rw [h9]; decide) (by rw [h9]; rfl) (by decide) ?_
        refine x_aload_n (pc := 91) dX9_look_91 rfl ?_
        refine m_getI (pc := 92) xC7 3 fl_X9_86 (xPl (xinb_lt hb5)) (by decide) rfl (by decide) rfl dX9_look_92 ?_
        exact x_iret (pc := 95) rfl rfl dX9_look_95 (Nat.zero_le _) (Nat.zero_le _)
      refine SP.ite (fun h10 => ?_) (fun h10 => ?_)
      · refine x_tsw_in (pc := 36) (tgt := 96) (off := 60) dX9_look_36 (by rw [h10]; decide) (by rw [h10]; decide) (by rw [h10]; rfl) (by decide) ?_
        refine x_aload_n (pc := 96) dX9_look_96 rfl ?_
        refine m_getI (pc := 97) xC7 4 fl_X9_89 (xPl (xinb_lt hb5)) (by decide) rfl (by decide) rfl dX9_look_97 ?_
        exact x_iret (pc := 100) rfl rfl dX9_look_100 (Nat.zero_le _) (Nat.zero_le _)
      refine SP.ite (fun h11 => ?_) (fun h11 => ?_)
      · refine x_tsw_in (pc := 36) (tgt := 101) (off := 65) dX9_look_36 (by rw [h11]; decide) (by rw [h11]; decide) (by rw [h11]; rfl) (by decide) ?_
        refine x_aload_n (pc := 101) dX9_look_101 rfl ?_
        refine m_getI (pc := 102) xC7 5 fl_X9_92 (xPl (xinb_lt hb5)) (by decide) rfl (by decide) rfl dX9_look_102 ?_
        exact x_iret (pc := 105) rfl rfl dX9_look_105 (Nat.zero_le _) (Nat.zero_le _)
      refine x_tsw_out (pc := 36) (tgt := 106) dX9_look_36 (by have a0 := lv_neT h6 (a := 0) rfl; have a1 := lv_neT h7 (a := 1) rfl; have a2 := lv_neT h8 (a := 2) rfl; have a3 := lv_neT h9 (a := 3) rfl; have a4 := lv_neT h10 (a := 4) rfl; have a5 := lv_neT h11 (a := 5) rfl; omega) (by decide) ?_
      refine x_iconst (pc := 106) (a := -1) dX9_look_106 (by decide) ?_
      exact x_iret (pc := 107) rfl rfl dX9_look_107 (Nat.zero_le _) (Nat.zero_le _)
    · refine x_iconst (pc := 23) (a := -1) dX9_look_23 (by decide) ?_
      exact x_iret (pc := 24) rfl rfl dX9_look_24 (Nat.zero_le _) (Nat.zero_le _)

set_option maxRecDepth 100000 in
set_option maxHeartbeats 4000000 in
theorem ct_X9_gaugeFault (p1 : Int32) (M : xM)  : Ct iX9_gaugeFault (rI M) [(.ref 0), (.int p1)] (xwd M) (fX9_gaugeFault p1 M) := by
  refine Ct.of' (L := [some (.ref 0), some (.int p1)]) 0 rfl (by decide +kernel) (Nat.le_of_ble_eq_true rfl) rfl ?_
  unfold fX9_gaugeFault
  refine x_iload_n (pc := 0) dX9_gaugeFault_0 rfl ?_
  refine cS_I (pc := 1) (As := [(.int p1)]) (rest := []) (ct_X9_isPlace p1 M) rfl ml_X9_46 meX9_isPlace rfl ⟨prX9_isPlace, (Nat.le_of_ble_eq_true rfl), (Nat.le_of_ble_eq_true rfl), rfl, rfl⟩ (Nat.le_of_ble_eq_true rfl) dX9_gaugeFault_1 (fun v1 => ?_)
  refine x_if_eq (pc := 4) (tgt := 23) dX9_gaugeFault_4 (by decide) (fun h2 => ?_) (fun h2 => ?_)
  · refine x_iconst (pc := 23) (a := -1) dX9_gaugeFault_23 (by decide) ?_
    exact x_iret (pc := 24) rfl rfl dX9_gaugeFault_24 (Nat.zero_le _) (Nat.zero_le _)
  · refine x_aload_n (pc := 7) dX9_gaugeFault_7 rfl ?_
    refine m_getR (pc := 8) (t := 1) xC9 0 fl_X9_10 rfl (by decide) rfl (by decide) rfl dX9_gaugeFault_8 ?_
    refine m_getR (pc := 11) (t := 2) xC6 0 fl_X9_57 rfl (by decide) rfl (by decide) rfl dX9_gaugeFault_11 ?_
    refine x_iload_n (pc := 14) dX9_gaugeFault_14 rfl ?_
    refine m_aald (pc := 15) (t0 := 3) rfl (by decide) rfl (fun _ => rfl) rfl (xE_pl _) dX9_gaugeFault_15 (fun hb3 => ?_)
    refine m_getI (pc := 16) xC7 0 fl_X9_61 (xPl (xinb_lt hb3)) (by decide) rfl (by decide) rfl dX9_gaugeFault_16 ?_
    refine x_iconst (pc := 19) (a := -1) dX9_gaugeFault_19 (by decide) ?_
    refine x_icmp_ne (pc := 20) (tgt := 25) dX9_gaugeFault_20 (by decide) (fun h4 => ?_) (fun h4 => ?_)
    · refine x_aload_n (pc := 25) dX9_gaugeFault_25 rfl ?_
      refine m_getR (pc := 26) (t := 1) xC9 0 fl_X9_10 rfl (by decide) rfl (by decide) rfl dX9_gaugeFault_26 ?_
      refine m_getR (pc := 29) (t := 2) xC6 0 fl_X9_57 rfl (by decide) rfl (by decide) rfl dX9_gaugeFault_29 ?_
      refine x_iload_n (pc := 32) dX9_gaugeFault_32 rfl ?_
      refine m_aald (pc := 33) (t0 := 3) rfl (by decide) rfl (fun _ => rfl) rfl (xE_pl _) dX9_gaugeFault_33 (fun hb5 => ?_)
      refine m_getI (pc := 34) xC7 0 fl_X9_61 (xPl (xinb_lt hb5)) (by decide) rfl (by decide) rfl dX9_gaugeFault_34 ?_
      refine x_iconst (pc := 37) (a := 5) dX9_gaugeFault_37 (by decide) ?_
      refine x_icmp_ne (pc := 38) (tgt := 46) dX9_gaugeFault_38 (by decide) (fun h6 => ?_) (fun h6 => ?_)
      · refine x_iconst (pc := 46) (a := 0) dX9_gaugeFault_46 (by decide) ?_
        exact x_iret (pc := 47) rfl rfl dX9_gaugeFault_47 (Nat.zero_le _) (Nat.zero_le _)
      · refine x_bipush (pc := 41) (a := -2) dX9_gaugeFault_41 (by decide) ?_
        refine x_goto (pc := 43) (tgt := 47) dX9_gaugeFault_43 (by decide) ?_
        exact x_iret (pc := 47) rfl rfl dX9_gaugeFault_47 (Nat.zero_le _) (Nat.zero_le _)
    · refine x_iconst (pc := 23) (a := -1) dX9_gaugeFault_23 (by decide) ?_
      exact x_iret (pc := 24) rfl rfl dX9_gaugeFault_24 (Nat.zero_le _) (Nat.zero_le _)

set_option maxRecDepth 100000 in
set_option maxHeartbeats 4000000 in
theorem ct_X9_read (p1 : Int32) (p2 : Int32) (M : xM)  : Ct iX9_read rIM [(.ref 0), (.int p1), (.int p2)] (xwd M) (fX9_read p1 p2 M) := by
  refine Ct.of' (L := [some (.ref 0), some (.int p1), some (.int p2), none, none, none]) 3 rfl (by decide +kernel) (Nat.le_of_ble_eq_true rfl) rfl ?_
  unfold fX9_read
  refine x_aload_n (pc := 0) dX9_read_0 rfl ?_
  refine x_iload_n (pc := 1) dX9_read_1 rfl ?_
  refine cV_I (pc := 2) (As := [(.int p1)]) (rest := []) (ct_X9_gaugeFault p1 M) rfl xC9 rfl (by decide) ml_X9_95 meX9_gaugeFault rfl ⟨prX9_gaugeFault, (Nat.le_of_ble_eq_true rfl), (Nat.le_of_ble_eq_true rfl), rfl, rfl⟩ (Nat.le_of_ble_eq_true rfl) dX9_read_2 (fun v1 => ?_)
  refine x_istore_n (pc := 5) (L' := [some (.ref 0), some (.int p1), some (.int p2), some (.int v1), none, none]) dX9_read_5 (Nat.le_of_ble_eq_true rfl) rfl rfl ?_
  refine x_iload_n (pc := 6) dX9_read_6 rfl ?_
  refine x_if_eq (pc := 7) (tgt := 12) dX9_read_7 (by decide) (fun h2 => ?_) (fun h2 => ?_)
  · refine x_aload_n (pc := 12) dX9_read_12 rfl ?_
    refine m_getR (pc := 13) (t := 1) xC9 0 fl_X9_10 rfl (by decide) rfl (by decide) rfl dX9_read_13 ?_
    refine m_getR (pc := 16) (t := 2) xC6 0 fl_X9_57 rfl (by decide) rfl (by decide) rfl dX9_read_16 ?_
    refine x_iload_n (pc := 19) dX9_read_19 rfl ?_
    refine m_aald (pc := 20) (t0 := 3) rfl (by decide) rfl (fun _ => rfl) rfl (xE_pl _) dX9_read_20 (fun hb3 => ?_)
    refine x_astore (pc := 21) (L' := [some (.ref 0), some (.int p1), some (.int p2), some (.int v1), some (.ref (8 + 4 * p1.toNatClampNeg)), none]) dX9_read_21 (Nat.le_of_ble_eq_true rfl) rfl rfl ?_
    refine x_aload (pc := 23) dX9_read_23 rfl ?_
    refine m_getI (pc := 25) xC7 0 fl_X9_61 (xPl (xinb_lt hb3)) (by decide) rfl (by decide) rfl dX9_read_25 ?_
    refine cS_I (pc := 28) (As := [(.int (M.1 (8 + 4 * p1.toNatClampNeg) 0))]) (rest := []) (ct_X9_hasSize (M.1 (8 + 4 * p1.toNatClampNeg) 0) M) rfl ml_X9_54 meX9_hasSize rfl ⟨prX9_hasSize, (Nat.le_of_ble_eq_true rfl), (Nat.le_of_ble_eq_true rfl), rfl, rfl⟩ (Nat.le_of_ble_eq_true rfl) dX9_read_28 (fun v4 => ?_)
    refine SP.jn 43 (fun (s6 : Int32) => [some (.ref 0), none, some (.int p2), none, some (.ref (8 + 4 * p1.toNatClampNeg)), none]) (fun (s6 : Int32) => [(.int s6)]) (fun (s6 : Int32) => xwd M) (fun kk5 hkk5 => ?_) (fun s6 => ?_)
    · try dsimp only
      refine x_if_eq (pc := 31) (tgt := 40) dX9_read_31 (by decide) (fun h7 => ?_) (fun h7 => ?_)
      · refine x_sipush (pc := 40) (a := 5000) dX9_read_40 (by decide) ?_
        refine SP.mask (pc := 43) [true, false, true, false, true, false] (L' := [some (.ref 0), none, some (.int p2), none, some (.ref (8 + 4 * p1.toNatClampNeg)), none]) rfl ?_
        have hz := hkk5 (5000:Int32)
        try dsimp only at hz
        exact hz
      · refine x_sipush (pc := 34) (a := 250) dX9_read_34 (by decide) ?_
        refine x_goto (pc := 37) (tgt := 43) dX9_read_37 (by decide) ?_
        refine SP.mask (pc := 43) [true, false, true, false, true, false] (L' := [some (.ref 0), none, some (.int p2), none, some (.ref (8 + 4 * p1.toNatClampNeg)), none]) rfl ?_
        have hz := hkk5 (250:Int32)
        try dsimp only at hz
        exact hz
    · try dsimp only
      refine x_istore (pc := 43) (L' := [some (.ref 0), none, some (.int p2), none, some (.ref (8 + 4 * p1.toNatClampNeg)), some (.int s6)]) dX9_read_43 (Nat.le_of_ble_eq_true rfl) rfl rfl ?_
      refine x_iload_n (pc := 45) dX9_read_45 rfl ?_
      refine x_if_lt (pc := 46) (tgt := 68) dX9_read_46 (by decide) (fun h8 => ?_) (fun h8 => ?_)
      · refine x_iconst (pc := 68) (a := -1) dX9_read_68 (by decide) ?_
        exact x_iret (pc := 69) rfl rfl dX9_read_69 (Nat.zero_le _) (Nat.zero_le _)
      · refine x_iload_n (pc := 49) dX9_read_49 rfl ?_
        refine x_iload (pc := 50) dX9_read_50 rfl ?_
        refine x_icmp_gt (pc := 52) (tgt := 68) dX9_read_52 (by decide) (fun h9 => ?_) (fun h9 => ?_)
        · refine x_iconst (pc := 68) (a := -1) dX9_read_68 (by decide) ?_
          exact x_iret (pc := 69) rfl rfl dX9_read_69 (Nat.zero_le _) (Nat.zero_le _)
        · refine x_aload_n (pc := 55) dX9_read_55 rfl ?_
          refine m_getR (pc := 56) (t := 1) xC9 0 fl_X9_10 rfl (by decide) rfl (by decide) rfl dX9_read_56 ?_
          refine m_getI (pc := 59) xC6 3 fl_X9_67 rfl (by decide) rfl (by decide) rfl dX9_read_59 ?_
          refine cS_I (pc := 62) (As := [(.int (M.1 1 3))]) (rest := []) (ct_X9_isDay (M.1 1 3) M) rfl ml_X9_99 meX9_isDay rfl ⟨prX9_isDay, (Nat.le_of_ble_eq_true rfl), (Nat.le_of_ble_eq_true rfl), rfl, rfl⟩ (Nat.le_of_ble_eq_true rfl) dX9_read_62 (fun v10 => ?_)
          refine x_if_ne (pc := 65) (tgt := 70) dX9_read_65 (by decide) (fun h11 => ?_) (fun h11 => ?_)
          · refine x_aload (pc := 70) dX9_read_70 rfl ?_
            refine m_getR (pc := 72) (t := (8 + 4 * p1.toNatClampNeg + 1)) xC7 6 fl_X9_102 (xPl (xinb_lt hb3)) (by decide) rfl (by decide) rfl dX9_read_72 ?_
            refine x_aload_n (pc := 75) dX9_read_75 rfl ?_
            refine m_getR (pc := 76) (t := 1) xC9 0 fl_X9_10 rfl (by decide) rfl (by decide) rfl dX9_read_76 ?_
            refine m_getI (pc := 79) xC6 3 fl_X9_67 rfl (by decide) rfl (by decide) rfl dX9_read_79 ?_
            refine x_iload_n (pc := 82) dX9_read_82 rfl ?_
            refine m_iast (pc := 83) (xPlA (xinb_lt hb3) (Or.inl rfl)) (xPlN (xinb_lt hb3) (Or.inl rfl)) dX9_read_83 (fun hb12 => ?_)
            refine SP.bdm (fun m13 e14 => ?_)
            refine x_aload (pc := 84) dX9_read_84 rfl ?_
            refine m_getI (pc := 86) xC7 0 fl_X9_61 (xPl (xinb_lt hb3)) (by decide) rfl (by decide) rfl dX9_read_86 ?_
            refine x_iconst (pc := 89) (a := 2) dX9_read_89 (by decide) ?_
            refine SP.jn 104 (fun (s16 : xM) => [some (.ref 0), none, none, none, none, none]) (fun (s16 : xM) => []) (fun (s16 : xM) => xwd s16) (fun kk15 hkk15 => ?_) (fun s16 => ?_)
            · try dsimp only
              refine x_icmp_ne (pc := 90) (tgt := 104) dX9_read_90 (by decide) (fun h17 => ?_) (fun h17 => ?_)
              · refine SP.mask (pc := 104) [true, false, false, false, false, false] (L' := [some (.ref 0), none, none, none, none, none]) rfl ?_
                have hz := hkk15 m13
                try dsimp only at hz
                exact hz
              · refine x_aload (pc := 93) dX9_read_93 rfl ?_
                refine x_dup (pc := 95) dX9_read_95 rfl ?_
                refine m_getI (pc := 96) xC7 5 fl_X9_92 (xPl (xinb_lt hb3)) (by decide) rfl (by decide) rfl dX9_read_96 ?_
                refine x_iload_n (pc := 99) dX9_read_99 rfl ?_
                refine x_iadd (pc := 100) dX9_read_100 ?_
                refine m_putI (pc := 101) xC7 5 fl_X9_92 (xPl (xinb_lt hb3)) (by decide) rfl (by decide) rfl rfl rfl dX9_read_101 ?_
                refine SP.bdm (fun m18 e19 => ?_)
                refine SP.mask (pc := 104) [true, false, false, false, false, false] (L' := [some (.ref 0), none, none, none, none, none]) rfl ?_
                have hz := hkk15 m18
                try dsimp only at hz
                exact hz
            · try dsimp only
              refine x_aload_n (pc := 104) dX9_read_104 rfl ?_
              refine m_getR (pc := 105) (t := 1) xC9 0 fl_X9_10 rfl (by decide) rfl (by decide) rfl dX9_read_105 ?_
              refine x_dup (pc := 108) dX9_read_108 rfl ?_
              refine m_getI (pc := 109) xC6 4 fl_X9_74 rfl (by decide) rfl (by decide) rfl dX9_read_109 ?_
              refine x_iconst (pc := 112) (a := 1) dX9_read_112 (by decide) ?_
              refine x_iadd (pc := 113) dX9_read_113 ?_
              refine m_putI (pc := 114) xC6 4 fl_X9_74 rfl (by decide) rfl (by decide) rfl rfl rfl dX9_read_114 ?_
              refine SP.bdm (fun m20 e21 => ?_)
              refine x_iconst (pc := 117) (a := 1) dX9_read_117 (by decide) ?_
              exact x_iret (pc := 118) rfl rfl dX9_read_118 (Nat.zero_le _) (Nat.zero_le _)
          · refine x_iconst (pc := 68) (a := -1) dX9_read_68 (by decide) ?_
            exact x_iret (pc := 69) rfl rfl dX9_read_69 (Nat.zero_le _) (Nat.zero_le _)
  · refine x_iload_n (pc := 10) dX9_read_10 rfl ?_
    exact x_iret (pc := 11) rfl rfl dX9_read_11 (Nat.zero_le _) (Nat.zero_le _)

set_option maxRecDepth 100000 in
set_option maxHeartbeats 4000000 in
theorem ct_X9_kindFault (p1 : Int32) (p2 : Int32) (M : xM)  : Ct iX9_kindFault (rI M) [(.ref 0), (.int p1), (.int p2)] (xwd M) (fX9_kindFault p1 p2 M) := by
  refine Ct.of' (L := [some (.ref 0), some (.int p1), some (.int p2), none]) 1 rfl (by decide +kernel) (Nat.le_of_ble_eq_true rfl) rfl ?_
  unfold fX9_kindFault
  refine x_aload_n (pc := 0) dX9_kindFault_0 rfl ?_
  refine x_iload_n (pc := 1) dX9_kindFault_1 rfl ?_
  refine cV_I (pc := 2) (As := [(.int p1)]) (rest := []) (ct_X9_gaugeFault p1 M) rfl xC9 rfl (by decide) ml_X9_95 meX9_gaugeFault rfl ⟨prX9_gaugeFault, (Nat.le_of_ble_eq_true rfl), (Nat.le_of_ble_eq_true rfl), rfl, rfl⟩ (Nat.le_of_ble_eq_true rfl) dX9_kindFault_2 (fun v1 => ?_)
  refine x_istore_n (pc := 5) (L' := [some (.ref 0), some (.int p1), some (.int p2), some (.int v1)]) dX9_kindFault_5 (Nat.le_of_ble_eq_true rfl) rfl rfl ?_
  refine x_iload_n (pc := 6) dX9_kindFault_6 rfl ?_
  refine x_if_ne (pc := 7) (tgt := 31) dX9_kindFault_7 (by decide) (fun h2 => ?_) (fun h2 => ?_)
  · refine x_iload_n (pc := 31) dX9_kindFault_31 rfl ?_
    exact x_iret (pc := 32) rfl rfl dX9_kindFault_32 (Nat.zero_le _) (Nat.zero_le _)
  · refine x_aload_n (pc := 10) dX9_kindFault_10 rfl ?_
    refine m_getR (pc := 11) (t := 1) xC9 0 fl_X9_10 rfl (by decide) rfl (by decide) rfl dX9_kindFault_11 ?_
    refine m_getR (pc := 14) (t := 2) xC6 0 fl_X9_57 rfl (by decide) rfl (by decide) rfl dX9_kindFault_14 ?_
    refine x_iload_n (pc := 17) dX9_kindFault_17 rfl ?_
    refine m_aald (pc := 18) (t0 := 3) rfl (by decide) rfl (fun _ => rfl) rfl (xE_pl _) dX9_kindFault_18 (fun hb3 => ?_)
    refine m_getI (pc := 19) xC7 0 fl_X9_61 (xPl (xinb_lt hb3)) (by decide) rfl (by decide) rfl dX9_kindFault_19 ?_
    refine x_iload_n (pc := 22) dX9_kindFault_22 rfl ?_
    refine x_icmp_eq (pc := 23) (tgt := 31) dX9_kindFault_23 (by decide) (fun h4 => ?_) (fun h4 => ?_)
    · refine x_iload_n (pc := 31) dX9_kindFault_31 rfl ?_
      exact x_iret (pc := 32) rfl rfl dX9_kindFault_32 (Nat.zero_le _) (Nat.zero_le _)
    · refine x_bipush (pc := 26) (a := -2) dX9_kindFault_26 (by decide) ?_
      refine x_goto (pc := 28) (tgt := 32) dX9_kindFault_28 (by decide) ?_
      exact x_iret (pc := 32) rfl rfl dX9_kindFault_32 (Nat.zero_le _) (Nat.zero_le _)

set_option maxRecDepth 100000 in
set_option maxHeartbeats 4000000 in
theorem ct_X9_noteSecond (p1 : Int32) (p2 : Int32) (p3 : Int32) (M : xM)  : Ct iX9_noteSecond rIM [(.ref 0), (.int p1), (.int p2), (.int p3)] (xwd M) (fX9_noteSecond p1 p2 p3 M) := by
  refine Ct.of' (L := [some (.ref 0), some (.int p1), some (.int p2), some (.int p3)]) 0 rfl (by decide +kernel) (Nat.le_of_ble_eq_true rfl) rfl ?_
  unfold fX9_noteSecond
  refine x_iload_n (pc := 0) dX9_noteSecond_0 rfl ?_
  refine x_if_lt (pc := 1) (tgt := 22) dX9_noteSecond_1 (by decide) (fun h1 => ?_) (fun h1 => ?_)
  · refine x_iconst (pc := 22) (a := -1) dX9_noteSecond_22 (by decide) ?_
    exact x_iret (pc := 23) rfl rfl dX9_noteSecond_23 (Nat.zero_le _) (Nat.zero_le _)
  · refine x_iload_n (pc := 4) dX9_noteSecond_4 rfl ?_
    refine x_iload_n (pc := 5) dX9_noteSecond_5 rfl ?_
    refine x_icmp_gt (pc := 6) (tgt := 22) dX9_noteSecond_6 (by decide) (fun h2 => ?_) (fun h2 => ?_)
    · refine x_iconst (pc := 22) (a := -1) dX9_noteSecond_22 (by decide) ?_
      exact x_iret (pc := 23) rfl rfl dX9_noteSecond_23 (Nat.zero_le _) (Nat.zero_le _)
    · refine x_aload_n (pc := 9) dX9_noteSecond_9 rfl ?_
      refine m_getR (pc := 10) (t := 1) xC9 0 fl_X9_10 rfl (by decide) rfl (by decide) rfl dX9_noteSecond_10 ?_
      refine m_getI (pc := 13) xC6 3 fl_X9_67 rfl (by decide) rfl (by decide) rfl dX9_noteSecond_13 ?_
      refine cS_I (pc := 16) (As := [(.int (M.1 1 3))]) (rest := []) (ct_X9_isDay (M.1 1 3) M) rfl ml_X9_99 meX9_isDay rfl ⟨prX9_isDay, (Nat.le_of_ble_eq_true rfl), (Nat.le_of_ble_eq_true rfl), rfl, rfl⟩ (Nat.le_of_ble_eq_true rfl) dX9_noteSecond_16 (fun v3 => ?_)
      refine x_if_ne (pc := 19) (tgt := 24) dX9_noteSecond_19 (by decide) (fun h4 => ?_) (fun h4 => ?_)
      · refine x_aload_n (pc := 24) dX9_noteSecond_24 rfl ?_
        refine m_getR (pc := 25) (t := 1) xC9 0 fl_X9_10 rfl (by decide) rfl (by decide) rfl dX9_noteSecond_25 ?_
        refine m_getR (pc := 28) (t := 2) xC6 0 fl_X9_57 rfl (by decide) rfl (by decide) rfl dX9_noteSecond_28 ?_
        refine x_iload_n (pc := 31) dX9_noteSecond_31 rfl ?_
        refine m_aald (pc := 32) (t0 := 3) rfl (by decide) rfl (fun _ => rfl) rfl (xE_pl _) dX9_noteSecond_32 (fun hb5 => ?_)
        refine m_getR (pc := 33) (t := (8 + 4 * p1.toNatClampNeg + 2)) xC7 7 fl_X9_227 (xPl (xinb_lt hb5)) (by decide) rfl (by decide) rfl dX9_noteSecond_33 ?_
        refine x_aload_n (pc := 36) dX9_noteSecond_36 rfl ?_
        refine m_getR (pc := 37) (t := 1) xC9 0 fl_X9_10 rfl (by decide) rfl (by decide) rfl dX9_noteSecond_37 ?_
        refine m_getI (pc := 40) xC6 3 fl_X9_67 rfl (by decide) rfl (by decide) rfl dX9_noteSecond_40 ?_
        refine x_iload_n (pc := 43) dX9_noteSecond_43 rfl ?_
        refine m_iast (pc := 44) (xPlA (xinb_lt hb5) (Or.inr (Or.inl rfl))) (xPlN (xinb_lt hb5) (Or.inr (Or.inl rfl))) dX9_noteSecond_44 (fun hb6 => ?_)
        refine SP.bdm (fun m7 e8 => ?_)
        refine x_aload_n (pc := 45) dX9_noteSecond_45 rfl ?_
        refine m_getR (pc := 46) (t := 1) xC9 0 fl_X9_10 rfl (by decide) rfl (by decide) rfl dX9_noteSecond_46 ?_
        refine x_dup (pc := 49) dX9_noteSecond_49 rfl ?_
        refine m_getI (pc := 50) xC6 4 fl_X9_74 rfl (by decide) rfl (by decide) rfl dX9_noteSecond_50 ?_
        refine x_iconst (pc := 53) (a := 1) dX9_noteSecond_53 (by decide) ?_
        refine x_iadd (pc := 54) dX9_noteSecond_54 ?_
        refine m_putI (pc := 55) xC6 4 fl_X9_74 rfl (by decide) rfl (by decide) rfl rfl rfl dX9_noteSecond_55 ?_
        refine SP.bdm (fun m9 e10 => ?_)
        refine x_iconst (pc := 58) (a := 1) dX9_noteSecond_58 (by decide) ?_
        exact x_iret (pc := 59) rfl rfl dX9_noteSecond_59 (Nat.zero_le _) (Nat.zero_le _)
      · refine x_iconst (pc := 22) (a := -1) dX9_noteSecond_22 (by decide) ?_
        exact x_iret (pc := 23) rfl rfl dX9_noteSecond_23 (Nat.zero_le _) (Nat.zero_le _)

set_option maxRecDepth 100000 in
set_option maxHeartbeats 4000000 in
theorem ct_X9_full (p1 : Int32) (p2 : Int32) (M : xM)  : Ct iX9_full rIM [(.ref 0), (.int p1), (.int p2)] (xwd M) (fX9_full p1 p2 M) := by
  refine Ct.of' (L := [some (.ref 0), some (.int p1), some (.int p2), none]) 1 rfl (by decide +kernel) (Nat.le_of_ble_eq_true rfl) rfl ?_
  unfold fX9_full
  refine x_aload_n (pc := 0) dX9_full_0 rfl ?_
  refine x_iload_n (pc := 1) dX9_full_1 rfl ?_
  refine x_iconst (pc := 2) (a := 1) dX9_full_2 (by decide) ?_
  refine cV_I (pc := 3) (As := [(.int p1), (.int (1:Int32))]) (rest := []) (ct_X9_kindFault p1 (1:Int32) M) rfl xC9 rfl (by decide) ml_X9_106 meX9_kindFault rfl ⟨prX9_kindFault, (Nat.le_of_ble_eq_true rfl), (Nat.le_of_ble_eq_true rfl), rfl, rfl⟩ (Nat.le_of_ble_eq_true rfl) dX9_full_3 (fun v1 => ?_)
  refine x_istore_n (pc := 6) (L' := [some (.ref 0), some (.int p1), some (.int p2), some (.int v1)]) dX9_full_6 (Nat.le_of_ble_eq_true rfl) rfl rfl ?_
  refine x_iload_n (pc := 7) dX9_full_7 rfl ?_
  refine x_if_eq (pc := 8) (tgt := 15) dX9_full_8 (by decide) (fun h2 => ?_) (fun h2 => ?_)
  · refine x_aload_n (pc := 15) dX9_full_15 rfl ?_
    refine x_iload_n (pc := 16) dX9_full_16 rfl ?_
    refine x_iload_n (pc := 17) dX9_full_17 rfl ?_
    refine x_bipush (pc := 18) (a := 7) dX9_full_18 (by decide) ?_
    refine cV_IM (pc := 20) (As := [(.int p1), (.int p2), (.int (7:Int32))]) (rest := []) (ct_X9_noteSecond p1 p2 (7:Int32) M) rfl xC9 rfl (by decide) ml_X9_110 meX9_noteSecond rfl ⟨prX9_noteSecond, (Nat.le_of_ble_eq_true rfl), (Nat.le_of_ble_eq_true rfl), rfl, rfl⟩ (Nat.le_of_ble_eq_true rfl) dX9_full_20 (fun q3 => ?_)
    exact x_iret (pc := 23) rfl rfl dX9_full_23 (Nat.zero_le _) (Nat.zero_le _)
  · refine x_iload_n (pc := 11) dX9_full_11 rfl ?_
    refine x_goto (pc := 12) (tgt := 23) dX9_full_12 (by decide) ?_
    exact x_iret (pc := 23) rfl rfl dX9_full_23 (Nat.zero_le _) (Nat.zero_le _)

set_option maxRecDepth 100000 in
set_option maxHeartbeats 4000000 in
theorem ct_X9_melt (p1 : Int32) (p2 : Int32) (M : xM)  : Ct iX9_melt rIM [(.ref 0), (.int p1), (.int p2)] (xwd M) (fX9_melt p1 p2 M) := by
  refine Ct.of' (L := [some (.ref 0), some (.int p1), some (.int p2), none, none]) 2 rfl (by decide +kernel) (Nat.le_of_ble_eq_true rfl) rfl ?_
  unfold fX9_melt
  refine x_aload_n (pc := 0) dX9_melt_0 rfl ?_
  refine x_iload_n (pc := 1) dX9_melt_1 rfl ?_
  refine x_iconst (pc := 2) (a := 2) dX9_melt_2 (by decide) ?_
  refine cV_I (pc := 3) (As := [(.int p1), (.int (2:Int32))]) (rest := []) (ct_X9_kindFault p1 (2:Int32) M) rfl xC9 rfl (by decide) ml_X9_106 meX9_kindFault rfl ⟨prX9_kindFault, (Nat.le_of_ble_eq_true rfl), (Nat.le_of_ble_eq_true rfl), rfl, rfl⟩ (Nat.le_of_ble_eq_true rfl) dX9_melt_3 (fun v1 => ?_)
  refine x_istore_n (pc := 6) (L' := [some (.ref 0), some (.int p1), some (.int p2), some (.int v1), none]) dX9_melt_6 (Nat.le_of_ble_eq_true rfl) rfl rfl ?_
  refine x_iload_n (pc := 7) dX9_melt_7 rfl ?_
  refine x_if_eq (pc := 8) (tgt := 13) dX9_melt_8 (by decide) (fun h2 => ?_) (fun h2 => ?_)
  · refine x_iload_n (pc := 13) dX9_melt_13 rfl ?_
    refine x_iconst (pc := 14) (a := 1) dX9_melt_14 (by decide) ?_
    refine x_icmp_lt (pc := 15) (tgt := 25) dX9_melt_15 (by decide) (fun h3 => ?_) (fun h3 => ?_)
    · refine x_iconst (pc := 25) (a := -1) dX9_melt_25 (by decide) ?_
      exact x_iret (pc := 26) rfl rfl dX9_melt_26 (Nat.zero_le _) (Nat.zero_le _)
    · refine x_iload_n (pc := 18) dX9_melt_18 rfl ?_
      refine x_sipush (pc := 19) (a := 5000) dX9_melt_19 (by decide) ?_
      refine x_icmp_le (pc := 22) (tgt := 27) dX9_melt_22 (by decide) (fun h4 => ?_) (fun h4 => ?_)
      · refine x_aload_n (pc := 27) dX9_melt_27 rfl ?_
        refine m_getR (pc := 28) (t := 1) xC9 0 fl_X9_10 rfl (by decide) rfl (by decide) rfl dX9_melt_28 ?_
        refine m_getR (pc := 31) (t := 2) xC6 0 fl_X9_57 rfl (by decide) rfl (by decide) rfl dX9_melt_31 ?_
        refine x_iload_n (pc := 34) dX9_melt_34 rfl ?_
        refine m_aald (pc := 35) (t0 := 3) rfl (by decide) rfl (fun _ => rfl) rfl (xE_pl _) dX9_melt_35 (fun hb5 => ?_)
        refine x_aload_n (pc := 36) dX9_melt_36 rfl ?_
        refine m_getR (pc := 37) (t := 1) xC9 0 fl_X9_10 rfl (by decide) rfl (by decide) rfl dX9_melt_37 ?_
        refine m_getI (pc := 40) xC6 3 fl_X9_67 rfl (by decide) rfl (by decide) rfl dX9_melt_40 ?_
        refine x_iload_n (pc := 43) dX9_melt_43 rfl ?_
        refine cV_IM (pc := 44) (As := [(.int (M.1 1 3)), (.int p2)]) (rest := []) (ct_X7_meltAway p1.toNatClampNeg (M.1 1 3) p2 M (xinb_lt hb5)) rfl xC7 (xPl (xinb_lt hb5)) (by decide) ml_X9_114 meX7_meltAway rfl ⟨prX7_meltAway, (Nat.le_of_ble_eq_true rfl), (Nat.le_of_ble_eq_true rfl), rfl, rfl⟩ (Nat.le_of_ble_eq_true rfl) dX9_melt_44 (fun q6 => ?_)
        refine x_istore (pc := 47) (L' := [some (.ref 0), some (.int p1), some (.int p2), some (.int v1), some (.int q6.1)]) dX9_melt_47 (Nat.le_of_ble_eq_true rfl) rfl rfl ?_
        refine x_iload (pc := 49) dX9_melt_49 rfl ?_
        refine x_iconst (pc := 51) (a := -1) dX9_melt_51 (by decide) ?_
        refine x_icmp_eq (pc := 52) (tgt := 68) dX9_melt_52 (by decide) (fun h7 => ?_) (fun h7 => ?_)
        · refine x_iload (pc := 68) dX9_melt_68 rfl ?_
          exact x_iret (pc := 70) rfl rfl dX9_melt_70 (Nat.zero_le _) (Nat.zero_le _)
        · refine x_aload_n (pc := 55) dX9_melt_55 rfl ?_
          refine m_getR (pc := 56) (t := 1) xC9 0 fl_X9_10 rfl (by decide) rfl (by decide) rfl dX9_melt_56 ?_
          refine x_dup (pc := 59) dX9_melt_59 rfl ?_
          refine m_getI (pc := 60) xC6 4 fl_X9_74 rfl (by decide) rfl (by decide) rfl dX9_melt_60 ?_
          refine x_iconst (pc := 63) (a := 1) dX9_melt_63 (by decide) ?_
          refine x_iadd (pc := 64) dX9_melt_64 ?_
          refine m_putI (pc := 65) xC6 4 fl_X9_74 rfl (by decide) rfl (by decide) rfl rfl rfl dX9_melt_65 ?_
          refine SP.bdm (fun m8 e9 => ?_)
          refine x_iload (pc := 68) dX9_melt_68 rfl ?_
          exact x_iret (pc := 70) rfl rfl dX9_melt_70 (Nat.zero_le _) (Nat.zero_le _)
      · refine x_iconst (pc := 25) (a := -1) dX9_melt_25 (by decide) ?_
        exact x_iret (pc := 26) rfl rfl dX9_melt_26 (Nat.zero_le _) (Nat.zero_le _)
  · refine x_iload_n (pc := 11) dX9_melt_11 rfl ?_
    exact x_iret (pc := 12) rfl rfl dX9_melt_12 (Nat.zero_le _) (Nat.zero_le _)

set_option maxRecDepth 100000 in
set_option maxHeartbeats 4000000 in
theorem ct_X9_other (p1 : Int32) (p2 : Int32) (M : xM)  : Ct iX9_other rIM [(.ref 0), (.int p1), (.int p2)] (xwd M) (fX9_other p1 p2 M) := by
  refine Ct.of' (L := [some (.ref 0), some (.int p1), some (.int p2), none]) 1 rfl (by decide +kernel) (Nat.le_of_ble_eq_true rfl) rfl ?_
  unfold fX9_other
  refine x_aload_n (pc := 0) dX9_other_0 rfl ?_
  refine x_iload_n (pc := 1) dX9_other_1 rfl ?_
  refine x_iconst (pc := 2) (a := 4) dX9_other_2 (by decide) ?_
  refine cV_I (pc := 3) (As := [(.int p1), (.int (4:Int32))]) (rest := []) (ct_X9_kindFault p1 (4:Int32) M) rfl xC9 rfl (by decide) ml_X9_106 meX9_kindFault rfl ⟨prX9_kindFault, (Nat.le_of_ble_eq_true rfl), (Nat.le_of_ble_eq_true rfl), rfl, rfl⟩ (Nat.le_of_ble_eq_true rfl) dX9_other_3 (fun v1 => ?_)
  refine x_istore_n (pc := 6) (L' := [some (.ref 0), some (.int p1), some (.int p2), some (.int v1)]) dX9_other_6 (Nat.le_of_ble_eq_true rfl) rfl rfl ?_
  refine x_iload_n (pc := 7) dX9_other_7 rfl ?_
  refine x_if_eq (pc := 8) (tgt := 15) dX9_other_8 (by decide) (fun h2 => ?_) (fun h2 => ?_)
  · refine x_aload_n (pc := 15) dX9_other_15 rfl ?_
    refine x_iload_n (pc := 16) dX9_other_16 rfl ?_
    refine x_iload_n (pc := 17) dX9_other_17 rfl ?_
    refine x_sipush (pc := 18) (a := 250) dX9_other_18 (by decide) ?_
    refine cV_IM (pc := 21) (As := [(.int p1), (.int p2), (.int (250:Int32))]) (rest := []) (ct_X9_noteSecond p1 p2 (250:Int32) M) rfl xC9 rfl (by decide) ml_X9_110 meX9_noteSecond rfl ⟨prX9_noteSecond, (Nat.le_of_ble_eq_true rfl), (Nat.le_of_ble_eq_true rfl), rfl, rfl⟩ (Nat.le_of_ble_eq_true rfl) dX9_other_21 (fun q3 => ?_)
    exact x_iret (pc := 24) rfl rfl dX9_other_24 (Nat.zero_le _) (Nat.zero_le _)
  · refine x_iload_n (pc := 11) dX9_other_11 rfl ?_
    refine x_goto (pc := 12) (tgt := 24) dX9_other_12 (by decide) ?_
    exact x_iret (pc := 24) rfl rfl dX9_other_24 (Nat.zero_le _) (Nat.zero_le _)

set_option maxRecDepth 100000 in
set_option maxHeartbeats 4000000 in
theorem ct_X9_dailyGaugeFault (p1 : Int32) (M : xM)  : Ct iX9_dailyGaugeFault (rI M) [(.ref 0), (.int p1)] (xwd M) (fX9_dailyGaugeFault p1 M) := by
  refine Ct.of' (L := [some (.ref 0), some (.int p1), none]) 1 rfl (by decide +kernel) (Nat.le_of_ble_eq_true rfl) rfl ?_
  unfold fX9_dailyGaugeFault
  refine x_aload_n (pc := 0) dX9_dailyGaugeFault_0 rfl ?_
  refine x_iload_n (pc := 1) dX9_dailyGaugeFault_1 rfl ?_
  refine cV_I (pc := 2) (As := [(.int p1)]) (rest := []) (ct_X9_gaugeFault p1 M) rfl xC9 rfl (by decide) ml_X9_95 meX9_gaugeFault rfl ⟨prX9_gaugeFault, (Nat.le_of_ble_eq_true rfl), (Nat.le_of_ble_eq_true rfl), rfl, rfl⟩ (Nat.le_of_ble_eq_true rfl) dX9_dailyGaugeFault_2 (fun v1 => ?_)
  refine x_istore_n (pc := 5) (L' := [some (.ref 0), some (.int p1), some (.int v1)]) dX9_dailyGaugeFault_5 (Nat.le_of_ble_eq_true rfl) rfl rfl ?_
  refine x_iload_n (pc := 6) dX9_dailyGaugeFault_6 rfl ?_
  refine x_if_ne (pc := 7) (tgt := 31) dX9_dailyGaugeFault_7 (by decide) (fun h2 => ?_) (fun h2 => ?_)
  · refine x_iload_n (pc := 31) dX9_dailyGaugeFault_31 rfl ?_
    exact x_iret (pc := 32) rfl rfl dX9_dailyGaugeFault_32 (Nat.zero_le _) (Nat.zero_le _)
  · refine x_aload_n (pc := 10) dX9_dailyGaugeFault_10 rfl ?_
    refine m_getR (pc := 11) (t := 1) xC9 0 fl_X9_10 rfl (by decide) rfl (by decide) rfl dX9_dailyGaugeFault_11 ?_
    refine m_getR (pc := 14) (t := 2) xC6 0 fl_X9_57 rfl (by decide) rfl (by decide) rfl dX9_dailyGaugeFault_14 ?_
    refine x_iload_n (pc := 17) dX9_dailyGaugeFault_17 rfl ?_
    refine m_aald (pc := 18) (t0 := 3) rfl (by decide) rfl (fun _ => rfl) rfl (xE_pl _) dX9_dailyGaugeFault_18 (fun hb3 => ?_)
    refine m_getI (pc := 19) xC7 0 fl_X9_61 (xPl (xinb_lt hb3)) (by decide) rfl (by decide) rfl dX9_dailyGaugeFault_19 ?_
    refine x_iconst (pc := 22) (a := 3) dX9_dailyGaugeFault_22 (by decide) ?_
    refine x_icmp_ne (pc := 23) (tgt := 31) dX9_dailyGaugeFault_23 (by decide) (fun h4 => ?_) (fun h4 => ?_)
    · refine x_iload_n (pc := 31) dX9_dailyGaugeFault_31 rfl ?_
      exact x_iret (pc := 32) rfl rfl dX9_dailyGaugeFault_32 (Nat.zero_le _) (Nat.zero_le _)
    · refine x_bipush (pc := 26) (a := -2) dX9_dailyGaugeFault_26 (by decide) ?_
      refine x_goto (pc := 28) (tgt := 32) dX9_dailyGaugeFault_28 (by decide) ?_
      exact x_iret (pc := 32) rfl rfl dX9_dailyGaugeFault_32 (Nat.zero_le _) (Nat.zero_le _)

set_option maxRecDepth 100000 in
set_option maxHeartbeats 4000000 in
theorem ct_X9_hand (p1 : Int32) (p2 : Int32) (p3 : Int32) (M : xM)  : Ct iX9_hand rIM [(.ref 0), (.int p1), (.int p2), (.int p3)] (xwd M) (fX9_hand p1 p2 p3 M) := by
  refine Ct.of' (L := [some (.ref 0), some (.int p1), some (.int p2), some (.int p3), none, none, none]) 3 rfl (by decide +kernel) (Nat.le_of_ble_eq_true rfl) rfl ?_
  unfold fX9_hand
  refine x_aload_n (pc := 0) dX9_hand_0 rfl ?_
  refine x_iload_n (pc := 1) dX9_hand_1 rfl ?_
  refine cV_I (pc := 2) (As := [(.int p1)]) (rest := []) (ct_X9_dailyGaugeFault p1 M) rfl xC9 rfl (by decide) ml_X9_117 meX9_dailyGaugeFault rfl ⟨prX9_dailyGaugeFault, (Nat.le_of_ble_eq_true rfl), (Nat.le_of_ble_eq_true rfl), rfl, rfl⟩ (Nat.le_of_ble_eq_true rfl) dX9_hand_2 (fun v1 => ?_)
  refine x_istore (pc := 5) (L' := [some (.ref 0), some (.int p1), some (.int p2), some (.int p3), some (.int v1), none, none]) dX9_hand_5 (Nat.le_of_ble_eq_true rfl) rfl rfl ?_
  refine x_iload (pc := 7) dX9_hand_7 rfl ?_
  refine x_if_eq (pc := 9) (tgt := 15) dX9_hand_9 (by decide) (fun h2 => ?_) (fun h2 => ?_)
  · refine x_aload_n (pc := 15) dX9_hand_15 rfl ?_
    refine m_getR (pc := 16) (t := 1) xC9 0 fl_X9_10 rfl (by decide) rfl (by decide) rfl dX9_hand_16 ?_
    refine m_getR (pc := 19) (t := 2) xC6 0 fl_X9_57 rfl (by decide) rfl (by decide) rfl dX9_hand_19 ?_
    refine x_iload_n (pc := 22) dX9_hand_22 rfl ?_
    refine m_aald (pc := 23) (t0 := 3) rfl (by decide) rfl (fun _ => rfl) rfl (xE_pl _) dX9_hand_23 (fun hb3 => ?_)
    refine x_astore (pc := 24) (L' := [some (.ref 0), some (.int p1), some (.int p2), some (.int p3), some (.int v1), some (.ref (8 + 4 * p1.toNatClampNeg)), none]) dX9_hand_24 (Nat.le_of_ble_eq_true rfl) rfl rfl ?_
    refine x_iload_n (pc := 26) dX9_hand_26 rfl ?_
    refine x_iconst (pc := 27) (a := -1) dX9_hand_27 (by decide) ?_
    refine x_icmp_lt (pc := 28) (tgt := 65) dX9_hand_28 (by decide) (fun h4 => ?_) (fun h4 => ?_)
    · refine x_iconst (pc := 65) (a := -1) dX9_hand_65 (by decide) ?_
      exact x_iret (pc := 66) rfl rfl dX9_hand_66 (Nat.zero_le _) (Nat.zero_le _)
    · refine x_iload_n (pc := 31) dX9_hand_31 rfl ?_
      refine x_sipush (pc := 32) (a := 5000) dX9_hand_32 (by decide) ?_
      refine x_icmp_gt (pc := 35) (tgt := 65) dX9_hand_35 (by decide) (fun h5 => ?_) (fun h5 => ?_)
      · refine x_iconst (pc := 65) (a := -1) dX9_hand_65 (by decide) ?_
        exact x_iret (pc := 66) rfl rfl dX9_hand_66 (Nat.zero_le _) (Nat.zero_le _)
      · refine x_iload_n (pc := 38) dX9_hand_38 rfl ?_
        refine cS_I (pc := 39) (As := [(.int p2)]) (rest := []) (ct_X9_isDay p2 M) rfl ml_X9_99 meX9_isDay rfl ⟨prX9_isDay, (Nat.le_of_ble_eq_true rfl), (Nat.le_of_ble_eq_true rfl), rfl, rfl⟩ (Nat.le_of_ble_eq_true rfl) dX9_hand_39 (fun v6 => ?_)
        refine x_if_eq (pc := 42) (tgt := 65) dX9_hand_42 (by decide) (fun h7 => ?_) (fun h7 => ?_)
        · refine x_iconst (pc := 65) (a := -1) dX9_hand_65 (by decide) ?_
          exact x_iret (pc := 66) rfl rfl dX9_hand_66 (Nat.zero_le _) (Nat.zero_le _)
        · refine x_iload_n (pc := 45) dX9_hand_45 rfl ?_
          refine x_aload (pc := 46) dX9_hand_46 rfl ?_
          refine m_getI (pc := 48) xC7 4 fl_X9_89 (xPl (xinb_lt hb3)) (by decide) rfl (by decide) rfl dX9_hand_48 ?_
          refine x_icmp_lt (pc := 51) (tgt := 65) dX9_hand_51 (by decide) (fun h8 => ?_) (fun h8 => ?_)
          · refine x_iconst (pc := 65) (a := -1) dX9_hand_65 (by decide) ?_
            exact x_iret (pc := 66) rfl rfl dX9_hand_66 (Nat.zero_le _) (Nat.zero_le _)
          · refine x_iload_n (pc := 54) dX9_hand_54 rfl ?_
            refine x_aload_n (pc := 55) dX9_hand_55 rfl ?_
            refine m_getR (pc := 56) (t := 1) xC9 0 fl_X9_10 rfl (by decide) rfl (by decide) rfl dX9_hand_56 ?_
            refine m_getI (pc := 59) xC6 3 fl_X9_67 rfl (by decide) rfl (by decide) rfl dX9_hand_59 ?_
            refine x_icmp_le (pc := 62) (tgt := 67) dX9_hand_62 (by decide) (fun h9 => ?_) (fun h9 => ?_)
            · refine x_aload_n (pc := 67) dX9_hand_67 rfl ?_
              refine m_getR (pc := 68) (t := 1) xC9 0 fl_X9_10 rfl (by decide) rfl (by decide) rfl dX9_hand_68 ?_
              refine m_getR (pc := 71) (t := 3) xC6 1 fl_X9_120 rfl (by decide) rfl (by decide) rfl dX9_hand_71 ?_
              refine x_iload_n (pc := 74) dX9_hand_74 rfl ?_
              refine x_aload_n (pc := 75) dX9_hand_75 rfl ?_
              refine m_getR (pc := 76) (t := 1) xC9 0 fl_X9_10 rfl (by decide) rfl (by decide) rfl dX9_hand_76 ?_
              refine m_getI (pc := 79) xC6 3 fl_X9_67 rfl (by decide) rfl (by decide) rfl dX9_hand_79 ?_
              refine x_aload (pc := 82) dX9_hand_82 rfl ?_
              refine m_getR (pc := 84) (t := (8 + 4 * p1.toNatClampNeg + 3)) xC7 8 fl_X9_124 (xPl (xinb_lt hb3)) (by decide) rfl (by decide) rfl dX9_hand_84 ?_
              refine x_iload_n (pc := 87) dX9_hand_87 rfl ?_
              refine m_iald (pc := 88) (xPlA (xinb_lt hb3) (Or.inr (Or.inr rfl))) (xPlN (xinb_lt hb3) (Or.inr (Or.inr rfl))) dX9_hand_88 (fun hb10 => ?_)
              refine cV_IM (pc := 89) (As := [(.int p3), (.int (M.1 1 3)), (.int (M.1 (8 + 4 * p1.toNatClampNeg + 3) p2.toNatClampNeg))]) (rest := []) (ct_X3_append p3 (M.1 1 3) (M.1 (8 + 4 * p1.toNatClampNeg + 3) p2.toNatClampNeg) M) rfl xC3 rfl (by decide) ml_X9_127 meX3_append rfl ⟨prX3_append, (Nat.le_of_ble_eq_true rfl), (Nat.le_of_ble_eq_true rfl), rfl, rfl⟩ (Nat.le_of_ble_eq_true rfl) dX9_hand_89 (fun q11 => ?_)
              refine x_istore (pc := 92) (L' := [some (.ref 0), some (.int p1), some (.int p2), some (.int p3), some (.int v1), some (.ref (8 + 4 * p1.toNatClampNeg)), some (.int q11.1)]) dX9_hand_92 (Nat.le_of_ble_eq_true rfl) rfl rfl ?_
              refine x_iload (pc := 94) dX9_hand_94 rfl ?_
              refine x_iconst (pc := 96) (a := -1) dX9_hand_96 (by decide) ?_
              refine x_icmp_ne (pc := 97) (tgt := 102) dX9_hand_97 (by decide) (fun h12 => ?_) (fun h12 => ?_)
              · refine x_aload (pc := 102) dX9_hand_102 rfl ?_
                refine m_getR (pc := 104) (t := (8 + 4 * p1.toNatClampNeg + 3)) xC7 8 fl_X9_124 (xPl (xinb_lt hb3)) (by decide) rfl (by decide) rfl dX9_hand_104 ?_
                refine x_iload_n (pc := 107) dX9_hand_107 rfl ?_
                refine x_iload (pc := 108) dX9_hand_108 rfl ?_
                refine m_iast (pc := 110) (xPlA (xinb_lt hb3) (Or.inr (Or.inr rfl))) (xPlN (xinb_lt hb3) (Or.inr (Or.inr rfl))) dX9_hand_110 (fun hb13 => ?_)
                refine SP.bdm (fun m14 e15 => ?_)
                refine x_aload_n (pc := 111) dX9_hand_111 rfl ?_
                refine m_getR (pc := 112) (t := 1) xC9 0 fl_X9_10 rfl (by decide) rfl (by decide) rfl dX9_hand_112 ?_
                refine x_dup (pc := 115) dX9_hand_115 rfl ?_
                refine m_getI (pc := 116) xC6 4 fl_X9_74 rfl (by decide) rfl (by decide) rfl dX9_hand_116 ?_
                refine x_iconst (pc := 119) (a := 1) dX9_hand_119 (by decide) ?_
                refine x_iadd (pc := 120) dX9_hand_120 ?_
                refine m_putI (pc := 121) xC6 4 fl_X9_74 rfl (by decide) rfl (by decide) rfl rfl rfl dX9_hand_121 ?_
                refine SP.bdm (fun m16 e17 => ?_)
                refine x_iload (pc := 124) dX9_hand_124 rfl ?_
                refine x_iconst (pc := 126) (a := 1) dX9_hand_126 (by decide) ?_
                refine x_iadd (pc := 127) dX9_hand_127 ?_
                exact x_iret (pc := 128) rfl rfl dX9_hand_128 (Nat.zero_le _) (Nat.zero_le _)
              · refine x_iconst (pc := 100) (a := -1) dX9_hand_100 (by decide) ?_
                exact x_iret (pc := 101) rfl rfl dX9_hand_101 (Nat.zero_le _) (Nat.zero_le _)
            · refine x_iconst (pc := 65) (a := -1) dX9_hand_65 (by decide) ?_
              exact x_iret (pc := 66) rfl rfl dX9_hand_66 (Nat.zero_le _) (Nat.zero_le _)
  · refine x_iload (pc := 12) dX9_hand_12 rfl ?_
    exact x_iret (pc := 14) rfl rfl dX9_hand_14 (Nat.zero_le _) (Nat.zero_le _)

set_option maxRecDepth 100000 in
set_option maxHeartbeats 4000000 in
theorem ct_X9_close  (M : xM)  : Ct iX9_close rIM [(.ref 0)] (xwd M) (fX9_close M) := by
  refine Ct.of' (L := [some (.ref 0)]) 0 rfl (by decide +kernel) (Nat.le_of_ble_eq_true rfl) rfl ?_
  unfold fX9_close
  refine x_aload_n (pc := 0) dX9_close_0 rfl ?_
  refine m_getR (pc := 1) (t := 1) xC9 0 fl_X9_10 rfl (by decide) rfl (by decide) rfl dX9_close_1 ?_
  refine m_getI (pc := 4) xC6 3 fl_X9_67 rfl (by decide) rfl (by decide) rfl dX9_close_4 ?_
  refine x_bipush (pc := 7) (a := 56) dX9_close_7 (by decide) ?_
  refine x_icmp_lt (pc := 9) (tgt := 14) dX9_close_9 (by decide) (fun h1 => ?_) (fun h1 => ?_)
  · refine x_aload_n (pc := 14) dX9_close_14 rfl ?_
    refine m_getR (pc := 15) (t := 1) xC9 0 fl_X9_10 rfl (by decide) rfl (by decide) rfl dX9_close_15 ?_
    refine x_dup (pc := 18) dX9_close_18 rfl ?_
    refine m_getI (pc := 19) xC6 3 fl_X9_67 rfl (by decide) rfl (by decide) rfl dX9_close_19 ?_
    refine x_iconst (pc := 22) (a := 1) dX9_close_22 (by decide) ?_
    refine x_iadd (pc := 23) dX9_close_23 ?_
    refine m_putI (pc := 24) xC6 3 fl_X9_67 rfl (by decide) rfl (by decide) rfl rfl rfl dX9_close_24 ?_
    refine SP.bdm (fun m2 e3 => ?_)
    refine x_aload_n (pc := 27) dX9_close_27 rfl ?_
    refine m_getR (pc := 28) (t := 1) xC9 0 fl_X9_10 rfl (by decide) rfl (by decide) rfl dX9_close_28 ?_
    refine m_getI (pc := 31) xC6 3 fl_X9_67 rfl (by decide) rfl (by decide) rfl dX9_close_31 ?_
    exact x_iret (pc := 34) rfl rfl dX9_close_34 (Nat.zero_le _) (Nat.zero_le _)
  · refine x_iconst (pc := 12) (a := -1) dX9_close_12 (by decide) ?_
    exact x_iret (pc := 13) rfl rfl dX9_close_13 (Nat.zero_le _) (Nat.zero_le _)

set_option maxRecDepth 100000 in
set_option maxHeartbeats 4000000 in
theorem ct_X9_today  (M : xM)  : Ct iX9_today (rI M) [(.ref 0)] (xwd M) (fX9_today M) := by
  refine Ct.of' (L := [some (.ref 0)]) 0 rfl (by decide +kernel) (Nat.le_of_ble_eq_true rfl) rfl ?_
  unfold fX9_today
  refine x_aload_n (pc := 0) dX9_today_0 rfl ?_
  refine m_getR (pc := 1) (t := 1) xC9 0 fl_X9_10 rfl (by decide) rfl (by decide) rfl dX9_today_1 ?_
  refine m_getI (pc := 4) xC6 3 fl_X9_67 rfl (by decide) rfl (by decide) rfl dX9_today_4 ?_
  exact x_iret (pc := 7) rfl rfl dX9_today_7 (Nat.zero_le _) (Nat.zero_le _)

set_option maxRecDepth 100000 in
set_option maxHeartbeats 4000000 in
theorem ct_X9_set (p1 : Int32) (p2 : Int32) (M : xM)  : Ct iX9_set rIM [(.ref 0), (.int p1), (.int p2)] (xwd M) (fX9_set p1 p2 M) := by
  refine Ct.of' (L := [some (.ref 0), some (.int p1), some (.int p2)]) 0 rfl (by decide +kernel) (Nat.le_of_ble_eq_true rfl) rfl ?_
  unfold fX9_set
  refine x_iload_n (pc := 0) dX9_set_0 rfl ?_
  refine x_if_lt (pc := 1) (tgt := 28) dX9_set_1 (by decide) (fun h1 => ?_) (fun h1 => ?_)
  · refine x_iconst (pc := 28) (a := 0) dX9_set_28 (by decide) ?_
    exact x_zret (pc := 29) rfl (by decide) rfl dX9_set_29 (Nat.zero_le _) (Nat.zero_le _)
  · refine x_iload_n (pc := 4) dX9_set_4 rfl ?_
    refine x_bipush (pc := 5) (a := 12) dX9_set_5 (by decide) ?_
    refine x_icmp_ge (pc := 7) (tgt := 28) dX9_set_7 (by decide) (fun h2 => ?_) (fun h2 => ?_)
    · refine x_iconst (pc := 28) (a := 0) dX9_set_28 (by decide) ?_
      exact x_zret (pc := 29) rfl (by decide) rfl dX9_set_29 (Nat.zero_le _) (Nat.zero_le _)
    · refine x_iload_n (pc := 10) dX9_set_10 rfl ?_
      refine g_gets (pc := 11) (t := 201) (fun G U H h => h.2.1.1) (xword 418 (by decide +kernel) rfl) dX9_set_11 ?_
      refine x_iload_n (pc := 14) dX9_set_14 rfl ?_
      refine g_tld (pc := 15) (f := xRL) (fun G U H h => h.2.1.2) dX9_set_15 (fun hb3 => ?_)
      refine x_icmp_lt (pc := 16) (tgt := 28) dX9_set_16 (by decide) (fun h4 => ?_) (fun h4 => ?_)
      · refine x_iconst (pc := 28) (a := 0) dX9_set_28 (by decide) ?_
        exact x_zret (pc := 29) rfl (by decide) rfl dX9_set_29 (Nat.zero_le _) (Nat.zero_le _)
      · refine x_iload_n (pc := 19) dX9_set_19 rfl ?_
        refine g_gets (pc := 20) (t := 202) (fun G U H h => h.2.2.1) (xword 420 (by decide +kernel) rfl) dX9_set_20 ?_
        refine x_iload_n (pc := 23) dX9_set_23 rfl ?_
        refine g_tld (pc := 24) (f := xRM) (fun G U H h => h.2.2.2) dX9_set_24 (fun hb5 => ?_)
        refine x_icmp_le (pc := 25) (tgt := 30) dX9_set_25 (by decide) (fun h6 => ?_) (fun h6 => ?_)
        · refine x_aload_n (pc := 30) dX9_set_30 rfl ?_
          refine m_getR (pc := 31) (t := 1) xC9 0 fl_X9_10 rfl (by decide) rfl (by decide) rfl dX9_set_31 ?_
          refine m_getR (pc := 34) (t := 7) xC6 2 fl_X9_138 rfl (by decide) rfl (by decide) rfl dX9_set_34 ?_
          refine x_iload_n (pc := 37) dX9_set_37 rfl ?_
          refine x_iload_n (pc := 38) dX9_set_38 rfl ?_
          refine m_iast (pc := 39) rfl rfl dX9_set_39 (fun hb7 => ?_)
          refine SP.bdm (fun m8 e9 => ?_)
          refine x_aload_n (pc := 40) dX9_set_40 rfl ?_
          refine m_getR (pc := 41) (t := 1) xC9 0 fl_X9_10 rfl (by decide) rfl (by decide) rfl dX9_set_41 ?_
          refine x_dup (pc := 44) dX9_set_44 rfl ?_
          refine m_getI (pc := 45) xC6 4 fl_X9_74 rfl (by decide) rfl (by decide) rfl dX9_set_45 ?_
          refine x_iconst (pc := 48) (a := 1) dX9_set_48 (by decide) ?_
          refine x_iadd (pc := 49) dX9_set_49 ?_
          refine m_putI (pc := 50) xC6 4 fl_X9_74 rfl (by decide) rfl (by decide) rfl rfl rfl dX9_set_50 ?_
          refine SP.bdm (fun m10 e11 => ?_)
          refine x_iconst (pc := 53) (a := 1) dX9_set_53 (by decide) ?_
          exact x_zret (pc := 54) rfl (by decide) rfl dX9_set_54 (Nat.zero_le _) (Nat.zero_le _)
        · refine x_iconst (pc := 28) (a := 0) dX9_set_28 (by decide) ?_
          exact x_zret (pc := 29) rfl (by decide) rfl dX9_set_29 (Nat.zero_le _) (Nat.zero_le _)

set_option maxRecDepth 100000 in
set_option maxHeartbeats 4000000 in
theorem ct_X9_gaugeDayFault (p1 : Int32) (p2 : Int32) (M : xM)  : Ct iX9_gaugeDayFault (rI M) [(.ref 0), (.int p1), (.int p2)] (xwd M) (fX9_gaugeDayFault p1 p2 M) := by
  refine Ct.of' (L := [some (.ref 0), some (.int p1), some (.int p2), none]) 1 rfl (by decide +kernel) (Nat.le_of_ble_eq_true rfl) rfl ?_
  unfold fX9_gaugeDayFault
  refine x_aload_n (pc := 0) dX9_gaugeDayFault_0 rfl ?_
  refine x_iload_n (pc := 1) dX9_gaugeDayFault_1 rfl ?_
  refine cV_I (pc := 2) (As := [(.int p1)]) (rest := []) (ct_X9_gaugeFault p1 M) rfl xC9 rfl (by decide) ml_X9_95 meX9_gaugeFault rfl ⟨prX9_gaugeFault, (Nat.le_of_ble_eq_true rfl), (Nat.le_of_ble_eq_true rfl), rfl, rfl⟩ (Nat.le_of_ble_eq_true rfl) dX9_gaugeDayFault_2 (fun v1 => ?_)
  refine x_istore_n (pc := 5) (L' := [some (.ref 0), some (.int p1), some (.int p2), some (.int v1)]) dX9_gaugeDayFault_5 (Nat.le_of_ble_eq_true rfl) rfl rfl ?_
  refine x_iload_n (pc := 6) dX9_gaugeDayFault_6 rfl ?_
  refine x_if_ne (pc := 7) (tgt := 21) dX9_gaugeDayFault_7 (by decide) (fun h2 => ?_) (fun h2 => ?_)
  · refine x_iload_n (pc := 21) dX9_gaugeDayFault_21 rfl ?_
    exact x_iret (pc := 22) rfl rfl dX9_gaugeDayFault_22 (Nat.zero_le _) (Nat.zero_le _)
  · refine x_iload_n (pc := 10) dX9_gaugeDayFault_10 rfl ?_
    refine cS_I (pc := 11) (As := [(.int p2)]) (rest := []) (ct_X9_isDay p2 M) rfl ml_X9_99 meX9_isDay rfl ⟨prX9_isDay, (Nat.le_of_ble_eq_true rfl), (Nat.le_of_ble_eq_true rfl), rfl, rfl⟩ (Nat.le_of_ble_eq_true rfl) dX9_gaugeDayFault_11 (fun v3 => ?_)
    refine x_if_ne (pc := 14) (tgt := 21) dX9_gaugeDayFault_14 (by decide) (fun h4 => ?_) (fun h4 => ?_)
    · refine x_iload_n (pc := 21) dX9_gaugeDayFault_21 rfl ?_
      exact x_iret (pc := 22) rfl rfl dX9_gaugeDayFault_22 (Nat.zero_le _) (Nat.zero_le _)
    · refine x_iconst (pc := 17) (a := -1) dX9_gaugeDayFault_17 (by decide) ?_
      refine x_goto (pc := 18) (tgt := 22) dX9_gaugeDayFault_18 (by decide) ?_
      exact x_iret (pc := 22) rfl rfl dX9_gaugeDayFault_22 (Nat.zero_le _) (Nat.zero_le _)

set_option maxRecDepth 100000 in
set_option maxHeartbeats 4000000 in
theorem ct_X9_raw (p1 : Int32) (p2 : Int32) (M : xM)  : Ct iX9_raw (rI M) [(.ref 0), (.int p1), (.int p2)] (xwd M) (fX9_raw p1 p2 M) := by
  refine Ct.of' (L := [some (.ref 0), some (.int p1), some (.int p2), none]) 1 rfl (by decide +kernel) (Nat.le_of_ble_eq_true rfl) rfl ?_
  unfold fX9_raw
  refine x_aload_n (pc := 0) dX9_raw_0 rfl ?_
  refine x_iload_n (pc := 1) dX9_raw_1 rfl ?_
  refine x_iload_n (pc := 2) dX9_raw_2 rfl ?_
  refine cV_I (pc := 3) (As := [(.int p1), (.int p2)]) (rest := []) (ct_X9_gaugeDayFault p1 p2 M) rfl xC9 rfl (by decide) ml_X9_141 meX9_gaugeDayFault rfl ⟨prX9_gaugeDayFault, (Nat.le_of_ble_eq_true rfl), (Nat.le_of_ble_eq_true rfl), rfl, rfl⟩ (Nat.le_of_ble_eq_true rfl) dX9_raw_3 (fun v1 => ?_)
  refine x_istore_n (pc := 6) (L' := [some (.ref 0), some (.int p1), some (.int p2), some (.int v1)]) dX9_raw_6 (Nat.le_of_ble_eq_true rfl) rfl rfl ?_
  refine x_iload_n (pc := 7) dX9_raw_7 rfl ?_
  refine x_if_eq (pc := 8) (tgt := 15) dX9_raw_8 (by decide) (fun h2 => ?_) (fun h2 => ?_)
  · refine x_aload_n (pc := 15) dX9_raw_15 rfl ?_
    refine m_getR (pc := 16) (t := 1) xC9 0 fl_X9_10 rfl (by decide) rfl (by decide) rfl dX9_raw_16 ?_
    refine x_iload_n (pc := 19) dX9_raw_19 rfl ?_
    refine x_iload_n (pc := 20) dX9_raw_20 rfl ?_
    refine x_bipush (pc := 21) (a := 56) dX9_raw_21 (by decide) ?_
    refine cV_I (pc := 23) (As := [(.int p1), (.int p2), (.int (56:Int32))]) (rest := []) (ct_X6_numberKnown p1 p2 (56:Int32) M) rfl xC6 rfl (by decide) ml_X9_144 meX6_numberKnown rfl ⟨prX6_numberKnown, (Nat.le_of_ble_eq_true rfl), (Nat.le_of_ble_eq_true rfl), rfl, rfl⟩ (Nat.le_of_ble_eq_true rfl) dX9_raw_23 (fun v3 => ?_)
    exact x_iret (pc := 26) rfl rfl dX9_raw_26 (Nat.zero_le _) (Nat.zero_le _)
  · refine x_iload_n (pc := 11) dX9_raw_11 rfl ?_
    refine x_goto (pc := 12) (tgt := 26) dX9_raw_12 (by decide) ?_
    exact x_iret (pc := 26) rfl rfl dX9_raw_26 (Nat.zero_le _) (Nat.zero_le _)

set_option maxRecDepth 100000 in
set_option maxHeartbeats 4000000 in
theorem ct_X9_known (p1 : Int32) (p2 : Int32) (p3 : Int32) (M : xM)  : Ct iX9_known (rI M) [(.ref 0), (.int p1), (.int p2), (.int p3)] (xwd M) (fX9_known p1 p2 p3 M) := by
  refine Ct.of' (L := [some (.ref 0), some (.int p1), some (.int p2), some (.int p3), none]) 1 rfl (by decide +kernel) (Nat.le_of_ble_eq_true rfl) rfl ?_
  unfold fX9_known
  refine x_aload_n (pc := 0) dX9_known_0 rfl ?_
  refine x_iload_n (pc := 1) dX9_known_1 rfl ?_
  refine x_iload_n (pc := 2) dX9_known_2 rfl ?_
  refine cV_I (pc := 3) (As := [(.int p1), (.int p2)]) (rest := []) (ct_X9_gaugeDayFault p1 p2 M) rfl xC9 rfl (by decide) ml_X9_141 meX9_gaugeDayFault rfl ⟨prX9_gaugeDayFault, (Nat.le_of_ble_eq_true rfl), (Nat.le_of_ble_eq_true rfl), rfl, rfl⟩ (Nat.le_of_ble_eq_true rfl) dX9_known_3 (fun v1 => ?_)
  refine x_istore (pc := 6) (L' := [some (.ref 0), some (.int p1), some (.int p2), some (.int p3), some (.int v1)]) dX9_known_6 (Nat.le_of_ble_eq_true rfl) rfl rfl ?_
  refine x_iload (pc := 8) dX9_known_8 rfl ?_
  refine x_if_eq (pc := 10) (tgt := 18) dX9_known_10 (by decide) (fun h2 => ?_) (fun h2 => ?_)
  · refine x_aload_n (pc := 18) dX9_known_18 rfl ?_
    refine m_getR (pc := 19) (t := 1) xC9 0 fl_X9_10 rfl (by decide) rfl (by decide) rfl dX9_known_19 ?_
    refine x_iload_n (pc := 22) dX9_known_22 rfl ?_
    refine x_iload_n (pc := 23) dX9_known_23 rfl ?_
    refine x_iload_n (pc := 24) dX9_known_24 rfl ?_
    refine cV_I (pc := 25) (As := [(.int p1), (.int p2), (.int p3)]) (rest := []) (ct_X6_numberKnown p1 p2 p3 M) rfl xC6 rfl (by decide) ml_X9_144 meX6_numberKnown rfl ⟨prX6_numberKnown, (Nat.le_of_ble_eq_true rfl), (Nat.le_of_ble_eq_true rfl), rfl, rfl⟩ (Nat.le_of_ble_eq_true rfl) dX9_known_25 (fun v3 => ?_)
    exact x_iret (pc := 28) rfl rfl dX9_known_28 (Nat.zero_le _) (Nat.zero_le _)
  · refine x_iload (pc := 13) dX9_known_13 rfl ?_
    refine x_goto (pc := 15) (tgt := 28) dX9_known_15 (by decide) ?_
    exact x_iret (pc := 28) rfl rfl dX9_known_28 (Nat.zero_le _) (Nat.zero_le _)

set_option maxRecDepth 100000 in
set_option maxHeartbeats 4000000 in
theorem ct_X9_openBooks  (M : xM)  : Ct iX9_openBooks rB [(.ref 0)] (xwd M) (fX9_openBooks M) := by
  refine Ct.of' (L := [some (.ref 0)]) 0 rfl (by decide +kernel) (Nat.le_of_ble_eq_true rfl) rfl ?_
  unfold fX9_openBooks
  refine x_aload_n (pc := 0) dX9_openBooks_0 rfl ?_
  refine m_getR (pc := 1) (t := 72) xC9 1 fl_X9_21 rfl (by decide) rfl (by decide) rfl dX9_openBooks_1 ?_
  refine m_getI (pc := 4) xC0 6 fl_X9_230 rfl (by decide) rfl (by decide) rfl dX9_openBooks_4 ?_
  refine x_aload_n (pc := 7) dX9_openBooks_7 rfl ?_
  refine m_getR (pc := 8) (t := 1) xC9 0 fl_X9_10 rfl (by decide) rfl (by decide) rfl dX9_openBooks_8 ?_
  refine m_getI (pc := 11) xC6 4 fl_X9_74 rfl (by decide) rfl (by decide) rfl dX9_openBooks_11 ?_
  refine x_icmp_eq (pc := 14) (tgt := 24) dX9_openBooks_14 (by decide) (fun h1 => ?_) (fun h1 => ?_)
  · refine x_aload_n (pc := 24) dX9_openBooks_24 rfl ?_
    refine m_getR (pc := 25) (t := 72) xC9 1 fl_X9_21 rfl (by decide) rfl (by decide) rfl dX9_openBooks_25 ?_
    exact x_aret (pc := 28) rfl rfl dX9_openBooks_28 (Nat.zero_le _) (Nat.zero_le _)
  · refine x_aload_n (pc := 17) dX9_openBooks_17 rfl ?_
    refine m_getR (pc := 18) (t := 72) xC9 1 fl_X9_21 rfl (by decide) rfl (by decide) rfl dX9_openBooks_18 ?_
    refine cV_M (pc := 21) (As := []) (rest := []) (ct_X0_rewrite M) rfl xC0 rfl (by decide) ml_X9_233 meX0_rewrite rfl ⟨prX0_rewrite, (Nat.le_of_ble_eq_true rfl), (Nat.le_of_ble_eq_true rfl), rfl, rfl⟩ (Nat.le_of_ble_eq_true rfl) dX9_openBooks_21 (fun q2 => ?_)
    refine x_aload_n (pc := 24) dX9_openBooks_24 rfl ?_
    refine m_getR (pc := 25) (t := 72) xC9 1 fl_X9_21 rfl (by decide) rfl (by decide) rfl dX9_openBooks_25 ?_
    exact x_aret (pc := 28) rfl rfl dX9_openBooks_28 (Nat.zero_le _) (Nat.zero_le _)

set_option maxRecDepth 100000 in
set_option maxHeartbeats 4000000 in
theorem ct_X9_why (p1 : Int32) (p2 : Int32) (M : xM)  : Ct iX9_why rIM [(.ref 0), (.int p1), (.int p2)] (xwd M) (fX9_why p1 p2 M) := by
  refine Ct.of' (L := [some (.ref 0), some (.int p1), some (.int p2), none]) 1 rfl (by decide +kernel) (Nat.le_of_ble_eq_true rfl) rfl ?_
  unfold fX9_why
  refine x_aload_n (pc := 0) dX9_why_0 rfl ?_
  refine x_iload_n (pc := 1) dX9_why_1 rfl ?_
  refine x_iload_n (pc := 2) dX9_why_2 rfl ?_
  refine cV_I (pc := 3) (As := [(.int p1), (.int p2)]) (rest := []) (ct_X9_gaugeDayFault p1 p2 M) rfl xC9 rfl (by decide) ml_X9_141 meX9_gaugeDayFault rfl ⟨prX9_gaugeDayFault, (Nat.le_of_ble_eq_true rfl), (Nat.le_of_ble_eq_true rfl), rfl, rfl⟩ (Nat.le_of_ble_eq_true rfl) dX9_why_3 (fun v1 => ?_)
  refine x_istore_n (pc := 6) (L' := [some (.ref 0), some (.int p1), some (.int p2), some (.int v1)]) dX9_why_6 (Nat.le_of_ble_eq_true rfl) rfl rfl ?_
  refine x_iload_n (pc := 7) dX9_why_7 rfl ?_
  refine x_if_eq (pc := 8) (tgt := 15) dX9_why_8 (by decide) (fun h2 => ?_) (fun h2 => ?_)
  · refine x_aload_n (pc := 15) dX9_why_15 rfl ?_
    refine cV_B (pc := 16) (As := []) (rest := []) (ct_X9_openBooks M) rfl xC9 rfl (by decide) ml_X9_147 meX9_openBooks rfl ⟨prX9_openBooks, (Nat.le_of_ble_eq_true rfl), (Nat.le_of_ble_eq_true rfl), rfl, rfl⟩ (Nat.le_of_ble_eq_true rfl) dX9_why_16 (fun q3 => ?_)
    refine x_iload_n (pc := 19) dX9_why_19 rfl ?_
    refine x_iload_n (pc := 20) dX9_why_20 rfl ?_
    refine cV_I (pc := 21) (As := [(.int p1), (.int p2)]) (rest := []) (ct_X0_doubtOf p1 p2 q3) rfl xC0 rfl (by decide) ml_X9_151 meX0_doubtOf rfl ⟨prX0_doubtOf, (Nat.le_of_ble_eq_true rfl), (Nat.le_of_ble_eq_true rfl), rfl, rfl⟩ (Nat.le_of_ble_eq_true rfl) dX9_why_21 (fun v4 => ?_)
    exact x_iret (pc := 24) rfl rfl dX9_why_24 (Nat.zero_le _) (Nat.zero_le _)
  · refine x_iload_n (pc := 11) dX9_why_11 rfl ?_
    refine x_goto (pc := 12) (tgt := 24) dX9_why_12 (by decide) ?_
    exact x_iret (pc := 24) rfl rfl dX9_why_24 (Nat.zero_le _) (Nat.zero_le _)

set_option maxRecDepth 100000 in
set_option maxHeartbeats 4000000 in
theorem ct_X9_state (p1 : Int32) (p2 : Int32) (M : xM)  : Ct iX9_state rIM [(.ref 0), (.int p1), (.int p2)] (xwd M) (fX9_state p1 p2 M) := by
  refine Ct.of' (L := [some (.ref 0), some (.int p1), some (.int p2), none, none]) 2 rfl (by decide +kernel) (Nat.le_of_ble_eq_true rfl) rfl ?_
  unfold fX9_state
  refine x_aload_n (pc := 0) dX9_state_0 rfl ?_
  refine x_iload_n (pc := 1) dX9_state_1 rfl ?_
  refine x_iload_n (pc := 2) dX9_state_2 rfl ?_
  refine cV_I (pc := 3) (As := [(.int p1), (.int p2)]) (rest := []) (ct_X9_gaugeDayFault p1 p2 M) rfl xC9 rfl (by decide) ml_X9_141 meX9_gaugeDayFault rfl ⟨prX9_gaugeDayFault, (Nat.le_of_ble_eq_true rfl), (Nat.le_of_ble_eq_true rfl), rfl, rfl⟩ (Nat.le_of_ble_eq_true rfl) dX9_state_3 (fun v1 => ?_)
  refine x_istore_n (pc := 6) (L' := [some (.ref 0), some (.int p1), some (.int p2), some (.int v1), none]) dX9_state_6 (Nat.le_of_ble_eq_true rfl) rfl rfl ?_
  refine x_iload_n (pc := 7) dX9_state_7 rfl ?_
  refine x_if_eq (pc := 8) (tgt := 13) dX9_state_8 (by decide) (fun h2 => ?_) (fun h2 => ?_)
  · refine x_aload_n (pc := 13) dX9_state_13 rfl ?_
    refine cV_B (pc := 14) (As := []) (rest := []) (ct_X9_openBooks M) rfl xC9 rfl (by decide) ml_X9_147 meX9_openBooks rfl ⟨prX9_openBooks, (Nat.le_of_ble_eq_true rfl), (Nat.le_of_ble_eq_true rfl), rfl, rfl⟩ (Nat.le_of_ble_eq_true rfl) dX9_state_14 (fun q3 => ?_)
    refine x_astore (pc := 17) (L' := [some (.ref 0), some (.int p1), some (.int p2), some (.int v1), some (.ref 72)]) dX9_state_17 (Nat.le_of_ble_eq_true rfl) rfl rfl ?_
    refine x_aload (pc := 19) dX9_state_19 rfl ?_
    refine x_iload_n (pc := 21) dX9_state_21 rfl ?_
    refine x_iload_n (pc := 22) dX9_state_22 rfl ?_
    refine cV_I (pc := 23) (As := [(.int p1), (.int p2)]) (rest := []) (ct_X0_toldOf p1 p2 q3) rfl xC0 rfl (by decide) ml_X9_154 meX0_toldOf rfl ⟨prX0_toldOf, (Nat.le_of_ble_eq_true rfl), (Nat.le_of_ble_eq_true rfl), rfl, rfl⟩ (Nat.le_of_ble_eq_true rfl) dX9_state_23 (fun v4 => ?_)
    refine x_iconst (pc := 26) (a := -1) dX9_state_26 (by decide) ?_
    refine x_icmp_eq (pc := 27) (tgt := 52) dX9_state_27 (by decide) (fun h5 => ?_) (fun h5 => ?_)
    · refine x_aload_n (pc := 52) dX9_state_52 rfl ?_
      refine m_getR (pc := 53) (t := 142) xC9 2 fl_X9_28 rfl (by decide) rfl (by decide) rfl dX9_state_53 ?_
      refine x_aload (pc := 56) dX9_state_56 rfl ?_
      refine x_iload_n (pc := 58) dX9_state_58 rfl ?_
      refine x_iload_n (pc := 59) dX9_state_59 rfl ?_
      refine cV_IM (pc := 60) (As := [(.ref 72), (.int p1), (.int p2)]) (rest := []) (ct_X5_gather p1 p2 q3) rfl xC5 rfl (by decide) ml_X9_157 meX5_gather rfl ⟨prX5_gather, (Nat.le_of_ble_eq_true rfl), (Nat.le_of_ble_eq_true rfl), rfl, rfl⟩ (Nat.le_of_ble_eq_true rfl) dX9_state_60 (fun q6 => ?_)
      refine x_if_le (pc := 63) (tgt := 68) dX9_state_63 (by decide) (fun h7 => ?_) (fun h7 => ?_)
      · refine x_aload (pc := 68) dX9_state_68 rfl ?_
        refine x_iload_n (pc := 70) dX9_state_70 rfl ?_
        refine x_iload_n (pc := 71) dX9_state_71 rfl ?_
        refine cV_I (pc := 72) (As := [(.int p1), (.int p2)]) (rest := []) (ct_X0_doubtOf p1 p2 q6.2) rfl xC0 rfl (by decide) ml_X9_151 meX0_doubtOf rfl ⟨prX0_doubtOf, (Nat.le_of_ble_eq_true rfl), (Nat.le_of_ble_eq_true rfl), rfl, rfl⟩ (Nat.le_of_ble_eq_true rfl) dX9_state_72 (fun v8 => ?_)
        refine x_if_ne (pc := 75) (tgt := 82) dX9_state_75 (by decide) (fun h9 => ?_) (fun h9 => ?_)
        · refine x_iconst (pc := 82) (a := 2) dX9_state_82 (by decide) ?_
          exact x_iret (pc := 83) rfl rfl dX9_state_83 (Nat.zero_le _) (Nat.zero_le _)
        · refine x_iconst (pc := 78) (a := 0) dX9_state_78 (by decide) ?_
          refine x_goto (pc := 79) (tgt := 83) dX9_state_79 (by decide) ?_
          exact x_iret (pc := 83) rfl rfl dX9_state_83 (Nat.zero_le _) (Nat.zero_le _)
      · refine x_iconst (pc := 66) (a := 3) dX9_state_66 (by decide) ?_
        exact x_iret (pc := 67) rfl rfl dX9_state_67 (Nat.zero_le _) (Nat.zero_le _)
    · refine x_aload_n (pc := 30) dX9_state_30 rfl ?_
      refine m_getR (pc := 31) (t := 1) xC9 0 fl_X9_10 rfl (by decide) rfl (by decide) rfl dX9_state_31 ?_
      refine m_getR (pc := 34) (t := 2) xC6 0 fl_X9_57 rfl (by decide) rfl (by decide) rfl dX9_state_34 ?_
      refine x_iload_n (pc := 37) dX9_state_37 rfl ?_
      refine m_aald (pc := 38) (t0 := 3) rfl (by decide) rfl (fun _ => rfl) rfl (xE_pl _) dX9_state_38 (fun hb10 => ?_)
      refine m_getI (pc := 39) xC7 0 fl_X9_61 (xPl (xinb_lt hb10)) (by decide) rfl (by decide) rfl dX9_state_39 ?_
      refine x_iconst (pc := 42) (a := 3) dX9_state_42 (by decide) ?_
      refine x_icmp_ne (pc := 43) (tgt := 50) dX9_state_43 (by decide) (fun h11 => ?_) (fun h11 => ?_)
      · refine x_iconst (pc := 50) (a := 1) dX9_state_50 (by decide) ?_
        exact x_iret (pc := 51) rfl rfl dX9_state_51 (Nat.zero_le _) (Nat.zero_le _)
      · refine x_iconst (pc := 46) (a := 4) dX9_state_46 (by decide) ?_
        refine x_goto (pc := 47) (tgt := 51) dX9_state_47 (by decide) ?_
        exact x_iret (pc := 51) rfl rfl dX9_state_51 (Nat.zero_le _) (Nat.zero_le _)
  · refine x_iload_n (pc := 11) dX9_state_11 rfl ?_
    exact x_iret (pc := 12) rfl rfl dX9_state_12 (Nat.zero_le _) (Nat.zero_le _)

set_option maxRecDepth 100000 in
set_option maxHeartbeats 4000000 in
theorem ct_X9_number (p1 : Int32) (p2 : Int32) (M : xM)  : Ct iX9_number rIM [(.ref 0), (.int p1), (.int p2)] (xwd M) (fX9_number p1 p2 M) := by
  refine Ct.of' (L := [some (.ref 0), some (.int p1), some (.int p2), none, none, none, none]) 4 rfl (by decide +kernel) (Nat.le_of_ble_eq_true rfl) rfl ?_
  unfold fX9_number
  refine x_aload_n (pc := 0) dX9_number_0 rfl ?_
  refine x_iload_n (pc := 1) dX9_number_1 rfl ?_
  refine x_iload_n (pc := 2) dX9_number_2 rfl ?_
  refine cV_I (pc := 3) (As := [(.int p1), (.int p2)]) (rest := []) (ct_X9_gaugeDayFault p1 p2 M) rfl xC9 rfl (by decide) ml_X9_141 meX9_gaugeDayFault rfl ⟨prX9_gaugeDayFault, (Nat.le_of_ble_eq_true rfl), (Nat.le_of_ble_eq_true rfl), rfl, rfl⟩ (Nat.le_of_ble_eq_true rfl) dX9_number_3 (fun v1 => ?_)
  refine x_istore_n (pc := 6) (L' := [some (.ref 0), some (.int p1), some (.int p2), some (.int v1), none, none, none]) dX9_number_6 (Nat.le_of_ble_eq_true rfl) rfl rfl ?_
  refine x_iload_n (pc := 7) dX9_number_7 rfl ?_
  refine x_if_eq (pc := 8) (tgt := 13) dX9_number_8 (by decide) (fun h2 => ?_) (fun h2 => ?_)
  · refine x_aload_n (pc := 13) dX9_number_13 rfl ?_
    refine cV_B (pc := 14) (As := []) (rest := []) (ct_X9_openBooks M) rfl xC9 rfl (by decide) ml_X9_147 meX9_openBooks rfl ⟨prX9_openBooks, (Nat.le_of_ble_eq_true rfl), (Nat.le_of_ble_eq_true rfl), rfl, rfl⟩ (Nat.le_of_ble_eq_true rfl) dX9_number_14 (fun q3 => ?_)
    refine x_astore (pc := 17) (L' := [some (.ref 0), some (.int p1), some (.int p2), some (.int v1), some (.ref 72), none, none]) dX9_number_17 (Nat.le_of_ble_eq_true rfl) rfl rfl ?_
    refine x_aload (pc := 19) dX9_number_19 rfl ?_
    refine x_iload_n (pc := 21) dX9_number_21 rfl ?_
    refine x_iload_n (pc := 22) dX9_number_22 rfl ?_
    refine cV_I (pc := 23) (As := [(.int p1), (.int p2)]) (rest := []) (ct_X0_toldOf p1 p2 q3) rfl xC0 rfl (by decide) ml_X9_154 meX0_toldOf rfl ⟨prX0_toldOf, (Nat.le_of_ble_eq_true rfl), (Nat.le_of_ble_eq_true rfl), rfl, rfl⟩ (Nat.le_of_ble_eq_true rfl) dX9_number_23 (fun v4 => ?_)
    refine x_istore (pc := 26) (L' := [some (.ref 0), some (.int p1), some (.int p2), some (.int v1), some (.ref 72), some (.int v4), none]) dX9_number_26 (Nat.le_of_ble_eq_true rfl) rfl rfl ?_
    refine x_iload (pc := 28) dX9_number_28 rfl ?_
    refine x_iconst (pc := 30) (a := -1) dX9_number_30 (by decide) ?_
    refine x_icmp_eq (pc := 31) (tgt := 37) dX9_number_31 (by decide) (fun h5 => ?_) (fun h5 => ?_)
    · refine x_aload_n (pc := 37) dX9_number_37 rfl ?_
      refine m_getR (pc := 38) (t := 142) xC9 2 fl_X9_28 rfl (by decide) rfl (by decide) rfl dX9_number_38 ?_
      refine x_aload (pc := 41) dX9_number_41 rfl ?_
      refine x_iload_n (pc := 43) dX9_number_43 rfl ?_
      refine x_iload_n (pc := 44) dX9_number_44 rfl ?_
      refine cV_IM (pc := 45) (As := [(.ref 72), (.int p1), (.int p2)]) (rest := []) (ct_X5_mend p1 p2 q3) rfl xC5 rfl (by decide) ml_X9_161 meX5_mend rfl ⟨prX5_mend, (Nat.le_of_ble_eq_true rfl), (Nat.le_of_ble_eq_true rfl), rfl, rfl⟩ (Nat.le_of_ble_eq_true rfl) dX9_number_45 (fun q6 => ?_)
      refine x_istore (pc := 48) (L' := [some (.ref 0), some (.int p1), some (.int p2), some (.int v1), some (.ref 72), some (.int v4), some (.int q6.1)]) dX9_number_48 (Nat.le_of_ble_eq_true rfl) rfl rfl ?_
      refine x_iload (pc := 50) dX9_number_50 rfl ?_
      refine x_iconst (pc := 52) (a := -1) dX9_number_52 (by decide) ?_
      refine x_icmp_eq (pc := 53) (tgt := 61) dX9_number_53 (by decide) (fun h7 => ?_) (fun h7 => ?_)
      · refine x_aload_n (pc := 61) dX9_number_61 rfl ?_
        refine m_getR (pc := 62) (t := 1) xC9 0 fl_X9_10 rfl (by decide) rfl (by decide) rfl dX9_number_62 ?_
        refine x_iload_n (pc := 65) dX9_number_65 rfl ?_
        refine x_iload_n (pc := 66) dX9_number_66 rfl ?_
        refine x_bipush (pc := 67) (a := 56) dX9_number_67 (by decide) ?_
        refine cV_I (pc := 69) (As := [(.int p1), (.int p2), (.int (56:Int32))]) (rest := []) (ct_X6_numberKnown p1 p2 (56:Int32) q6.2) rfl xC6 rfl (by decide) ml_X9_144 meX6_numberKnown rfl ⟨prX6_numberKnown, (Nat.le_of_ble_eq_true rfl), (Nat.le_of_ble_eq_true rfl), rfl, rfl⟩ (Nat.le_of_ble_eq_true rfl) dX9_number_69 (fun v8 => ?_)
        exact x_iret (pc := 72) rfl rfl dX9_number_72 (Nat.zero_le _) (Nat.zero_le _)
      · refine x_iload (pc := 56) dX9_number_56 rfl ?_
        refine x_goto (pc := 58) (tgt := 72) dX9_number_58 (by decide) ?_
        exact x_iret (pc := 72) rfl rfl dX9_number_72 (Nat.zero_le _) (Nat.zero_le _)
    · refine x_iload (pc := 34) dX9_number_34 rfl ?_
      exact x_iret (pc := 36) rfl rfl dX9_number_36 (Nat.zero_le _) (Nat.zero_le _)
  · refine x_iload_n (pc := 11) dX9_number_11 rfl ?_
    exact x_iret (pc := 12) rfl rfl dX9_number_12 (Nat.zero_le _) (Nat.zero_le _)

set_option maxRecDepth 100000 in
set_option maxHeartbeats 4000000 in
theorem ct_X9_from (p1 : Int32) (p2 : Int32) (p3 : Int32) (M : xM)  : Ct iX9_from rIM [(.ref 0), (.int p1), (.int p2), (.int p3)] (xwd M) (fX9_from p1 p2 p3 M) := by
  refine Ct.of' (L := [some (.ref 0), some (.int p1), some (.int p2), some (.int p3), none]) 1 rfl (by decide +kernel) (Nat.le_of_ble_eq_true rfl) rfl ?_
  unfold fX9_from
  refine x_aload_n (pc := 0) dX9_from_0 rfl ?_
  refine x_iload_n (pc := 1) dX9_from_1 rfl ?_
  refine cV_I (pc := 2) (As := [(.int p1)]) (rest := []) (ct_X9_dailyGaugeFault p1 M) rfl xC9 rfl (by decide) ml_X9_117 meX9_dailyGaugeFault rfl ⟨prX9_dailyGaugeFault, (Nat.le_of_ble_eq_true rfl), (Nat.le_of_ble_eq_true rfl), rfl, rfl⟩ (Nat.le_of_ble_eq_true rfl) dX9_from_2 (fun v1 => ?_)
  refine x_istore (pc := 5) (L' := [some (.ref 0), some (.int p1), some (.int p2), some (.int p3), some (.int v1)]) dX9_from_5 (Nat.le_of_ble_eq_true rfl) rfl rfl ?_
  refine x_iload (pc := 7) dX9_from_7 rfl ?_
  refine x_if_eq (pc := 9) (tgt := 15) dX9_from_9 (by decide) (fun h2 => ?_) (fun h2 => ?_)
  · refine x_aload_n (pc := 15) dX9_from_15 rfl ?_
    refine m_getR (pc := 16) (t := 142) xC9 2 fl_X9_28 rfl (by decide) rfl (by decide) rfl dX9_from_16 ?_
    refine x_aload_n (pc := 19) dX9_from_19 rfl ?_
    refine cV_B (pc := 20) (As := []) (rest := [(.ref 142)]) (ct_X9_openBooks M) rfl xC9 rfl (by decide) ml_X9_147 meX9_openBooks rfl ⟨prX9_openBooks, (Nat.le_of_ble_eq_true rfl), (Nat.le_of_ble_eq_true rfl), rfl, rfl⟩ (Nat.le_of_ble_eq_true rfl) dX9_from_20 (fun q3 => ?_)
    refine x_iload_n (pc := 23) dX9_from_23 rfl ?_
    refine x_iload_n (pc := 24) dX9_from_24 rfl ?_
    refine cV_IM (pc := 25) (As := [(.ref 72), (.int p1), (.int p2)]) (rest := []) (ct_X5_gather p1 p2 q3) rfl xC5 rfl (by decide) ml_X9_157 meX5_gather rfl ⟨prX5_gather, (Nat.le_of_ble_eq_true rfl), (Nat.le_of_ble_eq_true rfl), rfl, rfl⟩ (Nat.le_of_ble_eq_true rfl) dX9_from_25 (fun q4 => ?_)
    refine x_pop (pc := 28) dX9_from_28 rfl ?_
    refine x_aload_n (pc := 29) dX9_from_29 rfl ?_
    refine m_getR (pc := 30) (t := 142) xC9 2 fl_X9_28 rfl (by decide) rfl (by decide) rfl dX9_from_30 ?_
    refine m_getR (pc := 33) (t := 143) xC5 1 fl_X9_164 rfl (by decide) rfl (by decide) rfl dX9_from_33 ?_
    refine x_iload_n (pc := 36) dX9_from_36 rfl ?_
    refine cV_I (pc := 37) (As := [(.int p3)]) (rest := []) (ct_X2_placeAt 143 p3 q4.2 (Or.inl rfl)) rfl xC2 (xCi_T (Or.inl rfl)) (by decide) ml_X9_168 meX2_placeAt rfl ⟨prX2_placeAt, (Nat.le_of_ble_eq_true rfl), (Nat.le_of_ble_eq_true rfl), rfl, rfl⟩ (Nat.le_of_ble_eq_true rfl) dX9_from_37 (fun v5 => ?_)
    exact x_iret (pc := 40) rfl rfl dX9_from_40 (Nat.zero_le _) (Nat.zero_le _)
  · refine x_iload (pc := 12) dX9_from_12 rfl ?_
    exact x_iret (pc := 14) rfl rfl dX9_from_14 (Nat.zero_le _) (Nat.zero_le _)

set_option maxRecDepth 100000 in
set_option maxHeartbeats 4000000 in
theorem ct_X9_part (p1 : Int32) (p2 : Int32) (p3 : Int32) (M : xM)  : Ct iX9_part rIM [(.ref 0), (.int p1), (.int p2), (.int p3)] (xwd M) (fX9_part p1 p2 p3 M) := by
  refine Ct.of' (L := [some (.ref 0), some (.int p1), some (.int p2), some (.int p3)]) 0 rfl (by decide +kernel) (Nat.le_of_ble_eq_true rfl) rfl ?_
  unfold fX9_part
  refine x_iload_n (pc := 0) dX9_part_0 rfl ?_
  refine x_iload_n (pc := 1) dX9_part_1 rfl ?_
  refine cS_I (pc := 2) (As := [(.int p1), (.int p2)]) (rest := []) (ct_X9_isSquare p1 p2 M) rfl ml_X9_50 meX9_isSquare rfl ⟨prX9_isSquare, (Nat.le_of_ble_eq_true rfl), (Nat.le_of_ble_eq_true rfl), rfl, rfl⟩ (Nat.le_of_ble_eq_true rfl) dX9_part_2 (fun v1 => ?_)
  refine x_if_eq (pc := 5) (tgt := 25) dX9_part_5 (by decide) (fun h2 => ?_) (fun h2 => ?_)
  · refine x_iconst (pc := 25) (a := -1) dX9_part_25 (by decide) ?_
    exact x_iret (pc := 26) rfl rfl dX9_part_26 (Nat.zero_le _) (Nat.zero_le _)
  · refine x_aload_n (pc := 8) dX9_part_8 rfl ?_
    refine m_getR (pc := 9) (t := 146) xC9 3 fl_X9_35 rfl (by decide) rfl (by decide) rfl dX9_part_9 ?_
    refine x_aload_n (pc := 12) dX9_part_12 rfl ?_
    refine cV_B (pc := 13) (As := []) (rest := [(.ref 146)]) (ct_X9_openBooks M) rfl xC9 rfl (by decide) ml_X9_147 meX9_openBooks rfl ⟨prX9_openBooks, (Nat.le_of_ble_eq_true rfl), (Nat.le_of_ble_eq_true rfl), rfl, rfl⟩ (Nat.le_of_ble_eq_true rfl) dX9_part_13 (fun q3 => ?_)
    refine x_iload_n (pc := 16) dX9_part_16 rfl ?_
    refine x_iload_n (pc := 17) dX9_part_17 rfl ?_
    refine x_iload_n (pc := 18) dX9_part_18 rfl ?_
    refine cV_I (pc := 19) (As := [(.ref 72), (.int p1), (.int p2), (.int p3)]) (rest := []) (ct_X4_ownerOf p1 p2 p3 q3) rfl xC4 rfl (by decide) ml_X9_173 meX4_ownerOf rfl ⟨prX4_ownerOf, (Nat.le_of_ble_eq_true rfl), (Nat.le_of_ble_eq_true rfl), rfl, rfl⟩ (Nat.le_of_ble_eq_true rfl) dX9_part_19 (fun v4 => ?_)
    refine x_goto (pc := 22) (tgt := 26) dX9_part_22 (by decide) ?_
    exact x_iret (pc := 26) rfl rfl dX9_part_26 (Nat.zero_le _) (Nat.zero_le _)

set_option maxRecDepth 100000 in
set_option maxHeartbeats 4000000 in
theorem ct_X9_squares (p1 : Int32) (p2 : Int32) (M : xM)  : Ct iX9_squares rIM [(.ref 0), (.int p1), (.int p2)] (xwd M) (fX9_squares p1 p2 M) := by
  refine Ct.of' (L := [some (.ref 0), some (.int p1), some (.int p2), none]) 1 rfl (by decide +kernel) (Nat.le_of_ble_eq_true rfl) rfl ?_
  unfold fX9_squares
  refine x_aload_n (pc := 0) dX9_squares_0 rfl ?_
  refine x_iload_n (pc := 1) dX9_squares_1 rfl ?_
  refine x_iload_n (pc := 2) dX9_squares_2 rfl ?_
  refine cV_I (pc := 3) (As := [(.int p1), (.int p2)]) (rest := []) (ct_X9_gaugeDayFault p1 p2 M) rfl xC9 rfl (by decide) ml_X9_141 meX9_gaugeDayFault rfl ⟨prX9_gaugeDayFault, (Nat.le_of_ble_eq_true rfl), (Nat.le_of_ble_eq_true rfl), rfl, rfl⟩ (Nat.le_of_ble_eq_true rfl) dX9_squares_3 (fun v1 => ?_)
  refine x_istore_n (pc := 6) (L' := [some (.ref 0), some (.int p1), some (.int p2), some (.int v1)]) dX9_squares_6 (Nat.le_of_ble_eq_true rfl) rfl rfl ?_
  refine x_iload_n (pc := 7) dX9_squares_7 rfl ?_
  refine x_if_eq (pc := 8) (tgt := 15) dX9_squares_8 (by decide) (fun h2 => ?_) (fun h2 => ?_)
  · refine x_aload_n (pc := 15) dX9_squares_15 rfl ?_
    refine m_getR (pc := 16) (t := 146) xC9 3 fl_X9_35 rfl (by decide) rfl (by decide) rfl dX9_squares_16 ?_
    refine x_aload_n (pc := 19) dX9_squares_19 rfl ?_
    refine cV_B (pc := 20) (As := []) (rest := [(.ref 146)]) (ct_X9_openBooks M) rfl xC9 rfl (by decide) ml_X9_147 meX9_openBooks rfl ⟨prX9_openBooks, (Nat.le_of_ble_eq_true rfl), (Nat.le_of_ble_eq_true rfl), rfl, rfl⟩ (Nat.le_of_ble_eq_true rfl) dX9_squares_20 (fun q3 => ?_)
    refine x_iload_n (pc := 23) dX9_squares_23 rfl ?_
    refine x_iload_n (pc := 24) dX9_squares_24 rfl ?_
    refine cV_I (pc := 25) (As := [(.ref 72), (.int p1), (.int p2)]) (rest := []) (ct_X4_countOwned p1 p2 q3) rfl xC4 rfl (by decide) ml_X9_177 meX4_countOwned rfl ⟨prX4_countOwned, (Nat.le_of_ble_eq_true rfl), (Nat.le_of_ble_eq_true rfl), rfl, rfl⟩ (Nat.le_of_ble_eq_true rfl) dX9_squares_25 (fun v4 => ?_)
    exact x_iret (pc := 28) rfl rfl dX9_squares_28 (Nat.zero_le _) (Nat.zero_le _)
  · refine x_iload_n (pc := 11) dX9_squares_11 rfl ?_
    refine x_goto (pc := 12) (tgt := 28) dX9_squares_12 (by decide) ?_
    exact x_iret (pc := 28) rfl rfl dX9_squares_28 (Nat.zero_le _) (Nat.zero_le _)

set_option maxRecDepth 100000 in
set_option maxHeartbeats 4000000 in
theorem ct_X9_isValley (p0 : Int32) (M : xM)  : Ct iX9_isValley (rI M) [(.int p0)] (xwd M) (fX9_isValley p0 M) := by
  refine Ct.of' (L := [some (.int p0)]) 0 rfl (by decide +kernel) (Nat.le_of_ble_eq_true rfl) rfl ?_
  unfold fX9_isValley
  refine x_iload_n (pc := 0) dX9_isValley_0 rfl ?_
  refine x_if_lt (pc := 1) (tgt := 14) dX9_isValley_1 (by decide) (fun h1 => ?_) (fun h1 => ?_)
  · refine x_iconst (pc := 14) (a := 0) dX9_isValley_14 (by decide) ?_
    exact x_zret (pc := 15) rfl (by decide) rfl dX9_isValley_15 (Nat.zero_le _) (Nat.zero_le _)
  · refine x_iload_n (pc := 4) dX9_isValley_4 rfl ?_
    refine x_bipush (pc := 5) (a := 8) dX9_isValley_5 (by decide) ?_
    refine x_icmp_ge (pc := 7) (tgt := 14) dX9_isValley_7 (by decide) (fun h2 => ?_) (fun h2 => ?_)
    · refine x_iconst (pc := 14) (a := 0) dX9_isValley_14 (by decide) ?_
      exact x_zret (pc := 15) rfl (by decide) rfl dX9_isValley_15 (Nat.zero_le _) (Nat.zero_le _)
    · refine x_iconst (pc := 10) (a := 1) dX9_isValley_10 (by decide) ?_
      refine x_goto (pc := 11) (tgt := 15) dX9_isValley_11 (by decide) ?_
      exact x_zret (pc := 15) rfl (by decide) rfl dX9_isValley_15 (Nat.zero_le _) (Nat.zero_le _)

set_option maxRecDepth 100000 in
set_option maxHeartbeats 4000000 in
theorem ct_X9_valley (p1 : Int32) (p2 : Int32) (p3 : Int32) (p4 : Int32) (M : xM)  : Ct iX9_valley rIM [(.ref 0), (.int p1), (.int p2), (.int p3), (.int p4)] (xwd M) (fX9_valley p1 p2 p3 p4 M) := by
  refine Ct.of' (L := [some (.ref 0), some (.int p1), some (.int p2), some (.int p3), some (.int p4)]) 0 rfl (by decide +kernel) (Nat.le_of_ble_eq_true rfl) rfl ?_
  unfold fX9_valley
  refine x_iload_n (pc := 0) dX9_valley_0 rfl ?_
  refine cS_I (pc := 1) (As := [(.int p1)]) (rest := []) (ct_X9_isValley p1 M) rfl ml_X9_180 meX9_isValley rfl ⟨prX9_isValley, (Nat.le_of_ble_eq_true rfl), (Nat.le_of_ble_eq_true rfl), rfl, rfl⟩ (Nat.le_of_ble_eq_true rfl) dX9_valley_1 (fun v1 => ?_)
  refine x_if_eq (pc := 4) (tgt := 15) dX9_valley_4 (by decide) (fun h2 => ?_) (fun h2 => ?_)
  · refine x_iconst (pc := 15) (a := -1) dX9_valley_15 (by decide) ?_
    exact x_iret (pc := 16) rfl rfl dX9_valley_16 (Nat.zero_le _) (Nat.zero_le _)
  · refine x_iload_n (pc := 7) dX9_valley_7 rfl ?_
    refine x_iload_n (pc := 8) dX9_valley_8 rfl ?_
    refine cS_I (pc := 9) (As := [(.int p2), (.int p3)]) (rest := []) (ct_X9_isSquare p2 p3 M) rfl ml_X9_50 meX9_isSquare rfl ⟨prX9_isSquare, (Nat.le_of_ble_eq_true rfl), (Nat.le_of_ble_eq_true rfl), rfl, rfl⟩ (Nat.le_of_ble_eq_true rfl) dX9_valley_9 (fun v3 => ?_)
    refine x_if_ne (pc := 12) (tgt := 17) dX9_valley_12 (by decide) (fun h4 => ?_) (fun h4 => ?_)
    · refine x_aload_n (pc := 17) dX9_valley_17 rfl ?_
      refine m_getR (pc := 18) (t := 146) xC9 3 fl_X9_35 rfl (by decide) rfl (by decide) rfl dX9_valley_18 ?_
      refine m_getR (pc := 21) (t := 147) xC4 1 fl_X9_183 rfl (by decide) rfl (by decide) rfl dX9_valley_21 ?_
      refine x_iload_n (pc := 24) dX9_valley_24 rfl ?_
      refine m_aald (pc := 25) (t0 := 4) rfl (by decide) rfl (fun _ => rfl) rfl (xE_va _) dX9_valley_25 (fun hb5 => ?_)
      refine x_iload_n (pc := 26) dX9_valley_26 rfl ?_
      refine x_iload_n (pc := 27) dX9_valley_27 rfl ?_
      refine x_bipush (pc := 28) (a := 10) dX9_valley_28 (by decide) ?_
      refine x_imul (pc := 30) dX9_valley_30 ?_
      refine x_iadd (pc := 31) dX9_valley_31 ?_
      refine x_iload (pc := 32) dX9_valley_32 rfl ?_
      refine cV_IM (pc := 34) (As := [(.int (p2 + (p3 * (10:Int32)))), (.int p4)]) (rest := []) (ct_X8_change p1.toNatClampNeg (p2 + (p3 * (10:Int32))) p4 M (xinb_lt hb5)) rfl xC8 (xVa (xinb_lt hb5)) (by decide) ml_X9_187 meX8_change rfl ⟨prX8_change, (Nat.le_of_ble_eq_true rfl), (Nat.le_of_ble_eq_true rfl), rfl, rfl⟩ (Nat.le_of_ble_eq_true rfl) dX9_valley_34 (fun q6 => ?_)
      exact x_iret (pc := 37) rfl rfl dX9_valley_37 (Nat.zero_le _) (Nat.zero_le _)
    · refine x_iconst (pc := 15) (a := -1) dX9_valley_15 (by decide) ?_
      exact x_iret (pc := 16) rfl rfl dX9_valley_16 (Nat.zero_le _) (Nat.zero_le _)

set_option maxRecDepth 100000 in
set_option maxHeartbeats 4000000 in
theorem ct_X9_rain (p1 : Int32) (p2 : Int32) (M : xM)  : Ct iX9_rain rIM [(.ref 0), (.int p1), (.int p2)] (xwd M) (fX9_rain p1 p2 M) := by
  refine Ct.of' (L := [some (.ref 0), some (.int p1), some (.int p2)]) 0 rfl (by decide +kernel) (Nat.le_of_ble_eq_true rfl) rfl ?_
  unfold fX9_rain
  refine x_iload_n (pc := 0) dX9_rain_0 rfl ?_
  refine cS_I (pc := 1) (As := [(.int p1)]) (rest := []) (ct_X9_isValley p1 M) rfl ml_X9_180 meX9_isValley rfl ⟨prX9_isValley, (Nat.le_of_ble_eq_true rfl), (Nat.le_of_ble_eq_true rfl), rfl, rfl⟩ (Nat.le_of_ble_eq_true rfl) dX9_rain_1 (fun v1 => ?_)
  refine x_if_eq (pc := 4) (tgt := 31) dX9_rain_4 (by decide) (fun h2 => ?_) (fun h2 => ?_)
  · refine x_iconst (pc := 31) (a := -1) dX9_rain_31 (by decide) ?_
    exact x_iret (pc := 32) rfl rfl dX9_rain_32 (Nat.zero_le _) (Nat.zero_le _)
  · refine x_aload_n (pc := 7) dX9_rain_7 rfl ?_
    refine m_getR (pc := 8) (t := 146) xC9 3 fl_X9_35 rfl (by decide) rfl (by decide) rfl dX9_rain_8 ?_
    refine x_aload_n (pc := 11) dX9_rain_11 rfl ?_
    refine cV_B (pc := 12) (As := []) (rest := [(.ref 146)]) (ct_X9_openBooks M) rfl xC9 rfl (by decide) ml_X9_147 meX9_openBooks rfl ⟨prX9_openBooks, (Nat.le_of_ble_eq_true rfl), (Nat.le_of_ble_eq_true rfl), rfl, rfl⟩ (Nat.le_of_ble_eq_true rfl) dX9_rain_12 (fun q3 => ?_)
    refine x_aload_n (pc := 15) dX9_rain_15 rfl ?_
    refine m_getR (pc := 16) (t := 146) xC9 3 fl_X9_35 rfl (by decide) rfl (by decide) rfl dX9_rain_16 ?_
    refine m_getR (pc := 19) (t := 147) xC4 1 fl_X9_183 rfl (by decide) rfl (by decide) rfl dX9_rain_19 ?_
    refine x_iload_n (pc := 22) dX9_rain_22 rfl ?_
    refine m_aald (pc := 23) (t0 := 4) rfl (by decide) rfl (fun _ => rfl) rfl (xE_va _) dX9_rain_23 (fun hb4 => ?_)
    refine x_iload_n (pc := 24) dX9_rain_24 rfl ?_
    refine cV_I (pc := 25) (As := [(.ref 72), (.ref (148 + 2 * p1.toNatClampNeg)), (.int p2)]) (rest := []) (ct_X4_rainOf p1.toNatClampNeg p2 q3 (xinb_lt hb4)) rfl xC4 rfl (by decide) ml_X9_193 meX4_rainOf rfl ⟨prX4_rainOf, (Nat.le_of_ble_eq_true rfl), (Nat.le_of_ble_eq_true rfl), rfl, rfl⟩ (Nat.le_of_ble_eq_true rfl) dX9_rain_25 (fun v5 => ?_)
    refine x_goto (pc := 28) (tgt := 32) dX9_rain_28 (by decide) ?_
    exact x_iret (pc := 32) rfl rfl dX9_rain_32 (Nat.zero_le _) (Nat.zero_le _)

set_option maxRecDepth 100000 in
set_option maxHeartbeats 4000000 in
theorem ct_X9_mean (p1 : Int32) (p2 : Int32) (M : xM)  : Ct iX9_mean rIM [(.ref 0), (.int p1), (.int p2)] (xwd M) (fX9_mean p1 p2 M) := by
  refine Ct.of' (L := [some (.ref 0), some (.int p1), some (.int p2), none, none]) 2 rfl (by decide +kernel) (Nat.le_of_ble_eq_true rfl) rfl ?_
  unfold fX9_mean
  refine x_iload_n (pc := 0) dX9_mean_0 rfl ?_
  refine cS_I (pc := 1) (As := [(.int p1)]) (rest := []) (ct_X9_isValley p1 M) rfl ml_X9_180 meX9_isValley rfl ⟨prX9_isValley, (Nat.le_of_ble_eq_true rfl), (Nat.le_of_ble_eq_true rfl), rfl, rfl⟩ (Nat.le_of_ble_eq_true rfl) dX9_mean_1 (fun v1 => ?_)
  refine x_if_ne (pc := 4) (tgt := 9) dX9_mean_4 (by decide) (fun h2 => ?_) (fun h2 => ?_)
  · refine x_aload_n (pc := 9) dX9_mean_9 rfl ?_
    refine m_getR (pc := 10) (t := 146) xC9 3 fl_X9_35 rfl (by decide) rfl (by decide) rfl dX9_mean_10 ?_
    refine m_getR (pc := 13) (t := 147) xC4 1 fl_X9_183 rfl (by decide) rfl (by decide) rfl dX9_mean_13 ?_
    refine x_iload_n (pc := 16) dX9_mean_16 rfl ?_
    refine m_aald (pc := 17) (t0 := 4) rfl (by decide) rfl (fun _ => rfl) rfl (xE_va _) dX9_mean_17 (fun hb3 => ?_)
    refine x_astore_n (pc := 18) (L' := [some (.ref 0), some (.int p1), some (.int p2), some (.ref (148 + 2 * p1.toNatClampNeg)), none]) dX9_mean_18 (Nat.le_of_ble_eq_true rfl) rfl rfl ?_
    refine x_aload_n (pc := 19) dX9_mean_19 rfl ?_
    refine m_getR (pc := 20) (t := 146) xC9 3 fl_X9_35 rfl (by decide) rfl (by decide) rfl dX9_mean_20 ?_
    refine x_aload_n (pc := 23) dX9_mean_23 rfl ?_
    refine cV_B (pc := 24) (As := []) (rest := [(.ref 146)]) (ct_X9_openBooks M) rfl xC9 rfl (by decide) ml_X9_147 meX9_openBooks rfl ⟨prX9_openBooks, (Nat.le_of_ble_eq_true rfl), (Nat.le_of_ble_eq_true rfl), rfl, rfl⟩ (Nat.le_of_ble_eq_true rfl) dX9_mean_24 (fun q4 => ?_)
    refine x_aload_n (pc := 27) dX9_mean_27 rfl ?_
    refine x_iload_n (pc := 28) dX9_mean_28 rfl ?_
    refine cV_I (pc := 29) (As := [(.ref 72), (.ref (148 + 2 * p1.toNatClampNeg)), (.int p2)]) (rest := []) (ct_X4_rainOf p1.toNatClampNeg p2 q4 (xinb_lt hb3)) rfl xC4 rfl (by decide) ml_X9_193 meX4_rainOf rfl ⟨prX4_rainOf, (Nat.le_of_ble_eq_true rfl), (Nat.le_of_ble_eq_true rfl), rfl, rfl⟩ (Nat.le_of_ble_eq_true rfl) dX9_mean_29 (fun v5 => ?_)
    refine x_istore (pc := 32) (L' := [some (.ref 0), some (.int p1), some (.int p2), some (.ref (148 + 2 * p1.toNatClampNeg)), some (.int v5)]) dX9_mean_32 (Nat.le_of_ble_eq_true rfl) rfl rfl ?_
    refine x_iload (pc := 34) dX9_mean_34 rfl ?_
    refine x_iconst (pc := 36) (a := -1) dX9_mean_36 (by decide) ?_
    refine x_icmp_eq (pc := 37) (tgt := 48) dX9_mean_37 (by decide) (fun h6 => ?_) (fun h6 => ?_)
    · refine x_iconst (pc := 48) (a := -1) dX9_mean_48 (by decide) ?_
      refine x_goto (pc := 49) (tgt := 63) dX9_mean_49 (by decide) ?_
      exact x_iret (pc := 63) rfl rfl dX9_mean_63 (Nat.zero_le _) (Nat.zero_le _)
    · refine x_aload_n (pc := 40) dX9_mean_40 rfl ?_
      refine m_getI (pc := 41) xC8 1 fl_X9_197 (xVa (xinb_lt hb3)) (by decide) rfl (by decide) rfl dX9_mean_41 ?_
      refine x_iconst (pc := 44) (a := 1) dX9_mean_44 (by decide) ?_
      refine x_icmp_ge (pc := 45) (tgt := 52) dX9_mean_45 (by decide) (fun h7 => ?_) (fun h7 => ?_)
      · refine x_iload (pc := 52) dX9_mean_52 rfl ?_
        refine x_sipush (pc := 54) (a := 1000) dX9_mean_54 (by decide) ?_
        refine x_imul (pc := 57) dX9_mean_57 ?_
        refine x_aload_n (pc := 58) dX9_mean_58 rfl ?_
        refine m_getI (pc := 59) xC8 1 fl_X9_197 (xVa (xinb_lt hb3)) (by decide) rfl (by decide) rfl dX9_mean_59 ?_
        refine x_idiv (pc := 62) dX9_mean_62 (fun hb8 => ?_)
        exact x_iret (pc := 63) rfl rfl dX9_mean_63 (Nat.zero_le _) (Nat.zero_le _)
      · refine x_iconst (pc := 48) (a := -1) dX9_mean_48 (by decide) ?_
        refine x_goto (pc := 49) (tgt := 63) dX9_mean_49 (by decide) ?_
        exact x_iret (pc := 63) rfl rfl dX9_mean_63 (Nat.zero_le _) (Nat.zero_le _)
  · refine x_iconst (pc := 7) (a := -1) dX9_mean_7 (by decide) ?_
    exact x_iret (pc := 8) rfl rfl dX9_mean_8 (Nat.zero_le _) (Nat.zero_le _)

set_option maxRecDepth 100000 in
set_option maxHeartbeats 4000000 in
theorem ct_X9_flow (p1 : Int32) (p2 : Int32) (M : xM)  : Ct iX9_flow rJM [(.ref 0), (.int p1), (.int p2)] (xwd M) (fX9_flow p1 p2 M) := by
  refine Ct.of' (L := [some (.ref 0), some (.int p1), some (.int p2)]) 0 rfl (by decide +kernel) (Nat.le_of_ble_eq_true rfl) rfl ?_
  unfold fX9_flow
  refine x_iload_n (pc := 0) dX9_flow_0 rfl ?_
  refine cS_I (pc := 1) (As := [(.int p1)]) (rest := []) (ct_X9_isValley p1 M) rfl ml_X9_180 meX9_isValley rfl ⟨prX9_isValley, (Nat.le_of_ble_eq_true rfl), (Nat.le_of_ble_eq_true rfl), rfl, rfl⟩ (Nat.le_of_ble_eq_true rfl) dX9_flow_1 (fun v1 => ?_)
  refine x_if_eq (pc := 4) (tgt := 17) dX9_flow_4 (by decide) (fun h2 => ?_) (fun h2 => ?_)
  · refine x_ldc2 (pc := 17) (a := -1) dX9_flow_17 rfl (xword 631 (by decide +kernel) rfl) ?_
    exact x_lret (pc := 20) rfl rfl dX9_flow_20 (Nat.zero_le _) (Nat.zero_le _)
  · refine x_iload_n (pc := 7) dX9_flow_7 rfl ?_
    refine x_if_lt (pc := 8) (tgt := 17) dX9_flow_8 (by decide) (fun h3 => ?_) (fun h3 => ?_)
    · refine x_ldc2 (pc := 17) (a := -1) dX9_flow_17 rfl (xword 631 (by decide +kernel) rfl) ?_
      exact x_lret (pc := 20) rfl rfl dX9_flow_20 (Nat.zero_le _) (Nat.zero_le _)
    · refine x_iload_n (pc := 11) dX9_flow_11 rfl ?_
      refine x_bipush (pc := 12) (a := 64) dX9_flow_12 (by decide) ?_
      refine x_icmp_lt (pc := 14) (tgt := 21) dX9_flow_14 (by decide) (fun h4 => ?_) (fun h4 => ?_)
      · refine x_aload_n (pc := 21) dX9_flow_21 rfl ?_
        refine m_getR (pc := 22) (t := 146) xC9 3 fl_X9_35 rfl (by decide) rfl (by decide) rfl dX9_flow_22 ?_
        refine x_aload_n (pc := 25) dX9_flow_25 rfl ?_
        refine cV_B (pc := 26) (As := []) (rest := [(.ref 146)]) (ct_X9_openBooks M) rfl xC9 rfl (by decide) ml_X9_147 meX9_openBooks rfl ⟨prX9_openBooks, (Nat.le_of_ble_eq_true rfl), (Nat.le_of_ble_eq_true rfl), rfl, rfl⟩ (Nat.le_of_ble_eq_true rfl) dX9_flow_26 (fun q5 => ?_)
        refine x_aload_n (pc := 29) dX9_flow_29 rfl ?_
        refine m_getR (pc := 30) (t := 146) xC9 3 fl_X9_35 rfl (by decide) rfl (by decide) rfl dX9_flow_30 ?_
        refine m_getR (pc := 33) (t := 147) xC4 1 fl_X9_183 rfl (by decide) rfl (by decide) rfl dX9_flow_33 ?_
        refine x_iload_n (pc := 36) dX9_flow_36 rfl ?_
        refine m_aald (pc := 37) (t0 := 4) rfl (by decide) rfl (fun _ => rfl) rfl (xE_va _) dX9_flow_37 (fun hb6 => ?_)
        refine x_iload_n (pc := 38) dX9_flow_38 rfl ?_
        refine cV_J (pc := 39) (As := [(.ref 72), (.ref (148 + 2 * p1.toNatClampNeg)), (.int p2)]) (rest := []) (ct_X4_flowOf p1.toNatClampNeg p2 q5 (xinb_lt hb6)) rfl xC4 rfl (by decide) ml_X9_202 meX4_flowOf rfl ⟨prX4_flowOf, (Nat.le_of_ble_eq_true rfl), (Nat.le_of_ble_eq_true rfl), rfl, rfl⟩ (Nat.le_of_ble_eq_true rfl) dX9_flow_39 (fun v7 => ?_)
        exact x_lret (pc := 42) rfl rfl dX9_flow_42 (Nat.zero_le _) (Nat.zero_le _)
      · refine x_ldc2 (pc := 17) (a := -1) dX9_flow_17 rfl (xword 631 (by decide +kernel) rfl) ?_
        exact x_lret (pc := 20) rfl rfl dX9_flow_20 (Nat.zero_le _) (Nat.zero_le _)

set_option maxRecDepth 100000 in
set_option maxHeartbeats 4000000 in
theorem ct_X9_ahead (p1 : Int32) (p2 : Int64) (M : xM)  : Ct iX9_ahead rIM [(.ref 0), (.int p1), (.long p2)] (xwd M) (fX9_ahead p1 p2 M) := by
  refine Ct.of' (L := [some (.ref 0), some (.int p1), some (.long p2), none, none, none]) 2 rfl (by decide +kernel) (Nat.le_of_ble_eq_true rfl) rfl ?_
  unfold fX9_ahead
  refine x_iload_n (pc := 0) dX9_ahead_0 rfl ?_
  refine cS_I (pc := 1) (As := [(.int p1)]) (rest := []) (ct_X9_isValley p1 M) rfl ml_X9_180 meX9_isValley rfl ⟨prX9_isValley, (Nat.le_of_ble_eq_true rfl), (Nat.le_of_ble_eq_true rfl), rfl, rfl⟩ (Nat.le_of_ble_eq_true rfl) dX9_ahead_1 (fun v1 => ?_)
  refine x_if_ne (pc := 4) (tgt := 9) dX9_ahead_4 (by decide) (fun h2 => ?_) (fun h2 => ?_)
  · refine x_aload_n (pc := 9) dX9_ahead_9 rfl ?_
    refine cV_B (pc := 10) (As := []) (rest := []) (ct_X9_openBooks M) rfl xC9 rfl (by decide) ml_X9_147 meX9_openBooks rfl ⟨prX9_openBooks, (Nat.le_of_ble_eq_true rfl), (Nat.le_of_ble_eq_true rfl), rfl, rfl⟩ (Nat.le_of_ble_eq_true rfl) dX9_ahead_10 (fun q3 => ?_)
    refine x_astore (pc := 13) (L' := [some (.ref 0), some (.int p1), some (.long p2), none, some (.ref 72), none]) dX9_ahead_13 (Nat.le_of_ble_eq_true rfl) rfl rfl ?_
    refine x_aload_n (pc := 15) dX9_ahead_15 rfl ?_
    refine m_getR (pc := 16) (t := 1) xC9 0 fl_X9_10 rfl (by decide) rfl (by decide) rfl dX9_ahead_16 ?_
    refine m_getI (pc := 19) xC6 3 fl_X9_67 rfl (by decide) rfl (by decide) rfl dX9_ahead_19 ?_
    refine SP.bdi (fun x4 e5 => ?_)
    refine x_istore (pc := 22) (L' := [some (.ref 0), some (.int p1), some (.long p2), none, some (.ref 72), some (.int x4)]) dX9_ahead_22 (Nat.le_of_ble_eq_true rfl) rfl rfl ?_
    refine SP.mask (pc := 24) [true, true, true, false, true, true] (L' := [some (.ref 0), some (.int p1), some (.long p2), none, some (.ref 72), some (.int x4)]) rfl ?_
    refine SP.lp (pc := 24) (fun (s6 : Int32) => [some (.ref 0), some (.int p1), some (.long p2), none, some (.ref 72), some (.int s6)]) (fun (s6 : Int32) => xwd q3) (fun s6 kk7 hkk7 => ?_) xfu x4
    try dsimp only
    refine x_iload (pc := 24) dX9_ahead_24 rfl ?_
    refine x_bipush (pc := 26) (a := 64) dX9_ahead_26 (by decide) ?_
    refine x_icmp_ge (pc := 28) (tgt := 65) dX9_ahead_28 (by decide) (fun h8 => ?_) (fun h8 => ?_)
    · refine x_iconst (pc := 65) (a := -1) dX9_ahead_65 (by decide) ?_
      exact x_iret (pc := 66) rfl rfl dX9_ahead_66 (Nat.zero_le _) (Nat.zero_le _)
    · refine x_aload_n (pc := 31) dX9_ahead_31 rfl ?_
      refine m_getR (pc := 32) (t := 146) xC9 3 fl_X9_35 rfl (by decide) rfl (by decide) rfl dX9_ahead_32 ?_
      refine x_aload (pc := 35) dX9_ahead_35 rfl ?_
      refine x_aload_n (pc := 37) dX9_ahead_37 rfl ?_
      refine m_getR (pc := 38) (t := 146) xC9 3 fl_X9_35 rfl (by decide) rfl (by decide) rfl dX9_ahead_38 ?_
      refine m_getR (pc := 41) (t := 147) xC4 1 fl_X9_183 rfl (by decide) rfl (by decide) rfl dX9_ahead_41 ?_
      refine x_iload_n (pc := 44) dX9_ahead_44 rfl ?_
      refine m_aald (pc := 45) (t0 := 4) rfl (by decide) rfl (fun _ => rfl) rfl (xE_va _) dX9_ahead_45 (fun hb9 => ?_)
      refine x_iload (pc := 46) dX9_ahead_46 rfl ?_
      refine cV_J (pc := 48) (As := [(.ref 72), (.ref (148 + 2 * p1.toNatClampNeg)), (.int s6)]) (rest := []) (ct_X4_flowOf p1.toNatClampNeg s6 q3 (xinb_lt hb9)) rfl xC4 rfl (by decide) ml_X9_202 meX4_flowOf rfl ⟨prX4_flowOf, (Nat.le_of_ble_eq_true rfl), (Nat.le_of_ble_eq_true rfl), rfl, rfl⟩ (Nat.le_of_ble_eq_true rfl) dX9_ahead_48 (fun v10 => ?_)
      refine x_lload_n (pc := 51) dX9_ahead_51 rfl ?_
      refine x_lcmp (pc := 52) dX9_ahead_52 ?_
      refine x_if_le (pc := 53) (tgt := 59) dX9_ahead_53 (by decide) (fun h11 => ?_) (fun h11 => ?_)
      · refine x_iinc (pc := 59) (b := (s6 + 1)) (L' := [some (.ref 0), some (.int p1), some (.long p2), none, some (.ref 72), some (.int (s6 + 1))]) dX9_ahead_59 rfl rfl (Nat.le_of_ble_eq_true rfl) rfl rfl ?_
        refine x_goto (pc := 62) (tgt := 24) dX9_ahead_62 (by decide) ?_
        have hz := hkk7 (s6 + 1)
        try dsimp only at hz
        exact hz
      · refine x_iload (pc := 56) dX9_ahead_56 rfl ?_
        exact x_iret (pc := 58) rfl rfl dX9_ahead_58 (Nat.zero_le _) (Nat.zero_le _)
  · refine x_iconst (pc := 7) (a := -1) dX9_ahead_7 (by decide) ?_
    exact x_iret (pc := 8) rfl rfl dX9_ahead_8 (Nat.zero_le _) (Nat.zero_le _)

set_option maxRecDepth 100000 in
set_option maxHeartbeats 4000000 in
theorem ct_X9_week (p1 : Int32) (p2 : Int32) (p3 : Int32) (M : xM)  : Ct iX9_week rIM [(.ref 0), (.int p1), (.int p2), (.int p3)] (xwd M) (fX9_week p1 p2 p3 M) := by
  refine Ct.of' (L := [some (.ref 0), some (.int p1), some (.int p2), some (.int p3), none]) 1 rfl (by decide +kernel) (Nat.le_of_ble_eq_true rfl) rfl ?_
  unfold fX9_week
  refine x_aload_n (pc := 0) dX9_week_0 rfl ?_
  refine x_iload_n (pc := 1) dX9_week_1 rfl ?_
  refine cV_I (pc := 2) (As := [(.int p1)]) (rest := []) (ct_X9_dailyGaugeFault p1 M) rfl xC9 rfl (by decide) ml_X9_117 meX9_dailyGaugeFault rfl ⟨prX9_dailyGaugeFault, (Nat.le_of_ble_eq_true rfl), (Nat.le_of_ble_eq_true rfl), rfl, rfl⟩ (Nat.le_of_ble_eq_true rfl) dX9_week_2 (fun v1 => ?_)
  refine x_istore (pc := 5) (L' := [some (.ref 0), some (.int p1), some (.int p2), some (.int p3), some (.int v1)]) dX9_week_5 (Nat.le_of_ble_eq_true rfl) rfl rfl ?_
  refine x_iload (pc := 7) dX9_week_7 rfl ?_
  refine x_if_eq (pc := 9) (tgt := 15) dX9_week_9 (by decide) (fun h2 => ?_) (fun h2 => ?_)
  · refine x_iload_n (pc := 15) dX9_week_15 rfl ?_
    refine x_if_lt (pc := 16) (tgt := 34) dX9_week_16 (by decide) (fun h3 => ?_) (fun h3 => ?_)
    · refine x_iconst (pc := 34) (a := -1) dX9_week_34 (by decide) ?_
      exact x_iret (pc := 35) rfl rfl dX9_week_35 (Nat.zero_le _) (Nat.zero_le _)
    · refine x_iload_n (pc := 19) dX9_week_19 rfl ?_
      refine x_bipush (pc := 20) (a := 8) dX9_week_20 (by decide) ?_
      refine x_icmp_ge (pc := 22) (tgt := 34) dX9_week_22 (by decide) (fun h4 => ?_) (fun h4 => ?_)
      · refine x_iconst (pc := 34) (a := -1) dX9_week_34 (by decide) ?_
        exact x_iret (pc := 35) rfl rfl dX9_week_35 (Nat.zero_le _) (Nat.zero_le _)
      · refine x_iload_n (pc := 25) dX9_week_25 rfl ?_
        refine x_if_lt (pc := 26) (tgt := 34) dX9_week_26 (by decide) (fun h5 => ?_) (fun h5 => ?_)
        · refine x_iconst (pc := 34) (a := -1) dX9_week_34 (by decide) ?_
          exact x_iret (pc := 35) rfl rfl dX9_week_35 (Nat.zero_le _) (Nat.zero_le _)
        · refine x_iload_n (pc := 29) dX9_week_29 rfl ?_
          refine x_iconst (pc := 30) (a := 1) dX9_week_30 (by decide) ?_
          refine x_icmp_le (pc := 31) (tgt := 36) dX9_week_31 (by decide) (fun h6 => ?_) (fun h6 => ?_)
          · refine x_aload_n (pc := 36) dX9_week_36 rfl ?_
            refine m_getR (pc := 37) (t := 164) xC9 4 fl_X9_42 rfl (by decide) rfl (by decide) rfl dX9_week_37 ?_
            refine x_aload_n (pc := 40) dX9_week_40 rfl ?_
            refine cV_B (pc := 41) (As := []) (rest := [(.ref 164)]) (ct_X9_openBooks M) rfl xC9 rfl (by decide) ml_X9_147 meX9_openBooks rfl ⟨prX9_openBooks, (Nat.le_of_ble_eq_true rfl), (Nat.le_of_ble_eq_true rfl), rfl, rfl⟩ (Nat.le_of_ble_eq_true rfl) dX9_week_41 (fun q7 => ?_)
            refine x_iload_n (pc := 44) dX9_week_44 rfl ?_
            refine cV_M (pc := 45) (As := [(.ref 72), (.int p1)]) (rest := []) (ct_X1_sumWeeks p1 q7) rfl xC1 rfl (by decide) ml_X9_206 meX1_sumWeeks rfl ⟨prX1_sumWeeks, (Nat.le_of_ble_eq_true rfl), (Nat.le_of_ble_eq_true rfl), rfl, rfl⟩ (Nat.le_of_ble_eq_true rfl) dX9_week_45 (fun q8 => ?_)
            refine x_iload_n (pc := 48) dX9_week_48 rfl ?_
            refine x_if_ne (pc := 49) (tgt := 64) dX9_week_49 (by decide) (fun h9 => ?_) (fun h9 => ?_)
            · refine x_aload_n (pc := 64) dX9_week_64 rfl ?_
              refine m_getR (pc := 65) (t := 164) xC9 4 fl_X9_42 rfl (by decide) rfl (by decide) rfl dX9_week_65 ?_
              refine m_getR (pc := 68) (t := 169) xC1 3 fl_X9_213 rfl (by decide) rfl (by decide) rfl dX9_week_68 ?_
              refine x_iload_n (pc := 71) dX9_week_71 rfl ?_
              refine m_iald (pc := 72) rfl rfl dX9_week_72 (fun hb10 => ?_)
              exact x_iret (pc := 73) rfl rfl dX9_week_73 (Nat.zero_le _) (Nat.zero_le _)
            · refine x_aload_n (pc := 52) dX9_week_52 rfl ?_
              refine m_getR (pc := 53) (t := 164) xC9 4 fl_X9_42 rfl (by decide) rfl (by decide) rfl dX9_week_53 ?_
              refine m_getR (pc := 56) (t := 168) xC1 2 fl_X9_210 rfl (by decide) rfl (by decide) rfl dX9_week_56 ?_
              refine x_iload_n (pc := 59) dX9_week_59 rfl ?_
              refine m_iald (pc := 60) rfl rfl dX9_week_60 (fun hb11 => ?_)
              refine x_goto (pc := 61) (tgt := 73) dX9_week_61 (by decide) ?_
              exact x_iret (pc := 73) rfl rfl dX9_week_73 (Nat.zero_le _) (Nat.zero_le _)
          · refine x_iconst (pc := 34) (a := -1) dX9_week_34 (by decide) ?_
            exact x_iret (pc := 35) rfl rfl dX9_week_35 (Nat.zero_le _) (Nat.zero_le _)
  · refine x_iload (pc := 12) dX9_week_12 rfl ?_
    exact x_iret (pc := 14) rfl rfl dX9_week_14 (Nat.zero_le _) (Nat.zero_le _)

set_option maxRecDepth 100000 in
set_option maxHeartbeats 4000000 in
theorem ct_X9_cleft (p1 : Int32) (M : xM)  : Ct iX9_cleft rIM [(.ref 0), (.int p1)] (xwd M) (fX9_cleft p1 M) := by
  refine Ct.of' (L := [some (.ref 0), some (.int p1), none]) 1 rfl (by decide +kernel) (Nat.le_of_ble_eq_true rfl) rfl ?_
  unfold fX9_cleft
  refine x_aload_n (pc := 0) dX9_cleft_0 rfl ?_
  refine x_iload_n (pc := 1) dX9_cleft_1 rfl ?_
  refine cV_I (pc := 2) (As := [(.int p1)]) (rest := []) (ct_X9_dailyGaugeFault p1 M) rfl xC9 rfl (by decide) ml_X9_117 meX9_dailyGaugeFault rfl ⟨prX9_dailyGaugeFault, (Nat.le_of_ble_eq_true rfl), (Nat.le_of_ble_eq_true rfl), rfl, rfl⟩ (Nat.le_of_ble_eq_true rfl) dX9_cleft_2 (fun v1 => ?_)
  refine x_istore_n (pc := 5) (L' := [some (.ref 0), some (.int p1), some (.int v1)]) dX9_cleft_5 (Nat.le_of_ble_eq_true rfl) rfl rfl ?_
  refine x_iload_n (pc := 6) dX9_cleft_6 rfl ?_
  refine x_if_eq (pc := 7) (tgt := 12) dX9_cleft_7 (by decide) (fun h2 => ?_) (fun h2 => ?_)
  · refine x_aload_n (pc := 12) dX9_cleft_12 rfl ?_
    refine m_getR (pc := 13) (t := 164) xC9 4 fl_X9_42 rfl (by decide) rfl (by decide) rfl dX9_cleft_13 ?_
    refine x_aload_n (pc := 16) dX9_cleft_16 rfl ?_
    refine cV_B (pc := 17) (As := []) (rest := [(.ref 164)]) (ct_X9_openBooks M) rfl xC9 rfl (by decide) ml_X9_147 meX9_openBooks rfl ⟨prX9_openBooks, (Nat.le_of_ble_eq_true rfl), (Nat.le_of_ble_eq_true rfl), rfl, rfl⟩ (Nat.le_of_ble_eq_true rfl) dX9_cleft_17 (fun q3 => ?_)
    refine x_iload_n (pc := 20) dX9_cleft_20 rfl ?_
    refine cV_M (pc := 21) (As := [(.ref 72), (.int p1)]) (rest := []) (ct_X1_sumWeeks p1 q3) rfl xC1 rfl (by decide) ml_X9_206 meX1_sumWeeks rfl ⟨prX1_sumWeeks, (Nat.le_of_ble_eq_true rfl), (Nat.le_of_ble_eq_true rfl), rfl, rfl⟩ (Nat.le_of_ble_eq_true rfl) dX9_cleft_21 (fun q4 => ?_)
    refine x_aload_n (pc := 24) dX9_cleft_24 rfl ?_
    refine m_getR (pc := 25) (t := 164) xC9 4 fl_X9_42 rfl (by decide) rfl (by decide) rfl dX9_cleft_25 ?_
    refine x_aload_n (pc := 28) dX9_cleft_28 rfl ?_
    refine m_getR (pc := 29) (t := 1) xC9 0 fl_X9_10 rfl (by decide) rfl (by decide) rfl dX9_cleft_29 ?_
    refine cV_I (pc := 32) (As := []) (rest := [(.ref 164)]) (ct_X6_lastWholeWeek q4) rfl xC6 rfl (by decide) ml_X9_216 meX6_lastWholeWeek rfl ⟨prX6_lastWholeWeek, (Nat.le_of_ble_eq_true rfl), (Nat.le_of_ble_eq_true rfl), rfl, rfl⟩ (Nat.le_of_ble_eq_true rfl) dX9_cleft_32 (fun v5 => ?_)
    refine cV_I (pc := 35) (As := [(.int v5)]) (rest := []) (ct_X1_leastBreak v5 q4) rfl xC1 rfl (by decide) ml_X9_220 meX1_leastBreak rfl ⟨prX1_leastBreak, (Nat.le_of_ble_eq_true rfl), (Nat.le_of_ble_eq_true rfl), rfl, rfl⟩ (Nat.le_of_ble_eq_true rfl) dX9_cleft_35 (fun v6 => ?_)
    exact x_iret (pc := 38) rfl rfl dX9_cleft_38 (Nat.zero_le _) (Nat.zero_le _)
  · refine x_iload_n (pc := 10) dX9_cleft_10 rfl ?_
    exact x_iret (pc := 11) rfl rfl dX9_cleft_11 (Nat.zero_le _) (Nat.zero_le _)

set_option maxRecDepth 100000 in
set_option maxHeartbeats 4000000 in
theorem ct_X9_misses (p1 : Int32) (p2 : Int32) (M : xM)  : Ct iX9_misses rJM [(.ref 0), (.int p1), (.int p2)] (xwd M) (fX9_misses p1 p2 M) := by
  refine Ct.of' (L := [some (.ref 0), some (.int p1), some (.int p2), none]) 1 rfl (by decide +kernel) (Nat.le_of_ble_eq_true rfl) rfl ?_
  unfold fX9_misses
  refine x_aload_n (pc := 0) dX9_misses_0 rfl ?_
  refine x_iload_n (pc := 1) dX9_misses_1 rfl ?_
  refine cV_I (pc := 2) (As := [(.int p1)]) (rest := []) (ct_X9_dailyGaugeFault p1 M) rfl xC9 rfl (by decide) ml_X9_117 meX9_dailyGaugeFault rfl ⟨prX9_dailyGaugeFault, (Nat.le_of_ble_eq_true rfl), (Nat.le_of_ble_eq_true rfl), rfl, rfl⟩ (Nat.le_of_ble_eq_true rfl) dX9_misses_2 (fun v1 => ?_)
  refine x_istore_n (pc := 5) (L' := [some (.ref 0), some (.int p1), some (.int p2), some (.int v1)]) dX9_misses_5 (Nat.le_of_ble_eq_true rfl) rfl rfl ?_
  refine x_iload_n (pc := 6) dX9_misses_6 rfl ?_
  refine x_if_eq (pc := 7) (tgt := 13) dX9_misses_7 (by decide) (fun h2 => ?_) (fun h2 => ?_)
  · refine x_iload_n (pc := 13) dX9_misses_13 rfl ?_
    refine x_iconst (pc := 14) (a := 1) dX9_misses_14 (by decide) ?_
    refine x_icmp_lt (pc := 15) (tgt := 29) dX9_misses_15 (by decide) (fun h3 => ?_) (fun h3 => ?_)
    · refine x_ldc2 (pc := 29) (a := -1) dX9_misses_29 rfl (xword 631 (by decide +kernel) rfl) ?_
      exact x_lret (pc := 32) rfl rfl dX9_misses_32 (Nat.zero_le _) (Nat.zero_le _)
    · refine x_iload_n (pc := 18) dX9_misses_18 rfl ?_
      refine x_aload_n (pc := 19) dX9_misses_19 rfl ?_
      refine m_getR (pc := 20) (t := 1) xC9 0 fl_X9_10 rfl (by decide) rfl (by decide) rfl dX9_misses_20 ?_
      refine cV_I (pc := 23) (As := []) (rest := [(.int p2)]) (ct_X6_lastWholeWeek M) rfl xC6 rfl (by decide) ml_X9_216 meX6_lastWholeWeek rfl ⟨prX6_lastWholeWeek, (Nat.le_of_ble_eq_true rfl), (Nat.le_of_ble_eq_true rfl), rfl, rfl⟩ (Nat.le_of_ble_eq_true rfl) dX9_misses_23 (fun v4 => ?_)
      refine x_icmp_le (pc := 26) (tgt := 33) dX9_misses_26 (by decide) (fun h5 => ?_) (fun h5 => ?_)
      · refine x_aload_n (pc := 33) dX9_misses_33 rfl ?_
        refine m_getR (pc := 34) (t := 164) xC9 4 fl_X9_42 rfl (by decide) rfl (by decide) rfl dX9_misses_34 ?_
        refine x_aload_n (pc := 37) dX9_misses_37 rfl ?_
        refine cV_B (pc := 38) (As := []) (rest := [(.ref 164)]) (ct_X9_openBooks M) rfl xC9 rfl (by decide) ml_X9_147 meX9_openBooks rfl ⟨prX9_openBooks, (Nat.le_of_ble_eq_true rfl), (Nat.le_of_ble_eq_true rfl), rfl, rfl⟩ (Nat.le_of_ble_eq_true rfl) dX9_misses_38 (fun q6 => ?_)
        refine x_iload_n (pc := 41) dX9_misses_41 rfl ?_
        refine cV_M (pc := 42) (As := [(.ref 72), (.int p1)]) (rest := []) (ct_X1_sumWeeks p1 q6) rfl xC1 rfl (by decide) ml_X9_206 meX1_sumWeeks rfl ⟨prX1_sumWeeks, (Nat.le_of_ble_eq_true rfl), (Nat.le_of_ble_eq_true rfl), rfl, rfl⟩ (Nat.le_of_ble_eq_true rfl) dX9_misses_42 (fun q7 => ?_)
        refine x_aload_n (pc := 45) dX9_misses_45 rfl ?_
        refine m_getR (pc := 46) (t := 164) xC9 4 fl_X9_42 rfl (by decide) rfl (by decide) rfl dX9_misses_46 ?_
        refine x_iload_n (pc := 49) dX9_misses_49 rfl ?_
        refine x_aload_n (pc := 50) dX9_misses_50 rfl ?_
        refine m_getR (pc := 51) (t := 1) xC9 0 fl_X9_10 rfl (by decide) rfl (by decide) rfl dX9_misses_51 ?_
        refine cV_I (pc := 54) (As := []) (rest := [(.int p2), (.ref 164)]) (ct_X6_lastWholeWeek q7) rfl xC6 rfl (by decide) ml_X9_216 meX6_lastWholeWeek rfl ⟨prX6_lastWholeWeek, (Nat.le_of_ble_eq_true rfl), (Nat.le_of_ble_eq_true rfl), rfl, rfl⟩ (Nat.le_of_ble_eq_true rfl) dX9_misses_54 (fun v8 => ?_)
        refine cV_J (pc := 57) (As := [(.int p2), (.int v8)]) (rest := []) (ct_X1_missesAt p2 v8 q7) rfl xC1 rfl (by decide) ml_X9_223 meX1_missesAt rfl ⟨prX1_missesAt, (Nat.le_of_ble_eq_true rfl), (Nat.le_of_ble_eq_true rfl), rfl, rfl⟩ (Nat.le_of_ble_eq_true rfl) dX9_misses_57 (fun v9 => ?_)
        exact x_lret (pc := 60) rfl rfl dX9_misses_60 (Nat.zero_le _) (Nat.zero_le _)
      · refine x_ldc2 (pc := 29) (a := -1) dX9_misses_29 rfl (xword 631 (by decide +kernel) rfl) ?_
        exact x_lret (pc := 32) rfl rfl dX9_misses_32 (Nat.zero_le _) (Nat.zero_le _)
  · refine x_iload_n (pc := 10) dX9_misses_10 rfl ?_
    refine x_i2l (pc := 11) dX9_misses_11 ?_
    exact x_lret (pc := 12) rfl rfl dX9_misses_12 (Nat.zero_le _) (Nat.zero_le _)

set_option maxRecDepth 100000 in
set_option maxHeartbeats 4000000 in
theorem ct_X10_isIn (p0 : Int32) (p1 : Int32) (p2 : Int32) (M : xM)  : Ct iX10_isIn (rI M) [(.int p0), (.int p1), (.int p2)] (xwd M) (fX10_isIn p0 p1 p2 M) := by
  refine Ct.of' (L := [some (.int p0), some (.int p1), some (.int p2)]) 0 rfl (by decide +kernel) (Nat.le_of_ble_eq_true rfl) rfl ?_
  unfold fX10_isIn
  refine x_iload_n (pc := 0) dX10_isIn_0 rfl ?_
  refine x_iload_n (pc := 1) dX10_isIn_1 rfl ?_
  refine x_icmp_lt (pc := 2) (tgt := 14) dX10_isIn_2 (by decide) (fun h1 => ?_) (fun h1 => ?_)
  · refine x_iconst (pc := 14) (a := 0) dX10_isIn_14 (by decide) ?_
    exact x_zret (pc := 15) rfl (by decide) rfl dX10_isIn_15 (Nat.zero_le _) (Nat.zero_le _)
  · refine x_iload_n (pc := 5) dX10_isIn_5 rfl ?_
    refine x_iload_n (pc := 6) dX10_isIn_6 rfl ?_
    refine x_icmp_gt (pc := 7) (tgt := 14) dX10_isIn_7 (by decide) (fun h2 => ?_) (fun h2 => ?_)
    · refine x_iconst (pc := 14) (a := 0) dX10_isIn_14 (by decide) ?_
      exact x_zret (pc := 15) rfl (by decide) rfl dX10_isIn_15 (Nat.zero_le _) (Nat.zero_le _)
    · refine x_iconst (pc := 10) (a := 1) dX10_isIn_10 (by decide) ?_
      refine x_goto (pc := 11) (tgt := 15) dX10_isIn_11 (by decide) ?_
      exact x_zret (pc := 15) rfl (by decide) rfl dX10_isIn_15 (Nat.zero_le _) (Nat.zero_le _)

set_option maxRecDepth 100000 in
set_option maxHeartbeats 4000000 in
theorem ct_X10_at (p0 : Int32) (p1 : Int32) (M : xM)  : Ct iX10_at (rI M) [(.int p0), (.int p1)] (xwd M) (fX10_at p0 p1 M) := by
  refine Ct.of' (L := [some (.int p0), some (.int p1)]) 0 rfl (by decide +kernel) (Nat.le_of_ble_eq_true rfl) rfl ?_
  unfold fX10_at
  refine x_bipush (pc := 0) (a := 56) dX10_at_0 (by decide) ?_
  refine x_iload_n (pc := 2) dX10_at_2 rfl ?_
  refine x_imul (pc := 3) dX10_at_3 ?_
  refine x_iload_n (pc := 4) dX10_at_4 rfl ?_
  refine x_iadd (pc := 5) dX10_at_5 ?_
  exact x_iret (pc := 6) rfl rfl dX10_at_6 (Nat.zero_le _) (Nat.zero_le _)

set_option maxRecDepth 100000 in
set_option maxHeartbeats 4000000 in
theorem ct_X10_isGauge (p1 : Int32) (M : xM)  : Ct iX10_isGauge (rI M) [(.ref 170), (.int p1)] (xwd M) (fX10_isGauge p1 M) := by
  refine Ct.of' (L := [some (.ref 170), some (.int p1)]) 0 rfl (by decide +kernel) (Nat.le_of_ble_eq_true rfl) rfl ?_
  unfold fX10_isGauge
  refine x_aload_n (pc := 0) dX10_isGauge_0 rfl ?_
  refine m_getR (pc := 1) (t := 171) xC10 0 fl_X10_9 rfl (by decide) rfl (by decide) rfl dX10_isGauge_1 ?_
  refine x_iload_n (pc := 4) dX10_isGauge_4 rfl ?_
  refine m_iald (pc := 5) rfl rfl dX10_isGauge_5 (fun hb1 => ?_)
  refine x_iconst (pc := 6) (a := -1) dX10_isGauge_6 (by decide) ?_
  refine x_icmp_eq (pc := 7) (tgt := 24) dX10_isGauge_7 (by decide) (fun h2 => ?_) (fun h2 => ?_)
  · refine x_iconst (pc := 24) (a := 0) dX10_isGauge_24 (by decide) ?_
    exact x_zret (pc := 25) rfl (by decide) rfl dX10_isGauge_25 (Nat.zero_le _) (Nat.zero_le _)
  · refine x_aload_n (pc := 10) dX10_isGauge_10 rfl ?_
    refine m_getR (pc := 11) (t := 171) xC10 0 fl_X10_9 rfl (by decide) rfl (by decide) rfl dX10_isGauge_11 ?_
    refine x_iload_n (pc := 14) dX10_isGauge_14 rfl ?_
    refine m_iald (pc := 15) rfl rfl dX10_isGauge_15 (fun hb3 => ?_)
    refine x_iconst (pc := 16) (a := 5) dX10_isGauge_16 (by decide) ?_
    refine x_icmp_eq (pc := 17) (tgt := 24) dX10_isGauge_17 (by decide) (fun h4 => ?_) (fun h4 => ?_)
    · refine x_iconst (pc := 24) (a := 0) dX10_isGauge_24 (by decide) ?_
      exact x_zret (pc := 25) rfl (by decide) rfl dX10_isGauge_25 (Nat.zero_le _) (Nat.zero_le _)
    · refine x_iconst (pc := 20) (a := 1) dX10_isGauge_20 (by decide) ?_
      refine x_goto (pc := 21) (tgt := 25) dX10_isGauge_21 (by decide) ?_
      exact x_zret (pc := 25) rfl (by decide) rfl dX10_isGauge_25 (Nat.zero_le _) (Nat.zero_le _)

set_option maxRecDepth 100000 in
set_option maxHeartbeats 4000000 in
theorem ct_X10_fails (p1 : Int32) (p2 : Int32) (p3 : Int32) (M : xM)  : Ct iX10_fails (rI M) [(.ref 170), (.int p1), (.int p2), (.int p3)] (xwd M) (fX10_fails p1 p2 p3 M) := by
  refine Ct.of' (L := [some (.ref 170), some (.int p1), some (.int p2), some (.int p3)]) 0 rfl (by decide +kernel) (Nat.le_of_ble_eq_true rfl) rfl ?_
  unfold fX10_fails
  refine x_iload_n (pc := 0) dX10_fails_0 rfl ?_
  refine x_iconst (pc := 1) (a := 0) dX10_fails_1 (by decide) ?_
  refine x_bipush (pc := 2) (a := 15) dX10_fails_2 (by decide) ?_
  refine cS_I (pc := 4) (As := [(.int p1), (.int (0:Int32)), (.int (15:Int32))]) (rest := []) (ct_X10_isIn p1 (0:Int32) (15:Int32) M) rfl ml_X10_85 meX10_isIn rfl ⟨prX10_isIn, (Nat.le_of_ble_eq_true rfl), (Nat.le_of_ble_eq_true rfl), rfl, rfl⟩ (Nat.le_of_ble_eq_true rfl) dX10_fails_4 (fun v1 => ?_)
  refine x_if_eq (pc := 7) (tgt := 20) dX10_fails_7 (by decide) (fun h2 => ?_) (fun h2 => ?_)
  · refine x_iconst (pc := 20) (a := -1) dX10_fails_20 (by decide) ?_
    exact x_iret (pc := 21) rfl rfl dX10_fails_21 (Nat.zero_le _) (Nat.zero_le _)
  · refine x_aload_n (pc := 10) dX10_fails_10 rfl ?_
    refine m_getR (pc := 11) (t := 171) xC10 0 fl_X10_9 rfl (by decide) rfl (by decide) rfl dX10_fails_11 ?_
    refine x_iload_n (pc := 14) dX10_fails_14 rfl ?_
    refine m_iald (pc := 15) rfl rfl dX10_fails_15 (fun hb3 => ?_)
    refine x_iconst (pc := 16) (a := -1) dX10_fails_16 (by decide) ?_
    refine x_icmp_ne (pc := 17) (tgt := 22) dX10_fails_17 (by decide) (fun h4 => ?_) (fun h4 => ?_)
    · refine x_aload_n (pc := 22) dX10_fails_22 rfl ?_
      refine m_getR (pc := 23) (t := 171) xC10 0 fl_X10_9 rfl (by decide) rfl (by decide) rfl dX10_fails_23 ?_
      refine x_iload_n (pc := 26) dX10_fails_26 rfl ?_
      refine m_iald (pc := 27) rfl rfl dX10_fails_27 (fun hb5 => ?_)
      refine x_iload_n (pc := 28) dX10_fails_28 rfl ?_
      refine x_iload_n (pc := 29) dX10_fails_29 rfl ?_
      refine cS_I (pc := 30) (As := [(.int (M.1 171 p1.toNatClampNeg)), (.int p2), (.int p3)]) (rest := []) (ct_X10_isIn (M.1 171 p1.toNatClampNeg) p2 p3 M) rfl ml_X10_85 meX10_isIn rfl ⟨prX10_isIn, (Nat.le_of_ble_eq_true rfl), (Nat.le_of_ble_eq_true rfl), rfl, rfl⟩ (Nat.le_of_ble_eq_true rfl) dX10_fails_30 (fun v6 => ?_)
      refine x_if_eq (pc := 33) (tgt := 40) dX10_fails_33 (by decide) (fun h7 => ?_) (fun h7 => ?_)
      · refine x_bipush (pc := 40) (a := -2) dX10_fails_40 (by decide) ?_
        exact x_iret (pc := 42) rfl rfl dX10_fails_42 (Nat.zero_le _) (Nat.zero_le _)
      · refine x_iconst (pc := 36) (a := 0) dX10_fails_36 (by decide) ?_
        refine x_goto (pc := 37) (tgt := 42) dX10_fails_37 (by decide) ?_
        exact x_iret (pc := 42) rfl rfl dX10_fails_42 (Nat.zero_le _) (Nat.zero_le _)
    · refine x_iconst (pc := 20) (a := -1) dX10_fails_20 (by decide) ?_
      exact x_iret (pc := 21) rfl rfl dX10_fails_21 (Nat.zero_le _) (Nat.zero_le _)

set_option maxRecDepth 100000 in
set_option maxHeartbeats 4000000 in
theorem ct_X10_put (p1 : Int32) (p2 : Int32) (p3 : Int32) (p4 : Int32) (p5 : Int32) (M : xM)  : Ct iX10_put rIM [(.ref 170), (.int p1), (.int p2), (.int p3), (.int p4), (.int p5)] (xwd M) (fX10_put p1 p2 p3 p4 p5 M) := by
  refine Ct.of' (L := [some (.ref 170), some (.int p1), some (.int p2), some (.int p3), some (.int p4), some (.int p5), none, none]) 2 rfl (by decide +kernel) (Nat.le_of_ble_eq_true rfl) rfl ?_
  unfold fX10_put
  refine x_iload_n (pc := 0) dX10_put_0 rfl ?_
  refine x_iconst (pc := 1) (a := 1) dX10_put_1 (by decide) ?_
  refine SP.jn 15 (fun (s2 : Int32) => [some (.ref 170), some (.int p1), some (.int p2), some (.int p3), some (.int p4), some (.int p5), none, none]) (fun (s2 : Int32) => [(.int s2)]) (fun (s2 : Int32) => xwd M) (fun kk1 hkk1 => ?_) (fun s2 => ?_)
  · try dsimp only
    refine SP.jn 10 (fun (s4 : Unit) => [some (.ref 170), some (.int p1), some (.int p2), some (.int p3), some (.int p4), some (.int p5), none, none]) (fun (s4 : Unit) => []) (fun (s4 : Unit) => xwd M) (fun kk3 hkk3 => ?_) (fun s4 => ?_)
    · try dsimp only
      refine x_icmp_eq (pc := 2) (tgt := 10) dX10_put_2 (by decide) (fun h5 => ?_) (fun h5 => ?_)
      · have hz := hkk3 ()
        try dsimp only at hz
        exact hz
      · refine x_iload_n (pc := 5) dX10_put_5 rfl ?_
        refine x_iconst (pc := 6) (a := 4) dX10_put_6 (by decide) ?_
        refine x_icmp_ne (pc := 7) (tgt := 14) dX10_put_7 (by decide) (fun h6 => ?_) (fun h6 => ?_)
        · refine x_iconst (pc := 14) (a := 0) dX10_put_14 (by decide) ?_
          have hz := hkk1 (0:Int32)
          try dsimp only at hz
          exact hz
        · have hz := hkk3 ()
          try dsimp only at hz
          exact hz
    · try dsimp only
      refine x_iconst (pc := 10) (a := 1) dX10_put_10 (by decide) ?_
      refine x_goto (pc := 11) (tgt := 15) dX10_put_11 (by decide) ?_
      have hz := hkk1 (1:Int32)
      try dsimp only at hz
      exact hz
  · try dsimp only
    refine x_istore (pc := 15) (L' := [some (.ref 170), some (.int p1), some (.int p2), some (.int p3), some (.int p4), some (.int p5), some (.int s2), none]) dX10_put_15 (Nat.le_of_ble_eq_true rfl) rfl rfl ?_
    refine x_iload_n (pc := 17) dX10_put_17 rfl ?_
    refine x_iconst (pc := 18) (a := 0) dX10_put_18 (by decide) ?_
    refine x_bipush (pc := 19) (a := 15) dX10_put_19 (by decide) ?_
    refine cS_I (pc := 21) (As := [(.int p1), (.int (0:Int32)), (.int (15:Int32))]) (rest := []) (ct_X10_isIn p1 (0:Int32) (15:Int32) M) rfl ml_X10_85 meX10_isIn rfl ⟨prX10_isIn, (Nat.le_of_ble_eq_true rfl), (Nat.le_of_ble_eq_true rfl), rfl, rfl⟩ (Nat.le_of_ble_eq_true rfl) dX10_put_21 (fun v7 => ?_)
    refine x_if_eq (pc := 24) (tgt := 83) dX10_put_24 (by decide) (fun h8 => ?_) (fun h8 => ?_)
    · refine x_iconst (pc := 83) (a := -1) dX10_put_83 (by decide) ?_
      exact x_iret (pc := 84) rfl rfl dX10_put_84 (Nat.zero_le _) (Nat.zero_le _)
    · refine x_aload_n (pc := 27) dX10_put_27 rfl ?_
      refine m_getR (pc := 28) (t := 171) xC10 0 fl_X10_9 rfl (by decide) rfl (by decide) rfl dX10_put_28 ?_
      refine x_iload_n (pc := 31) dX10_put_31 rfl ?_
      refine m_iald (pc := 32) rfl rfl dX10_put_32 (fun hb9 => ?_)
      refine x_iconst (pc := 33) (a := -1) dX10_put_33 (by decide) ?_
      refine x_icmp_ne (pc := 34) (tgt := 83) dX10_put_34 (by decide) (fun h10 => ?_) (fun h10 => ?_)
      · refine x_iconst (pc := 83) (a := -1) dX10_put_83 (by decide) ?_
        exact x_iret (pc := 84) rfl rfl dX10_put_84 (Nat.zero_le _) (Nat.zero_le _)
      · refine x_iload_n (pc := 37) dX10_put_37 rfl ?_
        refine x_iconst (pc := 38) (a := 0) dX10_put_38 (by decide) ?_
        refine x_iconst (pc := 39) (a := 5) dX10_put_39 (by decide) ?_
        refine cS_I (pc := 40) (As := [(.int p2), (.int (0:Int32)), (.int (5:Int32))]) (rest := []) (ct_X10_isIn p2 (0:Int32) (5:Int32) M) rfl ml_X10_85 meX10_isIn rfl ⟨prX10_isIn, (Nat.le_of_ble_eq_true rfl), (Nat.le_of_ble_eq_true rfl), rfl, rfl⟩ (Nat.le_of_ble_eq_true rfl) dX10_put_40 (fun v11 => ?_)
        refine x_if_eq (pc := 43) (tgt := 83) dX10_put_43 (by decide) (fun h12 => ?_) (fun h12 => ?_)
        · refine x_iconst (pc := 83) (a := -1) dX10_put_83 (by decide) ?_
          exact x_iret (pc := 84) rfl rfl dX10_put_84 (Nat.zero_le _) (Nat.zero_le _)
        · refine x_iload_n (pc := 46) dX10_put_46 rfl ?_
          refine x_iconst (pc := 47) (a := 0) dX10_put_47 (by decide) ?_
          refine x_bipush (pc := 48) (a := 9) dX10_put_48 (by decide) ?_
          refine cS_I (pc := 50) (As := [(.int p3), (.int (0:Int32)), (.int (9:Int32))]) (rest := []) (ct_X10_isIn p3 (0:Int32) (9:Int32) M) rfl ml_X10_85 meX10_isIn rfl ⟨prX10_isIn, (Nat.le_of_ble_eq_true rfl), (Nat.le_of_ble_eq_true rfl), rfl, rfl⟩ (Nat.le_of_ble_eq_true rfl) dX10_put_50 (fun v13 => ?_)
          refine x_if_eq (pc := 53) (tgt := 83) dX10_put_53 (by decide) (fun h14 => ?_) (fun h14 => ?_)
          · refine x_iconst (pc := 83) (a := -1) dX10_put_83 (by decide) ?_
            exact x_iret (pc := 84) rfl rfl dX10_put_84 (Nat.zero_le _) (Nat.zero_le _)
          · refine x_iload (pc := 56) dX10_put_56 rfl ?_
            refine x_iconst (pc := 58) (a := 0) dX10_put_58 (by decide) ?_
            refine x_bipush (pc := 59) (a := 9) dX10_put_59 (by decide) ?_
            refine cS_I (pc := 61) (As := [(.int p4), (.int (0:Int32)), (.int (9:Int32))]) (rest := []) (ct_X10_isIn p4 (0:Int32) (9:Int32) M) rfl ml_X10_85 meX10_isIn rfl ⟨prX10_isIn, (Nat.le_of_ble_eq_true rfl), (Nat.le_of_ble_eq_true rfl), rfl, rfl⟩ (Nat.le_of_ble_eq_true rfl) dX10_put_61 (fun v15 => ?_)
            refine x_if_eq (pc := 64) (tgt := 83) dX10_put_64 (by decide) (fun h16 => ?_) (fun h16 => ?_)
            · refine x_iconst (pc := 83) (a := -1) dX10_put_83 (by decide) ?_
              exact x_iret (pc := 84) rfl rfl dX10_put_84 (Nat.zero_le _) (Nat.zero_le _)
            · refine x_iload (pc := 67) dX10_put_67 rfl ?_
              refine SP.jn 85 (fun (s18 : Unit) => [some (.ref 170), some (.int p1), some (.int p2), some (.int p3), some (.int p4), some (.int p5), some (.int s2), none]) (fun (s18 : Unit) => []) (fun (s18 : Unit) => xwd M) (fun kk17 hkk17 => ?_) (fun s18 => ?_)
              · try dsimp only
                refine x_if_eq (pc := 69) (tgt := 85) dX10_put_69 (by decide) (fun h19 => ?_) (fun h19 => ?_)
                · have hz := hkk17 ()
                  try dsimp only at hz
                  exact hz
                · refine x_iload (pc := 72) dX10_put_72 rfl ?_
                  refine x_iconst (pc := 74) (a := 1) dX10_put_74 (by decide) ?_
                  refine x_bipush (pc := 75) (a := 20) dX10_put_75 (by decide) ?_
                  refine cS_I (pc := 77) (As := [(.int p5), (.int (1:Int32)), (.int (20:Int32))]) (rest := []) (ct_X10_isIn p5 (1:Int32) (20:Int32) M) rfl ml_X10_85 meX10_isIn rfl ⟨prX10_isIn, (Nat.le_of_ble_eq_true rfl), (Nat.le_of_ble_eq_true rfl), rfl, rfl⟩ (Nat.le_of_ble_eq_true rfl) dX10_put_77 (fun v20 => ?_)
                  refine x_if_ne (pc := 80) (tgt := 85) dX10_put_80 (by decide) (fun h21 => ?_) (fun h21 => ?_)
                  · have hz := hkk17 ()
                    try dsimp only at hz
                    exact hz
                  · refine x_iconst (pc := 83) (a := -1) dX10_put_83 (by decide) ?_
                    exact x_iret (pc := 84) rfl rfl dX10_put_84 (Nat.zero_le _) (Nat.zero_le _)
              · try dsimp only
                refine x_aload_n (pc := 85) dX10_put_85 rfl ?_
                refine m_getR (pc := 86) (t := 171) xC10 0 fl_X10_9 rfl (by decide) rfl (by decide) rfl dX10_put_86 ?_
                refine x_iload_n (pc := 89) dX10_put_89 rfl ?_
                refine x_iload_n (pc := 90) dX10_put_90 rfl ?_
                refine m_iast (pc := 91) rfl rfl dX10_put_91 (fun hb22 => ?_)
                refine SP.bdm (fun m23 e24 => ?_)
                refine x_aload_n (pc := 92) dX10_put_92 rfl ?_
                refine m_getR (pc := 93) (t := 172) xC10 1 fl_X10_13 rfl (by decide) rfl (by decide) rfl dX10_put_93 ?_
                refine x_iload_n (pc := 96) dX10_put_96 rfl ?_
                refine x_iload_n (pc := 97) dX10_put_97 rfl ?_
                refine m_iast (pc := 98) rfl rfl dX10_put_98 (fun hb25 => ?_)
                refine SP.bdm (fun m26 e27 => ?_)
                refine x_aload_n (pc := 99) dX10_put_99 rfl ?_
                refine m_getR (pc := 100) (t := 173) xC10 2 fl_X10_16 rfl (by decide) rfl (by decide) rfl dX10_put_100 ?_
                refine x_iload_n (pc := 103) dX10_put_103 rfl ?_
                refine x_iload (pc := 104) dX10_put_104 rfl ?_
                refine m_iast (pc := 106) rfl rfl dX10_put_106 (fun hb28 => ?_)
                refine SP.bdm (fun m29 e30 => ?_)
                refine x_aload_n (pc := 107) dX10_put_107 rfl ?_
                refine m_getR (pc := 108) (t := 174) xC10 3 fl_X10_19 rfl (by decide) rfl (by decide) rfl dX10_put_108 ?_
                refine x_iload_n (pc := 111) dX10_put_111 rfl ?_
                refine x_iload (pc := 112) dX10_put_112 rfl ?_
                refine SP.jn 123 (fun (s32 : Int32) => [some (.ref 170), some (.int p1), some (.int p2), none, none, none, none, none]) (fun (s32 : Int32) => [(.int s32), (.int p1), (.ref 174)]) (fun (s32 : Int32) => xwd m29) (fun kk31 hkk31 => ?_) (fun s32 => ?_)
                · try dsimp only
                  refine x_if_eq (pc := 114) (tgt := 122) dX10_put_114 (by decide) (fun h33 => ?_) (fun h33 => ?_)
                  · refine x_iconst (pc := 122) (a := 0) dX10_put_122 (by decide) ?_
                    refine SP.mask (pc := 123) [true, true, true, false, false, false, false, false] (L' := [some (.ref 170), some (.int p1), some (.int p2), none, none, none, none, none]) rfl ?_
                    have hz := hkk31 (0:Int32)
                    try dsimp only at hz
                    exact hz
                  · refine x_iload (pc := 117) dX10_put_117 rfl ?_
                    refine x_goto (pc := 119) (tgt := 123) dX10_put_119 (by decide) ?_
                    refine SP.mask (pc := 123) [true, true, true, false, false, false, false, false] (L' := [some (.ref 170), some (.int p1), some (.int p2), none, none, none, none, none]) rfl ?_
                    have hz := hkk31 p5
                    try dsimp only at hz
                    exact hz
                · try dsimp only
                  refine m_iast (pc := 123) rfl rfl dX10_put_123 (fun hb34 => ?_)
                  refine SP.bdm (fun m35 e36 => ?_)
                  refine x_aload_n (pc := 124) dX10_put_124 rfl ?_
                  refine m_getR (pc := 125) (t := 175) xC10 4 fl_X10_22 rfl (by decide) rfl (by decide) rfl dX10_put_125 ?_
                  refine x_iload_n (pc := 128) dX10_put_128 rfl ?_
                  refine x_iload_n (pc := 129) dX10_put_129 rfl ?_
                  refine x_iconst (pc := 130) (a := 5) dX10_put_130 (by decide) ?_
                  refine SP.jn 142 (fun (s38 : Int32) => [some (.ref 170), some (.int p1), none, none, none, none, none, none]) (fun (s38 : Int32) => [(.int s38), (.int p1), (.ref 175)]) (fun (s38 : Int32) => xwd m35) (fun kk37 hkk37 => ?_) (fun s38 => ?_)
                  · try dsimp only
                    refine x_icmp_ne (pc := 131) (tgt := 138) dX10_put_131 (by decide) (fun h39 => ?_) (fun h39 => ?_)
                    · refine x_aload_n (pc := 138) dX10_put_138 rfl ?_
                      refine m_getI (pc := 139) xC10 15 fl_X10_89 rfl (by decide) rfl (by decide) rfl dX10_put_139 ?_
                      refine SP.mask (pc := 142) [true, true, false, false, false, false, false, false] (L' := [some (.ref 170), some (.int p1), none, none, none, none, none, none]) rfl ?_
                      have hz := hkk37 (m35.1 170 15)
                      try dsimp only at hz
                      exact hz
                    · refine x_iconst (pc := 134) (a := 0) dX10_put_134 (by decide) ?_
                      refine x_goto (pc := 135) (tgt := 142) dX10_put_135 (by decide) ?_
                      refine SP.mask (pc := 142) [true, true, false, false, false, false, false, false] (L' := [some (.ref 170), some (.int p1), none, none, none, none, none, none]) rfl ?_
                      have hz := hkk37 (0:Int32)
                      try dsimp only at hz
                      exact hz
                  · try dsimp only
                    refine m_iast (pc := 142) rfl rfl dX10_put_142 (fun hb40 => ?_)
                    refine SP.bdm (fun m41 e42 => ?_)
                    refine x_aload_n (pc := 143) dX10_put_143 rfl ?_
                    refine m_getR (pc := 144) (t := 176) xC10 5 fl_X10_25 rfl (by decide) rfl (by decide) rfl dX10_put_144 ?_
                    refine x_iload_n (pc := 147) dX10_put_147 rfl ?_
                    refine x_iconst (pc := 148) (a := 0) dX10_put_148 (by decide) ?_
                    refine m_iast (pc := 149) rfl rfl dX10_put_149 (fun hb43 => ?_)
                    refine SP.bdm (fun m44 e45 => ?_)
                    refine x_iconst (pc := 150) (a := 0) dX10_put_150 (by decide) ?_
                    refine x_istore (pc := 151) (L' := [some (.ref 170), some (.int p1), none, none, none, none, none, some (.int (0:Int32))]) dX10_put_151 (Nat.le_of_ble_eq_true rfl) rfl rfl ?_
                    refine SP.mask (pc := 153) [true, true, false, false, false, false, false, true] (L' := [some (.ref 170), some (.int p1), none, none, none, none, none, some (.int (0:Int32))]) rfl ?_
                    refine SP.lp (pc := 153) (fun (s46 : (Int32 × xM)) => [some (.ref 170), some (.int p1), none, none, none, none, none, some (.int s46.1)]) (fun (s46 : (Int32 × xM)) => xwd s46.2) (fun s46 kk47 hkk47 => ?_) xfu ((0:Int32), m44)
                    try dsimp only
                    refine x_iload (pc := 153) dX10_put_153 rfl ?_
                    refine x_bipush (pc := 155) (a := 56) dX10_put_155 (by decide) ?_
                    refine x_icmp_ge (pc := 157) (tgt := 214) dX10_put_157 (by decide) (fun h48 => ?_) (fun h48 => ?_)
                    · refine x_iload_n (pc := 214) dX10_put_214 rfl ?_
                      exact x_iret (pc := 215) rfl rfl dX10_put_215 (Nat.zero_le _) (Nat.zero_le _)
                    · refine x_aload_n (pc := 160) dX10_put_160 rfl ?_
                      refine m_getR (pc := 161) (t := 177) xC10 6 fl_X10_28 rfl (by decide) rfl (by decide) rfl dX10_put_161 ?_
                      refine x_iload_n (pc := 164) dX10_put_164 rfl ?_
                      refine x_iload (pc := 165) dX10_put_165 rfl ?_
                      refine cS_I (pc := 167) (As := [(.int p1), (.int s46.1)]) (rest := [(.ref 177)]) (ct_X10_at p1 s46.1 s46.2) rfl ml_X10_92 meX10_at rfl ⟨prX10_at, (Nat.le_of_ble_eq_true rfl), (Nat.le_of_ble_eq_true rfl), rfl, rfl⟩ (Nat.le_of_ble_eq_true rfl) dX10_put_167 (fun v49 => ?_)
                      refine x_iconst (pc := 170) (a := -1) dX10_put_170 (by decide) ?_
                      refine m_iast (pc := 171) rfl rfl dX10_put_171 (fun hb50 => ?_)
                      refine SP.bdm (fun m51 e52 => ?_)
                      refine x_aload_n (pc := 172) dX10_put_172 rfl ?_
                      refine m_getR (pc := 173) (t := 178) xC10 7 fl_X10_31 rfl (by decide) rfl (by decide) rfl dX10_put_173 ?_
                      refine x_iload_n (pc := 176) dX10_put_176 rfl ?_
                      refine x_iload (pc := 177) dX10_put_177 rfl ?_
                      refine cS_I (pc := 179) (As := [(.int p1), (.int s46.1)]) (rest := [(.ref 178)]) (ct_X10_at p1 s46.1 m51) rfl ml_X10_92 meX10_at rfl ⟨prX10_at, (Nat.le_of_ble_eq_true rfl), (Nat.le_of_ble_eq_true rfl), rfl, rfl⟩ (Nat.le_of_ble_eq_true rfl) dX10_put_179 (fun v53 => ?_)
                      refine x_iconst (pc := 182) (a := -1) dX10_put_182 (by decide) ?_
                      refine m_iast (pc := 183) rfl rfl dX10_put_183 (fun hb54 => ?_)
                      refine SP.bdm (fun m55 e56 => ?_)
                      refine x_aload_n (pc := 184) dX10_put_184 rfl ?_
                      refine m_getR (pc := 185) (t := 179) xC10 8 fl_X10_34 rfl (by decide) rfl (by decide) rfl dX10_put_185 ?_
                      refine x_iload_n (pc := 188) dX10_put_188 rfl ?_
                      refine x_iload (pc := 189) dX10_put_189 rfl ?_
                      refine cS_I (pc := 191) (As := [(.int p1), (.int s46.1)]) (rest := [(.ref 179)]) (ct_X10_at p1 s46.1 m55) rfl ml_X10_92 meX10_at rfl ⟨prX10_at, (Nat.le_of_ble_eq_true rfl), (Nat.le_of_ble_eq_true rfl), rfl, rfl⟩ (Nat.le_of_ble_eq_true rfl) dX10_put_191 (fun v57 => ?_)
                      refine x_iconst (pc := 194) (a := -1) dX10_put_194 (by decide) ?_
                      refine m_iast (pc := 195) rfl rfl dX10_put_195 (fun hb58 => ?_)
                      refine SP.bdm (fun m59 e60 => ?_)
                      refine x_aload_n (pc := 196) dX10_put_196 rfl ?_
                      refine m_getR (pc := 197) (t := 180) xC10 9 fl_X10_37 rfl (by decide) rfl (by decide) rfl dX10_put_197 ?_
                      refine x_iload_n (pc := 200) dX10_put_200 rfl ?_
                      refine x_iload (pc := 201) dX10_put_201 rfl ?_
                      refine cS_I (pc := 203) (As := [(.int p1), (.int s46.1)]) (rest := [(.ref 180)]) (ct_X10_at p1 s46.1 m59) rfl ml_X10_92 meX10_at rfl ⟨prX10_at, (Nat.le_of_ble_eq_true rfl), (Nat.le_of_ble_eq_true rfl), rfl, rfl⟩ (Nat.le_of_ble_eq_true rfl) dX10_put_203 (fun v61 => ?_)
                      refine x_iconst (pc := 206) (a := -1) dX10_put_206 (by decide) ?_
                      refine m_iast (pc := 207) rfl rfl dX10_put_207 (fun hb62 => ?_)
                      refine SP.bdm (fun m63 e64 => ?_)
                      refine x_iinc (pc := 208) (b := (s46.1 + 1)) (L' := [some (.ref 170), some (.int p1), none, none, none, none, none, some (.int (s46.1 + 1))]) dX10_put_208 rfl rfl (Nat.le_of_ble_eq_true rfl) rfl rfl ?_
                      refine x_goto (pc := 211) (tgt := 153) dX10_put_211 (by decide) ?_
                      have hz := hkk47 ((s46.1 + 1), m63)
                      try dsimp only at hz
                      exact hz

