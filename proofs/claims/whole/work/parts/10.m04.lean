set_option maxRecDepth 100000 in
set_option maxHeartbeats 4000000 in
theorem ct_X10_lift (p1 : Int32) (M : xM)  : Ct iX10_lift rIM [(.ref 170), (.int p1)] (xwd M) (fX10_lift p1 M) := by
  refine Ct.of' (L := [some (.ref 170), some (.int p1), none, none]) 2 rfl (by decide +kernel) (Nat.le_of_ble_eq_true rfl) rfl ?_
  unfold fX10_lift
  refine x_aload_n (pc := 0) dX10_lift_0 rfl ?_
  refine x_iload_n (pc := 1) dX10_lift_1 rfl ?_
  refine x_iconst (pc := 2) (a := 0) dX10_lift_2 (by decide) ?_
  refine x_iconst (pc := 3) (a := 5) dX10_lift_3 (by decide) ?_
  refine cV_I (pc := 4) (As := [(.int p1), (.int (0:Int32)), (.int (5:Int32))]) (rest := []) (ct_X10_fails p1 (0:Int32) (5:Int32) M) rfl xC10 rfl (by decide) ml_X10_96 meX10_fails rfl ⟨prX10_fails, (Nat.le_of_ble_eq_true rfl), (Nat.le_of_ble_eq_true rfl), rfl, rfl⟩ (Nat.le_of_ble_eq_true rfl) dX10_lift_4 (fun v1 => ?_)
  refine x_if_eq (pc := 7) (tgt := 12) dX10_lift_7 (by decide) (fun h2 => ?_) (fun h2 => ?_)
  · refine x_aload_n (pc := 12) dX10_lift_12 rfl ?_
    refine m_getR (pc := 13) (t := 171) xC10 0 fl_X10_9 rfl (by decide) rfl (by decide) rfl dX10_lift_13 ?_
    refine x_iload_n (pc := 16) dX10_lift_16 rfl ?_
    refine m_iald (pc := 17) rfl rfl dX10_lift_17 (fun hb3 => ?_)
    refine SP.bdi (fun x4 e5 => ?_)
    refine x_istore_n (pc := 18) (L' := [some (.ref 170), some (.int p1), some (.int x4), none]) dX10_lift_18 (Nat.le_of_ble_eq_true rfl) rfl rfl ?_
    refine x_aload_n (pc := 19) dX10_lift_19 rfl ?_
    refine m_getR (pc := 20) (t := 171) xC10 0 fl_X10_9 rfl (by decide) rfl (by decide) rfl dX10_lift_20 ?_
    refine x_iload_n (pc := 23) dX10_lift_23 rfl ?_
    refine x_iconst (pc := 24) (a := -1) dX10_lift_24 (by decide) ?_
    refine m_iast (pc := 25) rfl rfl dX10_lift_25 (fun hb6 => ?_)
    refine SP.bdm (fun m7 e8 => ?_)
    refine x_iconst (pc := 26) (a := 0) dX10_lift_26 (by decide) ?_
    refine x_istore_n (pc := 27) (L' := [some (.ref 170), some (.int p1), some (.int x4), some (.int (0:Int32))]) dX10_lift_27 (Nat.le_of_ble_eq_true rfl) rfl rfl ?_
    refine SP.mask (pc := 28) [true, true, true, true] (L' := [some (.ref 170), some (.int p1), some (.int x4), some (.int (0:Int32))]) rfl ?_
    refine SP.lp (pc := 28) (fun (s9 : (Int32 × xM)) => [some (.ref 170), some (.int p1), some (.int x4), some (.int s9.1)]) (fun (s9 : (Int32 × xM)) => xwd s9.2) (fun s9 kk10 hkk10 => ?_) xfu ((0:Int32), m7)
    try dsimp only
    refine x_iload_n (pc := 28) dX10_lift_28 rfl ?_
    refine x_aload_n (pc := 29) dX10_lift_29 rfl ?_
    refine m_getI (pc := 30) xC10 14 fl_X10_100 rfl (by decide) rfl (by decide) rfl dX10_lift_30 ?_
    refine x_icmp_ge (pc := 33) (tgt := 59) dX10_lift_33 (by decide) (fun h11 => ?_) (fun h11 => ?_)
    · refine x_iload_n (pc := 59) dX10_lift_59 rfl ?_
      exact x_iret (pc := 60) rfl rfl dX10_lift_60 (Nat.zero_le _) (Nat.zero_le _)
    · refine x_aload_n (pc := 36) dX10_lift_36 rfl ?_
      refine m_getR (pc := 37) (t := 181) xC10 10 fl_X10_40 rfl (by decide) rfl (by decide) rfl dX10_lift_37 ?_
      refine x_iload_n (pc := 40) dX10_lift_40 rfl ?_
      refine m_iald (pc := 41) rfl rfl dX10_lift_41 (fun hb12 => ?_)
      refine x_iload_n (pc := 42) dX10_lift_42 rfl ?_
      refine x_icmp_ne (pc := 43) (tgt := 53) dX10_lift_43 (by decide) (fun h13 => ?_) (fun h13 => ?_)
      · refine x_iinc (pc := 53) (b := (s9.1 + 1)) (L' := [some (.ref 170), some (.int p1), some (.int x4), some (.int (s9.1 + 1))]) dX10_lift_53 rfl rfl (Nat.le_of_ble_eq_true rfl) rfl rfl ?_
        refine x_goto (pc := 56) (tgt := 28) dX10_lift_56 (by decide) ?_
        have hz := hkk10 ((s9.1 + 1), s9.2)
        try dsimp only at hz
        exact hz
      · refine x_aload_n (pc := 46) dX10_lift_46 rfl ?_
        refine m_getR (pc := 47) (t := 181) xC10 10 fl_X10_40 rfl (by decide) rfl (by decide) rfl dX10_lift_47 ?_
        refine x_iload_n (pc := 50) dX10_lift_50 rfl ?_
        refine x_iconst (pc := 51) (a := -1) dX10_lift_51 (by decide) ?_
        refine m_iast (pc := 52) rfl rfl dX10_lift_52 (fun hb14 => ?_)
        refine SP.bdm (fun m15 e16 => ?_)
        refine x_iinc (pc := 53) (b := (s9.1 + 1)) (L' := [some (.ref 170), some (.int p1), some (.int x4), some (.int (s9.1 + 1))]) dX10_lift_53 rfl rfl (Nat.le_of_ble_eq_true rfl) rfl rfl ?_
        refine x_goto (pc := 56) (tgt := 28) dX10_lift_56 (by decide) ?_
        have hz := hkk10 ((s9.1 + 1), m15)
        try dsimp only at hz
        exact hz
  · refine x_iconst (pc := 10) (a := -1) dX10_lift_10 (by decide) ?_
    exact x_iret (pc := 11) rfl rfl dX10_lift_11 (Nat.zero_le _) (Nat.zero_le _)

set_option maxRecDepth 100000 in
set_option maxHeartbeats 4000000 in
theorem ct_X10_look (p1 : Int32) (p2 : Int32) (M : xM)  : Ct iX10_look (rI M) [(.ref 170), (.int p1), (.int p2)] (xwd M) (fX10_look p1 p2 M) := by
  refine Ct.of' (L := [some (.ref 170), some (.int p1), some (.int p2)]) 0 rfl (by decide +kernel) (Nat.le_of_ble_eq_true rfl) rfl ?_
  unfold fX10_look
  refine x_aload_n (pc := 0) dX10_look_0 rfl ?_
  refine x_iload_n (pc := 1) dX10_look_1 rfl ?_
  refine x_iconst (pc := 2) (a := 0) dX10_look_2 (by decide) ?_
  refine x_iconst (pc := 3) (a := 5) dX10_look_3 (by decide) ?_
  refine cV_I (pc := 4) (As := [(.int p1), (.int (0:Int32)), (.int (5:Int32))]) (rest := []) (ct_X10_fails p1 (0:Int32) (5:Int32) M) rfl xC10 rfl (by decide) ml_X10_96 meX10_fails rfl ⟨prX10_fails, (Nat.le_of_ble_eq_true rfl), (Nat.le_of_ble_eq_true rfl), rfl, rfl⟩ (Nat.le_of_ble_eq_true rfl) dX10_look_4 (fun v1 => ?_)
  refine x_if_eq (pc := 7) (tgt := 12) dX10_look_7 (by decide) (fun h2 => ?_) (fun h2 => ?_)
  · refine x_iload_n (pc := 12) dX10_look_12 rfl ?_
    refine SP.ite (fun h3 => ?_) (fun h3 => ?_)
    · refine x_tsw_in (pc := 13) (tgt := 52) (off := 39) dX10_look_13 (by rw [h3]; decide) (by rw [h3]; decide) (by rw [h3]; rfl) (by decide) ?_
      refine x_aload_n (pc := 52) dX10_look_52 rfl ?_
      refine m_getR (pc := 53) (t := 171) xC10 0 fl_X10_9 rfl (by decide) rfl (by decide) rfl dX10_look_53 ?_
      refine x_iload_n (pc := 56) dX10_look_56 rfl ?_
      refine m_iald (pc := 57) rfl rfl dX10_look_57 (fun hb4 => ?_)
      exact x_iret (pc := 58) rfl rfl dX10_look_58 (Nat.zero_le _) (Nat.zero_le _)
    refine SP.ite (fun h5 => ?_) (fun h5 => ?_)
    · refine x_tsw_in (pc := 13) (tgt := 59) (off := 46) dX10_look_13 (by rw [h5]; decide) (by rw [h5]; decide) (by rw [h5]; rfl) (by decide) ?_
      refine x_aload_n (pc := 59) dX10_look_59 rfl ?_
      refine m_getR (pc := 60) (t := 172) xC10 1 fl_X10_13 rfl (by decide) rfl (by decide) rfl dX10_look_60 ?_
      refine x_iload_n (pc := 63) dX10_look_63 rfl ?_
      refine m_iald (pc := 64) rfl rfl dX10_look_64 (fun hb6 => ?_)
      exact x_iret (pc := 65) rfl rfl dX10_look_65 (Nat.zero_le _) (Nat.zero_le _)
    refine SP.ite (fun h7 => ?_) (fun h7 => ?_)
    · refine x_tsw_in (pc := 13) (tgt := 66) (off := 53) dX10_look_13 (by rw [h7]; decide) (by rw [h7]; decide) (by rw [h7]; rfl) (by decide) ?_
      refine x_aload_n (pc := 66) dX10_look_66 rfl ?_
      refine m_getR (pc := 67) (t := 173) xC10 2 fl_X10_16 rfl (by decide) rfl (by decide) rfl dX10_look_67 ?_
      refine x_iload_n (pc := 70) dX10_look_70 rfl ?_
      refine m_iald (pc := 71) rfl rfl dX10_look_71 (fun hb8 => ?_)
      exact x_iret (pc := 72) rfl rfl dX10_look_72 (Nat.zero_le _) (Nat.zero_le _)
    refine SP.ite (fun h9 => ?_) (fun h9 => ?_)
    · refine x_tsw_in (pc := 13) (tgt := 73) (off := 60) dX10_look_13 (by rw [h9]; decide) (by rw [h9]; decide) (by rw [h9]; rfl) (by decide) ?_
      refine x_aload_n (pc := 73) dX10_look_73 rfl ?_
      refine m_getR (pc := 74) (t := 174) xC10 3 fl_X10_19 rfl (by decide) rfl (by decide) rfl dX10_look_74 ?_
      refine x_iload_n (pc := 77) dX10_look_77 rfl ?_
      refine m_iald (pc := 78) rfl rfl dX10_look_78 (fun hb10 => ?_)
      exact x_iret (pc := 79) rfl rfl dX10_look_79 (Nat.zero_le _) (Nat.zero_le _)
    refine SP.ite (fun h11 => ?_) (fun h11 => ?_)
    · refine x_tsw_in (pc := 13) (tgt := 80) (off := 67) dX10_look_13 (by rw [h11]; decide) (by rw [h11]; decide) (by rw [h11]; rfl) (by decide) ?_
      refine x_aload_n (pc := 80) dX10_look_80 rfl ?_
      refine m_getR (pc := 81) (t := 175) xC10 4 fl_X10_22 rfl (by decide) rfl (by decide) rfl dX10_look_81 ?_
      refine x_iload_n (pc := 84) dX10_look_84 rfl ?_
      refine m_iald (pc := 85) rfl rfl dX10_look_85 (fun hb12 => ?_)
      exact x_iret (pc := 86) rfl rfl dX10_look_86 (Nat.zero_le _) (Nat.zero_le _)
    refine SP.ite (fun h13 => ?_) (fun h13 => ?_)
    · refine x_tsw_in (pc := 13) (tgt := 87) (off := 74) dX10_look_13 (by rw [h13]; decide) (by rw [h13]; decide) (by rw [h13]; rfl) (by decide) ?_
      refine x_aload_n (pc := 87) dX10_look_87 rfl ?_
      refine m_getR (pc := 88) (t := 176) xC10 5 fl_X10_25 rfl (by decide) rfl (by decide) rfl dX10_look_88 ?_
      refine x_iload_n (pc := 91) dX10_look_91 rfl ?_
      refine m_iald (pc := 92) rfl rfl dX10_look_92 (fun hb14 => ?_)
      exact x_iret (pc := 93) rfl rfl dX10_look_93 (Nat.zero_le _) (Nat.zero_le _)
    refine x_tsw_out (pc := 13) (tgt := 94) dX10_look_13 (by have a0 := lv_neT h3 (a := 0) rfl; have a1 := lv_neT h5 (a := 1) rfl; have a2 := lv_neT h7 (a := 2) rfl; have a3 := lv_neT h9 (a := 3) rfl; have a4 := lv_neT h11 (a := 4) rfl; have a5 := lv_neT h13 (a := 5) rfl; omega) (by decide) ?_
    refine x_iconst (pc := 94) (a := -1) dX10_look_94 (by decide) ?_
    exact x_iret (pc := 95) rfl rfl dX10_look_95 (Nat.zero_le _) (Nat.zero_le _)
  · refine x_iconst (pc := 10) (a := -1) dX10_look_10 (by decide) ?_
    exact x_iret (pc := 11) rfl rfl dX10_look_11 (Nat.zero_le _) (Nat.zero_le _)

set_option maxRecDepth 100000 in
set_option maxHeartbeats 4000000 in
theorem ct_X10_read (p1 : Int32) (p2 : Int32) (M : xM)  : Ct iX10_read rIM [(.ref 170), (.int p1), (.int p2)] (xwd M) (fX10_read p1 p2 M) := by
  refine Ct.of' (L := [some (.ref 170), some (.int p1), some (.int p2), none, none]) 2 rfl (by decide +kernel) (Nat.le_of_ble_eq_true rfl) rfl ?_
  unfold fX10_read
  refine x_aload_n (pc := 0) dX10_read_0 rfl ?_
  refine x_iload_n (pc := 1) dX10_read_1 rfl ?_
  refine x_iconst (pc := 2) (a := 0) dX10_read_2 (by decide) ?_
  refine x_iconst (pc := 3) (a := 4) dX10_read_3 (by decide) ?_
  refine cV_I (pc := 4) (As := [(.int p1), (.int (0:Int32)), (.int (4:Int32))]) (rest := []) (ct_X10_fails p1 (0:Int32) (4:Int32) M) rfl xC10 rfl (by decide) ml_X10_96 meX10_fails rfl ⟨prX10_fails, (Nat.le_of_ble_eq_true rfl), (Nat.le_of_ble_eq_true rfl), rfl, rfl⟩ (Nat.le_of_ble_eq_true rfl) dX10_read_4 (fun v1 => ?_)
  refine x_istore_n (pc := 7) (L' := [some (.ref 170), some (.int p1), some (.int p2), some (.int v1), none]) dX10_read_7 (Nat.le_of_ble_eq_true rfl) rfl rfl ?_
  refine x_iload_n (pc := 8) dX10_read_8 rfl ?_
  refine x_if_eq (pc := 9) (tgt := 14) dX10_read_9 (by decide) (fun h2 => ?_) (fun h2 => ?_)
  · refine x_aload_n (pc := 14) dX10_read_14 rfl ?_
    refine m_getR (pc := 15) (t := 171) xC10 0 fl_X10_9 rfl (by decide) rfl (by decide) rfl dX10_read_15 ?_
    refine x_iload_n (pc := 18) dX10_read_18 rfl ?_
    refine m_iald (pc := 19) rfl rfl dX10_read_19 (fun hb3 => ?_)
    refine x_iconst (pc := 20) (a := 1) dX10_read_20 (by decide) ?_
    refine SP.jn 39 (fun (s5 : Int32) => [some (.ref 170), some (.int p1), some (.int p2), none, none]) (fun (s5 : Int32) => [(.int s5)]) (fun (s5 : Int32) => xwd M) (fun kk4 hkk4 => ?_) (fun s5 => ?_)
    · try dsimp only
      refine SP.jn 34 (fun (s7 : Unit) => [some (.ref 170), some (.int p1), some (.int p2), none, none]) (fun (s7 : Unit) => []) (fun (s7 : Unit) => xwd M) (fun kk6 hkk6 => ?_) (fun s7 => ?_)
      · try dsimp only
        refine x_icmp_eq (pc := 21) (tgt := 34) dX10_read_21 (by decide) (fun h8 => ?_) (fun h8 => ?_)
        · refine SP.mask (pc := 34) [true, true, true, false, false] (L' := [some (.ref 170), some (.int p1), some (.int p2), none, none]) rfl ?_
          have hz := hkk6 ()
          try dsimp only at hz
          exact hz
        · refine x_aload_n (pc := 24) dX10_read_24 rfl ?_
          refine m_getR (pc := 25) (t := 171) xC10 0 fl_X10_9 rfl (by decide) rfl (by decide) rfl dX10_read_25 ?_
          refine x_iload_n (pc := 28) dX10_read_28 rfl ?_
          refine m_iald (pc := 29) rfl rfl dX10_read_29 (fun hb9 => ?_)
          refine x_iconst (pc := 30) (a := 4) dX10_read_30 (by decide) ?_
          refine x_icmp_ne (pc := 31) (tgt := 38) dX10_read_31 (by decide) (fun h10 => ?_) (fun h10 => ?_)
          · refine x_iconst (pc := 38) (a := 0) dX10_read_38 (by decide) ?_
            refine SP.mask (pc := 39) [true, true, true, false, false] (L' := [some (.ref 170), some (.int p1), some (.int p2), none, none]) rfl ?_
            have hz := hkk4 (0:Int32)
            try dsimp only at hz
            exact hz
          · refine SP.mask (pc := 34) [true, true, true, false, false] (L' := [some (.ref 170), some (.int p1), some (.int p2), none, none]) rfl ?_
            have hz := hkk6 ()
            try dsimp only at hz
            exact hz
      · try dsimp only
        refine x_iconst (pc := 34) (a := 1) dX10_read_34 (by decide) ?_
        refine x_goto (pc := 35) (tgt := 39) dX10_read_35 (by decide) ?_
        have hz := hkk4 (1:Int32)
        try dsimp only at hz
        exact hz
    · try dsimp only
      refine x_istore (pc := 39) (L' := [some (.ref 170), some (.int p1), some (.int p2), none, some (.int s5)]) dX10_read_39 (Nat.le_of_ble_eq_true rfl) rfl rfl ?_
      refine x_aload_n (pc := 41) dX10_read_41 rfl ?_
      refine m_getI (pc := 42) xC10 15 fl_X10_89 rfl (by decide) rfl (by decide) rfl dX10_read_42 ?_
      refine x_bipush (pc := 45) (a := 56) dX10_read_45 (by decide) ?_
      refine x_icmp_eq (pc := 47) (tgt := 72) dX10_read_47 (by decide) (fun h11 => ?_) (fun h11 => ?_)
      · refine x_iconst (pc := 72) (a := -1) dX10_read_72 (by decide) ?_
        exact x_iret (pc := 73) rfl rfl dX10_read_73 (Nat.zero_le _) (Nat.zero_le _)
      · refine x_iload_n (pc := 50) dX10_read_50 rfl ?_
        refine x_iconst (pc := 51) (a := 0) dX10_read_51 (by decide) ?_
        refine x_iload (pc := 52) dX10_read_52 rfl ?_
        refine SP.jn 66 (fun (s13 : Int32) => [some (.ref 170), some (.int p1), some (.int p2), none, none]) (fun (s13 : Int32) => [(.int s13), (.int (0:Int32)), (.int p2)]) (fun (s13 : Int32) => xwd M) (fun kk12 hkk12 => ?_) (fun s13 => ?_)
        · try dsimp only
          refine x_if_eq (pc := 54) (tgt := 63) dX10_read_54 (by decide) (fun h14 => ?_) (fun h14 => ?_)
          · refine x_sipush (pc := 63) (a := 5000) dX10_read_63 (by decide) ?_
            refine SP.mask (pc := 66) [true, true, true, false, false] (L' := [some (.ref 170), some (.int p1), some (.int p2), none, none]) rfl ?_
            have hz := hkk12 (5000:Int32)
            try dsimp only at hz
            exact hz
          · refine x_sipush (pc := 57) (a := 250) dX10_read_57 (by decide) ?_
            refine x_goto (pc := 60) (tgt := 66) dX10_read_60 (by decide) ?_
            refine SP.mask (pc := 66) [true, true, true, false, false] (L' := [some (.ref 170), some (.int p1), some (.int p2), none, none]) rfl ?_
            have hz := hkk12 (250:Int32)
            try dsimp only at hz
            exact hz
        · try dsimp only
          refine cS_I (pc := 66) (As := [(.int p2), (.int (0:Int32)), (.int s13)]) (rest := []) (ct_X10_isIn p2 (0:Int32) s13 M) rfl ml_X10_85 meX10_isIn rfl ⟨prX10_isIn, (Nat.le_of_ble_eq_true rfl), (Nat.le_of_ble_eq_true rfl), rfl, rfl⟩ (Nat.le_of_ble_eq_true rfl) dX10_read_66 (fun v15 => ?_)
          refine x_if_ne (pc := 69) (tgt := 74) dX10_read_69 (by decide) (fun h16 => ?_) (fun h16 => ?_)
          · refine x_aload_n (pc := 74) dX10_read_74 rfl ?_
            refine m_getR (pc := 75) (t := 177) xC10 6 fl_X10_28 rfl (by decide) rfl (by decide) rfl dX10_read_75 ?_
            refine x_iload_n (pc := 78) dX10_read_78 rfl ?_
            refine x_aload_n (pc := 79) dX10_read_79 rfl ?_
            refine m_getI (pc := 80) xC10 15 fl_X10_89 rfl (by decide) rfl (by decide) rfl dX10_read_80 ?_
            refine cS_I (pc := 83) (As := [(.int p1), (.int (M.1 170 15))]) (rest := [(.ref 177)]) (ct_X10_at p1 (M.1 170 15) M) rfl ml_X10_92 meX10_at rfl ⟨prX10_at, (Nat.le_of_ble_eq_true rfl), (Nat.le_of_ble_eq_true rfl), rfl, rfl⟩ (Nat.le_of_ble_eq_true rfl) dX10_read_83 (fun v17 => ?_)
            refine x_iload_n (pc := 86) dX10_read_86 rfl ?_
            refine m_iast (pc := 87) rfl rfl dX10_read_87 (fun hb18 => ?_)
            refine SP.bdm (fun m19 e20 => ?_)
            refine x_aload_n (pc := 88) dX10_read_88 rfl ?_
            refine m_getR (pc := 89) (t := 171) xC10 0 fl_X10_9 rfl (by decide) rfl (by decide) rfl dX10_read_89 ?_
            refine x_iload_n (pc := 92) dX10_read_92 rfl ?_
            refine m_iald (pc := 93) rfl rfl dX10_read_93 (fun hb21 => ?_)
            refine x_iconst (pc := 94) (a := 2) dX10_read_94 (by decide) ?_
            refine x_icmp_ne (pc := 95) (tgt := 108) dX10_read_95 (by decide) (fun h22 => ?_) (fun h22 => ?_)
            · refine x_iconst (pc := 108) (a := 1) dX10_read_108 (by decide) ?_
              exact x_iret (pc := 109) rfl rfl dX10_read_109 (Nat.zero_le _) (Nat.zero_le _)
            · refine x_aload_n (pc := 98) dX10_read_98 rfl ?_
              refine m_getR (pc := 99) (t := 176) xC10 5 fl_X10_25 rfl (by decide) rfl (by decide) rfl dX10_read_99 ?_
              refine x_iload_n (pc := 102) dX10_read_102 rfl ?_
              refine x_dup2 (pc := 103) dX10_read_103 rfl rfl ?_
              refine m_iald (pc := 104) rfl rfl dX10_read_104 (fun hb23 => ?_)
              refine x_iload_n (pc := 105) dX10_read_105 rfl ?_
              refine x_iadd (pc := 106) dX10_read_106 ?_
              refine m_iast (pc := 107) rfl rfl dX10_read_107 (fun hb24 => ?_)
              refine SP.bdm (fun m25 e26 => ?_)
              refine x_iconst (pc := 108) (a := 1) dX10_read_108 (by decide) ?_
              exact x_iret (pc := 109) rfl rfl dX10_read_109 (Nat.zero_le _) (Nat.zero_le _)
          · refine x_iconst (pc := 72) (a := -1) dX10_read_72 (by decide) ?_
            exact x_iret (pc := 73) rfl rfl dX10_read_73 (Nat.zero_le _) (Nat.zero_le _)
  · refine x_iload_n (pc := 12) dX10_read_12 rfl ?_
    exact x_iret (pc := 13) rfl rfl dX10_read_13 (Nat.zero_le _) (Nat.zero_le _)

set_option maxRecDepth 100000 in
set_option maxHeartbeats 4000000 in
theorem ct_X10_full (p1 : Int32) (p2 : Int32) (M : xM)  : Ct iX10_full rIM [(.ref 170), (.int p1), (.int p2)] (xwd M) (fX10_full p1 p2 M) := by
  refine Ct.of' (L := [some (.ref 170), some (.int p1), some (.int p2), none]) 1 rfl (by decide +kernel) (Nat.le_of_ble_eq_true rfl) rfl ?_
  unfold fX10_full
  refine x_aload_n (pc := 0) dX10_full_0 rfl ?_
  refine x_iload_n (pc := 1) dX10_full_1 rfl ?_
  refine x_iconst (pc := 2) (a := 1) dX10_full_2 (by decide) ?_
  refine x_iconst (pc := 3) (a := 1) dX10_full_3 (by decide) ?_
  refine cV_I (pc := 4) (As := [(.int p1), (.int (1:Int32)), (.int (1:Int32))]) (rest := []) (ct_X10_fails p1 (1:Int32) (1:Int32) M) rfl xC10 rfl (by decide) ml_X10_96 meX10_fails rfl ⟨prX10_fails, (Nat.le_of_ble_eq_true rfl), (Nat.le_of_ble_eq_true rfl), rfl, rfl⟩ (Nat.le_of_ble_eq_true rfl) dX10_full_4 (fun v1 => ?_)
  refine x_istore_n (pc := 7) (L' := [some (.ref 170), some (.int p1), some (.int p2), some (.int v1)]) dX10_full_7 (Nat.le_of_ble_eq_true rfl) rfl rfl ?_
  refine x_iload_n (pc := 8) dX10_full_8 rfl ?_
  refine x_if_eq (pc := 9) (tgt := 14) dX10_full_9 (by decide) (fun h2 => ?_) (fun h2 => ?_)
  · refine x_aload_n (pc := 14) dX10_full_14 rfl ?_
    refine m_getI (pc := 15) xC10 15 fl_X10_89 rfl (by decide) rfl (by decide) rfl dX10_full_15 ?_
    refine x_bipush (pc := 18) (a := 56) dX10_full_18 (by decide) ?_
    refine x_icmp_eq (pc := 20) (tgt := 33) dX10_full_20 (by decide) (fun h3 => ?_) (fun h3 => ?_)
    · refine x_iconst (pc := 33) (a := -1) dX10_full_33 (by decide) ?_
      exact x_iret (pc := 34) rfl rfl dX10_full_34 (Nat.zero_le _) (Nat.zero_le _)
    · refine x_iload_n (pc := 23) dX10_full_23 rfl ?_
      refine x_iconst (pc := 24) (a := 0) dX10_full_24 (by decide) ?_
      refine x_bipush (pc := 25) (a := 7) dX10_full_25 (by decide) ?_
      refine cS_I (pc := 27) (As := [(.int p2), (.int (0:Int32)), (.int (7:Int32))]) (rest := []) (ct_X10_isIn p2 (0:Int32) (7:Int32) M) rfl ml_X10_85 meX10_isIn rfl ⟨prX10_isIn, (Nat.le_of_ble_eq_true rfl), (Nat.le_of_ble_eq_true rfl), rfl, rfl⟩ (Nat.le_of_ble_eq_true rfl) dX10_full_27 (fun v4 => ?_)
      refine x_if_ne (pc := 30) (tgt := 35) dX10_full_30 (by decide) (fun h5 => ?_) (fun h5 => ?_)
      · refine x_aload_n (pc := 35) dX10_full_35 rfl ?_
        refine m_getR (pc := 36) (t := 178) xC10 7 fl_X10_31 rfl (by decide) rfl (by decide) rfl dX10_full_36 ?_
        refine x_iload_n (pc := 39) dX10_full_39 rfl ?_
        refine x_aload_n (pc := 40) dX10_full_40 rfl ?_
        refine m_getI (pc := 41) xC10 15 fl_X10_89 rfl (by decide) rfl (by decide) rfl dX10_full_41 ?_
        refine cS_I (pc := 44) (As := [(.int p1), (.int (M.1 170 15))]) (rest := [(.ref 178)]) (ct_X10_at p1 (M.1 170 15) M) rfl ml_X10_92 meX10_at rfl ⟨prX10_at, (Nat.le_of_ble_eq_true rfl), (Nat.le_of_ble_eq_true rfl), rfl, rfl⟩ (Nat.le_of_ble_eq_true rfl) dX10_full_44 (fun v6 => ?_)
        refine x_iload_n (pc := 47) dX10_full_47 rfl ?_
        refine m_iast (pc := 48) rfl rfl dX10_full_48 (fun hb7 => ?_)
        refine SP.bdm (fun m8 e9 => ?_)
        refine x_iconst (pc := 49) (a := 1) dX10_full_49 (by decide) ?_
        exact x_iret (pc := 50) rfl rfl dX10_full_50 (Nat.zero_le _) (Nat.zero_le _)
      · refine x_iconst (pc := 33) (a := -1) dX10_full_33 (by decide) ?_
        exact x_iret (pc := 34) rfl rfl dX10_full_34 (Nat.zero_le _) (Nat.zero_le _)
  · refine x_iload_n (pc := 12) dX10_full_12 rfl ?_
    exact x_iret (pc := 13) rfl rfl dX10_full_13 (Nat.zero_le _) (Nat.zero_le _)

set_option maxRecDepth 100000 in
set_option maxHeartbeats 4000000 in
theorem ct_X10_melt (p1 : Int32) (p2 : Int32) (M : xM)  : Ct iX10_melt rIM [(.ref 170), (.int p1), (.int p2)] (xwd M) (fX10_melt p1 p2 M) := by
  refine Ct.of' (L := [some (.ref 170), some (.int p1), some (.int p2), none, none]) 2 rfl (by decide +kernel) (Nat.le_of_ble_eq_true rfl) rfl ?_
  unfold fX10_melt
  refine x_aload_n (pc := 0) dX10_melt_0 rfl ?_
  refine x_iload_n (pc := 1) dX10_melt_1 rfl ?_
  refine x_iconst (pc := 2) (a := 2) dX10_melt_2 (by decide) ?_
  refine x_iconst (pc := 3) (a := 2) dX10_melt_3 (by decide) ?_
  refine cV_I (pc := 4) (As := [(.int p1), (.int (2:Int32)), (.int (2:Int32))]) (rest := []) (ct_X10_fails p1 (2:Int32) (2:Int32) M) rfl xC10 rfl (by decide) ml_X10_96 meX10_fails rfl ⟨prX10_fails, (Nat.le_of_ble_eq_true rfl), (Nat.le_of_ble_eq_true rfl), rfl, rfl⟩ (Nat.le_of_ble_eq_true rfl) dX10_melt_4 (fun v1 => ?_)
  refine x_istore_n (pc := 7) (L' := [some (.ref 170), some (.int p1), some (.int p2), some (.int v1), none]) dX10_melt_7 (Nat.le_of_ble_eq_true rfl) rfl rfl ?_
  refine x_iload_n (pc := 8) dX10_melt_8 rfl ?_
  refine x_if_eq (pc := 9) (tgt := 14) dX10_melt_9 (by decide) (fun h2 => ?_) (fun h2 => ?_)
  · refine x_aload_n (pc := 14) dX10_melt_14 rfl ?_
    refine m_getI (pc := 15) xC10 15 fl_X10_89 rfl (by decide) rfl (by decide) rfl dX10_melt_15 ?_
    refine x_bipush (pc := 18) (a := 56) dX10_melt_18 (by decide) ?_
    refine x_icmp_eq (pc := 20) (tgt := 44) dX10_melt_20 (by decide) (fun h3 => ?_) (fun h3 => ?_)
    · refine x_iconst (pc := 44) (a := -1) dX10_melt_44 (by decide) ?_
      exact x_iret (pc := 45) rfl rfl dX10_melt_45 (Nat.zero_le _) (Nat.zero_le _)
    · refine x_iload_n (pc := 23) dX10_melt_23 rfl ?_
      refine x_iconst (pc := 24) (a := 1) dX10_melt_24 (by decide) ?_
      refine x_sipush (pc := 25) (a := 5000) dX10_melt_25 (by decide) ?_
      refine cS_I (pc := 28) (As := [(.int p2), (.int (1:Int32)), (.int (5000:Int32))]) (rest := []) (ct_X10_isIn p2 (1:Int32) (5000:Int32) M) rfl ml_X10_85 meX10_isIn rfl ⟨prX10_isIn, (Nat.le_of_ble_eq_true rfl), (Nat.le_of_ble_eq_true rfl), rfl, rfl⟩ (Nat.le_of_ble_eq_true rfl) dX10_melt_28 (fun v4 => ?_)
      refine x_if_eq (pc := 31) (tgt := 44) dX10_melt_31 (by decide) (fun h5 => ?_) (fun h5 => ?_)
      · refine x_iconst (pc := 44) (a := -1) dX10_melt_44 (by decide) ?_
        exact x_iret (pc := 45) rfl rfl dX10_melt_45 (Nat.zero_le _) (Nat.zero_le _)
      · refine x_iload_n (pc := 34) dX10_melt_34 rfl ?_
        refine x_aload_n (pc := 35) dX10_melt_35 rfl ?_
        refine m_getR (pc := 36) (t := 176) xC10 5 fl_X10_25 rfl (by decide) rfl (by decide) rfl dX10_melt_36 ?_
        refine x_iload_n (pc := 39) dX10_melt_39 rfl ?_
        refine m_iald (pc := 40) rfl rfl dX10_melt_40 (fun hb6 => ?_)
        refine x_icmp_le (pc := 41) (tgt := 46) dX10_melt_41 (by decide) (fun h7 => ?_) (fun h7 => ?_)
        · refine x_aload_n (pc := 46) dX10_melt_46 rfl ?_
          refine m_getR (pc := 47) (t := 179) xC10 8 fl_X10_34 rfl (by decide) rfl (by decide) rfl dX10_melt_47 ?_
          refine x_iload_n (pc := 50) dX10_melt_50 rfl ?_
          refine x_aload_n (pc := 51) dX10_melt_51 rfl ?_
          refine m_getI (pc := 52) xC10 15 fl_X10_89 rfl (by decide) rfl (by decide) rfl dX10_melt_52 ?_
          refine cS_I (pc := 55) (As := [(.int p1), (.int (M.1 170 15))]) (rest := [(.ref 179)]) (ct_X10_at p1 (M.1 170 15) M) rfl ml_X10_92 meX10_at rfl ⟨prX10_at, (Nat.le_of_ble_eq_true rfl), (Nat.le_of_ble_eq_true rfl), rfl, rfl⟩ (Nat.le_of_ble_eq_true rfl) dX10_melt_55 (fun v8 => ?_)
          refine m_iald (pc := 58) rfl rfl dX10_melt_58 (fun hb9 => ?_)
          refine x_iconst (pc := 59) (a := -1) dX10_melt_59 (by decide) ?_
          refine SP.jn 80 (fun (s11 : Int32) => [some (.ref 170), some (.int p1), some (.int p2), none, none]) (fun (s11 : Int32) => [(.int s11)]) (fun (s11 : Int32) => xwd M) (fun kk10 hkk10 => ?_) (fun s11 => ?_)
          · try dsimp only
            refine x_icmp_ne (pc := 60) (tgt := 67) dX10_melt_60 (by decide) (fun h12 => ?_) (fun h12 => ?_)
            · refine x_aload_n (pc := 67) dX10_melt_67 rfl ?_
              refine m_getR (pc := 68) (t := 179) xC10 8 fl_X10_34 rfl (by decide) rfl (by decide) rfl dX10_melt_68 ?_
              refine x_iload_n (pc := 71) dX10_melt_71 rfl ?_
              refine x_aload_n (pc := 72) dX10_melt_72 rfl ?_
              refine m_getI (pc := 73) xC10 15 fl_X10_89 rfl (by decide) rfl (by decide) rfl dX10_melt_73 ?_
              refine cS_I (pc := 76) (As := [(.int p1), (.int (M.1 170 15))]) (rest := [(.ref 179)]) (ct_X10_at p1 (M.1 170 15) M) rfl ml_X10_92 meX10_at rfl ⟨prX10_at, (Nat.le_of_ble_eq_true rfl), (Nat.le_of_ble_eq_true rfl), rfl, rfl⟩ (Nat.le_of_ble_eq_true rfl) dX10_melt_76 (fun v13 => ?_)
              refine m_iald (pc := 79) rfl rfl dX10_melt_79 (fun hb14 => ?_)
              refine SP.mask (pc := 80) [true, true, true, false, false] (L' := [some (.ref 170), some (.int p1), some (.int p2), none, none]) rfl ?_
              have hz := hkk10 (M.1 179 v13.toNatClampNeg)
              try dsimp only at hz
              exact hz
            · refine x_iconst (pc := 63) (a := 0) dX10_melt_63 (by decide) ?_
              refine x_goto (pc := 64) (tgt := 80) dX10_melt_64 (by decide) ?_
              refine SP.mask (pc := 80) [true, true, true, false, false] (L' := [some (.ref 170), some (.int p1), some (.int p2), none, none]) rfl ?_
              have hz := hkk10 (0:Int32)
              try dsimp only at hz
              exact hz
          · try dsimp only
            refine x_istore (pc := 80) (L' := [some (.ref 170), some (.int p1), some (.int p2), none, some (.int s11)]) dX10_melt_80 (Nat.le_of_ble_eq_true rfl) rfl rfl ?_
            refine x_iload (pc := 82) dX10_melt_82 rfl ?_
            refine x_iload_n (pc := 84) dX10_melt_84 rfl ?_
            refine x_iadd (pc := 85) dX10_melt_85 ?_
            refine x_sipush (pc := 86) (a := 5000) dX10_melt_86 (by decide) ?_
            refine x_icmp_le (pc := 89) (tgt := 94) dX10_melt_89 (by decide) (fun h15 => ?_) (fun h15 => ?_)
            · refine x_aload_n (pc := 94) dX10_melt_94 rfl ?_
              refine m_getR (pc := 95) (t := 176) xC10 5 fl_X10_25 rfl (by decide) rfl (by decide) rfl dX10_melt_95 ?_
              refine x_iload_n (pc := 98) dX10_melt_98 rfl ?_
              refine x_dup2 (pc := 99) dX10_melt_99 rfl rfl ?_
              refine m_iald (pc := 100) rfl rfl dX10_melt_100 (fun hb16 => ?_)
              refine x_iload_n (pc := 101) dX10_melt_101 rfl ?_
              refine x_isub (pc := 102) dX10_melt_102 ?_
              refine m_iast (pc := 103) rfl rfl dX10_melt_103 (fun hb17 => ?_)
              refine SP.bdm (fun m18 e19 => ?_)
              refine x_aload_n (pc := 104) dX10_melt_104 rfl ?_
              refine m_getR (pc := 105) (t := 179) xC10 8 fl_X10_34 rfl (by decide) rfl (by decide) rfl dX10_melt_105 ?_
              refine x_iload_n (pc := 108) dX10_melt_108 rfl ?_
              refine x_aload_n (pc := 109) dX10_melt_109 rfl ?_
              refine m_getI (pc := 110) xC10 15 fl_X10_89 rfl (by decide) rfl (by decide) rfl dX10_melt_110 ?_
              refine cS_I (pc := 113) (As := [(.int p1), (.int (m18.1 170 15))]) (rest := [(.ref 179)]) (ct_X10_at p1 (m18.1 170 15) m18) rfl ml_X10_92 meX10_at rfl ⟨prX10_at, (Nat.le_of_ble_eq_true rfl), (Nat.le_of_ble_eq_true rfl), rfl, rfl⟩ (Nat.le_of_ble_eq_true rfl) dX10_melt_113 (fun v20 => ?_)
              refine x_iload (pc := 116) dX10_melt_116 rfl ?_
              refine x_iload_n (pc := 118) dX10_melt_118 rfl ?_
              refine x_iadd (pc := 119) dX10_melt_119 ?_
              refine m_iast (pc := 120) rfl rfl dX10_melt_120 (fun hb21 => ?_)
              refine SP.bdm (fun m22 e23 => ?_)
              refine x_aload_n (pc := 121) dX10_melt_121 rfl ?_
              refine m_getR (pc := 122) (t := 176) xC10 5 fl_X10_25 rfl (by decide) rfl (by decide) rfl dX10_melt_122 ?_
              refine x_iload_n (pc := 125) dX10_melt_125 rfl ?_
              refine m_iald (pc := 126) rfl rfl dX10_melt_126 (fun hb24 => ?_)
              exact x_iret (pc := 127) rfl rfl dX10_melt_127 (Nat.zero_le _) (Nat.zero_le _)
            · refine x_iconst (pc := 92) (a := -1) dX10_melt_92 (by decide) ?_
              exact x_iret (pc := 93) rfl rfl dX10_melt_93 (Nat.zero_le _) (Nat.zero_le _)
        · refine x_iconst (pc := 44) (a := -1) dX10_melt_44 (by decide) ?_
          exact x_iret (pc := 45) rfl rfl dX10_melt_45 (Nat.zero_le _) (Nat.zero_le _)
  · refine x_iload_n (pc := 12) dX10_melt_12 rfl ?_
    exact x_iret (pc := 13) rfl rfl dX10_melt_13 (Nat.zero_le _) (Nat.zero_le _)

set_option maxRecDepth 100000 in
set_option maxHeartbeats 4000000 in
theorem ct_X10_other (p1 : Int32) (p2 : Int32) (M : xM)  : Ct iX10_other rIM [(.ref 170), (.int p1), (.int p2)] (xwd M) (fX10_other p1 p2 M) := by
  refine Ct.of' (L := [some (.ref 170), some (.int p1), some (.int p2), none]) 1 rfl (by decide +kernel) (Nat.le_of_ble_eq_true rfl) rfl ?_
  unfold fX10_other
  refine x_aload_n (pc := 0) dX10_other_0 rfl ?_
  refine x_iload_n (pc := 1) dX10_other_1 rfl ?_
  refine x_iconst (pc := 2) (a := 4) dX10_other_2 (by decide) ?_
  refine x_iconst (pc := 3) (a := 4) dX10_other_3 (by decide) ?_
  refine cV_I (pc := 4) (As := [(.int p1), (.int (4:Int32)), (.int (4:Int32))]) (rest := []) (ct_X10_fails p1 (4:Int32) (4:Int32) M) rfl xC10 rfl (by decide) ml_X10_96 meX10_fails rfl ⟨prX10_fails, (Nat.le_of_ble_eq_true rfl), (Nat.le_of_ble_eq_true rfl), rfl, rfl⟩ (Nat.le_of_ble_eq_true rfl) dX10_other_4 (fun v1 => ?_)
  refine x_istore_n (pc := 7) (L' := [some (.ref 170), some (.int p1), some (.int p2), some (.int v1)]) dX10_other_7 (Nat.le_of_ble_eq_true rfl) rfl rfl ?_
  refine x_iload_n (pc := 8) dX10_other_8 rfl ?_
  refine x_if_eq (pc := 9) (tgt := 14) dX10_other_9 (by decide) (fun h2 => ?_) (fun h2 => ?_)
  · refine x_aload_n (pc := 14) dX10_other_14 rfl ?_
    refine m_getI (pc := 15) xC10 15 fl_X10_89 rfl (by decide) rfl (by decide) rfl dX10_other_15 ?_
    refine x_bipush (pc := 18) (a := 56) dX10_other_18 (by decide) ?_
    refine x_icmp_eq (pc := 20) (tgt := 34) dX10_other_20 (by decide) (fun h3 => ?_) (fun h3 => ?_)
    · refine x_iconst (pc := 34) (a := -1) dX10_other_34 (by decide) ?_
      exact x_iret (pc := 35) rfl rfl dX10_other_35 (Nat.zero_le _) (Nat.zero_le _)
    · refine x_iload_n (pc := 23) dX10_other_23 rfl ?_
      refine x_iconst (pc := 24) (a := 0) dX10_other_24 (by decide) ?_
      refine x_sipush (pc := 25) (a := 250) dX10_other_25 (by decide) ?_
      refine cS_I (pc := 28) (As := [(.int p2), (.int (0:Int32)), (.int (250:Int32))]) (rest := []) (ct_X10_isIn p2 (0:Int32) (250:Int32) M) rfl ml_X10_85 meX10_isIn rfl ⟨prX10_isIn, (Nat.le_of_ble_eq_true rfl), (Nat.le_of_ble_eq_true rfl), rfl, rfl⟩ (Nat.le_of_ble_eq_true rfl) dX10_other_28 (fun v4 => ?_)
      refine x_if_ne (pc := 31) (tgt := 36) dX10_other_31 (by decide) (fun h5 => ?_) (fun h5 => ?_)
      · refine x_aload_n (pc := 36) dX10_other_36 rfl ?_
        refine m_getR (pc := 37) (t := 180) xC10 9 fl_X10_37 rfl (by decide) rfl (by decide) rfl dX10_other_37 ?_
        refine x_iload_n (pc := 40) dX10_other_40 rfl ?_
        refine x_aload_n (pc := 41) dX10_other_41 rfl ?_
        refine m_getI (pc := 42) xC10 15 fl_X10_89 rfl (by decide) rfl (by decide) rfl dX10_other_42 ?_
        refine cS_I (pc := 45) (As := [(.int p1), (.int (M.1 170 15))]) (rest := [(.ref 180)]) (ct_X10_at p1 (M.1 170 15) M) rfl ml_X10_92 meX10_at rfl ⟨prX10_at, (Nat.le_of_ble_eq_true rfl), (Nat.le_of_ble_eq_true rfl), rfl, rfl⟩ (Nat.le_of_ble_eq_true rfl) dX10_other_45 (fun v6 => ?_)
        refine x_iload_n (pc := 48) dX10_other_48 rfl ?_
        refine m_iast (pc := 49) rfl rfl dX10_other_49 (fun hb7 => ?_)
        refine SP.bdm (fun m8 e9 => ?_)
        refine x_iconst (pc := 50) (a := 1) dX10_other_50 (by decide) ?_
        exact x_iret (pc := 51) rfl rfl dX10_other_51 (Nat.zero_le _) (Nat.zero_le _)
      · refine x_iconst (pc := 34) (a := -1) dX10_other_34 (by decide) ?_
        exact x_iret (pc := 35) rfl rfl dX10_other_35 (Nat.zero_le _) (Nat.zero_le _)
  · refine x_iload_n (pc := 12) dX10_other_12 rfl ?_
    exact x_iret (pc := 13) rfl rfl dX10_other_13 (Nat.zero_le _) (Nat.zero_le _)

set_option maxRecDepth 100000 in
set_option maxHeartbeats 4000000 in
theorem ct_X10_hand (p1 : Int32) (p2 : Int32) (p3 : Int32) (M : xM)  : Ct iX10_hand rIM [(.ref 170), (.int p1), (.int p2), (.int p3)] (xwd M) (fX10_hand p1 p2 p3 M) := by
  refine Ct.of' (L := [some (.ref 170), some (.int p1), some (.int p2), some (.int p3), none]) 1 rfl (by decide +kernel) (Nat.le_of_ble_eq_true rfl) rfl ?_
  unfold fX10_hand
  refine x_aload_n (pc := 0) dX10_hand_0 rfl ?_
  refine x_iload_n (pc := 1) dX10_hand_1 rfl ?_
  refine x_iconst (pc := 2) (a := 0) dX10_hand_2 (by decide) ?_
  refine x_iconst (pc := 3) (a := 5) dX10_hand_3 (by decide) ?_
  refine cV_I (pc := 4) (As := [(.int p1), (.int (0:Int32)), (.int (5:Int32))]) (rest := []) (ct_X10_fails p1 (0:Int32) (5:Int32) M) rfl xC10 rfl (by decide) ml_X10_96 meX10_fails rfl ⟨prX10_fails, (Nat.le_of_ble_eq_true rfl), (Nat.le_of_ble_eq_true rfl), rfl, rfl⟩ (Nat.le_of_ble_eq_true rfl) dX10_hand_4 (fun v1 => ?_)
  refine x_istore (pc := 7) (L' := [some (.ref 170), some (.int p1), some (.int p2), some (.int p3), some (.int v1)]) dX10_hand_7 (Nat.le_of_ble_eq_true rfl) rfl rfl ?_
  refine x_iload (pc := 9) dX10_hand_9 rfl ?_
  refine SP.jn 38 (fun (s3 : Int32) => [some (.ref 170), some (.int p1), some (.int p2), some (.int p3), some (.int s3)]) (fun (s3 : Int32) => []) (fun (s3 : Int32) => xwd M) (fun kk2 hkk2 => ?_) (fun s3 => ?_)
  · try dsimp only
    refine x_if_ne (pc := 11) (tgt := 38) dX10_hand_11 (by decide) (fun h4 => ?_) (fun h4 => ?_)
    · have hz := hkk2 v1
      try dsimp only at hz
      exact hz
    · refine x_aload_n (pc := 14) dX10_hand_14 rfl ?_
      refine m_getR (pc := 15) (t := 171) xC10 0 fl_X10_9 rfl (by decide) rfl (by decide) rfl dX10_hand_15 ?_
      refine x_iload_n (pc := 18) dX10_hand_18 rfl ?_
      refine m_iald (pc := 19) rfl rfl dX10_hand_19 (fun hb5 => ?_)
      refine x_iconst (pc := 20) (a := 3) dX10_hand_20 (by decide) ?_
      refine SP.jn 34 (fun (s7 : Unit) => [some (.ref 170), some (.int p1), some (.int p2), some (.int p3), none]) (fun (s7 : Unit) => []) (fun (s7 : Unit) => xwd M) (fun kk6 hkk6 => ?_) (fun s7 => ?_)
      · try dsimp only
        refine x_icmp_eq (pc := 21) (tgt := 34) dX10_hand_21 (by decide) (fun h8 => ?_) (fun h8 => ?_)
        · refine SP.mask (pc := 34) [true, true, true, true, false] (L' := [some (.ref 170), some (.int p1), some (.int p2), some (.int p3), none]) rfl ?_
          have hz := hkk6 ()
          try dsimp only at hz
          exact hz
        · refine x_aload_n (pc := 24) dX10_hand_24 rfl ?_
          refine m_getR (pc := 25) (t := 171) xC10 0 fl_X10_9 rfl (by decide) rfl (by decide) rfl dX10_hand_25 ?_
          refine x_iload_n (pc := 28) dX10_hand_28 rfl ?_
          refine m_iald (pc := 29) rfl rfl dX10_hand_29 (fun hb9 => ?_)
          refine x_iconst (pc := 30) (a := 5) dX10_hand_30 (by decide) ?_
          refine x_icmp_ne (pc := 31) (tgt := 38) dX10_hand_31 (by decide) (fun h10 => ?_) (fun h10 => ?_)
          · have hz := hkk2 v1
            try dsimp only at hz
            exact hz
          · refine SP.mask (pc := 34) [true, true, true, true, false] (L' := [some (.ref 170), some (.int p1), some (.int p2), some (.int p3), none]) rfl ?_
            have hz := hkk6 ()
            try dsimp only at hz
            exact hz
      · try dsimp only
        refine x_bipush (pc := 34) (a := -2) dX10_hand_34 (by decide) ?_
        refine x_istore (pc := 36) (L' := [some (.ref 170), some (.int p1), some (.int p2), some (.int p3), some (.int (-2:Int32))]) dX10_hand_36 (Nat.le_of_ble_eq_true rfl) rfl rfl ?_
        have hz := hkk2 (-2:Int32)
        try dsimp only at hz
        exact hz
  · try dsimp only
    refine x_iload (pc := 38) dX10_hand_38 rfl ?_
    refine x_if_eq (pc := 40) (tgt := 46) dX10_hand_40 (by decide) (fun h11 => ?_) (fun h11 => ?_)
    · refine x_iload_n (pc := 46) dX10_hand_46 rfl ?_
      refine x_aload_n (pc := 47) dX10_hand_47 rfl ?_
      refine m_getR (pc := 48) (t := 175) xC10 4 fl_X10_22 rfl (by decide) rfl (by decide) rfl dX10_hand_48 ?_
      refine x_iload_n (pc := 51) dX10_hand_51 rfl ?_
      refine m_iald (pc := 52) rfl rfl dX10_hand_52 (fun hb12 => ?_)
      refine x_aload_n (pc := 53) dX10_hand_53 rfl ?_
      refine m_getI (pc := 54) xC10 15 fl_X10_89 rfl (by decide) rfl (by decide) rfl dX10_hand_54 ?_
      refine x_bipush (pc := 57) (a := 55) dX10_hand_57 (by decide) ?_
      refine SP.jn 71 (fun (s14 : Int32) => [some (.ref 170), some (.int p1), some (.int p2), some (.int p3), none]) (fun (s14 : Int32) => [(.int s14), (.int (M.1 175 p1.toNatClampNeg)), (.int p2)]) (fun (s14 : Int32) => xwd M) (fun kk13 hkk13 => ?_) (fun s14 => ?_)
      · try dsimp only
        refine x_icmp_ge (pc := 59) (tgt := 69) dX10_hand_59 (by decide) (fun h15 => ?_) (fun h15 => ?_)
        · refine x_bipush (pc := 69) (a := 55) dX10_hand_69 (by decide) ?_
          refine SP.mask (pc := 71) [true, true, true, true, false] (L' := [some (.ref 170), some (.int p1), some (.int p2), some (.int p3), none]) rfl ?_
          have hz := hkk13 (55:Int32)
          try dsimp only at hz
          exact hz
        · refine x_aload_n (pc := 62) dX10_hand_62 rfl ?_
          refine m_getI (pc := 63) xC10 15 fl_X10_89 rfl (by decide) rfl (by decide) rfl dX10_hand_63 ?_
          refine x_goto (pc := 66) (tgt := 71) dX10_hand_66 (by decide) ?_
          refine SP.mask (pc := 71) [true, true, true, true, false] (L' := [some (.ref 170), some (.int p1), some (.int p2), some (.int p3), none]) rfl ?_
          have hz := hkk13 (M.1 170 15)
          try dsimp only at hz
          exact hz
      · try dsimp only
        refine cS_I (pc := 71) (As := [(.int p2), (.int (M.1 175 p1.toNatClampNeg)), (.int s14)]) (rest := []) (ct_X10_isIn p2 (M.1 175 p1.toNatClampNeg) s14 M) rfl ml_X10_85 meX10_isIn rfl ⟨prX10_isIn, (Nat.le_of_ble_eq_true rfl), (Nat.le_of_ble_eq_true rfl), rfl, rfl⟩ (Nat.le_of_ble_eq_true rfl) dX10_hand_71 (fun v16 => ?_)
        refine x_if_eq (pc := 74) (tgt := 97) dX10_hand_74 (by decide) (fun h17 => ?_) (fun h17 => ?_)
        · refine x_iconst (pc := 97) (a := -1) dX10_hand_97 (by decide) ?_
          exact x_iret (pc := 98) rfl rfl dX10_hand_98 (Nat.zero_le _) (Nat.zero_le _)
        · refine x_iload_n (pc := 77) dX10_hand_77 rfl ?_
          refine x_iconst (pc := 78) (a := -1) dX10_hand_78 (by decide) ?_
          refine x_sipush (pc := 79) (a := 5000) dX10_hand_79 (by decide) ?_
          refine cS_I (pc := 82) (As := [(.int p3), (.int (-1:Int32)), (.int (5000:Int32))]) (rest := []) (ct_X10_isIn p3 (-1:Int32) (5000:Int32) M) rfl ml_X10_85 meX10_isIn rfl ⟨prX10_isIn, (Nat.le_of_ble_eq_true rfl), (Nat.le_of_ble_eq_true rfl), rfl, rfl⟩ (Nat.le_of_ble_eq_true rfl) dX10_hand_82 (fun v18 => ?_)
          refine x_if_eq (pc := 85) (tgt := 97) dX10_hand_85 (by decide) (fun h19 => ?_) (fun h19 => ?_)
          · refine x_iconst (pc := 97) (a := -1) dX10_hand_97 (by decide) ?_
            exact x_iret (pc := 98) rfl rfl dX10_hand_98 (Nat.zero_le _) (Nat.zero_le _)
          · refine x_aload_n (pc := 88) dX10_hand_88 rfl ?_
            refine m_getI (pc := 89) xC10 14 fl_X10_100 rfl (by decide) rfl (by decide) rfl dX10_hand_89 ?_
            refine x_bipush (pc := 92) (a := 100) dX10_hand_92 (by decide) ?_
            refine x_icmp_ne (pc := 94) (tgt := 99) dX10_hand_94 (by decide) (fun h20 => ?_) (fun h20 => ?_)
            · refine x_aload_n (pc := 99) dX10_hand_99 rfl ?_
              refine m_getR (pc := 100) (t := 181) xC10 10 fl_X10_40 rfl (by decide) rfl (by decide) rfl dX10_hand_100 ?_
              refine x_aload_n (pc := 103) dX10_hand_103 rfl ?_
              refine m_getI (pc := 104) xC10 14 fl_X10_100 rfl (by decide) rfl (by decide) rfl dX10_hand_104 ?_
              refine x_iload_n (pc := 107) dX10_hand_107 rfl ?_
              refine m_iast (pc := 108) rfl rfl dX10_hand_108 (fun hb21 => ?_)
              refine SP.bdm (fun m22 e23 => ?_)
              refine x_aload_n (pc := 109) dX10_hand_109 rfl ?_
              refine m_getR (pc := 110) (t := 182) xC10 11 fl_X10_43 rfl (by decide) rfl (by decide) rfl dX10_hand_110 ?_
              refine x_aload_n (pc := 113) dX10_hand_113 rfl ?_
              refine m_getI (pc := 114) xC10 14 fl_X10_100 rfl (by decide) rfl (by decide) rfl dX10_hand_114 ?_
              refine x_iload_n (pc := 117) dX10_hand_117 rfl ?_
              refine m_iast (pc := 118) rfl rfl dX10_hand_118 (fun hb24 => ?_)
              refine SP.bdm (fun m25 e26 => ?_)
              refine x_aload_n (pc := 119) dX10_hand_119 rfl ?_
              refine m_getR (pc := 120) (t := 183) xC10 12 fl_X10_46 rfl (by decide) rfl (by decide) rfl dX10_hand_120 ?_
              refine x_aload_n (pc := 123) dX10_hand_123 rfl ?_
              refine m_getI (pc := 124) xC10 14 fl_X10_100 rfl (by decide) rfl (by decide) rfl dX10_hand_124 ?_
              refine x_iload_n (pc := 127) dX10_hand_127 rfl ?_
              refine m_iast (pc := 128) rfl rfl dX10_hand_128 (fun hb27 => ?_)
              refine SP.bdm (fun m28 e29 => ?_)
              refine x_aload_n (pc := 129) dX10_hand_129 rfl ?_
              refine m_getR (pc := 130) (t := 184) xC10 13 fl_X10_49 rfl (by decide) rfl (by decide) rfl dX10_hand_130 ?_
              refine x_aload_n (pc := 133) dX10_hand_133 rfl ?_
              refine m_getI (pc := 134) xC10 14 fl_X10_100 rfl (by decide) rfl (by decide) rfl dX10_hand_134 ?_
              refine x_aload_n (pc := 137) dX10_hand_137 rfl ?_
              refine m_getI (pc := 138) xC10 15 fl_X10_89 rfl (by decide) rfl (by decide) rfl dX10_hand_138 ?_
              refine m_iast (pc := 141) rfl rfl dX10_hand_141 (fun hb30 => ?_)
              refine SP.bdm (fun m31 e32 => ?_)
              refine x_aload_n (pc := 142) dX10_hand_142 rfl ?_
              refine x_dup (pc := 143) dX10_hand_143 rfl ?_
              refine m_getI (pc := 144) xC10 14 fl_X10_100 rfl (by decide) rfl (by decide) rfl dX10_hand_144 ?_
              refine x_iconst (pc := 147) (a := 1) dX10_hand_147 (by decide) ?_
              refine x_iadd (pc := 148) dX10_hand_148 ?_
              refine m_putI (pc := 149) xC10 14 fl_X10_100 rfl (by decide) rfl (by decide) rfl rfl rfl dX10_hand_149 ?_
              refine SP.bdm (fun m33 e34 => ?_)
              refine x_aload_n (pc := 152) dX10_hand_152 rfl ?_
              refine m_getI (pc := 153) xC10 14 fl_X10_100 rfl (by decide) rfl (by decide) rfl dX10_hand_153 ?_
              exact x_iret (pc := 156) rfl rfl dX10_hand_156 (Nat.zero_le _) (Nat.zero_le _)
            · refine x_iconst (pc := 97) (a := -1) dX10_hand_97 (by decide) ?_
              exact x_iret (pc := 98) rfl rfl dX10_hand_98 (Nat.zero_le _) (Nat.zero_le _)
    · refine x_iload (pc := 43) dX10_hand_43 rfl ?_
      exact x_iret (pc := 45) rfl rfl dX10_hand_45 (Nat.zero_le _) (Nat.zero_le _)

set_option maxRecDepth 100000 in
set_option maxHeartbeats 4000000 in
theorem ct_X10_close  (M : xM)  : Ct iX10_close rIM [(.ref 170)] (xwd M) (fX10_close M) := by
  refine Ct.of' (L := [some (.ref 170)]) 0 rfl (by decide +kernel) (Nat.le_of_ble_eq_true rfl) rfl ?_
  unfold fX10_close
  refine x_aload_n (pc := 0) dX10_close_0 rfl ?_
  refine m_getI (pc := 1) xC10 15 fl_X10_89 rfl (by decide) rfl (by decide) rfl dX10_close_1 ?_
  refine x_bipush (pc := 4) (a := 56) dX10_close_4 (by decide) ?_
  refine x_icmp_ne (pc := 6) (tgt := 11) dX10_close_6 (by decide) (fun h1 => ?_) (fun h1 => ?_)
  · refine x_aload_n (pc := 11) dX10_close_11 rfl ?_
    refine x_dup (pc := 12) dX10_close_12 rfl ?_
    refine m_getI (pc := 13) xC10 15 fl_X10_89 rfl (by decide) rfl (by decide) rfl dX10_close_13 ?_
    refine x_iconst (pc := 16) (a := 1) dX10_close_16 (by decide) ?_
    refine x_iadd (pc := 17) dX10_close_17 ?_
    refine m_putI (pc := 18) xC10 15 fl_X10_89 rfl (by decide) rfl (by decide) rfl rfl rfl dX10_close_18 ?_
    refine SP.bdm (fun m2 e3 => ?_)
    refine x_aload_n (pc := 21) dX10_close_21 rfl ?_
    refine m_getI (pc := 22) xC10 15 fl_X10_89 rfl (by decide) rfl (by decide) rfl dX10_close_22 ?_
    exact x_iret (pc := 25) rfl rfl dX10_close_25 (Nat.zero_le _) (Nat.zero_le _)
  · refine x_iconst (pc := 9) (a := -1) dX10_close_9 (by decide) ?_
    exact x_iret (pc := 10) rfl rfl dX10_close_10 (Nat.zero_le _) (Nat.zero_le _)

set_option maxRecDepth 100000 in
set_option maxHeartbeats 4000000 in
theorem ct_X10_today  (M : xM)  : Ct iX10_today (rI M) [(.ref 170)] (xwd M) (fX10_today M) := by
  refine Ct.of' (L := [some (.ref 170)]) 0 rfl (by decide +kernel) (Nat.le_of_ble_eq_true rfl) rfl ?_
  unfold fX10_today
  refine x_aload_n (pc := 0) dX10_today_0 rfl ?_
  refine m_getI (pc := 1) xC10 15 fl_X10_89 rfl (by decide) rfl (by decide) rfl dX10_today_1 ?_
  exact x_iret (pc := 4) rfl rfl dX10_today_4 (Nat.zero_le _) (Nat.zero_le _)

set_option maxRecDepth 100000 in
set_option maxHeartbeats 4000000 in
theorem ct_X10_set (p1 : Int32) (p2 : Int32) (M : xM)  : Ct iX10_set rIM [(.ref 170), (.int p1), (.int p2)] (xwd M) (fX10_set p1 p2 M) := by
  refine Ct.of' (L := [some (.ref 170), some (.int p1), some (.int p2)]) 0 rfl (by decide +kernel) (Nat.le_of_ble_eq_true rfl) rfl ?_
  unfold fX10_set
  refine x_iload_n (pc := 0) dX10_set_0 rfl ?_
  refine SP.jn 23 (fun (s2 : Unit) => [some (.ref 170), some (.int p1), some (.int p2)]) (fun (s2 : Unit) => []) (fun (s2 : Unit) => xwd M) (fun kk1 hkk1 => ?_) (fun s2 => ?_)
  · try dsimp only
    refine x_if_ne (pc := 1) (tgt := 23) dX10_set_1 (by decide) (fun h3 => ?_) (fun h3 => ?_)
    · have hz := hkk1 ()
      try dsimp only at hz
      exact hz
    · refine x_iload_n (pc := 4) dX10_set_4 rfl ?_
      refine x_iconst (pc := 5) (a := 0) dX10_set_5 (by decide) ?_
      refine x_sipush (pc := 6) (a := 5000) dX10_set_6 (by decide) ?_
      refine cS_I (pc := 9) (As := [(.int p2), (.int (0:Int32)), (.int (5000:Int32))]) (rest := []) (ct_X10_isIn p2 (0:Int32) (5000:Int32) M) rfl ml_X10_85 meX10_isIn rfl ⟨prX10_isIn, (Nat.le_of_ble_eq_true rfl), (Nat.le_of_ble_eq_true rfl), rfl, rfl⟩ (Nat.le_of_ble_eq_true rfl) dX10_set_9 (fun v4 => ?_)
      refine x_if_eq (pc := 12) (tgt := 23) dX10_set_12 (by decide) (fun h5 => ?_) (fun h5 => ?_)
      · have hz := hkk1 ()
        try dsimp only at hz
        exact hz
      · refine x_aload_n (pc := 15) dX10_set_15 rfl ?_
        refine x_iload_n (pc := 16) dX10_set_16 rfl ?_
        refine m_putI (pc := 17) xC10 16 fl_X10_52 rfl (by decide) rfl (by decide) rfl rfl rfl dX10_set_17 ?_
        refine SP.bdm (fun m6 e7 => ?_)
        refine x_goto (pc := 20) (tgt := 129) dX10_set_20 (by decide) ?_
        refine x_iconst (pc := 129) (a := 1) dX10_set_129 (by decide) ?_
        exact x_zret (pc := 130) rfl (by decide) rfl dX10_set_130 (Nat.zero_le _) (Nat.zero_le _)
  · try dsimp only
    refine x_iload_n (pc := 23) dX10_set_23 rfl ?_
    refine x_iconst (pc := 24) (a := 1) dX10_set_24 (by decide) ?_
    refine SP.jn 47 (fun (s9 : Unit) => [some (.ref 170), some (.int p1), some (.int p2)]) (fun (s9 : Unit) => []) (fun (s9 : Unit) => xwd M) (fun kk8 hkk8 => ?_) (fun s9 => ?_)
    · try dsimp only
      refine x_icmp_ne (pc := 25) (tgt := 47) dX10_set_25 (by decide) (fun h10 => ?_) (fun h10 => ?_)
      · have hz := hkk8 ()
        try dsimp only at hz
        exact hz
      · refine x_iload_n (pc := 28) dX10_set_28 rfl ?_
        refine x_iconst (pc := 29) (a := 0) dX10_set_29 (by decide) ?_
        refine x_sipush (pc := 30) (a := 200) dX10_set_30 (by decide) ?_
        refine cS_I (pc := 33) (As := [(.int p2), (.int (0:Int32)), (.int (200:Int32))]) (rest := []) (ct_X10_isIn p2 (0:Int32) (200:Int32) M) rfl ml_X10_85 meX10_isIn rfl ⟨prX10_isIn, (Nat.le_of_ble_eq_true rfl), (Nat.le_of_ble_eq_true rfl), rfl, rfl⟩ (Nat.le_of_ble_eq_true rfl) dX10_set_33 (fun v11 => ?_)
        refine x_if_eq (pc := 36) (tgt := 47) dX10_set_36 (by decide) (fun h12 => ?_) (fun h12 => ?_)
        · have hz := hkk8 ()
          try dsimp only at hz
          exact hz
        · refine x_aload_n (pc := 39) dX10_set_39 rfl ?_
          refine x_iload_n (pc := 40) dX10_set_40 rfl ?_
          refine m_putI (pc := 41) xC10 17 fl_X10_56 rfl (by decide) rfl (by decide) rfl rfl rfl dX10_set_41 ?_
          refine SP.bdm (fun m13 e14 => ?_)
          refine x_goto (pc := 44) (tgt := 129) dX10_set_44 (by decide) ?_
          refine x_iconst (pc := 129) (a := 1) dX10_set_129 (by decide) ?_
          exact x_zret (pc := 130) rfl (by decide) rfl dX10_set_130 (Nat.zero_le _) (Nat.zero_le _)
    · try dsimp only
      refine x_iload_n (pc := 47) dX10_set_47 rfl ?_
      refine x_iconst (pc := 48) (a := 2) dX10_set_48 (by decide) ?_
      refine SP.jn 71 (fun (s16 : Unit) => [some (.ref 170), some (.int p1), some (.int p2)]) (fun (s16 : Unit) => []) (fun (s16 : Unit) => xwd M) (fun kk15 hkk15 => ?_) (fun s16 => ?_)
      · try dsimp only
        refine x_icmp_ne (pc := 49) (tgt := 71) dX10_set_49 (by decide) (fun h17 => ?_) (fun h17 => ?_)
        · have hz := hkk15 ()
          try dsimp only at hz
          exact hz
        · refine x_iload_n (pc := 52) dX10_set_52 rfl ?_
          refine x_iconst (pc := 53) (a := 1) dX10_set_53 (by decide) ?_
          refine x_sipush (pc := 54) (a := 5000) dX10_set_54 (by decide) ?_
          refine cS_I (pc := 57) (As := [(.int p2), (.int (1:Int32)), (.int (5000:Int32))]) (rest := []) (ct_X10_isIn p2 (1:Int32) (5000:Int32) M) rfl ml_X10_85 meX10_isIn rfl ⟨prX10_isIn, (Nat.le_of_ble_eq_true rfl), (Nat.le_of_ble_eq_true rfl), rfl, rfl⟩ (Nat.le_of_ble_eq_true rfl) dX10_set_57 (fun v18 => ?_)
          refine x_if_eq (pc := 60) (tgt := 71) dX10_set_60 (by decide) (fun h19 => ?_) (fun h19 => ?_)
          · have hz := hkk15 ()
            try dsimp only at hz
            exact hz
          · refine x_aload_n (pc := 63) dX10_set_63 rfl ?_
            refine x_iload_n (pc := 64) dX10_set_64 rfl ?_
            refine m_putI (pc := 65) xC10 18 fl_X10_59 rfl (by decide) rfl (by decide) rfl rfl rfl dX10_set_65 ?_
            refine SP.bdm (fun m20 e21 => ?_)
            refine x_goto (pc := 68) (tgt := 129) dX10_set_68 (by decide) ?_
            refine x_iconst (pc := 129) (a := 1) dX10_set_129 (by decide) ?_
            exact x_zret (pc := 130) rfl (by decide) rfl dX10_set_130 (Nat.zero_le _) (Nat.zero_le _)
      · try dsimp only
        refine x_iload_n (pc := 71) dX10_set_71 rfl ?_
        refine x_iconst (pc := 72) (a := 3) dX10_set_72 (by decide) ?_
        refine SP.jn 94 (fun (s23 : Unit) => [some (.ref 170), some (.int p1), some (.int p2)]) (fun (s23 : Unit) => []) (fun (s23 : Unit) => xwd M) (fun kk22 hkk22 => ?_) (fun s23 => ?_)
        · try dsimp only
          refine x_icmp_ne (pc := 73) (tgt := 94) dX10_set_73 (by decide) (fun h24 => ?_) (fun h24 => ?_)
          · have hz := hkk22 ()
            try dsimp only at hz
            exact hz
          · refine x_iload_n (pc := 76) dX10_set_76 rfl ?_
            refine x_iconst (pc := 77) (a := 0) dX10_set_77 (by decide) ?_
            refine x_bipush (pc := 78) (a := 100) dX10_set_78 (by decide) ?_
            refine cS_I (pc := 80) (As := [(.int p2), (.int (0:Int32)), (.int (100:Int32))]) (rest := []) (ct_X10_isIn p2 (0:Int32) (100:Int32) M) rfl ml_X10_85 meX10_isIn rfl ⟨prX10_isIn, (Nat.le_of_ble_eq_true rfl), (Nat.le_of_ble_eq_true rfl), rfl, rfl⟩ (Nat.le_of_ble_eq_true rfl) dX10_set_80 (fun v25 => ?_)
            refine x_if_eq (pc := 83) (tgt := 94) dX10_set_83 (by decide) (fun h26 => ?_) (fun h26 => ?_)
            · have hz := hkk22 ()
              try dsimp only at hz
              exact hz
            · refine x_aload_n (pc := 86) dX10_set_86 rfl ?_
              refine x_iload_n (pc := 87) dX10_set_87 rfl ?_
              refine m_putI (pc := 88) xC10 19 fl_X10_62 rfl (by decide) rfl (by decide) rfl rfl rfl dX10_set_88 ?_
              refine SP.bdm (fun m27 e28 => ?_)
              refine x_goto (pc := 91) (tgt := 129) dX10_set_91 (by decide) ?_
              refine x_iconst (pc := 129) (a := 1) dX10_set_129 (by decide) ?_
              exact x_zret (pc := 130) rfl (by decide) rfl dX10_set_130 (Nat.zero_le _) (Nat.zero_le _)
        · try dsimp only
          refine x_iload_n (pc := 94) dX10_set_94 rfl ?_
          refine x_iconst (pc := 95) (a := 4) dX10_set_95 (by decide) ?_
          refine x_bipush (pc := 96) (a := 11) dX10_set_96 (by decide) ?_
          refine cS_I (pc := 98) (As := [(.int p1), (.int (4:Int32)), (.int (11:Int32))]) (rest := []) (ct_X10_isIn p1 (4:Int32) (11:Int32) M) rfl ml_X10_85 meX10_isIn rfl ⟨prX10_isIn, (Nat.le_of_ble_eq_true rfl), (Nat.le_of_ble_eq_true rfl), rfl, rfl⟩ (Nat.le_of_ble_eq_true rfl) dX10_set_98 (fun v29 => ?_)
          refine x_if_eq (pc := 101) (tgt := 127) dX10_set_101 (by decide) (fun h30 => ?_) (fun h30 => ?_)
          · refine x_iconst (pc := 127) (a := 0) dX10_set_127 (by decide) ?_
            exact x_zret (pc := 128) rfl (by decide) rfl dX10_set_128 (Nat.zero_le _) (Nat.zero_le _)
          · refine x_iload_n (pc := 104) dX10_set_104 rfl ?_
            refine x_iconst (pc := 105) (a := 0) dX10_set_105 (by decide) ?_
            refine x_sipush (pc := 106) (a := 1000) dX10_set_106 (by decide) ?_
            refine cS_I (pc := 109) (As := [(.int p2), (.int (0:Int32)), (.int (1000:Int32))]) (rest := []) (ct_X10_isIn p2 (0:Int32) (1000:Int32) M) rfl ml_X10_85 meX10_isIn rfl ⟨prX10_isIn, (Nat.le_of_ble_eq_true rfl), (Nat.le_of_ble_eq_true rfl), rfl, rfl⟩ (Nat.le_of_ble_eq_true rfl) dX10_set_109 (fun v31 => ?_)
            refine x_if_eq (pc := 112) (tgt := 127) dX10_set_112 (by decide) (fun h32 => ?_) (fun h32 => ?_)
            · refine x_iconst (pc := 127) (a := 0) dX10_set_127 (by decide) ?_
              exact x_zret (pc := 128) rfl (by decide) rfl dX10_set_128 (Nat.zero_le _) (Nat.zero_le _)
            · refine x_aload_n (pc := 115) dX10_set_115 rfl ?_
              refine m_getR (pc := 116) (t := 185) xC10 20 fl_X10_65 rfl (by decide) rfl (by decide) rfl dX10_set_116 ?_
              refine x_iload_n (pc := 119) dX10_set_119 rfl ?_
              refine x_iconst (pc := 120) (a := 4) dX10_set_120 (by decide) ?_
              refine x_isub (pc := 121) dX10_set_121 ?_
              refine x_iload_n (pc := 122) dX10_set_122 rfl ?_
              refine m_iast (pc := 123) rfl rfl dX10_set_123 (fun hb33 => ?_)
              refine SP.bdm (fun m34 e35 => ?_)
              refine x_goto (pc := 124) (tgt := 129) dX10_set_124 (by decide) ?_
              refine x_iconst (pc := 129) (a := 1) dX10_set_129 (by decide) ?_
              exact x_zret (pc := 130) rfl (by decide) rfl dX10_set_130 (Nat.zero_le _) (Nat.zero_le _)

set_option maxRecDepth 100000 in
set_option maxHeartbeats 4000000 in
theorem ct_X10_byHand (p1 : Int32) (p2 : Int32) (p3 : Int32) (M : xM)  : Ct iX10_byHand (rI M) [(.ref 170), (.int p1), (.int p2), (.int p3)] (xwd M) (fX10_byHand p1 p2 p3 M) := by
  refine Ct.of' (L := [some (.ref 170), some (.int p1), some (.int p2), some (.int p3), none, none]) 2 rfl (by decide +kernel) (Nat.le_of_ble_eq_true rfl) rfl ?_
  unfold fX10_byHand
  refine x_iconst (pc := 0) (a := -1) dX10_byHand_0 (by decide) ?_
  refine x_istore (pc := 1) (L' := [some (.ref 170), some (.int p1), some (.int p2), some (.int p3), some (.int (-1:Int32)), none]) dX10_byHand_1 (Nat.le_of_ble_eq_true rfl) rfl rfl ?_
  refine x_iconst (pc := 3) (a := 0) dX10_byHand_3 (by decide) ?_
  refine x_istore (pc := 4) (L' := [some (.ref 170), some (.int p1), some (.int p2), some (.int p3), some (.int (-1:Int32)), some (.int (0:Int32))]) dX10_byHand_4 (Nat.le_of_ble_eq_true rfl) rfl rfl ?_
  refine SP.mask (pc := 6) [true, true, true, true, true, true] (L' := [some (.ref 170), some (.int p1), some (.int p2), some (.int p3), some (.int (-1:Int32)), some (.int (0:Int32))]) rfl ?_
  refine SP.lp (pc := 6) (fun (s1 : (Int32 × Int32)) => [some (.ref 170), some (.int p1), some (.int p2), some (.int p3), some (.int s1.1), some (.int s1.2)]) (fun (s1 : (Int32 × Int32)) => xwd M) (fun s1 kk2 hkk2 => ?_) xfu ((-1:Int32), (0:Int32))
  try dsimp only
  refine x_iload (pc := 6) dX10_byHand_6 rfl ?_
  refine x_aload_n (pc := 8) dX10_byHand_8 rfl ?_
  refine m_getI (pc := 9) xC10 14 fl_X10_100 rfl (by decide) rfl (by decide) rfl dX10_byHand_9 ?_
  refine x_icmp_ge (pc := 12) (tgt := 58) dX10_byHand_12 (by decide) (fun h3 => ?_) (fun h3 => ?_)
  · refine x_iload (pc := 58) dX10_byHand_58 rfl ?_
    exact x_iret (pc := 60) rfl rfl dX10_byHand_60 (Nat.zero_le _) (Nat.zero_le _)
  · refine x_aload_n (pc := 15) dX10_byHand_15 rfl ?_
    refine m_getR (pc := 16) (t := 181) xC10 10 fl_X10_40 rfl (by decide) rfl (by decide) rfl dX10_byHand_16 ?_
    refine x_iload (pc := 19) dX10_byHand_19 rfl ?_
    refine m_iald (pc := 21) rfl rfl dX10_byHand_21 (fun hb4 => ?_)
    refine x_iload_n (pc := 22) dX10_byHand_22 rfl ?_
    refine x_icmp_ne (pc := 23) (tgt := 52) dX10_byHand_23 (by decide) (fun h5 => ?_) (fun h5 => ?_)
    · refine x_iinc (pc := 52) (b := (s1.2 + 1)) (L' := [some (.ref 170), some (.int p1), some (.int p2), some (.int p3), some (.int s1.1), some (.int (s1.2 + 1))]) dX10_byHand_52 rfl rfl (Nat.le_of_ble_eq_true rfl) rfl rfl ?_
      refine x_goto (pc := 55) (tgt := 6) dX10_byHand_55 (by decide) ?_
      have hz := hkk2 (s1.1, (s1.2 + 1))
      try dsimp only at hz
      exact hz
    · refine x_aload_n (pc := 26) dX10_byHand_26 rfl ?_
      refine m_getR (pc := 27) (t := 182) xC10 11 fl_X10_43 rfl (by decide) rfl (by decide) rfl dX10_byHand_27 ?_
      refine x_iload (pc := 30) dX10_byHand_30 rfl ?_
      refine m_iald (pc := 32) rfl rfl dX10_byHand_32 (fun hb6 => ?_)
      refine x_iload_n (pc := 33) dX10_byHand_33 rfl ?_
      refine x_icmp_ne (pc := 34) (tgt := 52) dX10_byHand_34 (by decide) (fun h7 => ?_) (fun h7 => ?_)
      · refine x_iinc (pc := 52) (b := (s1.2 + 1)) (L' := [some (.ref 170), some (.int p1), some (.int p2), some (.int p3), some (.int s1.1), some (.int (s1.2 + 1))]) dX10_byHand_52 rfl rfl (Nat.le_of_ble_eq_true rfl) rfl rfl ?_
        refine x_goto (pc := 55) (tgt := 6) dX10_byHand_55 (by decide) ?_
        have hz := hkk2 (s1.1, (s1.2 + 1))
        try dsimp only at hz
        exact hz
      · refine x_aload_n (pc := 37) dX10_byHand_37 rfl ?_
        refine m_getR (pc := 38) (t := 184) xC10 13 fl_X10_49 rfl (by decide) rfl (by decide) rfl dX10_byHand_38 ?_
        refine x_iload (pc := 41) dX10_byHand_41 rfl ?_
        refine m_iald (pc := 43) rfl rfl dX10_byHand_43 (fun hb8 => ?_)
        refine x_iload_n (pc := 44) dX10_byHand_44 rfl ?_
        refine x_icmp_gt (pc := 45) (tgt := 52) dX10_byHand_45 (by decide) (fun h9 => ?_) (fun h9 => ?_)
        · refine x_iinc (pc := 52) (b := (s1.2 + 1)) (L' := [some (.ref 170), some (.int p1), some (.int p2), some (.int p3), some (.int s1.1), some (.int (s1.2 + 1))]) dX10_byHand_52 rfl rfl (Nat.le_of_ble_eq_true rfl) rfl rfl ?_
          refine x_goto (pc := 55) (tgt := 6) dX10_byHand_55 (by decide) ?_
          have hz := hkk2 (s1.1, (s1.2 + 1))
          try dsimp only at hz
          exact hz
        · refine x_iload (pc := 48) dX10_byHand_48 rfl ?_
          refine x_istore (pc := 50) (L' := [some (.ref 170), some (.int p1), some (.int p2), some (.int p3), some (.int s1.2), some (.int s1.2)]) dX10_byHand_50 (Nat.le_of_ble_eq_true rfl) rfl rfl ?_
          refine x_iinc (pc := 52) (b := (s1.2 + 1)) (L' := [some (.ref 170), some (.int p1), some (.int p2), some (.int p3), some (.int s1.2), some (.int (s1.2 + 1))]) dX10_byHand_52 rfl rfl (Nat.le_of_ble_eq_true rfl) rfl rfl ?_
          refine x_goto (pc := 55) (tgt := 6) dX10_byHand_55 (by decide) ?_
          have hz := hkk2 (s1.2, (s1.2 + 1))
          try dsimp only at hz
          exact hz

set_option maxRecDepth 100000 in
set_option maxHeartbeats 4000000 in
theorem ct_X10_tipped (p1 : Int32) (p2 : Int32) (M : xM)  : Ct iX10_tipped (rI M) [(.ref 170), (.int p1), (.int p2)] (xwd M) (fX10_tipped p1 p2 M) := by
  refine Ct.of' (L := [some (.ref 170), some (.int p1), some (.int p2), none]) 1 rfl (by decide +kernel) (Nat.le_of_ble_eq_true rfl) rfl ?_
  unfold fX10_tipped
  refine x_aload_n (pc := 0) dX10_tipped_0 rfl ?_
  refine m_getR (pc := 1) (t := 177) xC10 6 fl_X10_28 rfl (by decide) rfl (by decide) rfl dX10_tipped_1 ?_
  refine x_iload_n (pc := 4) dX10_tipped_4 rfl ?_
  refine x_iload_n (pc := 5) dX10_tipped_5 rfl ?_
  refine cS_I (pc := 6) (As := [(.int p1), (.int p2)]) (rest := [(.ref 177)]) (ct_X10_at p1 p2 M) rfl ml_X10_92 meX10_at rfl ⟨prX10_at, (Nat.le_of_ble_eq_true rfl), (Nat.le_of_ble_eq_true rfl), rfl, rfl⟩ (Nat.le_of_ble_eq_true rfl) dX10_tipped_6 (fun v1 => ?_)
  refine m_iald (pc := 9) rfl rfl dX10_tipped_9 (fun hb2 => ?_)
  refine x_aload_n (pc := 10) dX10_tipped_10 rfl ?_
  refine m_getR (pc := 11) (t := 174) xC10 3 fl_X10_19 rfl (by decide) rfl (by decide) rfl dX10_tipped_11 ?_
  refine x_iload_n (pc := 14) dX10_tipped_14 rfl ?_
  refine m_iald (pc := 15) rfl rfl dX10_tipped_15 (fun hb3 => ?_)
  refine x_imul (pc := 16) dX10_tipped_16 ?_
  refine SP.bdi (fun x4 e5 => ?_)
  refine x_istore_n (pc := 17) (L' := [some (.ref 170), some (.int p1), some (.int p2), some (.int x4)]) dX10_tipped_17 (Nat.le_of_ble_eq_true rfl) rfl rfl ?_
  refine x_iload_n (pc := 18) dX10_tipped_18 rfl ?_
  refine SP.jn 88 (fun (s7 : Int32) => [none, none, none, some (.int s7)]) (fun (s7 : Int32) => []) (fun (s7 : Int32) => xwd M) (fun kk6 hkk6 => ?_) (fun s7 => ?_)
  · try dsimp only
    refine x_if_le (pc := 19) (tgt := 88) dX10_tipped_19 (by decide) (fun h8 => ?_) (fun h8 => ?_)
    · refine SP.mask (pc := 88) [false, false, false, true] (L' := [none, none, none, some (.int x4)]) rfl ?_
      have hz := hkk6 x4
      try dsimp only at hz
      exact hz
    · refine x_aload_n (pc := 22) dX10_tipped_22 rfl ?_
      refine m_getR (pc := 23) (t := 178) xC10 7 fl_X10_31 rfl (by decide) rfl (by decide) rfl dX10_tipped_23 ?_
      refine x_iload_n (pc := 26) dX10_tipped_26 rfl ?_
      refine x_iload_n (pc := 27) dX10_tipped_27 rfl ?_
      refine cS_I (pc := 28) (As := [(.int p1), (.int p2)]) (rest := [(.ref 178)]) (ct_X10_at p1 p2 M) rfl ml_X10_92 meX10_at rfl ⟨prX10_at, (Nat.le_of_ble_eq_true rfl), (Nat.le_of_ble_eq_true rfl), rfl, rfl⟩ (Nat.le_of_ble_eq_true rfl) dX10_tipped_28 (fun v9 => ?_)
      refine m_iald (pc := 31) rfl rfl dX10_tipped_31 (fun hb10 => ?_)
      refine x_iconst (pc := 32) (a := -1) dX10_tipped_32 (by decide) ?_
      refine x_icmp_eq (pc := 33) (tgt := 88) dX10_tipped_33 (by decide) (fun h11 => ?_) (fun h11 => ?_)
      · refine SP.mask (pc := 88) [false, false, false, true] (L' := [none, none, none, some (.int x4)]) rfl ?_
        have hz := hkk6 x4
        try dsimp only at hz
        exact hz
      · refine x_aload_n (pc := 36) dX10_tipped_36 rfl ?_
        refine m_getR (pc := 37) (t := 178) xC10 7 fl_X10_31 rfl (by decide) rfl (by decide) rfl dX10_tipped_37 ?_
        refine x_iload_n (pc := 40) dX10_tipped_40 rfl ?_
        refine x_iload_n (pc := 41) dX10_tipped_41 rfl ?_
        refine x_iconst (pc := 42) (a := 1) dX10_tipped_42 (by decide) ?_
        refine x_isub (pc := 43) dX10_tipped_43 ?_
        refine cS_I (pc := 44) (As := [(.int p1), (.int (p2 - (1:Int32)))]) (rest := [(.ref 178)]) (ct_X10_at p1 (p2 - (1:Int32)) M) rfl ml_X10_92 meX10_at rfl ⟨prX10_at, (Nat.le_of_ble_eq_true rfl), (Nat.le_of_ble_eq_true rfl), rfl, rfl⟩ (Nat.le_of_ble_eq_true rfl) dX10_tipped_44 (fun v12 => ?_)
        refine m_iald (pc := 47) rfl rfl dX10_tipped_47 (fun hb13 => ?_)
        refine x_iconst (pc := 48) (a := -1) dX10_tipped_48 (by decide) ?_
        refine x_icmp_eq (pc := 49) (tgt := 88) dX10_tipped_49 (by decide) (fun h14 => ?_) (fun h14 => ?_)
        · refine SP.mask (pc := 88) [false, false, false, true] (L' := [none, none, none, some (.int x4)]) rfl ?_
          have hz := hkk6 x4
          try dsimp only at hz
          exact hz
        · refine x_iload_n (pc := 52) dX10_tipped_52 rfl ?_
          refine x_aload_n (pc := 53) dX10_tipped_53 rfl ?_
          refine m_getR (pc := 54) (t := 174) xC10 3 fl_X10_19 rfl (by decide) rfl (by decide) rfl dX10_tipped_54 ?_
          refine x_iload_n (pc := 57) dX10_tipped_57 rfl ?_
          refine m_iald (pc := 58) rfl rfl dX10_tipped_58 (fun hb15 => ?_)
          refine x_aload_n (pc := 59) dX10_tipped_59 rfl ?_
          refine m_getR (pc := 60) (t := 178) xC10 7 fl_X10_31 rfl (by decide) rfl (by decide) rfl dX10_tipped_60 ?_
          refine x_iload_n (pc := 63) dX10_tipped_63 rfl ?_
          refine x_iload_n (pc := 64) dX10_tipped_64 rfl ?_
          refine cS_I (pc := 65) (As := [(.int p1), (.int p2)]) (rest := [(.ref 178), (.int (M.1 174 p1.toNatClampNeg)), (.int x4)]) (ct_X10_at p1 p2 M) rfl ml_X10_92 meX10_at rfl ⟨prX10_at, (Nat.le_of_ble_eq_true rfl), (Nat.le_of_ble_eq_true rfl), rfl, rfl⟩ (Nat.le_of_ble_eq_true rfl) dX10_tipped_65 (fun v16 => ?_)
          refine m_iald (pc := 68) rfl rfl dX10_tipped_68 (fun hb17 => ?_)
          refine x_aload_n (pc := 69) dX10_tipped_69 rfl ?_
          refine m_getR (pc := 70) (t := 178) xC10 7 fl_X10_31 rfl (by decide) rfl (by decide) rfl dX10_tipped_70 ?_
          refine x_iload_n (pc := 73) dX10_tipped_73 rfl ?_
          refine x_iload_n (pc := 74) dX10_tipped_74 rfl ?_
          refine x_iconst (pc := 75) (a := 1) dX10_tipped_75 (by decide) ?_
          refine x_isub (pc := 76) dX10_tipped_76 ?_
          refine cS_I (pc := 77) (As := [(.int p1), (.int (p2 - (1:Int32)))]) (rest := [(.ref 178), (.int (M.1 178 v16.toNatClampNeg)), (.int (M.1 174 p1.toNatClampNeg)), (.int x4)]) (ct_X10_at p1 (p2 - (1:Int32)) M) rfl ml_X10_92 meX10_at rfl ⟨prX10_at, (Nat.le_of_ble_eq_true rfl), (Nat.le_of_ble_eq_true rfl), rfl, rfl⟩ (Nat.le_of_ble_eq_true rfl) dX10_tipped_77 (fun v18 => ?_)
          refine m_iald (pc := 80) rfl rfl dX10_tipped_80 (fun hb19 => ?_)
          refine x_isub (pc := 81) dX10_tipped_81 ?_
          refine x_imul (pc := 82) dX10_tipped_82 ?_
          refine x_bipush (pc := 83) (a := 8) dX10_tipped_83 (by decide) ?_
          refine x_idiv (pc := 85) dX10_tipped_85 (fun hb20 => ?_)
          refine x_iadd (pc := 86) dX10_tipped_86 ?_
          refine SP.bdi (fun x21 e22 => ?_)
          refine x_istore_n (pc := 87) (L' := [some (.ref 170), some (.int p1), some (.int p2), some (.int x21)]) dX10_tipped_87 (Nat.le_of_ble_eq_true rfl) rfl rfl ?_
          refine SP.mask (pc := 88) [false, false, false, true] (L' := [none, none, none, some (.int x21)]) rfl ?_
          have hz := hkk6 x21
          try dsimp only at hz
          exact hz
  · try dsimp only
    refine x_iload_n (pc := 88) dX10_tipped_88 rfl ?_
    refine x_if_ge (pc := 89) (tgt := 96) dX10_tipped_89 (by decide) (fun h23 => ?_) (fun h23 => ?_)
    · refine x_iload_n (pc := 96) dX10_tipped_96 rfl ?_
      exact x_iret (pc := 97) rfl rfl dX10_tipped_97 (Nat.zero_le _) (Nat.zero_le _)
    · refine x_iconst (pc := 92) (a := 0) dX10_tipped_92 (by decide) ?_
      refine x_goto (pc := 93) (tgt := 97) dX10_tipped_93 (by decide) ?_
      exact x_iret (pc := 97) rfl rfl dX10_tipped_97 (Nat.zero_le _) (Nat.zero_le _)

set_option maxRecDepth 100000 in
set_option maxHeartbeats 4000000 in
theorem ct_X10_rawAt (p1 : Int32) (p2 : Int32) (p3 : Int32) (M : xM)  : Ct iX10_rawAt (rI M) [(.ref 170), (.int p1), (.int p2), (.int p3)] (xwd M) (fX10_rawAt p1 p2 p3 M) := by
  refine Ct.of' (L := [some (.ref 170), some (.int p1), some (.int p2), some (.int p3), none, none, none]) 3 rfl (by decide +kernel) (Nat.le_of_ble_eq_true rfl) rfl ?_
  unfold fX10_rawAt
  refine x_aload_n (pc := 0) dX10_rawAt_0 rfl ?_
  refine x_iload_n (pc := 1) dX10_rawAt_1 rfl ?_
  refine cV_I (pc := 2) (As := [(.int p1)]) (rest := []) (ct_X10_isGauge p1 M) rfl xC10 rfl (by decide) ml_X10_103 meX10_isGauge rfl ⟨prX10_isGauge, (Nat.le_of_ble_eq_true rfl), (Nat.le_of_ble_eq_true rfl), rfl, rfl⟩ (Nat.le_of_ble_eq_true rfl) dX10_rawAt_2 (fun v1 => ?_)
  refine x_if_eq (pc := 5) (tgt := 46) dX10_rawAt_5 (by decide) (fun h2 => ?_) (fun h2 => ?_)
  · refine x_iconst (pc := 46) (a := -1) dX10_rawAt_46 (by decide) ?_
    exact x_iret (pc := 47) rfl rfl dX10_rawAt_47 (Nat.zero_le _) (Nat.zero_le _)
  · refine x_aload_n (pc := 8) dX10_rawAt_8 rfl ?_
    refine m_getR (pc := 9) (t := 171) xC10 0 fl_X10_9 rfl (by decide) rfl (by decide) rfl dX10_rawAt_9 ?_
    refine x_iload_n (pc := 12) dX10_rawAt_12 rfl ?_
    refine m_iald (pc := 13) rfl rfl dX10_rawAt_13 (fun hb3 => ?_)
    refine x_iconst (pc := 14) (a := 3) dX10_rawAt_14 (by decide) ?_
    refine x_icmp_eq (pc := 15) (tgt := 46) dX10_rawAt_15 (by decide) (fun h4 => ?_) (fun h4 => ?_)
    · refine x_iconst (pc := 46) (a := -1) dX10_rawAt_46 (by decide) ?_
      exact x_iret (pc := 47) rfl rfl dX10_rawAt_47 (Nat.zero_le _) (Nat.zero_le _)
    · refine x_iload_n (pc := 18) dX10_rawAt_18 rfl ?_
      refine x_aload_n (pc := 19) dX10_rawAt_19 rfl ?_
      refine m_getR (pc := 20) (t := 175) xC10 4 fl_X10_22 rfl (by decide) rfl (by decide) rfl dX10_rawAt_20 ?_
      refine x_iload_n (pc := 23) dX10_rawAt_23 rfl ?_
      refine m_iald (pc := 24) rfl rfl dX10_rawAt_24 (fun hb5 => ?_)
      refine x_bipush (pc := 25) (a := 55) dX10_rawAt_25 (by decide) ?_
      refine cS_I (pc := 27) (As := [(.int p2), (.int (M.1 175 p1.toNatClampNeg)), (.int (55:Int32))]) (rest := []) (ct_X10_isIn p2 (M.1 175 p1.toNatClampNeg) (55:Int32) M) rfl ml_X10_85 meX10_isIn rfl ⟨prX10_isIn, (Nat.le_of_ble_eq_true rfl), (Nat.le_of_ble_eq_true rfl), rfl, rfl⟩ (Nat.le_of_ble_eq_true rfl) dX10_rawAt_27 (fun v6 => ?_)
      refine x_if_eq (pc := 30) (tgt := 46) dX10_rawAt_30 (by decide) (fun h7 => ?_) (fun h7 => ?_)
      · refine x_iconst (pc := 46) (a := -1) dX10_rawAt_46 (by decide) ?_
        exact x_iret (pc := 47) rfl rfl dX10_rawAt_47 (Nat.zero_le _) (Nat.zero_le _)
      · refine x_iload_n (pc := 33) dX10_rawAt_33 rfl ?_
        refine x_iload_n (pc := 34) dX10_rawAt_34 rfl ?_
        refine x_icmp_gt (pc := 35) (tgt := 46) dX10_rawAt_35 (by decide) (fun h8 => ?_) (fun h8 => ?_)
        · refine x_iconst (pc := 46) (a := -1) dX10_rawAt_46 (by decide) ?_
          exact x_iret (pc := 47) rfl rfl dX10_rawAt_47 (Nat.zero_le _) (Nat.zero_le _)
        · refine x_iload_n (pc := 38) dX10_rawAt_38 rfl ?_
          refine x_aload_n (pc := 39) dX10_rawAt_39 rfl ?_
          refine m_getI (pc := 40) xC10 15 fl_X10_89 rfl (by decide) rfl (by decide) rfl dX10_rawAt_40 ?_
          refine x_icmp_le (pc := 43) (tgt := 48) dX10_rawAt_43 (by decide) (fun h9 => ?_) (fun h9 => ?_)
          · refine x_aload_n (pc := 48) dX10_rawAt_48 rfl ?_
            refine x_iload_n (pc := 49) dX10_rawAt_49 rfl ?_
            refine x_iload_n (pc := 50) dX10_rawAt_50 rfl ?_
            refine x_iload_n (pc := 51) dX10_rawAt_51 rfl ?_
            refine cV_I (pc := 52) (As := [(.int p1), (.int p2), (.int p3)]) (rest := []) (ct_X10_byHand p1 p2 p3 M) rfl xC10 rfl (by decide) ml_X10_107 meX10_byHand rfl ⟨prX10_byHand, (Nat.le_of_ble_eq_true rfl), (Nat.le_of_ble_eq_true rfl), rfl, rfl⟩ (Nat.le_of_ble_eq_true rfl) dX10_rawAt_52 (fun v10 => ?_)
            refine x_istore (pc := 55) (L' := [some (.ref 170), some (.int p1), some (.int p2), some (.int p3), some (.int v10), none, none]) dX10_rawAt_55 (Nat.le_of_ble_eq_true rfl) rfl rfl ?_
            refine x_iload (pc := 57) dX10_rawAt_57 rfl ?_
            refine x_iconst (pc := 59) (a := -1) dX10_rawAt_59 (by decide) ?_
            refine x_icmp_eq (pc := 60) (tgt := 71) dX10_rawAt_60 (by decide) (fun h11 => ?_) (fun h11 => ?_)
            · refine x_iload_n (pc := 71) dX10_rawAt_71 rfl ?_
              refine x_iload_n (pc := 72) dX10_rawAt_72 rfl ?_
              refine cS_I (pc := 73) (As := [(.int p1), (.int p2)]) (rest := []) (ct_X10_at p1 p2 M) rfl ml_X10_92 meX10_at rfl ⟨prX10_at, (Nat.le_of_ble_eq_true rfl), (Nat.le_of_ble_eq_true rfl), rfl, rfl⟩ (Nat.le_of_ble_eq_true rfl) dX10_rawAt_73 (fun v12 => ?_)
              refine x_istore (pc := 76) (L' := [some (.ref 170), some (.int p1), some (.int p2), some (.int p3), some (.int v10), some (.int v12), none]) dX10_rawAt_76 (Nat.le_of_ble_eq_true rfl) rfl rfl ?_
              refine x_aload_n (pc := 78) dX10_rawAt_78 rfl ?_
              refine m_getR (pc := 79) (t := 177) xC10 6 fl_X10_28 rfl (by decide) rfl (by decide) rfl dX10_rawAt_79 ?_
              refine x_iload (pc := 82) dX10_rawAt_82 rfl ?_
              refine m_iald (pc := 84) rfl rfl dX10_rawAt_84 (fun hb13 => ?_)
              refine SP.bdi (fun x14 e15 => ?_)
              refine x_istore (pc := 85) (L' := [some (.ref 170), some (.int p1), some (.int p2), some (.int p3), some (.int v10), some (.int v12), some (.int x14)]) dX10_rawAt_85 (Nat.le_of_ble_eq_true rfl) rfl rfl ?_
              refine x_aload_n (pc := 87) dX10_rawAt_87 rfl ?_
              refine m_getR (pc := 88) (t := 171) xC10 0 fl_X10_9 rfl (by decide) rfl (by decide) rfl dX10_rawAt_88 ?_
              refine x_iload_n (pc := 91) dX10_rawAt_91 rfl ?_
              refine m_iald (pc := 92) rfl rfl dX10_rawAt_92 (fun hb16 => ?_)
              refine SP.bdi (fun x17 e18 => ?_)
              refine SP.ite (fun h19 => ?_) (fun h19 => ?_)
              · refine x_tsw_in (pc := 93) (tgt := 120) (off := 27) dX10_rawAt_93 (by rw [h19]; decide) (by rw [h19]; decide) (by rw [h19]; rfl) (by decide) ?_
                refine x_iload (pc := 120) dX10_rawAt_120 rfl ?_
                exact x_iret (pc := 122) rfl rfl dX10_rawAt_122 (Nat.zero_le _) (Nat.zero_le _)
              refine SP.ite (fun h20 => ?_) (fun h20 => ?_)
              · refine x_tsw_in (pc := 93) (tgt := 123) (off := 30) dX10_rawAt_93 (by rw [h20]; decide) (by rw [h20]; decide) (by rw [h20]; rfl) (by decide) ?_
                refine x_iload (pc := 123) dX10_rawAt_123 rfl ?_
                refine x_iconst (pc := 125) (a := -1) dX10_rawAt_125 (by decide) ?_
                refine x_icmp_ne (pc := 126) (tgt := 133) dX10_rawAt_126 (by decide) (fun h21 => ?_) (fun h21 => ?_)
                · refine x_aload_n (pc := 133) dX10_rawAt_133 rfl ?_
                  refine x_iload_n (pc := 134) dX10_rawAt_134 rfl ?_
                  refine x_iload_n (pc := 135) dX10_rawAt_135 rfl ?_
                  refine cV_I (pc := 136) (As := [(.int p1), (.int p2)]) (rest := []) (ct_X10_tipped p1 p2 M) rfl xC10 rfl (by decide) ml_X10_110 meX10_tipped rfl ⟨prX10_tipped, (Nat.le_of_ble_eq_true rfl), (Nat.le_of_ble_eq_true rfl), rfl, rfl⟩ (Nat.le_of_ble_eq_true rfl) dX10_rawAt_136 (fun v22 => ?_)
                  exact x_iret (pc := 139) rfl rfl dX10_rawAt_139 (Nat.zero_le _) (Nat.zero_le _)
                · refine x_iconst (pc := 129) (a := -1) dX10_rawAt_129 (by decide) ?_
                  refine x_goto (pc := 130) (tgt := 139) dX10_rawAt_130 (by decide) ?_
                  exact x_iret (pc := 139) rfl rfl dX10_rawAt_139 (Nat.zero_le _) (Nat.zero_le _)
              refine SP.ite (fun h23 => ?_) (fun h23 => ?_)
              · refine x_tsw_in (pc := 93) (tgt := 140) (off := 47) dX10_rawAt_93 (by rw [h23]; decide) (by rw [h23]; decide) (by rw [h23]; rfl) (by decide) ?_
                refine x_iload (pc := 140) dX10_rawAt_140 rfl ?_
                refine x_iconst (pc := 142) (a := -1) dX10_rawAt_142 (by decide) ?_
                refine SP.jn 161 (fun (s25 : Unit) => [some (.ref 170), none, none, none, none, some (.int v12), none]) (fun (s25 : Unit) => []) (fun (s25 : Unit) => xwd M) (fun kk24 hkk24 => ?_) (fun s25 => ?_)
                · try dsimp only
                  refine x_icmp_ne (pc := 143) (tgt := 161) dX10_rawAt_143 (by decide) (fun h26 => ?_) (fun h26 => ?_)
                  · refine SP.mask (pc := 161) [true, false, false, false, false, true, false] (L' := [some (.ref 170), none, none, none, none, some (.int v12), none]) rfl ?_
                    have hz := hkk24 ()
                    try dsimp only at hz
                    exact hz
                  · refine x_aload_n (pc := 146) dX10_rawAt_146 rfl ?_
                    refine m_getR (pc := 147) (t := 179) xC10 8 fl_X10_34 rfl (by decide) rfl (by decide) rfl dX10_rawAt_147 ?_
                    refine x_iload (pc := 150) dX10_rawAt_150 rfl ?_
                    refine m_iald (pc := 152) rfl rfl dX10_rawAt_152 (fun hb27 => ?_)
                    refine x_iconst (pc := 153) (a := -1) dX10_rawAt_153 (by decide) ?_
                    refine x_icmp_ne (pc := 154) (tgt := 161) dX10_rawAt_154 (by decide) (fun h28 => ?_) (fun h28 => ?_)
                    · refine SP.mask (pc := 161) [true, false, false, false, false, true, false] (L' := [some (.ref 170), none, none, none, none, some (.int v12), none]) rfl ?_
                      have hz := hkk24 ()
                      try dsimp only at hz
                      exact hz
                    · refine x_iconst (pc := 157) (a := -1) dX10_rawAt_157 (by decide) ?_
                      refine x_goto (pc := 158) (tgt := 183) dX10_rawAt_158 (by decide) ?_
                      exact x_iret (pc := 183) rfl rfl dX10_rawAt_183 (Nat.zero_le _) (Nat.zero_le _)
                · try dsimp only
                  refine x_aload_n (pc := 161) dX10_rawAt_161 rfl ?_
                  refine m_getR (pc := 162) (t := 179) xC10 8 fl_X10_34 rfl (by decide) rfl (by decide) rfl dX10_rawAt_162 ?_
                  refine x_iload (pc := 165) dX10_rawAt_165 rfl ?_
                  refine m_iald (pc := 167) rfl rfl dX10_rawAt_167 (fun hb29 => ?_)
                  refine x_iconst (pc := 168) (a := -1) dX10_rawAt_168 (by decide) ?_
                  refine x_icmp_ne (pc := 169) (tgt := 176) dX10_rawAt_169 (by decide) (fun h30 => ?_) (fun h30 => ?_)
                  · refine x_aload_n (pc := 176) dX10_rawAt_176 rfl ?_
                    refine m_getR (pc := 177) (t := 179) xC10 8 fl_X10_34 rfl (by decide) rfl (by decide) rfl dX10_rawAt_177 ?_
                    refine x_iload (pc := 180) dX10_rawAt_180 rfl ?_
                    refine m_iald (pc := 182) rfl rfl dX10_rawAt_182 (fun hb31 => ?_)
                    exact x_iret (pc := 183) rfl rfl dX10_rawAt_183 (Nat.zero_le _) (Nat.zero_le _)
                  · refine x_iconst (pc := 172) (a := 0) dX10_rawAt_172 (by decide) ?_
                    refine x_goto (pc := 173) (tgt := 183) dX10_rawAt_173 (by decide) ?_
                    exact x_iret (pc := 183) rfl rfl dX10_rawAt_183 (Nat.zero_le _) (Nat.zero_le _)
              refine x_tsw_out (pc := 93) (tgt := 184) dX10_rawAt_93 (by have a0 := lv_neT h19 (a := 0) rfl; have a1 := lv_neT h20 (a := 1) rfl; have a2 := lv_neT h23 (a := 2) rfl; omega) (by decide) ?_
              refine x_iload (pc := 184) dX10_rawAt_184 rfl ?_
              refine x_iconst (pc := 186) (a := -1) dX10_rawAt_186 (by decide) ?_
              refine x_icmp_eq (pc := 187) (tgt := 201) dX10_rawAt_187 (by decide) (fun h32 => ?_) (fun h32 => ?_)
              · refine x_iconst (pc := 201) (a := -1) dX10_rawAt_201 (by decide) ?_
                refine x_goto (pc := 202) (tgt := 224) dX10_rawAt_202 (by decide) ?_
                exact x_iret (pc := 224) rfl rfl dX10_rawAt_224 (Nat.zero_le _) (Nat.zero_le _)
              · refine x_aload_n (pc := 190) dX10_rawAt_190 rfl ?_
                refine m_getR (pc := 191) (t := 180) xC10 9 fl_X10_37 rfl (by decide) rfl (by decide) rfl dX10_rawAt_191 ?_
                refine x_iload (pc := 194) dX10_rawAt_194 rfl ?_
                refine m_iald (pc := 196) rfl rfl dX10_rawAt_196 (fun hb33 => ?_)
                refine x_iconst (pc := 197) (a := -1) dX10_rawAt_197 (by decide) ?_
                refine x_icmp_ne (pc := 198) (tgt := 205) dX10_rawAt_198 (by decide) (fun h34 => ?_) (fun h34 => ?_)
                · refine x_iload (pc := 205) dX10_rawAt_205 rfl ?_
                  refine x_aload_n (pc := 207) dX10_rawAt_207 rfl ?_
                  refine m_getR (pc := 208) (t := 180) xC10 9 fl_X10_37 rfl (by decide) rfl (by decide) rfl dX10_rawAt_208 ?_
                  refine x_iload (pc := 211) dX10_rawAt_211 rfl ?_
                  refine m_iald (pc := 213) rfl rfl dX10_rawAt_213 (fun hb35 => ?_)
                  refine x_iadd (pc := 214) dX10_rawAt_214 ?_
                  refine x_aload_n (pc := 215) dX10_rawAt_215 rfl ?_
                  refine m_getR (pc := 216) (t := 174) xC10 3 fl_X10_19 rfl (by decide) rfl (by decide) rfl dX10_rawAt_216 ?_
                  refine x_iload_n (pc := 219) dX10_rawAt_219 rfl ?_
                  refine m_iald (pc := 220) rfl rfl dX10_rawAt_220 (fun hb36 => ?_)
                  refine x_imul (pc := 221) dX10_rawAt_221 ?_
                  refine x_iconst (pc := 222) (a := 2) dX10_rawAt_222 (by decide) ?_
                  refine x_idiv (pc := 223) dX10_rawAt_223 (fun hb37 => ?_)
                  exact x_iret (pc := 224) rfl rfl dX10_rawAt_224 (Nat.zero_le _) (Nat.zero_le _)
                · refine x_iconst (pc := 201) (a := -1) dX10_rawAt_201 (by decide) ?_
                  refine x_goto (pc := 202) (tgt := 224) dX10_rawAt_202 (by decide) ?_
                  exact x_iret (pc := 224) rfl rfl dX10_rawAt_224 (Nat.zero_le _) (Nat.zero_le _)
            · refine x_aload_n (pc := 63) dX10_rawAt_63 rfl ?_
              refine m_getR (pc := 64) (t := 183) xC10 12 fl_X10_46 rfl (by decide) rfl (by decide) rfl dX10_rawAt_64 ?_
              refine x_iload (pc := 67) dX10_rawAt_67 rfl ?_
              refine m_iald (pc := 69) rfl rfl dX10_rawAt_69 (fun hb38 => ?_)
              exact x_iret (pc := 70) rfl rfl dX10_rawAt_70 (Nat.zero_le _) (Nat.zero_le _)
          · refine x_iconst (pc := 46) (a := -1) dX10_rawAt_46 (by decide) ?_
            exact x_iret (pc := 47) rfl rfl dX10_rawAt_47 (Nat.zero_le _) (Nat.zero_le _)

set_option maxRecDepth 100000 in
set_option maxHeartbeats 4000000 in
theorem ct_X10_raw0 (p1 : Int32) (p2 : Int32) (M : xM)  : Ct iX10_raw0 (rI M) [(.ref 170), (.int p1), (.int p2)] (xwd M) (fX10_raw0 p1 p2 M) := by
  refine Ct.of' (L := [some (.ref 170), some (.int p1), some (.int p2)]) 0 rfl (by decide +kernel) (Nat.le_of_ble_eq_true rfl) rfl ?_
  unfold fX10_raw0
  refine x_aload_n (pc := 0) dX10_raw0_0 rfl ?_
  refine x_iload_n (pc := 1) dX10_raw0_1 rfl ?_
  refine x_iload_n (pc := 2) dX10_raw0_2 rfl ?_
  refine x_bipush (pc := 3) (a := 99) dX10_raw0_3 (by decide) ?_
  refine cV_I (pc := 5) (As := [(.int p1), (.int p2), (.int (99:Int32))]) (rest := []) (ct_X10_rawAt p1 p2 (99:Int32) M) rfl xC10 rfl (by decide) ml_X10_113 meX10_rawAt rfl ⟨prX10_rawAt, (Nat.le_of_ble_eq_true rfl), (Nat.le_of_ble_eq_true rfl), rfl, rfl⟩ (Nat.le_of_ble_eq_true rfl) dX10_raw0_5 (fun v1 => ?_)
  exact x_iret (pc := 8) rfl rfl dX10_raw0_8 (Nat.zero_le _) (Nat.zero_le _)

set_option maxRecDepth 100000 in
set_option maxHeartbeats 4000000 in
theorem ct_X10_raw (p1 : Int32) (p2 : Int32) (M : xM)  : Ct iX10_raw (rI M) [(.ref 170), (.int p1), (.int p2)] (xwd M) (fX10_raw p1 p2 M) := by
  refine Ct.of' (L := [some (.ref 170), some (.int p1), some (.int p2), none]) 1 rfl (by decide +kernel) (Nat.le_of_ble_eq_true rfl) rfl ?_
  unfold fX10_raw
  refine x_aload_n (pc := 0) dX10_raw_0 rfl ?_
  refine x_iload_n (pc := 1) dX10_raw_1 rfl ?_
  refine x_iconst (pc := 2) (a := 0) dX10_raw_2 (by decide) ?_
  refine x_iconst (pc := 3) (a := 4) dX10_raw_3 (by decide) ?_
  refine cV_I (pc := 4) (As := [(.int p1), (.int (0:Int32)), (.int (4:Int32))]) (rest := []) (ct_X10_fails p1 (0:Int32) (4:Int32) M) rfl xC10 rfl (by decide) ml_X10_96 meX10_fails rfl ⟨prX10_fails, (Nat.le_of_ble_eq_true rfl), (Nat.le_of_ble_eq_true rfl), rfl, rfl⟩ (Nat.le_of_ble_eq_true rfl) dX10_raw_4 (fun v1 => ?_)
  refine x_istore_n (pc := 7) (L' := [some (.ref 170), some (.int p1), some (.int p2), some (.int v1)]) dX10_raw_7 (Nat.le_of_ble_eq_true rfl) rfl rfl ?_
  refine x_iload_n (pc := 8) dX10_raw_8 rfl ?_
  refine x_if_eq (pc := 9) (tgt := 16) dX10_raw_9 (by decide) (fun h2 => ?_) (fun h2 => ?_)
  · refine x_aload_n (pc := 16) dX10_raw_16 rfl ?_
    refine x_iload_n (pc := 17) dX10_raw_17 rfl ?_
    refine x_iload_n (pc := 18) dX10_raw_18 rfl ?_
    refine cV_I (pc := 19) (As := [(.int p1), (.int p2)]) (rest := []) (ct_X10_raw0 p1 p2 M) rfl xC10 rfl (by decide) ml_X10_116 meX10_raw0 rfl ⟨prX10_raw0, (Nat.le_of_ble_eq_true rfl), (Nat.le_of_ble_eq_true rfl), rfl, rfl⟩ (Nat.le_of_ble_eq_true rfl) dX10_raw_19 (fun v3 => ?_)
    exact x_iret (pc := 22) rfl rfl dX10_raw_22 (Nat.zero_le _) (Nat.zero_le _)
  · refine x_iload_n (pc := 12) dX10_raw_12 rfl ?_
    refine x_goto (pc := 13) (tgt := 22) dX10_raw_13 (by decide) ?_
    exact x_iret (pc := 22) rfl rfl dX10_raw_22 (Nat.zero_le _) (Nat.zero_le _)

set_option maxRecDepth 100000 in
set_option maxHeartbeats 4000000 in
theorem ct_X10_known (p1 : Int32) (p2 : Int32) (p3 : Int32) (M : xM)  : Ct iX10_known (rI M) [(.ref 170), (.int p1), (.int p2), (.int p3)] (xwd M) (fX10_known p1 p2 p3 M) := by
  refine Ct.of' (L := [some (.ref 170), some (.int p1), some (.int p2), some (.int p3), none]) 1 rfl (by decide +kernel) (Nat.le_of_ble_eq_true rfl) rfl ?_
  unfold fX10_known
  refine x_aload_n (pc := 0) dX10_known_0 rfl ?_
  refine x_iload_n (pc := 1) dX10_known_1 rfl ?_
  refine x_iconst (pc := 2) (a := 0) dX10_known_2 (by decide) ?_
  refine x_iconst (pc := 3) (a := 4) dX10_known_3 (by decide) ?_
  refine cV_I (pc := 4) (As := [(.int p1), (.int (0:Int32)), (.int (4:Int32))]) (rest := []) (ct_X10_fails p1 (0:Int32) (4:Int32) M) rfl xC10 rfl (by decide) ml_X10_96 meX10_fails rfl ⟨prX10_fails, (Nat.le_of_ble_eq_true rfl), (Nat.le_of_ble_eq_true rfl), rfl, rfl⟩ (Nat.le_of_ble_eq_true rfl) dX10_known_4 (fun v1 => ?_)
  refine x_istore (pc := 7) (L' := [some (.ref 170), some (.int p1), some (.int p2), some (.int p3), some (.int v1)]) dX10_known_7 (Nat.le_of_ble_eq_true rfl) rfl rfl ?_
  refine x_iload (pc := 9) dX10_known_9 rfl ?_
  refine x_if_eq (pc := 11) (tgt := 17) dX10_known_11 (by decide) (fun h2 => ?_) (fun h2 => ?_)
  · refine x_iload_n (pc := 17) dX10_known_17 rfl ?_
    refine x_if_ge (pc := 18) (tgt := 25) dX10_known_18 (by decide) (fun h3 => ?_) (fun h3 => ?_)
    · refine x_aload_n (pc := 25) dX10_known_25 rfl ?_
      refine x_iload_n (pc := 26) dX10_known_26 rfl ?_
      refine x_iload_n (pc := 27) dX10_known_27 rfl ?_
      refine x_iload_n (pc := 28) dX10_known_28 rfl ?_
      refine x_aload_n (pc := 29) dX10_known_29 rfl ?_
      refine m_getI (pc := 30) xC10 15 fl_X10_89 rfl (by decide) rfl (by decide) rfl dX10_known_30 ?_
      refine SP.jn 42 (fun (s5 : Int32) => [none, none, none, none, none]) (fun (s5 : Int32) => [(.int s5), (.int p2), (.int p1), (.ref 170)]) (fun (s5 : Int32) => xwd M) (fun kk4 hkk4 => ?_) (fun s5 => ?_)
      · try dsimp only
        refine x_icmp_lt (pc := 33) (tgt := 41) dX10_known_33 (by decide) (fun h6 => ?_) (fun h6 => ?_)
        · refine x_iload_n (pc := 41) dX10_known_41 rfl ?_
          refine SP.mask (pc := 42) [false, false, false, false, false] (L' := [none, none, none, none, none]) rfl ?_
          have hz := hkk4 p3
          try dsimp only at hz
          exact hz
        · refine x_bipush (pc := 36) (a := 99) dX10_known_36 (by decide) ?_
          refine x_goto (pc := 38) (tgt := 42) dX10_known_38 (by decide) ?_
          refine SP.mask (pc := 42) [false, false, false, false, false] (L' := [none, none, none, none, none]) rfl ?_
          have hz := hkk4 (99:Int32)
          try dsimp only at hz
          exact hz
      · try dsimp only
        refine cV_I (pc := 42) (As := [(.int p1), (.int p2), (.int s5)]) (rest := []) (ct_X10_rawAt p1 p2 s5 M) rfl xC10 rfl (by decide) ml_X10_113 meX10_rawAt rfl ⟨prX10_rawAt, (Nat.le_of_ble_eq_true rfl), (Nat.le_of_ble_eq_true rfl), rfl, rfl⟩ (Nat.le_of_ble_eq_true rfl) dX10_known_42 (fun v7 => ?_)
        exact x_iret (pc := 45) rfl rfl dX10_known_45 (Nat.zero_le _) (Nat.zero_le _)
    · refine x_iconst (pc := 21) (a := -1) dX10_known_21 (by decide) ?_
      refine x_goto (pc := 22) (tgt := 45) dX10_known_22 (by decide) ?_
      exact x_iret (pc := 45) rfl rfl dX10_known_45 (Nat.zero_le _) (Nat.zero_le _)
  · refine x_iload (pc := 14) dX10_known_14 rfl ?_
    exact x_iret (pc := 16) rfl rfl dX10_known_16 (Nat.zero_le _) (Nat.zero_le _)

set_option maxRecDepth 100000 in
set_option maxHeartbeats 4000000 in
theorem ct_X10_far (p1 : Int32) (p2 : Int32) (p3 : Int32) (M : xM)  : Ct iX10_far (rI M) [(.ref 170), (.int p1), (.int p2), (.int p3)] (xwd M) (fX10_far p1 p2 p3 M) := by
  refine Ct.of' (L := [some (.ref 170), some (.int p1), some (.int p2), some (.int p3)]) 0 rfl (by decide +kernel) (Nat.le_of_ble_eq_true rfl) rfl ?_
  unfold fX10_far
  refine x_aload_n (pc := 0) dX10_far_0 rfl ?_
  refine m_getR (pc := 1) (t := 172) xC10 1 fl_X10_13 rfl (by decide) rfl (by decide) rfl dX10_far_1 ?_
  refine x_iload_n (pc := 4) dX10_far_4 rfl ?_
  refine m_iald (pc := 5) rfl rfl dX10_far_5 (fun hb1 => ?_)
  refine x_iload_n (pc := 6) dX10_far_6 rfl ?_
  refine x_isub (pc := 7) dX10_far_7 ?_
  refine x_aload_n (pc := 8) dX10_far_8 rfl ?_
  refine m_getR (pc := 9) (t := 172) xC10 1 fl_X10_13 rfl (by decide) rfl (by decide) rfl dX10_far_9 ?_
  refine x_iload_n (pc := 12) dX10_far_12 rfl ?_
  refine m_iald (pc := 13) rfl rfl dX10_far_13 (fun hb2 => ?_)
  refine x_iload_n (pc := 14) dX10_far_14 rfl ?_
  refine x_isub (pc := 15) dX10_far_15 ?_
  refine x_imul (pc := 16) dX10_far_16 ?_
  refine x_aload_n (pc := 17) dX10_far_17 rfl ?_
  refine m_getR (pc := 18) (t := 173) xC10 2 fl_X10_16 rfl (by decide) rfl (by decide) rfl dX10_far_18 ?_
  refine x_iload_n (pc := 21) dX10_far_21 rfl ?_
  refine m_iald (pc := 22) rfl rfl dX10_far_22 (fun hb3 => ?_)
  refine x_iload_n (pc := 23) dX10_far_23 rfl ?_
  refine x_isub (pc := 24) dX10_far_24 ?_
  refine x_aload_n (pc := 25) dX10_far_25 rfl ?_
  refine m_getR (pc := 26) (t := 173) xC10 2 fl_X10_16 rfl (by decide) rfl (by decide) rfl dX10_far_26 ?_
  refine x_iload_n (pc := 29) dX10_far_29 rfl ?_
  refine m_iald (pc := 30) rfl rfl dX10_far_30 (fun hb4 => ?_)
  refine x_iload_n (pc := 31) dX10_far_31 rfl ?_
  refine x_isub (pc := 32) dX10_far_32 ?_
  refine x_imul (pc := 33) dX10_far_33 ?_
  refine x_iadd (pc := 34) dX10_far_34 ?_
  exact x_iret (pc := 35) rfl rfl dX10_far_35 (Nat.zero_le _) (Nat.zero_le _)

set_option maxRecDepth 100000 in
set_option maxHeartbeats 4000000 in
theorem ct_X10_doubt (p1 : Int32) (p2 : Int32) (M : xM)  : Ct iX10_doubt (rI M) [(.ref 170), (.int p1), (.int p2)] (xwd M) (fX10_doubt p1 p2 M) := by
  refine Ct.of' (L := [some (.ref 170), some (.int p1), some (.int p2), none, none, none, none, none, none, none]) 7 rfl (by decide +kernel) (Nat.le_of_ble_eq_true rfl) rfl ?_
  unfold fX10_doubt
  refine x_aload_n (pc := 0) dX10_doubt_0 rfl ?_
  refine x_iload_n (pc := 1) dX10_doubt_1 rfl ?_
  refine x_iload_n (pc := 2) dX10_doubt_2 rfl ?_
  refine cV_I (pc := 3) (As := [(.int p1), (.int p2)]) (rest := []) (ct_X10_raw0 p1 p2 M) rfl xC10 rfl (by decide) ml_X10_116 meX10_raw0 rfl ⟨prX10_raw0, (Nat.le_of_ble_eq_true rfl), (Nat.le_of_ble_eq_true rfl), rfl, rfl⟩ (Nat.le_of_ble_eq_true rfl) dX10_doubt_3 (fun v1 => ?_)
  refine x_istore_n (pc := 6) (L' := [some (.ref 170), some (.int p1), some (.int p2), some (.int v1), none, none, none, none, none, none]) dX10_doubt_6 (Nat.le_of_ble_eq_true rfl) rfl rfl ?_
  refine x_iload_n (pc := 7) dX10_doubt_7 rfl ?_
  refine x_iconst (pc := 8) (a := -1) dX10_doubt_8 (by decide) ?_
  refine x_icmp_ne (pc := 9) (tgt := 14) dX10_doubt_9 (by decide) (fun h2 => ?_) (fun h2 => ?_)
  · refine x_iload_n (pc := 14) dX10_doubt_14 rfl ?_
    refine x_aload_n (pc := 15) dX10_doubt_15 rfl ?_
    refine m_getI (pc := 16) xC10 16 fl_X10_52 rfl (by decide) rfl (by decide) rfl dX10_doubt_16 ?_
    refine x_icmp_le (pc := 19) (tgt := 24) dX10_doubt_19 (by decide) (fun h3 => ?_) (fun h3 => ?_)
    · refine x_iconst (pc := 24) (a := 0) dX10_doubt_24 (by decide) ?_
      refine x_istore (pc := 25) (L' := [some (.ref 170), some (.int p1), some (.int p2), some (.int v1), some (.int (0:Int32)), none, none, none, none, none]) dX10_doubt_25 (Nat.le_of_ble_eq_true rfl) rfl rfl ?_
      refine x_iconst (pc := 27) (a := 1) dX10_doubt_27 (by decide) ?_
      refine x_istore (pc := 28) (L' := [some (.ref 170), some (.int p1), some (.int p2), some (.int v1), some (.int (0:Int32)), some (.int (1:Int32)), none, none, none, none]) dX10_doubt_28 (Nat.le_of_ble_eq_true rfl) rfl rfl ?_
      refine x_iconst (pc := 30) (a := 0) dX10_doubt_30 (by decide) ?_
      refine x_istore (pc := 31) (L' := [some (.ref 170), some (.int p1), some (.int p2), some (.int v1), some (.int (0:Int32)), some (.int (1:Int32)), some (.int (0:Int32)), none, none, none]) dX10_doubt_31 (Nat.le_of_ble_eq_true rfl) rfl rfl ?_
      refine SP.mask (pc := 33) [true, true, true, true, true, true, true, false, false, false] (L' := [some (.ref 170), some (.int p1), some (.int p2), some (.int v1), some (.int (0:Int32)), some (.int (1:Int32)), some (.int (0:Int32)), none, none, none]) rfl ?_
      refine SP.lp (pc := 33) (fun (s4 : (Int32 × Int32 × Int32)) => [some (.ref 170), some (.int p1), some (.int p2), some (.int v1), some (.int s4.1), some (.int s4.2.1), some (.int s4.2.2), none, none, none]) (fun (s4 : (Int32 × Int32 × Int32)) => xwd M) (fun s4 kk5 hkk5 => ?_) xfu ((0:Int32), (1:Int32), (0:Int32))
      try dsimp only
      refine x_iload (pc := 33) dX10_doubt_33 rfl ?_
      refine x_bipush (pc := 35) (a := 16) dX10_doubt_35 (by decide) ?_
      refine x_icmp_ge (pc := 37) (tgt := 129) dX10_doubt_37 (by decide) (fun h6 => ?_) (fun h6 => ?_)
      · refine x_iload_n (pc := 129) dX10_doubt_129 rfl ?_
        refine SP.jn 146 (fun (s8 : Unit) => [some (.ref 170), some (.int p1), some (.int p2), none, none, none, none, none, none, none]) (fun (s8 : Unit) => []) (fun (s8 : Unit) => xwd M) (fun kk7 hkk7 => ?_) (fun s8 => ?_)
        · try dsimp only
          refine x_if_ne (pc := 130) (tgt := 146) dX10_doubt_130 (by decide) (fun h9 => ?_) (fun h9 => ?_)
          · refine SP.mask (pc := 146) [true, true, true, false, false, false, false, false, false, false] (L' := [some (.ref 170), some (.int p1), some (.int p2), none, none, none, none, none, none, none]) rfl ?_
            have hz := hkk7 ()
            try dsimp only at hz
            exact hz
          · refine x_iload (pc := 133) dX10_doubt_133 rfl ?_
            refine x_iconst (pc := 135) (a := 1) dX10_doubt_135 (by decide) ?_
            refine x_icmp_le (pc := 136) (tgt := 146) dX10_doubt_136 (by decide) (fun h10 => ?_) (fun h10 => ?_)
            · refine SP.mask (pc := 146) [true, true, true, false, false, false, false, false, false, false] (L' := [some (.ref 170), some (.int p1), some (.int p2), none, none, none, none, none, none, none]) rfl ?_
              have hz := hkk7 ()
              try dsimp only at hz
              exact hz
            · refine x_iload (pc := 139) dX10_doubt_139 rfl ?_
              refine x_if_eq (pc := 141) (tgt := 146) dX10_doubt_141 (by decide) (fun h11 => ?_) (fun h11 => ?_)
              · refine SP.mask (pc := 146) [true, true, true, false, false, false, false, false, false, false] (L' := [some (.ref 170), some (.int p1), some (.int p2), none, none, none, none, none, none, none]) rfl ?_
                have hz := hkk7 ()
                try dsimp only at hz
                exact hz
              · refine x_iconst (pc := 144) (a := 2) dX10_doubt_144 (by decide) ?_
                exact x_iret (pc := 145) rfl rfl dX10_doubt_145 (Nat.zero_le _) (Nat.zero_le _)
        · try dsimp only
          refine x_aload_n (pc := 146) dX10_doubt_146 rfl ?_
          refine m_getR (pc := 147) (t := 171) xC10 0 fl_X10_9 rfl (by decide) rfl (by decide) rfl dX10_doubt_147 ?_
          refine x_iload_n (pc := 150) dX10_doubt_150 rfl ?_
          refine m_iald (pc := 151) rfl rfl dX10_doubt_151 (fun hb12 => ?_)
          refine x_iconst (pc := 152) (a := 4) dX10_doubt_152 (by decide) ?_
          refine x_icmp_ne (pc := 153) (tgt := 168) dX10_doubt_153 (by decide) (fun h13 => ?_) (fun h13 => ?_)
          · refine x_iconst (pc := 168) (a := 0) dX10_doubt_168 (by decide) ?_
            exact x_iret (pc := 169) rfl rfl dX10_doubt_169 (Nat.zero_le _) (Nat.zero_le _)
          · refine x_aload_n (pc := 156) dX10_doubt_156 rfl ?_
            refine x_iload_n (pc := 157) dX10_doubt_157 rfl ?_
            refine x_iload_n (pc := 158) dX10_doubt_158 rfl ?_
            refine x_bipush (pc := 159) (a := 99) dX10_doubt_159 (by decide) ?_
            refine cV_I (pc := 161) (As := [(.int p1), (.int p2), (.int (99:Int32))]) (rest := []) (ct_X10_byHand p1 p2 (99:Int32) M) rfl xC10 rfl (by decide) ml_X10_107 meX10_byHand rfl ⟨prX10_byHand, (Nat.le_of_ble_eq_true rfl), (Nat.le_of_ble_eq_true rfl), rfl, rfl⟩ (Nat.le_of_ble_eq_true rfl) dX10_doubt_161 (fun v14 => ?_)
            refine x_iconst (pc := 164) (a := -1) dX10_doubt_164 (by decide) ?_
            refine x_icmp_eq (pc := 165) (tgt := 170) dX10_doubt_165 (by decide) (fun h15 => ?_) (fun h15 => ?_)
            · refine x_aload_n (pc := 170) dX10_doubt_170 rfl ?_
              refine m_getR (pc := 171) (t := 177) xC10 6 fl_X10_28 rfl (by decide) rfl (by decide) rfl dX10_doubt_171 ?_
              refine x_iload_n (pc := 174) dX10_doubt_174 rfl ?_
              refine x_iload_n (pc := 175) dX10_doubt_175 rfl ?_
              refine cS_I (pc := 176) (As := [(.int p1), (.int p2)]) (rest := [(.ref 177)]) (ct_X10_at p1 p2 M) rfl ml_X10_92 meX10_at rfl ⟨prX10_at, (Nat.le_of_ble_eq_true rfl), (Nat.le_of_ble_eq_true rfl), rfl, rfl⟩ (Nat.le_of_ble_eq_true rfl) dX10_doubt_176 (fun v16 => ?_)
              refine m_iald (pc := 179) rfl rfl dX10_doubt_179 (fun hb17 => ?_)
              refine SP.bdi (fun x18 e19 => ?_)
              refine x_istore (pc := 180) (L' := [some (.ref 170), some (.int p1), some (.int p2), none, none, none, some (.int x18), none, none, none]) dX10_doubt_180 (Nat.le_of_ble_eq_true rfl) rfl rfl ?_
              refine x_aload_n (pc := 182) dX10_doubt_182 rfl ?_
              refine m_getR (pc := 183) (t := 180) xC10 9 fl_X10_37 rfl (by decide) rfl (by decide) rfl dX10_doubt_183 ?_
              refine x_iload_n (pc := 186) dX10_doubt_186 rfl ?_
              refine x_iload_n (pc := 187) dX10_doubt_187 rfl ?_
              refine cS_I (pc := 188) (As := [(.int p1), (.int p2)]) (rest := [(.ref 180)]) (ct_X10_at p1 p2 M) rfl ml_X10_92 meX10_at rfl ⟨prX10_at, (Nat.le_of_ble_eq_true rfl), (Nat.le_of_ble_eq_true rfl), rfl, rfl⟩ (Nat.le_of_ble_eq_true rfl) dX10_doubt_188 (fun v20 => ?_)
              refine m_iald (pc := 191) rfl rfl dX10_doubt_191 (fun hb21 => ?_)
              refine SP.bdi (fun x22 e23 => ?_)
              refine x_istore (pc := 192) (L' := [some (.ref 170), some (.int p1), some (.int p2), none, none, none, some (.int x18), some (.int x22), none, none]) dX10_doubt_192 (Nat.le_of_ble_eq_true rfl) rfl rfl ?_
              refine x_iload (pc := 194) dX10_doubt_194 rfl ?_
              refine x_iload (pc := 196) dX10_doubt_196 rfl ?_
              refine SP.jn 208 (fun (s25 : Int32) => [some (.ref 170), none, none, none, none, none, some (.int x18), some (.int x22), none, none]) (fun (s25 : Int32) => [(.int s25)]) (fun (s25 : Int32) => xwd M) (fun kk24 hkk24 => ?_) (fun s25 => ?_)
              · try dsimp only
                refine x_icmp_le (pc := 198) (tgt := 206) dX10_doubt_198 (by decide) (fun h26 => ?_) (fun h26 => ?_)
                · refine x_iload (pc := 206) dX10_doubt_206 rfl ?_
                  refine SP.mask (pc := 208) [true, false, false, false, false, false, true, true, false, false] (L' := [some (.ref 170), none, none, none, none, none, some (.int x18), some (.int x22), none, none]) rfl ?_
                  have hz := hkk24 x22
                  try dsimp only at hz
                  exact hz
                · refine x_iload (pc := 201) dX10_doubt_201 rfl ?_
                  refine x_goto (pc := 203) (tgt := 208) dX10_doubt_203 (by decide) ?_
                  refine SP.mask (pc := 208) [true, false, false, false, false, false, true, true, false, false] (L' := [some (.ref 170), none, none, none, none, none, some (.int x18), some (.int x22), none, none]) rfl ?_
                  have hz := hkk24 x18
                  try dsimp only at hz
                  exact hz
              · try dsimp only
                refine x_istore (pc := 208) (L' := [some (.ref 170), none, none, none, none, none, some (.int x18), some (.int x22), some (.int s25), none]) dX10_doubt_208 (Nat.le_of_ble_eq_true rfl) rfl rfl ?_
                refine x_iload (pc := 210) dX10_doubt_210 rfl ?_
                refine x_iload (pc := 212) dX10_doubt_212 rfl ?_
                refine SP.jn 224 (fun (s28 : Int32) => [some (.ref 170), none, none, none, none, none, none, none, some (.int s25), none]) (fun (s28 : Int32) => [(.int s28)]) (fun (s28 : Int32) => xwd M) (fun kk27 hkk27 => ?_) (fun s28 => ?_)
                · try dsimp only
                  refine x_icmp_le (pc := 214) (tgt := 222) dX10_doubt_214 (by decide) (fun h29 => ?_) (fun h29 => ?_)
                  · refine x_iload (pc := 222) dX10_doubt_222 rfl ?_
                    refine SP.mask (pc := 224) [true, false, false, false, false, false, false, false, true, false] (L' := [some (.ref 170), none, none, none, none, none, none, none, some (.int s25), none]) rfl ?_
                    have hz := hkk27 x18
                    try dsimp only at hz
                    exact hz
                  · refine x_iload (pc := 217) dX10_doubt_217 rfl ?_
                    refine x_goto (pc := 219) (tgt := 224) dX10_doubt_219 (by decide) ?_
                    refine SP.mask (pc := 224) [true, false, false, false, false, false, false, false, true, false] (L' := [some (.ref 170), none, none, none, none, none, none, none, some (.int s25), none]) rfl ?_
                    have hz := hkk27 x22
                    try dsimp only at hz
                    exact hz
                · try dsimp only
                  refine x_istore (pc := 224) (L' := [some (.ref 170), none, none, none, none, none, none, none, some (.int s25), some (.int s28)]) dX10_doubt_224 (Nat.le_of_ble_eq_true rfl) rfl rfl ?_
                  refine x_bipush (pc := 226) (a := 100) dX10_doubt_226 (by decide) ?_
                  refine x_iload (pc := 228) dX10_doubt_228 rfl ?_
                  refine x_iload (pc := 230) dX10_doubt_230 rfl ?_
                  refine x_isub (pc := 232) dX10_doubt_232 ?_
                  refine x_imul (pc := 233) dX10_doubt_233 ?_
                  refine x_aload_n (pc := 234) dX10_doubt_234 rfl ?_
                  refine m_getI (pc := 235) xC10 19 fl_X10_62 rfl (by decide) rfl (by decide) rfl dX10_doubt_235 ?_
                  refine x_iload (pc := 238) dX10_doubt_238 rfl ?_
                  refine x_imul (pc := 240) dX10_doubt_240 ?_
                  refine x_icmp_le (pc := 241) (tgt := 248) dX10_doubt_241 (by decide) (fun h30 => ?_) (fun h30 => ?_)
                  · refine x_iconst (pc := 248) (a := 0) dX10_doubt_248 (by decide) ?_
                    exact x_iret (pc := 249) rfl rfl dX10_doubt_249 (Nat.zero_le _) (Nat.zero_le _)
                  · refine x_iconst (pc := 244) (a := 3) dX10_doubt_244 (by decide) ?_
                    refine x_goto (pc := 245) (tgt := 249) dX10_doubt_245 (by decide) ?_
                    exact x_iret (pc := 249) rfl rfl dX10_doubt_249 (Nat.zero_le _) (Nat.zero_le _)
            · refine x_iconst (pc := 168) (a := 0) dX10_doubt_168 (by decide) ?_
              exact x_iret (pc := 169) rfl rfl dX10_doubt_169 (Nat.zero_le _) (Nat.zero_le _)
      · refine x_iload (pc := 40) dX10_doubt_40 rfl ?_
        refine x_iload_n (pc := 42) dX10_doubt_42 rfl ?_
        refine x_icmp_eq (pc := 43) (tgt := 123) dX10_doubt_43 (by decide) (fun h31 => ?_) (fun h31 => ?_)
        · refine x_iinc (pc := 123) (b := (s4.2.2 + 1)) (L' := [some (.ref 170), some (.int p1), some (.int p2), some (.int v1), some (.int s4.1), some (.int s4.2.1), some (.int (s4.2.2 + 1)), none, none, none]) dX10_doubt_123 rfl rfl (Nat.le_of_ble_eq_true rfl) rfl rfl ?_
          refine x_goto (pc := 126) (tgt := 33) dX10_doubt_126 (by decide) ?_
          have hz := hkk5 (s4.1, s4.2.1, (s4.2.2 + 1))
          try dsimp only at hz
          exact hz
        · refine x_aload_n (pc := 46) dX10_doubt_46 rfl ?_
          refine x_iload (pc := 47) dX10_doubt_47 rfl ?_
          refine cV_I (pc := 49) (As := [(.int s4.2.2)]) (rest := []) (ct_X10_isGauge s4.2.2 M) rfl xC10 rfl (by decide) ml_X10_103 meX10_isGauge rfl ⟨prX10_isGauge, (Nat.le_of_ble_eq_true rfl), (Nat.le_of_ble_eq_true rfl), rfl, rfl⟩ (Nat.le_of_ble_eq_true rfl) dX10_doubt_49 (fun v32 => ?_)
          refine x_if_eq (pc := 52) (tgt := 123) dX10_doubt_52 (by decide) (fun h33 => ?_) (fun h33 => ?_)
          · refine x_iinc (pc := 123) (b := (s4.2.2 + 1)) (L' := [some (.ref 170), some (.int p1), some (.int p2), some (.int v1), some (.int s4.1), some (.int s4.2.1), some (.int (s4.2.2 + 1)), none, none, none]) dX10_doubt_123 rfl rfl (Nat.le_of_ble_eq_true rfl) rfl rfl ?_
            refine x_goto (pc := 126) (tgt := 33) dX10_doubt_126 (by decide) ?_
            have hz := hkk5 (s4.1, s4.2.1, (s4.2.2 + 1))
            try dsimp only at hz
            exact hz
          · refine x_aload_n (pc := 55) dX10_doubt_55 rfl ?_
            refine x_iload (pc := 56) dX10_doubt_56 rfl ?_
            refine x_aload_n (pc := 58) dX10_doubt_58 rfl ?_
            refine m_getR (pc := 59) (t := 172) xC10 1 fl_X10_13 rfl (by decide) rfl (by decide) rfl dX10_doubt_59 ?_
            refine x_iload_n (pc := 62) dX10_doubt_62 rfl ?_
            refine m_iald (pc := 63) rfl rfl dX10_doubt_63 (fun hb34 => ?_)
            refine x_aload_n (pc := 64) dX10_doubt_64 rfl ?_
            refine m_getR (pc := 65) (t := 173) xC10 2 fl_X10_16 rfl (by decide) rfl (by decide) rfl dX10_doubt_65 ?_
            refine x_iload_n (pc := 68) dX10_doubt_68 rfl ?_
            refine m_iald (pc := 69) rfl rfl dX10_doubt_69 (fun hb35 => ?_)
            refine cV_I (pc := 70) (As := [(.int s4.2.2), (.int (M.1 172 p1.toNatClampNeg)), (.int (M.1 173 p1.toNatClampNeg))]) (rest := []) (ct_X10_far s4.2.2 (M.1 172 p1.toNatClampNeg) (M.1 173 p1.toNatClampNeg) M) rfl xC10 rfl (by decide) ml_X10_119 meX10_far rfl ⟨prX10_far, (Nat.le_of_ble_eq_true rfl), (Nat.le_of_ble_eq_true rfl), rfl, rfl⟩ (Nat.le_of_ble_eq_true rfl) dX10_doubt_70 (fun v36 => ?_)
            refine x_aload_n (pc := 73) dX10_doubt_73 rfl ?_
            refine m_getI (pc := 74) xC10 17 fl_X10_56 rfl (by decide) rfl (by decide) rfl dX10_doubt_74 ?_
            refine x_icmp_gt (pc := 77) (tgt := 123) dX10_doubt_77 (by decide) (fun h37 => ?_) (fun h37 => ?_)
            · refine x_iinc (pc := 123) (b := (s4.2.2 + 1)) (L' := [some (.ref 170), some (.int p1), some (.int p2), some (.int v1), some (.int s4.1), some (.int s4.2.1), some (.int (s4.2.2 + 1)), none, none, none]) dX10_doubt_123 rfl rfl (Nat.le_of_ble_eq_true rfl) rfl rfl ?_
              refine x_goto (pc := 126) (tgt := 33) dX10_doubt_126 (by decide) ?_
              have hz := hkk5 (s4.1, s4.2.1, (s4.2.2 + 1))
              try dsimp only at hz
              exact hz
            · refine x_aload_n (pc := 80) dX10_doubt_80 rfl ?_
              refine x_iload (pc := 81) dX10_doubt_81 rfl ?_
              refine x_iload_n (pc := 83) dX10_doubt_83 rfl ?_
              refine cV_I (pc := 84) (As := [(.int s4.2.2), (.int p2)]) (rest := []) (ct_X10_raw0 s4.2.2 p2 M) rfl xC10 rfl (by decide) ml_X10_116 meX10_raw0 rfl ⟨prX10_raw0, (Nat.le_of_ble_eq_true rfl), (Nat.le_of_ble_eq_true rfl), rfl, rfl⟩ (Nat.le_of_ble_eq_true rfl) dX10_doubt_84 (fun v38 => ?_)
              refine x_iconst (pc := 87) (a := -1) dX10_doubt_87 (by decide) ?_
              refine x_icmp_ne (pc := 88) (tgt := 94) dX10_doubt_88 (by decide) (fun h39 => ?_) (fun h39 => ?_)
              · refine x_iinc (pc := 94) (b := (s4.1 + 1)) (L' := [some (.ref 170), some (.int p1), some (.int p2), some (.int v1), some (.int (s4.1 + 1)), some (.int s4.2.1), some (.int s4.2.2), none, none, none]) dX10_doubt_94 rfl rfl (Nat.le_of_ble_eq_true rfl) rfl rfl ?_
                refine x_iload (pc := 97) dX10_doubt_97 rfl ?_
                refine x_if_eq (pc := 99) (tgt := 120) dX10_doubt_99 (by decide) (fun h40 => ?_) (fun h40 => ?_)
                · refine x_iconst (pc := 120) (a := 0) dX10_doubt_120 (by decide) ?_
                  refine x_istore (pc := 121) (L' := [some (.ref 170), some (.int p1), some (.int p2), some (.int v1), some (.int (s4.1 + 1)), some (.int (0:Int32)), some (.int s4.2.2), none, none, none]) dX10_doubt_121 (Nat.le_of_ble_eq_true rfl) rfl rfl ?_
                  refine x_iinc (pc := 123) (b := (s4.2.2 + 1)) (L' := [some (.ref 170), some (.int p1), some (.int p2), some (.int v1), some (.int (s4.1 + 1)), some (.int (0:Int32)), some (.int (s4.2.2 + 1)), none, none, none]) dX10_doubt_123 rfl rfl (Nat.le_of_ble_eq_true rfl) rfl rfl ?_
                  refine x_goto (pc := 126) (tgt := 33) dX10_doubt_126 (by decide) ?_
                  have hz := hkk5 ((s4.1 + 1), (0:Int32), (s4.2.2 + 1))
                  try dsimp only at hz
                  exact hz
                · refine x_aload_n (pc := 102) dX10_doubt_102 rfl ?_
                  refine x_iload (pc := 103) dX10_doubt_103 rfl ?_
                  refine x_iload_n (pc := 105) dX10_doubt_105 rfl ?_
                  refine cV_I (pc := 106) (As := [(.int s4.2.2), (.int p2)]) (rest := []) (ct_X10_raw0 s4.2.2 p2 M) rfl xC10 rfl (by decide) ml_X10_116 meX10_raw0 rfl ⟨prX10_raw0, (Nat.le_of_ble_eq_true rfl), (Nat.le_of_ble_eq_true rfl), rfl, rfl⟩ (Nat.le_of_ble_eq_true rfl) dX10_doubt_106 (fun v41 => ?_)
                  refine x_aload_n (pc := 109) dX10_doubt_109 rfl ?_
                  refine m_getI (pc := 110) xC10 18 fl_X10_59 rfl (by decide) rfl (by decide) rfl dX10_doubt_110 ?_
                  refine x_icmp_lt (pc := 113) (tgt := 120) dX10_doubt_113 (by decide) (fun h42 => ?_) (fun h42 => ?_)
                  · refine x_iconst (pc := 120) (a := 0) dX10_doubt_120 (by decide) ?_
                    refine x_istore (pc := 121) (L' := [some (.ref 170), some (.int p1), some (.int p2), some (.int v1), some (.int (s4.1 + 1)), some (.int (0:Int32)), some (.int s4.2.2), none, none, none]) dX10_doubt_121 (Nat.le_of_ble_eq_true rfl) rfl rfl ?_
                    refine x_iinc (pc := 123) (b := (s4.2.2 + 1)) (L' := [some (.ref 170), some (.int p1), some (.int p2), some (.int v1), some (.int (s4.1 + 1)), some (.int (0:Int32)), some (.int (s4.2.2 + 1)), none, none, none]) dX10_doubt_123 rfl rfl (Nat.le_of_ble_eq_true rfl) rfl rfl ?_
                    refine x_goto (pc := 126) (tgt := 33) dX10_doubt_126 (by decide) ?_
                    have hz := hkk5 ((s4.1 + 1), (0:Int32), (s4.2.2 + 1))
                    try dsimp only at hz
                    exact hz
                  · refine x_iconst (pc := 116) (a := 1) dX10_doubt_116 (by decide) ?_
                    refine x_goto (pc := 117) (tgt := 121) dX10_doubt_117 (by decide) ?_
                    refine x_istore (pc := 121) (L' := [some (.ref 170), some (.int p1), some (.int p2), some (.int v1), some (.int (s4.1 + 1)), some (.int (1:Int32)), some (.int s4.2.2), none, none, none]) dX10_doubt_121 (Nat.le_of_ble_eq_true rfl) rfl rfl ?_
                    refine x_iinc (pc := 123) (b := (s4.2.2 + 1)) (L' := [some (.ref 170), some (.int p1), some (.int p2), some (.int v1), some (.int (s4.1 + 1)), some (.int (1:Int32)), some (.int (s4.2.2 + 1)), none, none, none]) dX10_doubt_123 rfl rfl (Nat.le_of_ble_eq_true rfl) rfl rfl ?_
                    refine x_goto (pc := 126) (tgt := 33) dX10_doubt_126 (by decide) ?_
                    have hz := hkk5 ((s4.1 + 1), (1:Int32), (s4.2.2 + 1))
                    try dsimp only at hz
                    exact hz
              · refine x_goto (pc := 91) (tgt := 123) dX10_doubt_91 (by decide) ?_
                refine x_iinc (pc := 123) (b := (s4.2.2 + 1)) (L' := [some (.ref 170), some (.int p1), some (.int p2), some (.int v1), some (.int s4.1), some (.int s4.2.1), some (.int (s4.2.2 + 1)), none, none, none]) dX10_doubt_123 rfl rfl (Nat.le_of_ble_eq_true rfl) rfl rfl ?_
                refine x_goto (pc := 126) (tgt := 33) dX10_doubt_126 (by decide) ?_
                have hz := hkk5 (s4.1, s4.2.1, (s4.2.2 + 1))
                try dsimp only at hz
                exact hz
    · refine x_iconst (pc := 22) (a := 1) dX10_doubt_22 (by decide) ?_
      exact x_iret (pc := 23) rfl rfl dX10_doubt_23 (Nat.zero_le _) (Nat.zero_le _)
  · refine x_iconst (pc := 12) (a := 0) dX10_doubt_12 (by decide) ?_
    exact x_iret (pc := 13) rfl rfl dX10_doubt_13 (Nat.zero_le _) (Nat.zero_le _)

