set_option maxRecDepth 100000 in
set_option maxHeartbeats 4000000 in
theorem ct_X10_trusted (p1 : Int32) (p2 : Int32) (M : xM)  : Ct iX10_trusted (rI M) [(.ref 170), (.int p1), (.int p2)] (xwd M) (fX10_trusted p1 p2 M) := by
  refine Ct.of' (L := [some (.ref 170), some (.int p1), some (.int p2)]) 0 rfl (by decide +kernel) (Nat.le_of_ble_eq_true rfl) rfl ?_
  unfold fX10_trusted
  refine x_aload_n (pc := 0) dX10_trusted_0 rfl ?_
  refine x_iload_n (pc := 1) dX10_trusted_1 rfl ?_
  refine x_iload_n (pc := 2) dX10_trusted_2 rfl ?_
  refine cV_I (pc := 3) (As := [(.int p1), (.int p2)]) (rest := []) (ct_X10_raw0 p1 p2 M) rfl xC10 rfl (by decide) ml_X10_116 meX10_raw0 rfl ⟨prX10_raw0, (Nat.le_of_ble_eq_true rfl), (Nat.le_of_ble_eq_true rfl), rfl, rfl⟩ (Nat.le_of_ble_eq_true rfl) dX10_trusted_3 (fun v1 => ?_)
  refine x_iconst (pc := 6) (a := -1) dX10_trusted_6 (by decide) ?_
  refine x_icmp_eq (pc := 7) (tgt := 28) dX10_trusted_7 (by decide) (fun h2 => ?_) (fun h2 => ?_)
  · refine x_iconst (pc := 28) (a := -1) dX10_trusted_28 (by decide) ?_
    exact x_iret (pc := 29) rfl rfl dX10_trusted_29 (Nat.zero_le _) (Nat.zero_le _)
  · refine x_aload_n (pc := 10) dX10_trusted_10 rfl ?_
    refine x_iload_n (pc := 11) dX10_trusted_11 rfl ?_
    refine x_iload_n (pc := 12) dX10_trusted_12 rfl ?_
    refine cV_I (pc := 13) (As := [(.int p1), (.int p2)]) (rest := []) (ct_X10_doubt p1 p2 M) rfl xC10 rfl (by decide) ml_X10_122 meX10_doubt rfl ⟨prX10_doubt, (Nat.le_of_ble_eq_true rfl), (Nat.le_of_ble_eq_true rfl), rfl, rfl⟩ (Nat.le_of_ble_eq_true rfl) dX10_trusted_13 (fun v3 => ?_)
    refine x_if_ne (pc := 16) (tgt := 28) dX10_trusted_16 (by decide) (fun h4 => ?_) (fun h4 => ?_)
    · refine x_iconst (pc := 28) (a := -1) dX10_trusted_28 (by decide) ?_
      exact x_iret (pc := 29) rfl rfl dX10_trusted_29 (Nat.zero_le _) (Nat.zero_le _)
    · refine x_aload_n (pc := 19) dX10_trusted_19 rfl ?_
      refine x_iload_n (pc := 20) dX10_trusted_20 rfl ?_
      refine x_iload_n (pc := 21) dX10_trusted_21 rfl ?_
      refine cV_I (pc := 22) (As := [(.int p1), (.int p2)]) (rest := []) (ct_X10_raw0 p1 p2 M) rfl xC10 rfl (by decide) ml_X10_116 meX10_raw0 rfl ⟨prX10_raw0, (Nat.le_of_ble_eq_true rfl), (Nat.le_of_ble_eq_true rfl), rfl, rfl⟩ (Nat.le_of_ble_eq_true rfl) dX10_trusted_22 (fun v5 => ?_)
      refine x_goto (pc := 25) (tgt := 29) dX10_trusted_25 (by decide) ?_
      exact x_iret (pc := 29) rfl rfl dX10_trusted_29 (Nat.zero_le _) (Nat.zero_le _)

set_option maxRecDepth 100000 in
set_option maxHeartbeats 4000000 in
theorem ct_X10_why (p1 : Int32) (p2 : Int32) (M : xM)  : Ct iX10_why (rI M) [(.ref 170), (.int p1), (.int p2)] (xwd M) (fX10_why p1 p2 M) := by
  refine Ct.of' (L := [some (.ref 170), some (.int p1), some (.int p2), none]) 1 rfl (by decide +kernel) (Nat.le_of_ble_eq_true rfl) rfl ?_
  unfold fX10_why
  refine x_aload_n (pc := 0) dX10_why_0 rfl ?_
  refine x_iload_n (pc := 1) dX10_why_1 rfl ?_
  refine x_iconst (pc := 2) (a := 0) dX10_why_2 (by decide) ?_
  refine x_iconst (pc := 3) (a := 4) dX10_why_3 (by decide) ?_
  refine cV_I (pc := 4) (As := [(.int p1), (.int (0:Int32)), (.int (4:Int32))]) (rest := []) (ct_X10_fails p1 (0:Int32) (4:Int32) M) rfl xC10 rfl (by decide) ml_X10_96 meX10_fails rfl ⟨prX10_fails, (Nat.le_of_ble_eq_true rfl), (Nat.le_of_ble_eq_true rfl), rfl, rfl⟩ (Nat.le_of_ble_eq_true rfl) dX10_why_4 (fun v1 => ?_)
  refine x_istore_n (pc := 7) (L' := [some (.ref 170), some (.int p1), some (.int p2), some (.int v1)]) dX10_why_7 (Nat.le_of_ble_eq_true rfl) rfl rfl ?_
  refine x_iload_n (pc := 8) dX10_why_8 rfl ?_
  refine x_if_eq (pc := 9) (tgt := 16) dX10_why_9 (by decide) (fun h2 => ?_) (fun h2 => ?_)
  · refine x_iload_n (pc := 16) dX10_why_16 rfl ?_
    refine x_iconst (pc := 17) (a := 0) dX10_why_17 (by decide) ?_
    refine x_bipush (pc := 18) (a := 55) dX10_why_18 (by decide) ?_
    refine cS_I (pc := 20) (As := [(.int p2), (.int (0:Int32)), (.int (55:Int32))]) (rest := []) (ct_X10_isIn p2 (0:Int32) (55:Int32) M) rfl ml_X10_85 meX10_isIn rfl ⟨prX10_isIn, (Nat.le_of_ble_eq_true rfl), (Nat.le_of_ble_eq_true rfl), rfl, rfl⟩ (Nat.le_of_ble_eq_true rfl) dX10_why_20 (fun v3 => ?_)
    refine x_if_eq (pc := 23) (tgt := 35) dX10_why_23 (by decide) (fun h4 => ?_) (fun h4 => ?_)
    · refine x_iconst (pc := 35) (a := -1) dX10_why_35 (by decide) ?_
      exact x_iret (pc := 36) rfl rfl dX10_why_36 (Nat.zero_le _) (Nat.zero_le _)
    · refine x_aload_n (pc := 26) dX10_why_26 rfl ?_
      refine x_iload_n (pc := 27) dX10_why_27 rfl ?_
      refine x_iload_n (pc := 28) dX10_why_28 rfl ?_
      refine cV_I (pc := 29) (As := [(.int p1), (.int p2)]) (rest := []) (ct_X10_doubt p1 p2 M) rfl xC10 rfl (by decide) ml_X10_122 meX10_doubt rfl ⟨prX10_doubt, (Nat.le_of_ble_eq_true rfl), (Nat.le_of_ble_eq_true rfl), rfl, rfl⟩ (Nat.le_of_ble_eq_true rfl) dX10_why_29 (fun v5 => ?_)
      refine x_goto (pc := 32) (tgt := 36) dX10_why_32 (by decide) ?_
      exact x_iret (pc := 36) rfl rfl dX10_why_36 (Nat.zero_le _) (Nat.zero_le _)
  · refine x_iload_n (pc := 12) dX10_why_12 rfl ?_
    refine x_goto (pc := 13) (tgt := 36) dX10_why_13 (by decide) ?_
    exact x_iret (pc := 36) rfl rfl dX10_why_36 (Nat.zero_le _) (Nat.zero_le _)

set_option maxRecDepth 100000 in
set_option maxHeartbeats 4000000 in
theorem ct_X10_rows (p1 : Int32) (M : xM)  : Ct iX10_rows rIM [(.ref 170), (.int p1)] (xwd M) (fX10_rows p1 M) := by
  refine Ct.of' (L := [some (.ref 170), some (.int p1), none, none, none]) 3 rfl (by decide +kernel) (Nat.le_of_ble_eq_true rfl) rfl ?_
  unfold fX10_rows
  refine x_iconst (pc := 0) (a := 0) dX10_rows_0 (by decide) ?_
  refine x_istore_n (pc := 1) (L' := [some (.ref 170), some (.int p1), some (.int (0:Int32)), none, none]) dX10_rows_1 (Nat.le_of_ble_eq_true rfl) rfl rfl ?_
  refine x_iconst (pc := 2) (a := 0) dX10_rows_2 (by decide) ?_
  refine x_istore_n (pc := 3) (L' := [some (.ref 170), some (.int p1), some (.int (0:Int32)), some (.int (0:Int32)), none]) dX10_rows_3 (Nat.le_of_ble_eq_true rfl) rfl rfl ?_
  refine SP.mask (pc := 4) [true, true, true, true, false] (L' := [some (.ref 170), some (.int p1), some (.int (0:Int32)), some (.int (0:Int32)), none]) rfl ?_
  refine SP.lp (pc := 4) (fun (s1 : (Int32 × Int32 × xM)) => [some (.ref 170), some (.int p1), some (.int s1.1), some (.int s1.2.1), none]) (fun (s1 : (Int32 × Int32 × xM)) => xwd s1.2.2) (fun s1 kk2 hkk2 => ?_) xfu ((0:Int32), (0:Int32), M)
  try dsimp only
  refine x_iload_n (pc := 4) dX10_rows_4 rfl ?_
  refine x_bipush (pc := 5) (a := 16) dX10_rows_5 (by decide) ?_
  refine x_icmp_ge (pc := 7) (tgt := 118) dX10_rows_7 (by decide) (fun h3 => ?_) (fun h3 => ?_)
  · refine x_iload_n (pc := 118) dX10_rows_118 rfl ?_
    exact x_iret (pc := 119) rfl rfl dX10_rows_119 (Nat.zero_le _) (Nat.zero_le _)
  · refine x_iload_n (pc := 10) dX10_rows_10 rfl ?_
    refine x_iload_n (pc := 11) dX10_rows_11 rfl ?_
    refine x_icmp_eq (pc := 12) (tgt := 112) dX10_rows_12 (by decide) (fun h4 => ?_) (fun h4 => ?_)
    · refine x_iinc (pc := 112) (b := (s1.2.1 + 1)) (L' := [some (.ref 170), some (.int p1), some (.int s1.1), some (.int (s1.2.1 + 1)), none]) dX10_rows_112 rfl rfl (Nat.le_of_ble_eq_true rfl) rfl rfl ?_
      refine x_goto (pc := 115) (tgt := 4) dX10_rows_115 (by decide) ?_
      have hz := hkk2 (s1.1, (s1.2.1 + 1), s1.2.2)
      try dsimp only at hz
      exact hz
    · refine x_aload_n (pc := 15) dX10_rows_15 rfl ?_
      refine x_iload_n (pc := 16) dX10_rows_16 rfl ?_
      refine cV_I (pc := 17) (As := [(.int s1.2.1)]) (rest := []) (ct_X10_isGauge s1.2.1 s1.2.2) rfl xC10 rfl (by decide) ml_X10_103 meX10_isGauge rfl ⟨prX10_isGauge, (Nat.le_of_ble_eq_true rfl), (Nat.le_of_ble_eq_true rfl), rfl, rfl⟩ (Nat.le_of_ble_eq_true rfl) dX10_rows_17 (fun v5 => ?_)
      refine x_if_ne (pc := 20) (tgt := 26) dX10_rows_20 (by decide) (fun h6 => ?_) (fun h6 => ?_)
      · refine x_iload_n (pc := 26) dX10_rows_26 rfl ?_
        refine x_istore (pc := 27) (L' := [some (.ref 170), some (.int p1), some (.int s1.1), some (.int s1.2.1), some (.int s1.1)]) dX10_rows_27 (Nat.le_of_ble_eq_true rfl) rfl rfl ?_
        refine SP.mask (pc := 29) [true, true, true, true, true] (L' := [some (.ref 170), some (.int p1), some (.int s1.1), some (.int s1.2.1), some (.int s1.1)]) rfl ?_
        refine SP.lp (pc := 29) (fun (s7 : (Int32 × xM)) => [some (.ref 170), some (.int p1), some (.int s1.1), some (.int s1.2.1), some (.int s7.1)]) (fun (s7 : (Int32 × xM)) => xwd s7.2) (fun s7 kk8 hkk8 => ?_) xfu (s1.1, s1.2.2)
        try dsimp only
        refine x_iload (pc := 29) dX10_rows_29 rfl ?_
        refine SP.jn 101 (fun (s10 : Unit) => [some (.ref 170), some (.int p1), some (.int s1.1), some (.int s1.2.1), some (.int s7.1)]) (fun (s10 : Unit) => []) (fun (s10 : Unit) => xwd s7.2) (fun kk9 hkk9 => ?_) (fun s10 => ?_)
        · try dsimp only
          refine x_if_le (pc := 31) (tgt := 101) dX10_rows_31 (by decide) (fun h11 => ?_) (fun h11 => ?_)
          · have hz := hkk9 ()
            try dsimp only at hz
            exact hz
          · refine x_aload_n (pc := 34) dX10_rows_34 rfl ?_
            refine x_aload_n (pc := 35) dX10_rows_35 rfl ?_
            refine m_getR (pc := 36) (t := 187) xC10 22 fl_X10_72 rfl (by decide) rfl (by decide) rfl dX10_rows_36 ?_
            refine x_iload (pc := 39) dX10_rows_39 rfl ?_
            refine x_iconst (pc := 41) (a := 1) dX10_rows_41 (by decide) ?_
            refine x_isub (pc := 42) dX10_rows_42 ?_
            refine m_iald (pc := 43) rfl rfl dX10_rows_43 (fun hb12 => ?_)
            refine x_aload_n (pc := 44) dX10_rows_44 rfl ?_
            refine m_getR (pc := 45) (t := 172) xC10 1 fl_X10_13 rfl (by decide) rfl (by decide) rfl dX10_rows_45 ?_
            refine x_iload_n (pc := 48) dX10_rows_48 rfl ?_
            refine m_iald (pc := 49) rfl rfl dX10_rows_49 (fun hb13 => ?_)
            refine x_aload_n (pc := 50) dX10_rows_50 rfl ?_
            refine m_getR (pc := 51) (t := 173) xC10 2 fl_X10_16 rfl (by decide) rfl (by decide) rfl dX10_rows_51 ?_
            refine x_iload_n (pc := 54) dX10_rows_54 rfl ?_
            refine m_iald (pc := 55) rfl rfl dX10_rows_55 (fun hb14 => ?_)
            refine cV_I (pc := 56) (As := [(.int (s7.2.1 187 (s7.1 - (1:Int32)).toNatClampNeg)), (.int (s7.2.1 172 p1.toNatClampNeg)), (.int (s7.2.1 173 p1.toNatClampNeg))]) (rest := []) (ct_X10_far (s7.2.1 187 (s7.1 - (1:Int32)).toNatClampNeg) (s7.2.1 172 p1.toNatClampNeg) (s7.2.1 173 p1.toNatClampNeg) s7.2) rfl xC10 rfl (by decide) ml_X10_119 meX10_far rfl ⟨prX10_far, (Nat.le_of_ble_eq_true rfl), (Nat.le_of_ble_eq_true rfl), rfl, rfl⟩ (Nat.le_of_ble_eq_true rfl) dX10_rows_56 (fun v15 => ?_)
            refine x_aload_n (pc := 59) dX10_rows_59 rfl ?_
            refine x_iload_n (pc := 60) dX10_rows_60 rfl ?_
            refine x_aload_n (pc := 61) dX10_rows_61 rfl ?_
            refine m_getR (pc := 62) (t := 172) xC10 1 fl_X10_13 rfl (by decide) rfl (by decide) rfl dX10_rows_62 ?_
            refine x_iload_n (pc := 65) dX10_rows_65 rfl ?_
            refine m_iald (pc := 66) rfl rfl dX10_rows_66 (fun hb16 => ?_)
            refine x_aload_n (pc := 67) dX10_rows_67 rfl ?_
            refine m_getR (pc := 68) (t := 173) xC10 2 fl_X10_16 rfl (by decide) rfl (by decide) rfl dX10_rows_68 ?_
            refine x_iload_n (pc := 71) dX10_rows_71 rfl ?_
            refine m_iald (pc := 72) rfl rfl dX10_rows_72 (fun hb17 => ?_)
            refine cV_I (pc := 73) (As := [(.int s1.2.1), (.int (s7.2.1 172 p1.toNatClampNeg)), (.int (s7.2.1 173 p1.toNatClampNeg))]) (rest := [(.int v15)]) (ct_X10_far s1.2.1 (s7.2.1 172 p1.toNatClampNeg) (s7.2.1 173 p1.toNatClampNeg) s7.2) rfl xC10 rfl (by decide) ml_X10_119 meX10_far rfl ⟨prX10_far, (Nat.le_of_ble_eq_true rfl), (Nat.le_of_ble_eq_true rfl), rfl, rfl⟩ (Nat.le_of_ble_eq_true rfl) dX10_rows_73 (fun v18 => ?_)
            refine x_icmp_le (pc := 76) (tgt := 101) dX10_rows_76 (by decide) (fun h19 => ?_) (fun h19 => ?_)
            · have hz := hkk9 ()
              try dsimp only at hz
              exact hz
            · refine x_aload_n (pc := 79) dX10_rows_79 rfl ?_
              refine m_getR (pc := 80) (t := 187) xC10 22 fl_X10_72 rfl (by decide) rfl (by decide) rfl dX10_rows_80 ?_
              refine x_iload (pc := 83) dX10_rows_83 rfl ?_
              refine x_aload_n (pc := 85) dX10_rows_85 rfl ?_
              refine m_getR (pc := 86) (t := 187) xC10 22 fl_X10_72 rfl (by decide) rfl (by decide) rfl dX10_rows_86 ?_
              refine x_iload (pc := 89) dX10_rows_89 rfl ?_
              refine x_iconst (pc := 91) (a := 1) dX10_rows_91 (by decide) ?_
              refine x_isub (pc := 92) dX10_rows_92 ?_
              refine m_iald (pc := 93) rfl rfl dX10_rows_93 (fun hb20 => ?_)
              refine m_iast (pc := 94) rfl rfl dX10_rows_94 (fun hb21 => ?_)
              refine SP.bdm (fun m22 e23 => ?_)
              refine x_iinc (pc := 95) (b := (s7.1 + (-1))) (L' := [some (.ref 170), some (.int p1), some (.int s1.1), some (.int s1.2.1), some (.int (s7.1 + (-1)))]) dX10_rows_95 rfl rfl (Nat.le_of_ble_eq_true rfl) rfl rfl ?_
              refine x_goto (pc := 98) (tgt := 29) dX10_rows_98 (by decide) ?_
              have hz := hkk8 ((s7.1 + (-1)), m22)
              try dsimp only at hz
              exact hz
        · try dsimp only
          refine x_aload_n (pc := 101) dX10_rows_101 rfl ?_
          refine m_getR (pc := 102) (t := 187) xC10 22 fl_X10_72 rfl (by decide) rfl (by decide) rfl dX10_rows_102 ?_
          refine x_iload (pc := 105) dX10_rows_105 rfl ?_
          refine x_iload_n (pc := 107) dX10_rows_107 rfl ?_
          refine m_iast (pc := 108) rfl rfl dX10_rows_108 (fun hb24 => ?_)
          refine SP.bdm (fun m25 e26 => ?_)
          refine x_iinc (pc := 109) (b := (s1.1 + 1)) (L' := [some (.ref 170), some (.int p1), some (.int (s1.1 + 1)), some (.int s1.2.1), some (.int s7.1)]) dX10_rows_109 rfl rfl (Nat.le_of_ble_eq_true rfl) rfl rfl ?_
          refine x_iinc (pc := 112) (b := (s1.2.1 + 1)) (L' := [some (.ref 170), some (.int p1), some (.int (s1.1 + 1)), some (.int (s1.2.1 + 1)), some (.int s7.1)]) dX10_rows_112 rfl rfl (Nat.le_of_ble_eq_true rfl) rfl rfl ?_
          refine x_goto (pc := 115) (tgt := 4) dX10_rows_115 (by decide) ?_
          refine SP.mask (pc := 4) [true, true, true, true, false] (L' := [some (.ref 170), some (.int p1), some (.int (s1.1 + 1)), some (.int (s1.2.1 + 1)), none]) rfl ?_
          have hz := hkk2 ((s1.1 + 1), (s1.2.1 + 1), m25)
          try dsimp only at hz
          exact hz
      · refine x_goto (pc := 23) (tgt := 112) dX10_rows_23 (by decide) ?_
        refine x_iinc (pc := 112) (b := (s1.2.1 + 1)) (L' := [some (.ref 170), some (.int p1), some (.int s1.1), some (.int (s1.2.1 + 1)), none]) dX10_rows_112 rfl rfl (Nat.le_of_ble_eq_true rfl) rfl rfl ?_
        refine x_goto (pc := 115) (tgt := 4) dX10_rows_115 (by decide) ?_
        have hz := hkk2 (s1.1, (s1.2.1 + 1), s1.2.2)
        try dsimp only at hz
        exact hz

set_option maxRecDepth 100000 in
set_option maxHeartbeats 4000000 in
theorem ct_X10_bys (p1 : Int32) (p2 : Int32) (M : xM)  : Ct iX10_bys rIM [(.ref 170), (.int p1), (.int p2)] (xwd M) (fX10_bys p1 p2 M) := by
  refine Ct.of' (L := [some (.ref 170), some (.int p1), some (.int p2), none, none, none]) 3 rfl (by decide +kernel) (Nat.le_of_ble_eq_true rfl) rfl ?_
  unfold fX10_bys
  refine x_aload_n (pc := 0) dX10_bys_0 rfl ?_
  refine x_iload_n (pc := 1) dX10_bys_1 rfl ?_
  refine cV_IM (pc := 2) (As := [(.int p1)]) (rest := []) (ct_X10_rows p1 M) rfl xC10 rfl (by decide) ml_X10_125 meX10_rows rfl ⟨prX10_rows, (Nat.le_of_ble_eq_true rfl), (Nat.le_of_ble_eq_true rfl), rfl, rfl⟩ (Nat.le_of_ble_eq_true rfl) dX10_bys_2 (fun q1 => ?_)
  refine x_istore_n (pc := 5) (L' := [some (.ref 170), some (.int p1), some (.int p2), some (.int q1.1), none, none]) dX10_bys_5 (Nat.le_of_ble_eq_true rfl) rfl rfl ?_
  refine x_iconst (pc := 6) (a := 0) dX10_bys_6 (by decide) ?_
  refine x_istore (pc := 7) (L' := [some (.ref 170), some (.int p1), some (.int p2), some (.int q1.1), some (.int (0:Int32)), none]) dX10_bys_7 (Nat.le_of_ble_eq_true rfl) rfl rfl ?_
  refine x_iconst (pc := 9) (a := 0) dX10_bys_9 (by decide) ?_
  refine x_istore (pc := 10) (L' := [some (.ref 170), some (.int p1), some (.int p2), some (.int q1.1), some (.int (0:Int32)), some (.int (0:Int32))]) dX10_bys_10 (Nat.le_of_ble_eq_true rfl) rfl rfl ?_
  refine SP.mask (pc := 12) [true, false, true, true, true, true] (L' := [some (.ref 170), none, some (.int p2), some (.int q1.1), some (.int (0:Int32)), some (.int (0:Int32))]) rfl ?_
  refine SP.lp (pc := 12) (fun (s2 : (Int32 × Int32 × xM)) => [some (.ref 170), none, some (.int p2), some (.int q1.1), some (.int s2.1), some (.int s2.2.1)]) (fun (s2 : (Int32 × Int32 × xM)) => xwd s2.2.2) (fun s2 kk3 hkk3 => ?_) xfu ((0:Int32), (0:Int32), q1.2)
  try dsimp only
  refine x_iload (pc := 12) dX10_bys_12 rfl ?_
  refine x_iload_n (pc := 14) dX10_bys_14 rfl ?_
  refine x_icmp_ge (pc := 15) (tgt := 66) dX10_bys_15 (by decide) (fun h4 => ?_) (fun h4 => ?_)
  · refine x_iload (pc := 66) dX10_bys_66 rfl ?_
    exact x_iret (pc := 68) rfl rfl dX10_bys_68 (Nat.zero_le _) (Nat.zero_le _)
  · refine x_iload (pc := 18) dX10_bys_18 rfl ?_
    refine x_iconst (pc := 20) (a := 4) dX10_bys_20 (by decide) ?_
    refine x_icmp_ge (pc := 21) (tgt := 66) dX10_bys_21 (by decide) (fun h5 => ?_) (fun h5 => ?_)
    · refine x_iload (pc := 66) dX10_bys_66 rfl ?_
      exact x_iret (pc := 68) rfl rfl dX10_bys_68 (Nat.zero_le _) (Nat.zero_le _)
    · refine x_aload_n (pc := 24) dX10_bys_24 rfl ?_
      refine x_aload_n (pc := 25) dX10_bys_25 rfl ?_
      refine m_getR (pc := 26) (t := 187) xC10 22 fl_X10_72 rfl (by decide) rfl (by decide) rfl dX10_bys_26 ?_
      refine x_iload (pc := 29) dX10_bys_29 rfl ?_
      refine m_iald (pc := 31) rfl rfl dX10_bys_31 (fun hb6 => ?_)
      refine x_iload_n (pc := 32) dX10_bys_32 rfl ?_
      refine cV_I (pc := 33) (As := [(.int (s2.2.2.1 187 s2.2.1.toNatClampNeg)), (.int p2)]) (rest := []) (ct_X10_trusted (s2.2.2.1 187 s2.2.1.toNatClampNeg) p2 s2.2.2) rfl xC10 rfl (by decide) ml_X10_129 meX10_trusted rfl ⟨prX10_trusted, (Nat.le_of_ble_eq_true rfl), (Nat.le_of_ble_eq_true rfl), rfl, rfl⟩ (Nat.le_of_ble_eq_true rfl) dX10_bys_33 (fun v7 => ?_)
      refine x_iconst (pc := 36) (a := -1) dX10_bys_36 (by decide) ?_
      refine x_icmp_ne (pc := 37) (tgt := 43) dX10_bys_37 (by decide) (fun h8 => ?_) (fun h8 => ?_)
      · refine x_aload_n (pc := 43) dX10_bys_43 rfl ?_
        refine m_getR (pc := 44) (t := 188) xC10 23 fl_X10_75 rfl (by decide) rfl (by decide) rfl dX10_bys_44 ?_
        refine x_iload (pc := 47) dX10_bys_47 rfl ?_
        refine x_aload_n (pc := 49) dX10_bys_49 rfl ?_
        refine m_getR (pc := 50) (t := 187) xC10 22 fl_X10_72 rfl (by decide) rfl (by decide) rfl dX10_bys_50 ?_
        refine x_iload (pc := 53) dX10_bys_53 rfl ?_
        refine m_iald (pc := 55) rfl rfl dX10_bys_55 (fun hb9 => ?_)
        refine m_iast (pc := 56) rfl rfl dX10_bys_56 (fun hb10 => ?_)
        refine SP.bdm (fun m11 e12 => ?_)
        refine x_iinc (pc := 57) (b := (s2.1 + 1)) (L' := [some (.ref 170), none, some (.int p2), some (.int q1.1), some (.int (s2.1 + 1)), some (.int s2.2.1)]) dX10_bys_57 rfl rfl (Nat.le_of_ble_eq_true rfl) rfl rfl ?_
        refine x_iinc (pc := 60) (b := (s2.2.1 + 1)) (L' := [some (.ref 170), none, some (.int p2), some (.int q1.1), some (.int (s2.1 + 1)), some (.int (s2.2.1 + 1))]) dX10_bys_60 rfl rfl (Nat.le_of_ble_eq_true rfl) rfl rfl ?_
        refine x_goto (pc := 63) (tgt := 12) dX10_bys_63 (by decide) ?_
        have hz := hkk3 ((s2.1 + 1), (s2.2.1 + 1), m11)
        try dsimp only at hz
        exact hz
      · refine x_goto (pc := 40) (tgt := 60) dX10_bys_40 (by decide) ?_
        refine x_iinc (pc := 60) (b := (s2.2.1 + 1)) (L' := [some (.ref 170), none, some (.int p2), some (.int q1.1), some (.int s2.1), some (.int (s2.2.1 + 1))]) dX10_bys_60 rfl rfl (Nat.le_of_ble_eq_true rfl) rfl rfl ?_
        refine x_goto (pc := 63) (tgt := 12) dX10_bys_63 (by decide) ?_
        have hz := hkk3 (s2.1, (s2.2.1 + 1), s2.2.2)
        try dsimp only at hz
        exact hz

set_option maxRecDepth 100000 in
set_option maxHeartbeats 4000000 in
theorem ct_X10_mayMend (p1 : Int32) (p2 : Int32) (M : xM)  : Ct iX10_mayMend (rI M) [(.ref 170), (.int p1), (.int p2)] (xwd M) (fX10_mayMend p1 p2 M) := by
  refine Ct.of' (L := [some (.ref 170), some (.int p1), some (.int p2)]) 0 rfl (by decide +kernel) (Nat.le_of_ble_eq_true rfl) rfl ?_
  unfold fX10_mayMend
  refine x_aload_n (pc := 0) dX10_mayMend_0 rfl ?_
  refine m_getR (pc := 1) (t := 171) xC10 0 fl_X10_9 rfl (by decide) rfl (by decide) rfl dX10_mayMend_1 ?_
  refine x_iload_n (pc := 4) dX10_mayMend_4 rfl ?_
  refine m_iald (pc := 5) rfl rfl dX10_mayMend_5 (fun hb1 => ?_)
  refine x_iconst (pc := 6) (a := 3) dX10_mayMend_6 (by decide) ?_
  refine x_icmp_eq (pc := 7) (tgt := 47) dX10_mayMend_7 (by decide) (fun h2 => ?_) (fun h2 => ?_)
  · refine x_iconst (pc := 47) (a := 0) dX10_mayMend_47 (by decide) ?_
    exact x_zret (pc := 48) rfl (by decide) rfl dX10_mayMend_48 (Nat.zero_le _) (Nat.zero_le _)
  · refine x_iload_n (pc := 10) dX10_mayMend_10 rfl ?_
    refine x_aload_n (pc := 11) dX10_mayMend_11 rfl ?_
    refine m_getR (pc := 12) (t := 175) xC10 4 fl_X10_22 rfl (by decide) rfl (by decide) rfl dX10_mayMend_12 ?_
    refine x_iload_n (pc := 15) dX10_mayMend_15 rfl ?_
    refine m_iald (pc := 16) rfl rfl dX10_mayMend_16 (fun hb3 => ?_)
    refine x_bipush (pc := 17) (a := 55) dX10_mayMend_17 (by decide) ?_
    refine cS_I (pc := 19) (As := [(.int p2), (.int (M.1 175 p1.toNatClampNeg)), (.int (55:Int32))]) (rest := []) (ct_X10_isIn p2 (M.1 175 p1.toNatClampNeg) (55:Int32) M) rfl ml_X10_85 meX10_isIn rfl ⟨prX10_isIn, (Nat.le_of_ble_eq_true rfl), (Nat.le_of_ble_eq_true rfl), rfl, rfl⟩ (Nat.le_of_ble_eq_true rfl) dX10_mayMend_19 (fun v4 => ?_)
    refine x_if_eq (pc := 22) (tgt := 47) dX10_mayMend_22 (by decide) (fun h5 => ?_) (fun h5 => ?_)
    · refine x_iconst (pc := 47) (a := 0) dX10_mayMend_47 (by decide) ?_
      exact x_zret (pc := 48) rfl (by decide) rfl dX10_mayMend_48 (Nat.zero_le _) (Nat.zero_le _)
    · refine x_iload_n (pc := 25) dX10_mayMend_25 rfl ?_
      refine x_aload_n (pc := 26) dX10_mayMend_26 rfl ?_
      refine m_getI (pc := 27) xC10 15 fl_X10_89 rfl (by decide) rfl (by decide) rfl dX10_mayMend_27 ?_
      refine x_icmp_gt (pc := 30) (tgt := 47) dX10_mayMend_30 (by decide) (fun h6 => ?_) (fun h6 => ?_)
      · refine x_iconst (pc := 47) (a := 0) dX10_mayMend_47 (by decide) ?_
        exact x_zret (pc := 48) rfl (by decide) rfl dX10_mayMend_48 (Nat.zero_le _) (Nat.zero_le _)
      · refine x_aload_n (pc := 33) dX10_mayMend_33 rfl ?_
        refine x_iload_n (pc := 34) dX10_mayMend_34 rfl ?_
        refine x_iload_n (pc := 35) dX10_mayMend_35 rfl ?_
        refine cV_I (pc := 36) (As := [(.int p1), (.int p2)]) (rest := []) (ct_X10_trusted p1 p2 M) rfl xC10 rfl (by decide) ml_X10_129 meX10_trusted rfl ⟨prX10_trusted, (Nat.le_of_ble_eq_true rfl), (Nat.le_of_ble_eq_true rfl), rfl, rfl⟩ (Nat.le_of_ble_eq_true rfl) dX10_mayMend_36 (fun v7 => ?_)
        refine x_iconst (pc := 39) (a := -1) dX10_mayMend_39 (by decide) ?_
        refine x_icmp_ne (pc := 40) (tgt := 47) dX10_mayMend_40 (by decide) (fun h8 => ?_) (fun h8 => ?_)
        · refine x_iconst (pc := 47) (a := 0) dX10_mayMend_47 (by decide) ?_
          exact x_zret (pc := 48) rfl (by decide) rfl dX10_mayMend_48 (Nat.zero_le _) (Nat.zero_le _)
        · refine x_iconst (pc := 43) (a := 1) dX10_mayMend_43 (by decide) ?_
          refine x_goto (pc := 44) (tgt := 48) dX10_mayMend_44 (by decide) ?_
          exact x_zret (pc := 48) rfl (by decide) rfl dX10_mayMend_48 (Nat.zero_le _) (Nat.zero_le _)

set_option maxRecDepth 100000 in
set_option maxHeartbeats 4000000 in
theorem ct_X10_mended (p1 : Int32) (p2 : Int32) (M : xM)  : Ct iX10_mended rIM [(.ref 170), (.int p1), (.int p2)] (xwd M) (fX10_mended p1 p2 M) := by
  refine Ct.of' (L := [some (.ref 170), some (.int p1), some (.int p2), none, none, none, none, none, none, none, none, none, none, none, none, none, none]) 14 rfl (by decide +kernel) (Nat.le_of_ble_eq_true rfl) rfl ?_
  unfold fX10_mended
  refine x_aload_n (pc := 0) dX10_mended_0 rfl ?_
  refine x_iload_n (pc := 1) dX10_mended_1 rfl ?_
  refine x_iload_n (pc := 2) dX10_mended_2 rfl ?_
  refine cV_I (pc := 3) (As := [(.int p1), (.int p2)]) (rest := []) (ct_X10_mayMend p1 p2 M) rfl xC10 rfl (by decide) ml_X10_132 meX10_mayMend rfl ⟨prX10_mayMend, (Nat.le_of_ble_eq_true rfl), (Nat.le_of_ble_eq_true rfl), rfl, rfl⟩ (Nat.le_of_ble_eq_true rfl) dX10_mended_3 (fun v1 => ?_)
  refine x_if_ne (pc := 6) (tgt := 11) dX10_mended_6 (by decide) (fun h2 => ?_) (fun h2 => ?_)
  · refine x_aload_n (pc := 11) dX10_mended_11 rfl ?_
    refine x_iload_n (pc := 12) dX10_mended_12 rfl ?_
    refine x_iload_n (pc := 13) dX10_mended_13 rfl ?_
    refine cV_IM (pc := 14) (As := [(.int p1), (.int p2)]) (rest := []) (ct_X10_bys p1 p2 M) rfl xC10 rfl (by decide) ml_X10_136 meX10_bys rfl ⟨prX10_bys, (Nat.le_of_ble_eq_true rfl), (Nat.le_of_ble_eq_true rfl), rfl, rfl⟩ (Nat.le_of_ble_eq_true rfl) dX10_mended_14 (fun q3 => ?_)
    refine x_istore_n (pc := 17) (L' := [some (.ref 170), some (.int p1), some (.int p2), some (.int q3.1), none, none, none, none, none, none, none, none, none, none, none, none, none]) dX10_mended_17 (Nat.le_of_ble_eq_true rfl) rfl rfl ?_
    refine x_iload_n (pc := 18) dX10_mended_18 rfl ?_
    refine x_if_ne (pc := 19) (tgt := 24) dX10_mended_19 (by decide) (fun h4 => ?_) (fun h4 => ?_)
    · refine x_lconst (pc := 24) (a := 0) dX10_mended_24 (by decide) ?_
      refine x_lstore (pc := 25) (L' := [some (.ref 170), some (.int p1), some (.int p2), some (.int q3.1), some (.long (0:Int64)), none, none, none, none, none, none, none, none, none, none, none, none]) dX10_mended_25 (Nat.le_of_ble_eq_true rfl) rfl rfl ?_
      refine x_lconst (pc := 27) (a := 0) dX10_mended_27 (by decide) ?_
      refine x_lstore (pc := 28) (L' := [some (.ref 170), some (.int p1), some (.int p2), some (.int q3.1), some (.long (0:Int64)), none, some (.long (0:Int64)), none, none, none, none, none, none, none, none, none, none]) dX10_mended_28 (Nat.le_of_ble_eq_true rfl) rfl rfl ?_
      refine x_iconst (pc := 30) (a := 0) dX10_mended_30 (by decide) ?_
      refine x_istore (pc := 31) (L' := [some (.ref 170), some (.int p1), some (.int p2), some (.int q3.1), some (.long (0:Int64)), none, some (.long (0:Int64)), none, some (.int (0:Int32)), none, none, none, none, none, none, none, none]) dX10_mended_31 (Nat.le_of_ble_eq_true rfl) rfl rfl ?_
      refine SP.mask (pc := 33) [true, true, true, true, true, false, true, false, true, false, false, false, false, false, false, false, false] (L' := [some (.ref 170), some (.int p1), some (.int p2), some (.int q3.1), some (.long (0:Int64)), none, some (.long (0:Int64)), none, some (.int (0:Int32)), none, none, none, none, none, none, none, none]) rfl ?_
      refine SP.lp (pc := 33) (fun (s5 : (Int64 × Int64 × Int32)) => [some (.ref 170), some (.int p1), some (.int p2), some (.int q3.1), some (.long s5.1), none, some (.long s5.2.1), none, some (.int s5.2.2), none, none, none, none, none, none, none, none]) (fun (s5 : (Int64 × Int64 × Int32)) => xwd q3.2) (fun s5 kk6 hkk6 => ?_) xfu ((0:Int64), (0:Int64), (0:Int32))
      try dsimp only
      refine x_iload (pc := 33) dX10_mended_33 rfl ?_
      refine x_iload_n (pc := 35) dX10_mended_35 rfl ?_
      refine x_icmp_ge (pc := 36) (tgt := 253) dX10_mended_36 (by decide) (fun h7 => ?_) (fun h7 => ?_)
      · refine x_lload (pc := 253) dX10_mended_253 rfl ?_
        refine x_lload (pc := 255) dX10_mended_255 rfl ?_
        refine x_ldc2 (pc := 257) (a := 1000) dX10_mended_257 rfl (xword 908 (by decide +kernel) rfl) ?_
        refine x_lmul (pc := 260) dX10_mended_260 ?_
        refine x_ldiv (pc := 261) dX10_mended_261 (fun hb8 => ?_)
        refine x_l2i (pc := 262) dX10_mended_262 ?_
        exact x_iret (pc := 263) rfl rfl dX10_mended_263 (Nat.zero_le _) (Nat.zero_le _)
      · refine x_aload_n (pc := 39) dX10_mended_39 rfl ?_
        refine m_getR (pc := 40) (t := 188) xC10 23 fl_X10_75 rfl (by decide) rfl (by decide) rfl dX10_mended_40 ?_
        refine x_iload (pc := 43) dX10_mended_43 rfl ?_
        refine m_iald (pc := 45) rfl rfl dX10_mended_45 (fun hb9 => ?_)
        refine SP.bdi (fun x10 e11 => ?_)
        refine x_istore (pc := 46) (L' := [some (.ref 170), some (.int p1), some (.int p2), some (.int q3.1), some (.long s5.1), none, some (.long s5.2.1), none, some (.int s5.2.2), some (.int x10), none, none, none, none, none, none, none]) dX10_mended_46 (Nat.le_of_ble_eq_true rfl) rfl rfl ?_
        refine x_lconst (pc := 48) (a := 0) dX10_mended_48 (by decide) ?_
        refine x_lstore (pc := 49) (L' := [some (.ref 170), some (.int p1), some (.int p2), some (.int q3.1), some (.long s5.1), none, some (.long s5.2.1), none, some (.int s5.2.2), some (.int x10), some (.long (0:Int64)), none, none, none, none, none, none]) dX10_mended_49 (Nat.le_of_ble_eq_true rfl) rfl rfl ?_
        refine x_lconst (pc := 51) (a := 0) dX10_mended_51 (by decide) ?_
        refine x_lstore (pc := 52) (L' := [some (.ref 170), some (.int p1), some (.int p2), some (.int q3.1), some (.long s5.1), none, some (.long s5.2.1), none, some (.int s5.2.2), some (.int x10), some (.long (0:Int64)), none, some (.long (0:Int64)), none, none, none, none]) dX10_mended_52 (Nat.le_of_ble_eq_true rfl) rfl rfl ?_
        refine x_iconst (pc := 54) (a := 0) dX10_mended_54 (by decide) ?_
        refine x_istore (pc := 55) (L' := [some (.ref 170), some (.int p1), some (.int p2), some (.int q3.1), some (.long s5.1), none, some (.long s5.2.1), none, some (.int s5.2.2), some (.int x10), some (.long (0:Int64)), none, some (.long (0:Int64)), none, some (.int (0:Int32)), none, none]) dX10_mended_55 (Nat.le_of_ble_eq_true rfl) rfl rfl ?_
        refine SP.mask (pc := 57) [true, true, true, true, true, false, true, false, true, true, true, false, true, false, true, false, false] (L' := [some (.ref 170), some (.int p1), some (.int p2), some (.int q3.1), some (.long s5.1), none, some (.long s5.2.1), none, some (.int s5.2.2), some (.int x10), some (.long (0:Int64)), none, some (.long (0:Int64)), none, some (.int (0:Int32)), none, none]) rfl ?_
        refine SP.lp (pc := 57) (fun (s12 : (Int64 × Int64 × Int32)) => [some (.ref 170), some (.int p1), some (.int p2), some (.int q3.1), some (.long s5.1), none, some (.long s5.2.1), none, some (.int s5.2.2), some (.int x10), some (.long s12.1), none, some (.long s12.2.1), none, some (.int s12.2.2), none, none]) (fun (s12 : (Int64 × Int64 × Int32)) => xwd q3.2) (fun s12 kk13 hkk13 => ?_) xfu ((0:Int64), (0:Int64), (0:Int32))
        try dsimp only
        refine x_iload (pc := 57) dX10_mended_57 rfl ?_
        refine x_aload_n (pc := 59) dX10_mended_59 rfl ?_
        refine m_getI (pc := 60) xC10 15 fl_X10_89 rfl (by decide) rfl (by decide) rfl dX10_mended_60 ?_
        refine SP.jn 146 (fun (s15 : Unit) => [some (.ref 170), some (.int p1), some (.int p2), some (.int q3.1), some (.long s5.1), none, some (.long s5.2.1), none, some (.int s5.2.2), some (.int x10), some (.long s12.1), none, some (.long s12.2.1), none, none, none, none]) (fun (s15 : Unit) => []) (fun (s15 : Unit) => xwd q3.2) (fun kk14 hkk14 => ?_) (fun s15 => ?_)
        · try dsimp only
          refine x_icmp_ge (pc := 63) (tgt := 146) dX10_mended_63 (by decide) (fun h16 => ?_) (fun h16 => ?_)
          · refine SP.mask (pc := 146) [true, true, true, true, true, false, true, false, true, true, true, false, true, false, false, false, false] (L' := [some (.ref 170), some (.int p1), some (.int p2), some (.int q3.1), some (.long s5.1), none, some (.long s5.2.1), none, some (.int s5.2.2), some (.int x10), some (.long s12.1), none, some (.long s12.2.1), none, none, none, none]) rfl ?_
            have hz := hkk14 ()
            try dsimp only at hz
            exact hz
          · refine x_iload (pc := 66) dX10_mended_66 rfl ?_
            refine x_bipush (pc := 68) (a := 56) dX10_mended_68 (by decide) ?_
            refine x_icmp_ge (pc := 70) (tgt := 146) dX10_mended_70 (by decide) (fun h17 => ?_) (fun h17 => ?_)
            · refine SP.mask (pc := 146) [true, true, true, true, true, false, true, false, true, true, true, false, true, false, false, false, false] (L' := [some (.ref 170), some (.int p1), some (.int p2), some (.int q3.1), some (.long s5.1), none, some (.long s5.2.1), none, some (.int s5.2.2), some (.int x10), some (.long s12.1), none, some (.long s12.2.1), none, none, none, none]) rfl ?_
              have hz := hkk14 ()
              try dsimp only at hz
              exact hz
            · refine x_aload_n (pc := 73) dX10_mended_73 rfl ?_
              refine x_iload_n (pc := 74) dX10_mended_74 rfl ?_
              refine x_iload (pc := 75) dX10_mended_75 rfl ?_
              refine cV_I (pc := 77) (As := [(.int p1), (.int s12.2.2)]) (rest := []) (ct_X10_trusted p1 s12.2.2 q3.2) rfl xC10 rfl (by decide) ml_X10_129 meX10_trusted rfl ⟨prX10_trusted, (Nat.le_of_ble_eq_true rfl), (Nat.le_of_ble_eq_true rfl), rfl, rfl⟩ (Nat.le_of_ble_eq_true rfl) dX10_mended_77 (fun v18 => ?_)
              refine x_istore (pc := 80) (L' := [some (.ref 170), some (.int p1), some (.int p2), some (.int q3.1), some (.long s5.1), none, some (.long s5.2.1), none, some (.int s5.2.2), some (.int x10), some (.long s12.1), none, some (.long s12.2.1), none, some (.int s12.2.2), some (.int v18), none]) dX10_mended_80 (Nat.le_of_ble_eq_true rfl) rfl rfl ?_
              refine x_aload_n (pc := 82) dX10_mended_82 rfl ?_
              refine x_iload (pc := 83) dX10_mended_83 rfl ?_
              refine x_iload (pc := 85) dX10_mended_85 rfl ?_
              refine cV_I (pc := 87) (As := [(.int x10), (.int s12.2.2)]) (rest := []) (ct_X10_trusted x10 s12.2.2 q3.2) rfl xC10 rfl (by decide) ml_X10_129 meX10_trusted rfl ⟨prX10_trusted, (Nat.le_of_ble_eq_true rfl), (Nat.le_of_ble_eq_true rfl), rfl, rfl⟩ (Nat.le_of_ble_eq_true rfl) dX10_mended_87 (fun v19 => ?_)
              refine x_istore (pc := 90) (L' := [some (.ref 170), some (.int p1), some (.int p2), some (.int q3.1), some (.long s5.1), none, some (.long s5.2.1), none, some (.int s5.2.2), some (.int x10), some (.long s12.1), none, some (.long s12.2.1), none, some (.int s12.2.2), some (.int v18), some (.int v19)]) dX10_mended_90 (Nat.le_of_ble_eq_true rfl) rfl rfl ?_
              refine x_lload (pc := 92) dX10_mended_92 rfl ?_
              refine x_iload (pc := 94) dX10_mended_94 rfl ?_
              refine x_iconst (pc := 96) (a := -1) dX10_mended_96 (by decide) ?_
              refine SP.jn 113 (fun (s21 : Int64) => [some (.ref 170), some (.int p1), some (.int p2), some (.int q3.1), some (.long s5.1), none, some (.long s5.2.1), none, some (.int s5.2.2), some (.int x10), none, none, some (.long s12.2.1), none, some (.int s12.2.2), some (.int v18), some (.int v19)]) (fun (s21 : Int64) => [(.long s21), (.long s12.1)]) (fun (s21 : Int64) => xwd q3.2) (fun kk20 hkk20 => ?_) (fun s21 => ?_)
              · try dsimp only
                refine SP.jn 106 (fun (s23 : Unit) => [some (.ref 170), some (.int p1), some (.int p2), some (.int q3.1), some (.long s5.1), none, some (.long s5.2.1), none, some (.int s5.2.2), some (.int x10), none, none, some (.long s12.2.1), none, some (.int s12.2.2), some (.int v18), some (.int v19)]) (fun (s23 : Unit) => [(.long s12.1)]) (fun (s23 : Unit) => xwd q3.2) (fun kk22 hkk22 => ?_) (fun s23 => ?_)
                · try dsimp only
                  refine x_icmp_eq (pc := 97) (tgt := 106) dX10_mended_97 (by decide) (fun h24 => ?_) (fun h24 => ?_)
                  · refine SP.mask (pc := 106) [true, true, true, true, true, false, true, false, true, true, false, false, true, false, true, true, true] (L' := [some (.ref 170), some (.int p1), some (.int p2), some (.int q3.1), some (.long s5.1), none, some (.long s5.2.1), none, some (.int s5.2.2), some (.int x10), none, none, some (.long s12.2.1), none, some (.int s12.2.2), some (.int v18), some (.int v19)]) rfl ?_
                    have hz := hkk22 ()
                    try dsimp only at hz
                    exact hz
                  · refine x_iload (pc := 100) dX10_mended_100 rfl ?_
                    refine x_iconst (pc := 102) (a := -1) dX10_mended_102 (by decide) ?_
                    refine x_icmp_ne (pc := 103) (tgt := 110) dX10_mended_103 (by decide) (fun h25 => ?_) (fun h25 => ?_)
                    · refine x_iload (pc := 110) dX10_mended_110 rfl ?_
                      refine x_i2l (pc := 112) dX10_mended_112 ?_
                      refine SP.mask (pc := 113) [true, true, true, true, true, false, true, false, true, true, false, false, true, false, true, true, true] (L' := [some (.ref 170), some (.int p1), some (.int p2), some (.int q3.1), some (.long s5.1), none, some (.long s5.2.1), none, some (.int s5.2.2), some (.int x10), none, none, some (.long s12.2.1), none, some (.int s12.2.2), some (.int v18), some (.int v19)]) rfl ?_
                      have hz := hkk20 v18.toInt64
                      try dsimp only at hz
                      exact hz
                    · refine SP.mask (pc := 106) [true, true, true, true, true, false, true, false, true, true, false, false, true, false, true, true, true] (L' := [some (.ref 170), some (.int p1), some (.int p2), some (.int q3.1), some (.long s5.1), none, some (.long s5.2.1), none, some (.int s5.2.2), some (.int x10), none, none, some (.long s12.2.1), none, some (.int s12.2.2), some (.int v18), some (.int v19)]) rfl ?_
                      have hz := hkk22 ()
                      try dsimp only at hz
                      exact hz
                · try dsimp only
                  refine x_lconst (pc := 106) (a := 0) dX10_mended_106 (by decide) ?_
                  refine x_goto (pc := 107) (tgt := 113) dX10_mended_107 (by decide) ?_
                  have hz := hkk20 (0:Int64)
                  try dsimp only at hz
                  exact hz
              · try dsimp only
                refine x_ladd (pc := 113) dX10_mended_113 ?_
                refine SP.bdl (fun x26 e27 => ?_)
                refine x_lstore (pc := 114) (L' := [some (.ref 170), some (.int p1), some (.int p2), some (.int q3.1), some (.long s5.1), none, some (.long s5.2.1), none, some (.int s5.2.2), some (.int x10), some (.long x26), none, some (.long s12.2.1), none, some (.int s12.2.2), some (.int v18), some (.int v19)]) dX10_mended_114 (Nat.le_of_ble_eq_true rfl) rfl rfl ?_
                refine x_lload (pc := 116) dX10_mended_116 rfl ?_
                refine x_iload (pc := 118) dX10_mended_118 rfl ?_
                refine x_iconst (pc := 120) (a := -1) dX10_mended_120 (by decide) ?_
                refine x_icmp_eq (pc := 121) (tgt := 130) dX10_mended_121 (by decide) (fun h28 => ?_) (fun h28 => ?_)
                · refine x_lconst (pc := 130) (a := 0) dX10_mended_130 (by decide) ?_
                  refine x_goto (pc := 131) (tgt := 137) dX10_mended_131 (by decide) ?_
                  refine x_ladd (pc := 137) dX10_mended_137 ?_
                  refine SP.bdl (fun x29 e30 => ?_)
                  refine x_lstore (pc := 138) (L' := [some (.ref 170), some (.int p1), some (.int p2), some (.int q3.1), some (.long s5.1), none, some (.long s5.2.1), none, some (.int s5.2.2), some (.int x10), some (.long x26), none, some (.long x29), none, some (.int s12.2.2), some (.int v18), some (.int v19)]) dX10_mended_138 (Nat.le_of_ble_eq_true rfl) rfl rfl ?_
                  refine x_iinc (pc := 140) (b := (s12.2.2 + 1)) (L' := [some (.ref 170), some (.int p1), some (.int p2), some (.int q3.1), some (.long s5.1), none, some (.long s5.2.1), none, some (.int s5.2.2), some (.int x10), some (.long x26), none, some (.long x29), none, some (.int (s12.2.2 + 1)), some (.int v18), some (.int v19)]) dX10_mended_140 rfl rfl (Nat.le_of_ble_eq_true rfl) rfl rfl ?_
                  refine x_goto (pc := 143) (tgt := 57) dX10_mended_143 (by decide) ?_
                  refine SP.mask (pc := 57) [true, true, true, true, true, false, true, false, true, true, true, false, true, false, true, false, false] (L' := [some (.ref 170), some (.int p1), some (.int p2), some (.int q3.1), some (.long s5.1), none, some (.long s5.2.1), none, some (.int s5.2.2), some (.int x10), some (.long x26), none, some (.long x29), none, some (.int (s12.2.2 + 1)), none, none]) rfl ?_
                  have hz := hkk13 (x26, x29, (s12.2.2 + 1))
                  try dsimp only at hz
                  exact hz
                · refine x_iload (pc := 124) dX10_mended_124 rfl ?_
                  refine x_iconst (pc := 126) (a := -1) dX10_mended_126 (by decide) ?_
                  refine x_icmp_ne (pc := 127) (tgt := 134) dX10_mended_127 (by decide) (fun h31 => ?_) (fun h31 => ?_)
                  · refine x_iload (pc := 134) dX10_mended_134 rfl ?_
                    refine x_i2l (pc := 136) dX10_mended_136 ?_
                    refine x_ladd (pc := 137) dX10_mended_137 ?_
                    refine SP.bdl (fun x32 e33 => ?_)
                    refine x_lstore (pc := 138) (L' := [some (.ref 170), some (.int p1), some (.int p2), some (.int q3.1), some (.long s5.1), none, some (.long s5.2.1), none, some (.int s5.2.2), some (.int x10), some (.long x26), none, some (.long x32), none, some (.int s12.2.2), some (.int v18), some (.int v19)]) dX10_mended_138 (Nat.le_of_ble_eq_true rfl) rfl rfl ?_
                    refine x_iinc (pc := 140) (b := (s12.2.2 + 1)) (L' := [some (.ref 170), some (.int p1), some (.int p2), some (.int q3.1), some (.long s5.1), none, some (.long s5.2.1), none, some (.int s5.2.2), some (.int x10), some (.long x26), none, some (.long x32), none, some (.int (s12.2.2 + 1)), some (.int v18), some (.int v19)]) dX10_mended_140 rfl rfl (Nat.le_of_ble_eq_true rfl) rfl rfl ?_
                    refine x_goto (pc := 143) (tgt := 57) dX10_mended_143 (by decide) ?_
                    refine SP.mask (pc := 57) [true, true, true, true, true, false, true, false, true, true, true, false, true, false, true, false, false] (L' := [some (.ref 170), some (.int p1), some (.int p2), some (.int q3.1), some (.long s5.1), none, some (.long s5.2.1), none, some (.int s5.2.2), some (.int x10), some (.long x26), none, some (.long x32), none, some (.int (s12.2.2 + 1)), none, none]) rfl ?_
                    have hz := hkk13 (x26, x32, (s12.2.2 + 1))
                    try dsimp only at hz
                    exact hz
                  · refine x_lconst (pc := 130) (a := 0) dX10_mended_130 (by decide) ?_
                    refine x_goto (pc := 131) (tgt := 137) dX10_mended_131 (by decide) ?_
                    refine x_ladd (pc := 137) dX10_mended_137 ?_
                    refine SP.bdl (fun x34 e35 => ?_)
                    refine x_lstore (pc := 138) (L' := [some (.ref 170), some (.int p1), some (.int p2), some (.int q3.1), some (.long s5.1), none, some (.long s5.2.1), none, some (.int s5.2.2), some (.int x10), some (.long x26), none, some (.long x34), none, some (.int s12.2.2), some (.int v18), some (.int v19)]) dX10_mended_138 (Nat.le_of_ble_eq_true rfl) rfl rfl ?_
                    refine x_iinc (pc := 140) (b := (s12.2.2 + 1)) (L' := [some (.ref 170), some (.int p1), some (.int p2), some (.int q3.1), some (.long s5.1), none, some (.long s5.2.1), none, some (.int s5.2.2), some (.int x10), some (.long x26), none, some (.long x34), none, some (.int (s12.2.2 + 1)), some (.int v18), some (.int v19)]) dX10_mended_140 rfl rfl (Nat.le_of_ble_eq_true rfl) rfl rfl ?_
                    refine x_goto (pc := 143) (tgt := 57) dX10_mended_143 (by decide) ?_
                    refine SP.mask (pc := 57) [true, true, true, true, true, false, true, false, true, true, true, false, true, false, true, false, false] (L' := [some (.ref 170), some (.int p1), some (.int p2), some (.int q3.1), some (.long s5.1), none, some (.long s5.2.1), none, some (.int s5.2.2), some (.int x10), some (.long x26), none, some (.long x34), none, some (.int (s12.2.2 + 1)), none, none]) rfl ?_
                    have hz := hkk13 (x26, x34, (s12.2.2 + 1))
                    try dsimp only at hz
                    exact hz
        · try dsimp only
          refine x_lload (pc := 146) dX10_mended_146 rfl ?_
          refine x_lconst (pc := 148) (a := 0) dX10_mended_148 (by decide) ?_
          refine x_lcmp (pc := 149) dX10_mended_149 ?_
          refine SP.jn 159 (fun (s37 : (Int64 × Int64)) => [some (.ref 170), some (.int p1), some (.int p2), some (.int q3.1), some (.long s5.1), none, some (.long s5.2.1), none, some (.int s5.2.2), some (.int x10), some (.long s37.1), none, some (.long s37.2), none, none, none, none]) (fun (s37 : (Int64 × Int64)) => []) (fun (s37 : (Int64 × Int64)) => xwd q3.2) (fun kk36 hkk36 => ?_) (fun s37 => ?_)
          · try dsimp only
            refine x_if_ne (pc := 150) (tgt := 159) dX10_mended_150 (by decide) (fun h38 => ?_) (fun h38 => ?_)
            · have hz := hkk36 (s12.1, s12.2.1)
              try dsimp only at hz
              exact hz
            · refine x_lconst (pc := 153) (a := 1) dX10_mended_153 (by decide) ?_
              refine x_lstore (pc := 154) (L' := [some (.ref 170), some (.int p1), some (.int p2), some (.int q3.1), some (.long s5.1), none, some (.long s5.2.1), none, some (.int s5.2.2), some (.int x10), some (.long (1:Int64)), none, some (.long s12.2.1), none, none, none, none]) dX10_mended_154 (Nat.le_of_ble_eq_true rfl) rfl rfl ?_
              refine x_lconst (pc := 156) (a := 1) dX10_mended_156 (by decide) ?_
              refine x_lstore (pc := 157) (L' := [some (.ref 170), some (.int p1), some (.int p2), some (.int q3.1), some (.long s5.1), none, some (.long s5.2.1), none, some (.int s5.2.2), some (.int x10), some (.long (1:Int64)), none, some (.long (1:Int64)), none, none, none, none]) dX10_mended_157 (Nat.le_of_ble_eq_true rfl) rfl rfl ?_
              have hz := hkk36 ((1:Int64), (1:Int64))
              try dsimp only at hz
              exact hz
          · try dsimp only
            refine x_aload_n (pc := 159) dX10_mended_159 rfl ?_
            refine x_iload (pc := 160) dX10_mended_160 rfl ?_
            refine x_aload_n (pc := 162) dX10_mended_162 rfl ?_
            refine m_getR (pc := 163) (t := 172) xC10 1 fl_X10_13 rfl (by decide) rfl (by decide) rfl dX10_mended_163 ?_
            refine x_iload_n (pc := 166) dX10_mended_166 rfl ?_
            refine m_iald (pc := 167) rfl rfl dX10_mended_167 (fun hb39 => ?_)
            refine x_aload_n (pc := 168) dX10_mended_168 rfl ?_
            refine m_getR (pc := 169) (t := 173) xC10 2 fl_X10_16 rfl (by decide) rfl (by decide) rfl dX10_mended_169 ?_
            refine x_iload_n (pc := 172) dX10_mended_172 rfl ?_
            refine m_iald (pc := 173) rfl rfl dX10_mended_173 (fun hb40 => ?_)
            refine cV_I (pc := 174) (As := [(.int x10), (.int (q3.2.1 172 p1.toNatClampNeg)), (.int (q3.2.1 173 p1.toNatClampNeg))]) (rest := []) (ct_X10_far x10 (q3.2.1 172 p1.toNatClampNeg) (q3.2.1 173 p1.toNatClampNeg) q3.2) rfl xC10 rfl (by decide) ml_X10_119 meX10_far rfl ⟨prX10_far, (Nat.le_of_ble_eq_true rfl), (Nat.le_of_ble_eq_true rfl), rfl, rfl⟩ (Nat.le_of_ble_eq_true rfl) dX10_mended_174 (fun v41 => ?_)
            refine x_istore (pc := 177) (L' := [some (.ref 170), some (.int p1), some (.int p2), some (.int q3.1), some (.long s5.1), none, some (.long s5.2.1), none, some (.int s5.2.2), some (.int x10), some (.long s37.1), none, some (.long s37.2), none, some (.int v41), none, none]) dX10_mended_177 (Nat.le_of_ble_eq_true rfl) rfl rfl ?_
            refine x_iload (pc := 179) dX10_mended_179 rfl ?_
            refine SP.jn 210 (fun (s43 : Int32) => [some (.ref 170), some (.int p1), some (.int p2), some (.int q3.1), some (.long s5.1), none, some (.long s5.2.1), none, some (.int s5.2.2), some (.int x10), some (.long s37.1), none, some (.long s37.2), none, none, none, none]) (fun (s43 : Int32) => [(.int s43)]) (fun (s43 : Int32) => xwd q3.2) (fun kk42 hkk42 => ?_) (fun s43 => ?_)
            · try dsimp only
              refine x_if_ne (pc := 181) (tgt := 190) dX10_mended_181 (by decide) (fun h44 => ?_) (fun h44 => ?_)
              · refine x_sipush (pc := 190) (a := 144) dX10_mended_190 (by decide) ?_
                refine x_iload (pc := 193) dX10_mended_193 rfl ?_
                refine x_idiv (pc := 195) dX10_mended_195 (fun hb45 => ?_)
                refine x_iconst (pc := 196) (a := 1) dX10_mended_196 (by decide) ?_
                refine x_icmp_ge (pc := 197) (tgt := 204) dX10_mended_197 (by decide) (fun h46 => ?_) (fun h46 => ?_)
                · refine x_sipush (pc := 204) (a := 144) dX10_mended_204 (by decide) ?_
                  refine x_iload (pc := 207) dX10_mended_207 rfl ?_
                  refine x_idiv (pc := 209) dX10_mended_209 (fun hb47 => ?_)
                  refine SP.mask (pc := 210) [true, true, true, true, true, false, true, false, true, true, true, false, true, false, false, false, false] (L' := [some (.ref 170), some (.int p1), some (.int p2), some (.int q3.1), some (.long s5.1), none, some (.long s5.2.1), none, some (.int s5.2.2), some (.int x10), some (.long s37.1), none, some (.long s37.2), none, none, none, none]) rfl ?_
                  have hz := hkk42 ((144:Int32) / v41)
                  try dsimp only at hz
                  exact hz
                · refine x_iconst (pc := 200) (a := 1) dX10_mended_200 (by decide) ?_
                  refine x_goto (pc := 201) (tgt := 210) dX10_mended_201 (by decide) ?_
                  refine SP.mask (pc := 210) [true, true, true, true, true, false, true, false, true, true, true, false, true, false, false, false, false] (L' := [some (.ref 170), some (.int p1), some (.int p2), some (.int q3.1), some (.long s5.1), none, some (.long s5.2.1), none, some (.int s5.2.2), some (.int x10), some (.long s37.1), none, some (.long s37.2), none, none, none, none]) rfl ?_
                  have hz := hkk42 (1:Int32)
                  try dsimp only at hz
                  exact hz
              · refine x_sipush (pc := 184) (a := 288) dX10_mended_184 (by decide) ?_
                refine x_goto (pc := 187) (tgt := 210) dX10_mended_187 (by decide) ?_
                refine SP.mask (pc := 210) [true, true, true, true, true, false, true, false, true, true, true, false, true, false, false, false, false] (L' := [some (.ref 170), some (.int p1), some (.int p2), some (.int q3.1), some (.long s5.1), none, some (.long s5.2.1), none, some (.int s5.2.2), some (.int x10), some (.long s37.1), none, some (.long s37.2), none, none, none, none]) rfl ?_
                have hz := hkk42 (288:Int32)
                try dsimp only at hz
                exact hz
            · try dsimp only
              refine x_istore (pc := 210) (L' := [some (.ref 170), some (.int p1), some (.int p2), some (.int q3.1), some (.long s5.1), none, some (.long s5.2.1), none, some (.int s5.2.2), some (.int x10), some (.long s37.1), none, some (.long s37.2), none, none, some (.int s43), none]) dX10_mended_210 (Nat.le_of_ble_eq_true rfl) rfl rfl ?_
              refine x_lload (pc := 212) dX10_mended_212 rfl ?_
              refine x_aload_n (pc := 214) dX10_mended_214 rfl ?_
              refine x_iload (pc := 215) dX10_mended_215 rfl ?_
              refine x_iload_n (pc := 217) dX10_mended_217 rfl ?_
              refine cV_I (pc := 218) (As := [(.int x10), (.int p2)]) (rest := [(.long s5.1)]) (ct_X10_trusted x10 p2 q3.2) rfl xC10 rfl (by decide) ml_X10_129 meX10_trusted rfl ⟨prX10_trusted, (Nat.le_of_ble_eq_true rfl), (Nat.le_of_ble_eq_true rfl), rfl, rfl⟩ (Nat.le_of_ble_eq_true rfl) dX10_mended_218 (fun v48 => ?_)
              refine x_i2l (pc := 221) dX10_mended_221 ?_
              refine x_lload (pc := 222) dX10_mended_222 rfl ?_
              refine x_lmul (pc := 224) dX10_mended_224 ?_
              refine x_ldc2 (pc := 225) (a := 1000) dX10_mended_225 rfl (xword 908 (by decide +kernel) rfl) ?_
              refine x_lmul (pc := 228) dX10_mended_228 ?_
              refine x_lload (pc := 229) dX10_mended_229 rfl ?_
              refine x_ldiv (pc := 231) dX10_mended_231 (fun hb49 => ?_)
              refine x_iload (pc := 232) dX10_mended_232 rfl ?_
              refine x_i2l (pc := 234) dX10_mended_234 ?_
              refine x_lmul (pc := 235) dX10_mended_235 ?_
              refine x_ladd (pc := 236) dX10_mended_236 ?_
              refine SP.bdl (fun x50 e51 => ?_)
              refine x_lstore (pc := 237) (L' := [some (.ref 170), some (.int p1), some (.int p2), some (.int q3.1), some (.long x50), none, some (.long s5.2.1), none, some (.int s5.2.2), some (.int x10), some (.long s37.1), none, some (.long s37.2), none, none, some (.int s43), none]) dX10_mended_237 (Nat.le_of_ble_eq_true rfl) rfl rfl ?_
              refine x_lload (pc := 239) dX10_mended_239 rfl ?_
              refine x_iload (pc := 241) dX10_mended_241 rfl ?_
              refine x_i2l (pc := 243) dX10_mended_243 ?_
              refine x_ladd (pc := 244) dX10_mended_244 ?_
              refine SP.bdl (fun x52 e53 => ?_)
              refine x_lstore (pc := 245) (L' := [some (.ref 170), some (.int p1), some (.int p2), some (.int q3.1), some (.long x50), none, some (.long x52), none, some (.int s5.2.2), some (.int x10), some (.long s37.1), none, some (.long s37.2), none, none, some (.int s43), none]) dX10_mended_245 (Nat.le_of_ble_eq_true rfl) rfl rfl ?_
              refine x_iinc (pc := 247) (b := (s5.2.2 + 1)) (L' := [some (.ref 170), some (.int p1), some (.int p2), some (.int q3.1), some (.long x50), none, some (.long x52), none, some (.int (s5.2.2 + 1)), some (.int x10), some (.long s37.1), none, some (.long s37.2), none, none, some (.int s43), none]) dX10_mended_247 rfl rfl (Nat.le_of_ble_eq_true rfl) rfl rfl ?_
              refine x_goto (pc := 250) (tgt := 33) dX10_mended_250 (by decide) ?_
              refine SP.mask (pc := 33) [true, true, true, true, true, false, true, false, true, false, false, false, false, false, false, false, false] (L' := [some (.ref 170), some (.int p1), some (.int p2), some (.int q3.1), some (.long x50), none, some (.long x52), none, some (.int (s5.2.2 + 1)), none, none, none, none, none, none, none, none]) rfl ?_
              have hz := hkk6 (x50, x52, (s5.2.2 + 1))
              try dsimp only at hz
              exact hz
    · refine x_iconst (pc := 22) (a := -1) dX10_mended_22 (by decide) ?_
      exact x_iret (pc := 23) rfl rfl dX10_mended_23 (Nat.zero_le _) (Nat.zero_le _)
  · refine x_iconst (pc := 9) (a := -1) dX10_mended_9 (by decide) ?_
    exact x_iret (pc := 10) rfl rfl dX10_mended_10 (Nat.zero_le _) (Nat.zero_le _)

set_option maxRecDepth 100000 in
set_option maxHeartbeats 4000000 in
theorem ct_X10_from (p1 : Int32) (p2 : Int32) (p3 : Int32) (M : xM)  : Ct iX10_from rIM [(.ref 170), (.int p1), (.int p2), (.int p3)] (xwd M) (fX10_from p1 p2 p3 M) := by
  refine Ct.of' (L := [some (.ref 170), some (.int p1), some (.int p2), some (.int p3), none]) 1 rfl (by decide +kernel) (Nat.le_of_ble_eq_true rfl) rfl ?_
  unfold fX10_from
  refine x_aload_n (pc := 0) dX10_from_0 rfl ?_
  refine x_iload_n (pc := 1) dX10_from_1 rfl ?_
  refine x_iconst (pc := 2) (a := 0) dX10_from_2 (by decide) ?_
  refine x_iconst (pc := 3) (a := 4) dX10_from_3 (by decide) ?_
  refine cV_I (pc := 4) (As := [(.int p1), (.int (0:Int32)), (.int (4:Int32))]) (rest := []) (ct_X10_fails p1 (0:Int32) (4:Int32) M) rfl xC10 rfl (by decide) ml_X10_96 meX10_fails rfl ⟨prX10_fails, (Nat.le_of_ble_eq_true rfl), (Nat.le_of_ble_eq_true rfl), rfl, rfl⟩ (Nat.le_of_ble_eq_true rfl) dX10_from_4 (fun v1 => ?_)
  refine x_istore (pc := 7) (L' := [some (.ref 170), some (.int p1), some (.int p2), some (.int p3), some (.int v1)]) dX10_from_7 (Nat.le_of_ble_eq_true rfl) rfl rfl ?_
  refine x_iload (pc := 9) dX10_from_9 rfl ?_
  refine SP.jn 28 (fun (s3 : Int32) => [some (.ref 170), some (.int p1), some (.int p2), some (.int p3), some (.int s3)]) (fun (s3 : Int32) => []) (fun (s3 : Int32) => xwd M) (fun kk2 hkk2 => ?_) (fun s3 => ?_)
  · try dsimp only
    refine x_if_ne (pc := 11) (tgt := 28) dX10_from_11 (by decide) (fun h4 => ?_) (fun h4 => ?_)
    · have hz := hkk2 v1
      try dsimp only at hz
      exact hz
    · refine x_aload_n (pc := 14) dX10_from_14 rfl ?_
      refine m_getR (pc := 15) (t := 171) xC10 0 fl_X10_9 rfl (by decide) rfl (by decide) rfl dX10_from_15 ?_
      refine x_iload_n (pc := 18) dX10_from_18 rfl ?_
      refine m_iald (pc := 19) rfl rfl dX10_from_19 (fun hb5 => ?_)
      refine x_iconst (pc := 20) (a := 3) dX10_from_20 (by decide) ?_
      refine x_icmp_ne (pc := 21) (tgt := 28) dX10_from_21 (by decide) (fun h6 => ?_) (fun h6 => ?_)
      · have hz := hkk2 v1
        try dsimp only at hz
        exact hz
      · refine x_bipush (pc := 24) (a := -2) dX10_from_24 (by decide) ?_
        refine x_istore (pc := 26) (L' := [some (.ref 170), some (.int p1), some (.int p2), some (.int p3), some (.int (-2:Int32))]) dX10_from_26 (Nat.le_of_ble_eq_true rfl) rfl rfl ?_
        have hz := hkk2 (-2:Int32)
        try dsimp only at hz
        exact hz
  · try dsimp only
    refine x_iload (pc := 28) dX10_from_28 rfl ?_
    refine x_if_eq (pc := 30) (tgt := 36) dX10_from_30 (by decide) (fun h7 => ?_) (fun h7 => ?_)
    · refine x_iload_n (pc := 36) dX10_from_36 rfl ?_
      refine x_aload_n (pc := 37) dX10_from_37 rfl ?_
      refine m_getR (pc := 38) (t := 175) xC10 4 fl_X10_22 rfl (by decide) rfl (by decide) rfl dX10_from_38 ?_
      refine x_iload_n (pc := 41) dX10_from_41 rfl ?_
      refine m_iald (pc := 42) rfl rfl dX10_from_42 (fun hb8 => ?_)
      refine x_bipush (pc := 43) (a := 55) dX10_from_43 (by decide) ?_
      refine cS_I (pc := 45) (As := [(.int p2), (.int (M.1 175 p1.toNatClampNeg)), (.int (55:Int32))]) (rest := []) (ct_X10_isIn p2 (M.1 175 p1.toNatClampNeg) (55:Int32) M) rfl ml_X10_85 meX10_isIn rfl ⟨prX10_isIn, (Nat.le_of_ble_eq_true rfl), (Nat.le_of_ble_eq_true rfl), rfl, rfl⟩ (Nat.le_of_ble_eq_true rfl) dX10_from_45 (fun v9 => ?_)
      refine x_if_eq (pc := 48) (tgt := 59) dX10_from_48 (by decide) (fun h10 => ?_) (fun h10 => ?_)
      · refine x_iconst (pc := 59) (a := -1) dX10_from_59 (by decide) ?_
        exact x_iret (pc := 60) rfl rfl dX10_from_60 (Nat.zero_le _) (Nat.zero_le _)
      · refine x_iload_n (pc := 51) dX10_from_51 rfl ?_
        refine x_aload_n (pc := 52) dX10_from_52 rfl ?_
        refine m_getI (pc := 53) xC10 15 fl_X10_89 rfl (by decide) rfl (by decide) rfl dX10_from_53 ?_
        refine x_icmp_le (pc := 56) (tgt := 61) dX10_from_56 (by decide) (fun h11 => ?_) (fun h11 => ?_)
        · refine x_iload_n (pc := 61) dX10_from_61 rfl ?_
          refine x_iconst (pc := 62) (a := 0) dX10_from_62 (by decide) ?_
          refine x_aload_n (pc := 63) dX10_from_63 rfl ?_
          refine x_iload_n (pc := 64) dX10_from_64 rfl ?_
          refine x_iload_n (pc := 65) dX10_from_65 rfl ?_
          refine cV_IM (pc := 66) (As := [(.int p1), (.int p2)]) (rest := [(.int (0:Int32)), (.int p3)]) (ct_X10_bys p1 p2 M) rfl xC10 rfl (by decide) ml_X10_136 meX10_bys rfl ⟨prX10_bys, (Nat.le_of_ble_eq_true rfl), (Nat.le_of_ble_eq_true rfl), rfl, rfl⟩ (Nat.le_of_ble_eq_true rfl) dX10_from_66 (fun q12 => ?_)
          refine x_iconst (pc := 69) (a := 1) dX10_from_69 (by decide) ?_
          refine x_isub (pc := 70) dX10_from_70 ?_
          refine cS_I (pc := 71) (As := [(.int p3), (.int (0:Int32)), (.int (q12.1 - (1:Int32)))]) (rest := []) (ct_X10_isIn p3 (0:Int32) (q12.1 - (1:Int32)) q12.2) rfl ml_X10_85 meX10_isIn rfl ⟨prX10_isIn, (Nat.le_of_ble_eq_true rfl), (Nat.le_of_ble_eq_true rfl), rfl, rfl⟩ (Nat.le_of_ble_eq_true rfl) dX10_from_71 (fun v13 => ?_)
          refine x_if_eq (pc := 74) (tgt := 86) dX10_from_74 (by decide) (fun h14 => ?_) (fun h14 => ?_)
          · refine x_iconst (pc := 86) (a := -1) dX10_from_86 (by decide) ?_
            exact x_iret (pc := 87) rfl rfl dX10_from_87 (Nat.zero_le _) (Nat.zero_le _)
          · refine x_aload_n (pc := 77) dX10_from_77 rfl ?_
            refine m_getR (pc := 78) (t := 188) xC10 23 fl_X10_75 rfl (by decide) rfl (by decide) rfl dX10_from_78 ?_
            refine x_iload_n (pc := 81) dX10_from_81 rfl ?_
            refine m_iald (pc := 82) rfl rfl dX10_from_82 (fun hb15 => ?_)
            refine x_goto (pc := 83) (tgt := 87) dX10_from_83 (by decide) ?_
            exact x_iret (pc := 87) rfl rfl dX10_from_87 (Nat.zero_le _) (Nat.zero_le _)
        · refine x_iconst (pc := 59) (a := -1) dX10_from_59 (by decide) ?_
          exact x_iret (pc := 60) rfl rfl dX10_from_60 (Nat.zero_le _) (Nat.zero_le _)
    · refine x_iload (pc := 33) dX10_from_33 rfl ?_
      exact x_iret (pc := 35) rfl rfl dX10_from_35 (Nat.zero_le _) (Nat.zero_le _)

set_option maxRecDepth 100000 in
set_option maxHeartbeats 4000000 in
theorem ct_X10_readOn (p1 : Int32) (p2 : Int32) (M : xM)  : Ct iX10_readOn (rI M) [(.ref 170), (.int p1), (.int p2)] (xwd M) (fX10_readOn p1 p2 M) := by
  refine Ct.of' (L := [some (.ref 170), some (.int p1), some (.int p2), none]) 1 rfl (by decide +kernel) (Nat.le_of_ble_eq_true rfl) rfl ?_
  unfold fX10_readOn
  refine x_aload_n (pc := 0) dX10_readOn_0 rfl ?_
  refine m_getR (pc := 1) (t := 171) xC10 0 fl_X10_9 rfl (by decide) rfl (by decide) rfl dX10_readOn_1 ?_
  refine x_iload_n (pc := 4) dX10_readOn_4 rfl ?_
  refine m_iald (pc := 5) rfl rfl dX10_readOn_5 (fun hb1 => ?_)
  refine x_iconst (pc := 6) (a := 3) dX10_readOn_6 (by decide) ?_
  refine x_icmp_ne (pc := 7) (tgt := 25) dX10_readOn_7 (by decide) (fun h2 => ?_) (fun h2 => ?_)
  · refine x_iconst (pc := 25) (a := -1) dX10_readOn_25 (by decide) ?_
    exact x_iret (pc := 26) rfl rfl dX10_readOn_26 (Nat.zero_le _) (Nat.zero_le _)
  · refine x_iload_n (pc := 10) dX10_readOn_10 rfl ?_
    refine x_aload_n (pc := 11) dX10_readOn_11 rfl ?_
    refine m_getR (pc := 12) (t := 175) xC10 4 fl_X10_22 rfl (by decide) rfl (by decide) rfl dX10_readOn_12 ?_
    refine x_iload_n (pc := 15) dX10_readOn_15 rfl ?_
    refine m_iald (pc := 16) rfl rfl dX10_readOn_16 (fun hb3 => ?_)
    refine x_bipush (pc := 17) (a := 55) dX10_readOn_17 (by decide) ?_
    refine cS_I (pc := 19) (As := [(.int p2), (.int (M.1 175 p1.toNatClampNeg)), (.int (55:Int32))]) (rest := []) (ct_X10_isIn p2 (M.1 175 p1.toNatClampNeg) (55:Int32) M) rfl ml_X10_85 meX10_isIn rfl ⟨prX10_isIn, (Nat.le_of_ble_eq_true rfl), (Nat.le_of_ble_eq_true rfl), rfl, rfl⟩ (Nat.le_of_ble_eq_true rfl) dX10_readOn_19 (fun v4 => ?_)
    refine x_if_ne (pc := 22) (tgt := 27) dX10_readOn_22 (by decide) (fun h5 => ?_) (fun h5 => ?_)
    · refine x_iload_n (pc := 27) dX10_readOn_27 rfl ?_
      refine x_istore_n (pc := 28) (L' := [some (.ref 170), some (.int p1), some (.int p2), some (.int p2)]) dX10_readOn_28 (Nat.le_of_ble_eq_true rfl) rfl rfl ?_
      refine SP.mask (pc := 29) [true, true, false, true] (L' := [some (.ref 170), some (.int p1), none, some (.int p2)]) rfl ?_
      refine SP.lp (pc := 29) (fun (s6 : Int32) => [some (.ref 170), some (.int p1), none, some (.int s6)]) (fun (s6 : Int32) => xwd M) (fun s6 kk7 hkk7 => ?_) xfu p2
      try dsimp only
      refine x_iload_n (pc := 29) dX10_readOn_29 rfl ?_
      refine x_bipush (pc := 30) (a := 56) dX10_readOn_30 (by decide) ?_
      refine x_icmp_ge (pc := 32) (tgt := 57) dX10_readOn_32 (by decide) (fun h8 => ?_) (fun h8 => ?_)
      · refine x_iconst (pc := 57) (a := -1) dX10_readOn_57 (by decide) ?_
        exact x_iret (pc := 58) rfl rfl dX10_readOn_58 (Nat.zero_le _) (Nat.zero_le _)
      · refine x_aload_n (pc := 35) dX10_readOn_35 rfl ?_
        refine m_getR (pc := 36) (t := 177) xC10 6 fl_X10_28 rfl (by decide) rfl (by decide) rfl dX10_readOn_36 ?_
        refine x_iload_n (pc := 39) dX10_readOn_39 rfl ?_
        refine x_iload_n (pc := 40) dX10_readOn_40 rfl ?_
        refine cS_I (pc := 41) (As := [(.int p1), (.int s6)]) (rest := [(.ref 177)]) (ct_X10_at p1 s6 M) rfl ml_X10_92 meX10_at rfl ⟨prX10_at, (Nat.le_of_ble_eq_true rfl), (Nat.le_of_ble_eq_true rfl), rfl, rfl⟩ (Nat.le_of_ble_eq_true rfl) dX10_readOn_41 (fun v9 => ?_)
        refine m_iald (pc := 44) rfl rfl dX10_readOn_44 (fun hb10 => ?_)
        refine x_iconst (pc := 45) (a := -1) dX10_readOn_45 (by decide) ?_
        refine x_icmp_eq (pc := 46) (tgt := 51) dX10_readOn_46 (by decide) (fun h11 => ?_) (fun h11 => ?_)
        · refine x_iinc (pc := 51) (b := (s6 + 1)) (L' := [some (.ref 170), some (.int p1), none, some (.int (s6 + 1))]) dX10_readOn_51 rfl rfl (Nat.le_of_ble_eq_true rfl) rfl rfl ?_
          refine x_goto (pc := 54) (tgt := 29) dX10_readOn_54 (by decide) ?_
          have hz := hkk7 (s6 + 1)
          try dsimp only at hz
          exact hz
        · refine x_iload_n (pc := 49) dX10_readOn_49 rfl ?_
          exact x_iret (pc := 50) rfl rfl dX10_readOn_50 (Nat.zero_le _) (Nat.zero_le _)
    · refine x_iconst (pc := 25) (a := -1) dX10_readOn_25 (by decide) ?_
      exact x_iret (pc := 26) rfl rfl dX10_readOn_26 (Nat.zero_le _) (Nat.zero_le _)

set_option maxRecDepth 100000 in
set_option maxHeartbeats 4000000 in
theorem ct_X10_spread (p1 : Int32) (p2 : Int32) (M : xM)  : Ct iX10_spread rIM [(.ref 170), (.int p1), (.int p2)] (xwd M) (fX10_spread p1 p2 M) := by
  refine Ct.of' (L := [some (.ref 170), some (.int p1), some (.int p2), none, none, none, none, none, none, none, none, none, none, none]) 11 rfl (by decide +kernel) (Nat.le_of_ble_eq_true rfl) rfl ?_
  unfold fX10_spread
  refine x_aload_n (pc := 0) dX10_spread_0 rfl ?_
  refine x_iload_n (pc := 1) dX10_spread_1 rfl ?_
  refine x_iload_n (pc := 2) dX10_spread_2 rfl ?_
  refine cV_I (pc := 3) (As := [(.int p1), (.int p2)]) (rest := []) (ct_X10_readOn p1 p2 M) rfl xC10 rfl (by decide) ml_X10_141 meX10_readOn rfl ⟨prX10_readOn, (Nat.le_of_ble_eq_true rfl), (Nat.le_of_ble_eq_true rfl), rfl, rfl⟩ (Nat.le_of_ble_eq_true rfl) dX10_spread_3 (fun v1 => ?_)
  refine x_istore_n (pc := 6) (L' := [some (.ref 170), some (.int p1), some (.int p2), some (.int v1), none, none, none, none, none, none, none, none, none, none]) dX10_spread_6 (Nat.le_of_ble_eq_true rfl) rfl rfl ?_
  refine x_iload_n (pc := 7) dX10_spread_7 rfl ?_
  refine x_iconst (pc := 8) (a := -1) dX10_spread_8 (by decide) ?_
  refine x_icmp_ne (pc := 9) (tgt := 14) dX10_spread_9 (by decide) (fun h2 => ?_) (fun h2 => ?_)
  · refine x_aload_n (pc := 14) dX10_spread_14 rfl ?_
    refine m_getR (pc := 15) (t := 175) xC10 4 fl_X10_22 rfl (by decide) rfl (by decide) rfl dX10_spread_15 ?_
    refine x_iload_n (pc := 18) dX10_spread_18 rfl ?_
    refine m_iald (pc := 19) rfl rfl dX10_spread_19 (fun hb3 => ?_)
    refine SP.bdi (fun x4 e5 => ?_)
    refine x_istore (pc := 20) (L' := [some (.ref 170), some (.int p1), some (.int p2), some (.int v1), some (.int x4), none, none, none, none, none, none, none, none, none]) dX10_spread_20 (Nat.le_of_ble_eq_true rfl) rfl rfl ?_
    refine x_aload_n (pc := 22) dX10_spread_22 rfl ?_
    refine m_getR (pc := 23) (t := 175) xC10 4 fl_X10_22 rfl (by decide) rfl (by decide) rfl dX10_spread_23 ?_
    refine x_iload_n (pc := 26) dX10_spread_26 rfl ?_
    refine m_iald (pc := 27) rfl rfl dX10_spread_27 (fun hb6 => ?_)
    refine SP.bdi (fun x7 e8 => ?_)
    refine x_istore (pc := 28) (L' := [some (.ref 170), some (.int p1), some (.int p2), some (.int v1), some (.int x4), some (.int x7), none, none, none, none, none, none, none, none]) dX10_spread_28 (Nat.le_of_ble_eq_true rfl) rfl rfl ?_
    refine SP.mask (pc := 30) [true, true, true, true, true, true, false, false, false, false, false, false, false, false] (L' := [some (.ref 170), some (.int p1), some (.int p2), some (.int v1), some (.int x4), some (.int x7), none, none, none, none, none, none, none, none]) rfl ?_
    refine SP.lp (pc := 30) (fun (s9 : (Int32 × Int32)) => [some (.ref 170), some (.int p1), some (.int p2), some (.int v1), some (.int s9.1), some (.int s9.2), none, none, none, none, none, none, none, none]) (fun (s9 : (Int32 × Int32)) => xwd M) (fun s9 kk10 hkk10 => ?_) xfu (x4, x7)
    try dsimp only
    refine x_iload (pc := 30) dX10_spread_30 rfl ?_
    refine x_iload_n (pc := 32) dX10_spread_32 rfl ?_
    refine x_icmp_ge (pc := 33) (tgt := 63) dX10_spread_33 (by decide) (fun h11 => ?_) (fun h11 => ?_)
    · refine x_aload_n (pc := 63) dX10_spread_63 rfl ?_
      refine m_getR (pc := 64) (t := 177) xC10 6 fl_X10_28 rfl (by decide) rfl (by decide) rfl dX10_spread_64 ?_
      refine x_iload_n (pc := 67) dX10_spread_67 rfl ?_
      refine x_iload_n (pc := 68) dX10_spread_68 rfl ?_
      refine cS_I (pc := 69) (As := [(.int p1), (.int v1)]) (rest := [(.ref 177)]) (ct_X10_at p1 v1 M) rfl ml_X10_92 meX10_at rfl ⟨prX10_at, (Nat.le_of_ble_eq_true rfl), (Nat.le_of_ble_eq_true rfl), rfl, rfl⟩ (Nat.le_of_ble_eq_true rfl) dX10_spread_69 (fun v12 => ?_)
      refine m_iald (pc := 72) rfl rfl dX10_spread_72 (fun hb13 => ?_)
      refine SP.bdi (fun x14 e15 => ?_)
      refine x_istore (pc := 73) (L' := [some (.ref 170), some (.int p1), some (.int p2), some (.int v1), some (.int s9.1), some (.int x14), none, none, none, none, none, none, none, none]) dX10_spread_73 (Nat.le_of_ble_eq_true rfl) rfl rfl ?_
      refine x_aload_n (pc := 75) dX10_spread_75 rfl ?_
      refine x_iload_n (pc := 76) dX10_spread_76 rfl ?_
      refine cV_IM (pc := 77) (As := [(.int p1)]) (rest := []) (ct_X10_rows p1 M) rfl xC10 rfl (by decide) ml_X10_125 meX10_rows rfl ⟨prX10_rows, (Nat.le_of_ble_eq_true rfl), (Nat.le_of_ble_eq_true rfl), rfl, rfl⟩ (Nat.le_of_ble_eq_true rfl) dX10_spread_77 (fun q16 => ?_)
      refine x_istore (pc := 80) (L' := [some (.ref 170), some (.int p1), some (.int p2), some (.int v1), some (.int s9.1), some (.int x14), some (.int q16.1), none, none, none, none, none, none, none]) dX10_spread_80 (Nat.le_of_ble_eq_true rfl) rfl rfl ?_
      refine x_iconst (pc := 82) (a := -1) dX10_spread_82 (by decide) ?_
      refine x_istore (pc := 83) (L' := [some (.ref 170), some (.int p1), some (.int p2), some (.int v1), some (.int s9.1), some (.int x14), some (.int q16.1), some (.int (-1:Int32)), none, none, none, none, none, none]) dX10_spread_83 (Nat.le_of_ble_eq_true rfl) rfl rfl ?_
      refine x_iload (pc := 85) dX10_spread_85 rfl ?_
      refine x_iconst (pc := 87) (a := 1) dX10_spread_87 (by decide) ?_
      refine x_isub (pc := 88) dX10_spread_88 ?_
      refine SP.bdi (fun x17 e18 => ?_)
      refine x_istore (pc := 89) (L' := [some (.ref 170), some (.int p1), some (.int p2), some (.int v1), some (.int s9.1), some (.int x14), some (.int q16.1), some (.int (-1:Int32)), some (.int x17), none, none, none, none, none]) dX10_spread_89 (Nat.le_of_ble_eq_true rfl) rfl rfl ?_
      refine SP.mask (pc := 91) [true, false, true, true, true, true, false, true, true, false, false, false, false, false] (L' := [some (.ref 170), none, some (.int p2), some (.int v1), some (.int s9.1), some (.int x14), none, some (.int (-1:Int32)), some (.int x17), none, none, none, none, none]) rfl ?_
      refine SP.lp (pc := 91) (fun (s19 : (Int32 × Int32)) => [some (.ref 170), none, some (.int p2), some (.int v1), some (.int s9.1), some (.int x14), none, some (.int s19.1), some (.int s19.2), none, none, none, none, none]) (fun (s19 : (Int32 × Int32)) => xwd q16.2) (fun s19 kk20 hkk20 => ?_) xfu ((-1:Int32), x17)
      try dsimp only
      refine x_iload (pc := 91) dX10_spread_91 rfl ?_
      refine x_if_lt (pc := 93) (tgt := 169) dX10_spread_93 (by decide) (fun h21 => ?_) (fun h21 => ?_)
      · refine x_iconst (pc := 169) (a := 0) dX10_spread_169 (by decide) ?_
        refine x_istore (pc := 170) (L' := [some (.ref 170), none, some (.int p2), some (.int v1), some (.int s9.1), some (.int x14), none, some (.int s19.1), some (.int (0:Int32)), none, none, none, none, none]) dX10_spread_170 (Nat.le_of_ble_eq_true rfl) rfl rfl ?_
        refine x_iload (pc := 172) dX10_spread_172 rfl ?_
        refine x_istore (pc := 174) (L' := [some (.ref 170), none, some (.int p2), some (.int v1), some (.int s9.1), some (.int x14), none, some (.int s19.1), some (.int (0:Int32)), some (.int s9.1), none, none, none, none]) dX10_spread_174 (Nat.le_of_ble_eq_true rfl) rfl rfl ?_
        refine SP.mask (pc := 176) [true, false, true, true, true, true, false, true, true, true, false, false, false, false] (L' := [some (.ref 170), none, some (.int p2), some (.int v1), some (.int s9.1), some (.int x14), none, some (.int s19.1), some (.int (0:Int32)), some (.int s9.1), none, none, none, none]) rfl ?_
        refine SP.lp (pc := 176) (fun (s22 : (Int32 × Int32)) => [some (.ref 170), none, some (.int p2), some (.int v1), some (.int s9.1), some (.int x14), none, some (.int s19.1), some (.int s22.1), some (.int s22.2), none, none, none, none]) (fun (s22 : (Int32 × Int32)) => xwd q16.2) (fun s22 kk23 hkk23 => ?_) xfu ((0:Int32), s9.1)
        try dsimp only
        refine x_iload (pc := 176) dX10_spread_176 rfl ?_
        refine x_iload_n (pc := 178) dX10_spread_178 rfl ?_
        refine SP.jn 207 (fun (s25 : Unit) => [some (.ref 170), none, some (.int p2), some (.int v1), some (.int s9.1), some (.int x14), none, some (.int s19.1), some (.int s22.1), none, none, none, none, none]) (fun (s25 : Unit) => []) (fun (s25 : Unit) => xwd q16.2) (fun kk24 hkk24 => ?_) (fun s25 => ?_)
        · try dsimp only
          refine x_icmp_gt (pc := 179) (tgt := 207) dX10_spread_179 (by decide) (fun h26 => ?_) (fun h26 => ?_)
          · refine SP.mask (pc := 207) [true, false, true, true, true, true, false, true, true, false, false, false, false, false] (L' := [some (.ref 170), none, some (.int p2), some (.int v1), some (.int s9.1), some (.int x14), none, some (.int s19.1), some (.int s22.1), none, none, none, none, none]) rfl ?_
            have hz := hkk24 ()
            try dsimp only at hz
            exact hz
          · refine x_iload (pc := 182) dX10_spread_182 rfl ?_
            refine x_iconst (pc := 184) (a := -1) dX10_spread_184 (by decide) ?_
            refine x_icmp_eq (pc := 185) (tgt := 207) dX10_spread_185 (by decide) (fun h27 => ?_) (fun h27 => ?_)
            · refine SP.mask (pc := 207) [true, false, true, true, true, true, false, true, true, false, false, false, false, false] (L' := [some (.ref 170), none, some (.int p2), some (.int v1), some (.int s9.1), some (.int x14), none, some (.int s19.1), some (.int s22.1), none, none, none, none, none]) rfl ?_
              have hz := hkk24 ()
              try dsimp only at hz
              exact hz
            · refine x_iload (pc := 188) dX10_spread_188 rfl ?_
              refine x_aload_n (pc := 190) dX10_spread_190 rfl ?_
              refine x_iload (pc := 191) dX10_spread_191 rfl ?_
              refine x_iload (pc := 193) dX10_spread_193 rfl ?_
              refine cV_I (pc := 195) (As := [(.int s19.1), (.int s22.2)]) (rest := [(.int s22.1)]) (ct_X10_trusted s19.1 s22.2 q16.2) rfl xC10 rfl (by decide) ml_X10_129 meX10_trusted rfl ⟨prX10_trusted, (Nat.le_of_ble_eq_true rfl), (Nat.le_of_ble_eq_true rfl), rfl, rfl⟩ (Nat.le_of_ble_eq_true rfl) dX10_spread_195 (fun v28 => ?_)
              refine x_iadd (pc := 198) dX10_spread_198 ?_
              refine SP.bdi (fun x29 e30 => ?_)
              refine x_istore (pc := 199) (L' := [some (.ref 170), none, some (.int p2), some (.int v1), some (.int s9.1), some (.int x14), none, some (.int s19.1), some (.int x29), some (.int s22.2), none, none, none, none]) dX10_spread_199 (Nat.le_of_ble_eq_true rfl) rfl rfl ?_
              refine x_iinc (pc := 201) (b := (s22.2 + 1)) (L' := [some (.ref 170), none, some (.int p2), some (.int v1), some (.int s9.1), some (.int x14), none, some (.int s19.1), some (.int x29), some (.int (s22.2 + 1)), none, none, none, none]) dX10_spread_201 rfl rfl (Nat.le_of_ble_eq_true rfl) rfl rfl ?_
              refine x_goto (pc := 204) (tgt := 176) dX10_spread_204 (by decide) ?_
              have hz := hkk23 (x29, (s22.2 + 1))
              try dsimp only at hz
              exact hz
        · try dsimp only
          refine x_iload (pc := 207) dX10_spread_207 rfl ?_
          refine x_if_ne (pc := 209) (tgt := 224) dX10_spread_209 (by decide) (fun h31 => ?_) (fun h31 => ?_)
          · refine x_iload (pc := 224) dX10_spread_224 rfl ?_
            refine x_istore (pc := 226) (L' := [some (.ref 170), none, some (.int p2), some (.int v1), some (.int s9.1), some (.int x14), none, some (.int s19.1), some (.int s22.1), some (.int x14), none, none, none, none]) dX10_spread_226 (Nat.le_of_ble_eq_true rfl) rfl rfl ?_
            refine x_iload (pc := 228) dX10_spread_228 rfl ?_
            refine x_istore (pc := 230) (L' := [some (.ref 170), none, some (.int p2), some (.int v1), some (.int s9.1), some (.int x14), none, some (.int s19.1), some (.int s22.1), some (.int x14), some (.int s9.1), none, none, none]) dX10_spread_230 (Nat.le_of_ble_eq_true rfl) rfl rfl ?_
            refine SP.mask (pc := 232) [true, false, true, true, true, true, false, true, true, true, true, false, false, false] (L' := [some (.ref 170), none, some (.int p2), some (.int v1), some (.int s9.1), some (.int x14), none, some (.int s19.1), some (.int s22.1), some (.int x14), some (.int s9.1), none, none, none]) rfl ?_
            refine SP.lp (pc := 232) (fun (s32 : (Int32 × Int32)) => [some (.ref 170), none, some (.int p2), some (.int v1), some (.int s9.1), some (.int x14), none, some (.int s19.1), some (.int s22.1), some (.int s32.1), some (.int s32.2), none, none, none]) (fun (s32 : (Int32 × Int32)) => xwd q16.2) (fun s32 kk33 hkk33 => ?_) xfu (x14, s9.1)
            try dsimp only
            refine x_iload (pc := 232) dX10_spread_232 rfl ?_
            refine x_iload_n (pc := 234) dX10_spread_234 rfl ?_
            refine x_icmp_gt (pc := 235) (tgt := 263) dX10_spread_235 (by decide) (fun h34 => ?_) (fun h34 => ?_)
            · refine x_iload (pc := 263) dX10_spread_263 rfl ?_
              refine x_aload_n (pc := 265) dX10_spread_265 rfl ?_
              refine x_iload (pc := 266) dX10_spread_266 rfl ?_
              refine x_iload_n (pc := 268) dX10_spread_268 rfl ?_
              refine cV_I (pc := 269) (As := [(.int s19.1), (.int p2)]) (rest := [(.int x14)]) (ct_X10_trusted s19.1 p2 q16.2) rfl xC10 rfl (by decide) ml_X10_129 meX10_trusted rfl ⟨prX10_trusted, (Nat.le_of_ble_eq_true rfl), (Nat.le_of_ble_eq_true rfl), rfl, rfl⟩ (Nat.le_of_ble_eq_true rfl) dX10_spread_269 (fun v35 => ?_)
              refine x_imul (pc := 272) dX10_spread_272 ?_
              refine x_iload (pc := 273) dX10_spread_273 rfl ?_
              refine x_irem (pc := 275) dX10_spread_275 (fun hb36 => ?_)
              refine SP.bdi (fun x37 e38 => ?_)
              refine x_istore (pc := 276) (L' := [some (.ref 170), none, some (.int p2), some (.int v1), some (.int s9.1), some (.int x14), none, some (.int s19.1), some (.int s22.1), some (.int s32.1), some (.int x37), none, none, none]) dX10_spread_276 (Nat.le_of_ble_eq_true rfl) rfl rfl ?_
              refine x_iconst (pc := 278) (a := 0) dX10_spread_278 (by decide) ?_
              refine x_istore (pc := 279) (L' := [some (.ref 170), none, some (.int p2), some (.int v1), some (.int s9.1), some (.int x14), none, some (.int s19.1), some (.int s22.1), some (.int s32.1), some (.int x37), some (.int (0:Int32)), none, none]) dX10_spread_279 (Nat.le_of_ble_eq_true rfl) rfl rfl ?_
              refine x_iload (pc := 281) dX10_spread_281 rfl ?_
              refine x_istore (pc := 283) (L' := [some (.ref 170), none, some (.int p2), some (.int v1), some (.int s9.1), some (.int x14), none, some (.int s19.1), some (.int s22.1), some (.int s32.1), some (.int x37), some (.int (0:Int32)), some (.int s9.1), none]) dX10_spread_283 (Nat.le_of_ble_eq_true rfl) rfl rfl ?_
              refine SP.mask (pc := 285) [true, false, true, true, false, true, false, true, true, true, true, true, true, false] (L' := [some (.ref 170), none, some (.int p2), some (.int v1), none, some (.int x14), none, some (.int s19.1), some (.int s22.1), some (.int s32.1), some (.int x37), some (.int (0:Int32)), some (.int s9.1), none]) rfl ?_
              refine SP.lp (pc := 285) (fun (s39 : (Int32 × Int32)) => [some (.ref 170), none, some (.int p2), some (.int v1), none, some (.int x14), none, some (.int s19.1), some (.int s22.1), some (.int s32.1), some (.int x37), some (.int s39.1), some (.int s39.2), none]) (fun (s39 : (Int32 × Int32)) => xwd q16.2) (fun s39 kk40 hkk40 => ?_) xfu ((0:Int32), s9.1)
              try dsimp only
              refine x_iload (pc := 285) dX10_spread_285 rfl ?_
              refine x_iload_n (pc := 287) dX10_spread_287 rfl ?_
              refine x_icmp_gt (pc := 288) (tgt := 343) dX10_spread_288 (by decide) (fun h41 => ?_) (fun h41 => ?_)
              · refine x_iload (pc := 343) dX10_spread_343 rfl ?_
                refine x_aload_n (pc := 345) dX10_spread_345 rfl ?_
                refine x_iload (pc := 346) dX10_spread_346 rfl ?_
                refine x_iload_n (pc := 348) dX10_spread_348 rfl ?_
                refine cV_I (pc := 349) (As := [(.int s19.1), (.int p2)]) (rest := [(.int x14)]) (ct_X10_trusted s19.1 p2 q16.2) rfl xC10 rfl (by decide) ml_X10_129 meX10_trusted rfl ⟨prX10_trusted, (Nat.le_of_ble_eq_true rfl), (Nat.le_of_ble_eq_true rfl), rfl, rfl⟩ (Nat.le_of_ble_eq_true rfl) dX10_spread_349 (fun v42 => ?_)
                refine x_imul (pc := 352) dX10_spread_352 ?_
                refine x_iload (pc := 353) dX10_spread_353 rfl ?_
                refine x_idiv (pc := 355) dX10_spread_355 (fun hb43 => ?_)
                refine x_iload (pc := 356) dX10_spread_356 rfl ?_
                refine x_iload (pc := 358) dX10_spread_358 rfl ?_
                refine x_icmp_ge (pc := 360) (tgt := 367) dX10_spread_360 (by decide) (fun h44 => ?_) (fun h44 => ?_)
                · refine x_iconst (pc := 367) (a := 0) dX10_spread_367 (by decide) ?_
                  refine x_iadd (pc := 368) dX10_spread_368 ?_
                  exact x_iret (pc := 369) rfl rfl dX10_spread_369 (Nat.zero_le _) (Nat.zero_le _)
                · refine x_iconst (pc := 363) (a := 1) dX10_spread_363 (by decide) ?_
                  refine x_goto (pc := 364) (tgt := 368) dX10_spread_364 (by decide) ?_
                  refine x_iadd (pc := 368) dX10_spread_368 ?_
                  exact x_iret (pc := 369) rfl rfl dX10_spread_369 (Nat.zero_le _) (Nat.zero_le _)
              · refine x_iload (pc := 291) dX10_spread_291 rfl ?_
                refine x_aload_n (pc := 293) dX10_spread_293 rfl ?_
                refine x_iload (pc := 294) dX10_spread_294 rfl ?_
                refine x_iload (pc := 296) dX10_spread_296 rfl ?_
                refine cV_I (pc := 298) (As := [(.int s19.1), (.int s39.2)]) (rest := [(.int x14)]) (ct_X10_trusted s19.1 s39.2 q16.2) rfl xC10 rfl (by decide) ml_X10_129 meX10_trusted rfl ⟨prX10_trusted, (Nat.le_of_ble_eq_true rfl), (Nat.le_of_ble_eq_true rfl), rfl, rfl⟩ (Nat.le_of_ble_eq_true rfl) dX10_spread_298 (fun v45 => ?_)
                refine x_imul (pc := 301) dX10_spread_301 ?_
                refine x_iload (pc := 302) dX10_spread_302 rfl ?_
                refine x_irem (pc := 304) dX10_spread_304 (fun hb46 => ?_)
                refine SP.bdi (fun x47 e48 => ?_)
                refine x_istore (pc := 305) (L' := [some (.ref 170), none, some (.int p2), some (.int v1), none, some (.int x14), none, some (.int s19.1), some (.int s22.1), some (.int s32.1), some (.int x37), some (.int s39.1), some (.int s39.2), some (.int x47)]) dX10_spread_305 (Nat.le_of_ble_eq_true rfl) rfl rfl ?_
                refine x_iload (pc := 307) dX10_spread_307 rfl ?_
                refine x_iload (pc := 309) dX10_spread_309 rfl ?_
                refine x_iload (pc := 311) dX10_spread_311 rfl ?_
                refine x_icmp_gt (pc := 313) (tgt := 329) dX10_spread_313 (by decide) (fun h49 => ?_) (fun h49 => ?_)
                · refine x_iconst (pc := 329) (a := 1) dX10_spread_329 (by decide) ?_
                  refine x_goto (pc := 330) (tgt := 334) dX10_spread_330 (by decide) ?_
                  refine x_iadd (pc := 334) dX10_spread_334 ?_
                  refine SP.bdi (fun x50 e51 => ?_)
                  refine x_istore (pc := 335) (L' := [some (.ref 170), none, some (.int p2), some (.int v1), none, some (.int x14), none, some (.int s19.1), some (.int s22.1), some (.int s32.1), some (.int x37), some (.int x50), some (.int s39.2), some (.int x47)]) dX10_spread_335 (Nat.le_of_ble_eq_true rfl) rfl rfl ?_
                  refine x_iinc (pc := 337) (b := (s39.2 + 1)) (L' := [some (.ref 170), none, some (.int p2), some (.int v1), none, some (.int x14), none, some (.int s19.1), some (.int s22.1), some (.int s32.1), some (.int x37), some (.int x50), some (.int (s39.2 + 1)), some (.int x47)]) dX10_spread_337 rfl rfl (Nat.le_of_ble_eq_true rfl) rfl rfl ?_
                  refine x_goto (pc := 340) (tgt := 285) dX10_spread_340 (by decide) ?_
                  refine SP.mask (pc := 285) [true, false, true, true, false, true, false, true, true, true, true, true, true, false] (L' := [some (.ref 170), none, some (.int p2), some (.int v1), none, some (.int x14), none, some (.int s19.1), some (.int s22.1), some (.int s32.1), some (.int x37), some (.int x50), some (.int (s39.2 + 1)), none]) rfl ?_
                  have hz := hkk40 (x50, (s39.2 + 1))
                  try dsimp only at hz
                  exact hz
                · refine x_iload (pc := 316) dX10_spread_316 rfl ?_
                  refine x_iload (pc := 318) dX10_spread_318 rfl ?_
                  refine x_icmp_ne (pc := 320) (tgt := 333) dX10_spread_320 (by decide) (fun h52 => ?_) (fun h52 => ?_)
                  · refine x_iconst (pc := 333) (a := 0) dX10_spread_333 (by decide) ?_
                    refine x_iadd (pc := 334) dX10_spread_334 ?_
                    refine SP.bdi (fun x53 e54 => ?_)
                    refine x_istore (pc := 335) (L' := [some (.ref 170), none, some (.int p2), some (.int v1), none, some (.int x14), none, some (.int s19.1), some (.int s22.1), some (.int s32.1), some (.int x37), some (.int x53), some (.int s39.2), some (.int x47)]) dX10_spread_335 (Nat.le_of_ble_eq_true rfl) rfl rfl ?_
                    refine x_iinc (pc := 337) (b := (s39.2 + 1)) (L' := [some (.ref 170), none, some (.int p2), some (.int v1), none, some (.int x14), none, some (.int s19.1), some (.int s22.1), some (.int s32.1), some (.int x37), some (.int x53), some (.int (s39.2 + 1)), some (.int x47)]) dX10_spread_337 rfl rfl (Nat.le_of_ble_eq_true rfl) rfl rfl ?_
                    refine x_goto (pc := 340) (tgt := 285) dX10_spread_340 (by decide) ?_
                    refine SP.mask (pc := 285) [true, false, true, true, false, true, false, true, true, true, true, true, true, false] (L' := [some (.ref 170), none, some (.int p2), some (.int v1), none, some (.int x14), none, some (.int s19.1), some (.int s22.1), some (.int s32.1), some (.int x37), some (.int x53), some (.int (s39.2 + 1)), none]) rfl ?_
                    have hz := hkk40 (x53, (s39.2 + 1))
                    try dsimp only at hz
                    exact hz
                  · refine x_iload (pc := 323) dX10_spread_323 rfl ?_
                    refine x_iload_n (pc := 325) dX10_spread_325 rfl ?_
                    refine x_icmp_ge (pc := 326) (tgt := 333) dX10_spread_326 (by decide) (fun h55 => ?_) (fun h55 => ?_)
                    · refine x_iconst (pc := 333) (a := 0) dX10_spread_333 (by decide) ?_
                      refine x_iadd (pc := 334) dX10_spread_334 ?_
                      refine SP.bdi (fun x56 e57 => ?_)
                      refine x_istore (pc := 335) (L' := [some (.ref 170), none, some (.int p2), some (.int v1), none, some (.int x14), none, some (.int s19.1), some (.int s22.1), some (.int s32.1), some (.int x37), some (.int x56), some (.int s39.2), some (.int x47)]) dX10_spread_335 (Nat.le_of_ble_eq_true rfl) rfl rfl ?_
                      refine x_iinc (pc := 337) (b := (s39.2 + 1)) (L' := [some (.ref 170), none, some (.int p2), some (.int v1), none, some (.int x14), none, some (.int s19.1), some (.int s22.1), some (.int s32.1), some (.int x37), some (.int x56), some (.int (s39.2 + 1)), some (.int x47)]) dX10_spread_337 rfl rfl (Nat.le_of_ble_eq_true rfl) rfl rfl ?_
                      refine x_goto (pc := 340) (tgt := 285) dX10_spread_340 (by decide) ?_
                      refine SP.mask (pc := 285) [true, false, true, true, false, true, false, true, true, true, true, true, true, false] (L' := [some (.ref 170), none, some (.int p2), some (.int v1), none, some (.int x14), none, some (.int s19.1), some (.int s22.1), some (.int s32.1), some (.int x37), some (.int x56), some (.int (s39.2 + 1)), none]) rfl ?_
                      have hz := hkk40 (x56, (s39.2 + 1))
                      try dsimp only at hz
                      exact hz
                    · refine x_iconst (pc := 329) (a := 1) dX10_spread_329 (by decide) ?_
                      refine x_goto (pc := 330) (tgt := 334) dX10_spread_330 (by decide) ?_
                      refine x_iadd (pc := 334) dX10_spread_334 ?_
                      refine SP.bdi (fun x58 e59 => ?_)
                      refine x_istore (pc := 335) (L' := [some (.ref 170), none, some (.int p2), some (.int v1), none, some (.int x14), none, some (.int s19.1), some (.int s22.1), some (.int s32.1), some (.int x37), some (.int x58), some (.int s39.2), some (.int x47)]) dX10_spread_335 (Nat.le_of_ble_eq_true rfl) rfl rfl ?_
                      refine x_iinc (pc := 337) (b := (s39.2 + 1)) (L' := [some (.ref 170), none, some (.int p2), some (.int v1), none, some (.int x14), none, some (.int s19.1), some (.int s22.1), some (.int s32.1), some (.int x37), some (.int x58), some (.int (s39.2 + 1)), some (.int x47)]) dX10_spread_337 rfl rfl (Nat.le_of_ble_eq_true rfl) rfl rfl ?_
                      refine x_goto (pc := 340) (tgt := 285) dX10_spread_340 (by decide) ?_
                      refine SP.mask (pc := 285) [true, false, true, true, false, true, false, true, true, true, true, true, true, false] (L' := [some (.ref 170), none, some (.int p2), some (.int v1), none, some (.int x14), none, some (.int s19.1), some (.int s22.1), some (.int s32.1), some (.int x37), some (.int x58), some (.int (s39.2 + 1)), none]) rfl ?_
                      have hz := hkk40 (x58, (s39.2 + 1))
                      try dsimp only at hz
                      exact hz
            · refine x_iload (pc := 238) dX10_spread_238 rfl ?_
              refine x_iload (pc := 240) dX10_spread_240 rfl ?_
              refine x_aload_n (pc := 242) dX10_spread_242 rfl ?_
              refine x_iload (pc := 243) dX10_spread_243 rfl ?_
              refine x_iload (pc := 245) dX10_spread_245 rfl ?_
              refine cV_I (pc := 247) (As := [(.int s19.1), (.int s32.2)]) (rest := [(.int x14), (.int s32.1)]) (ct_X10_trusted s19.1 s32.2 q16.2) rfl xC10 rfl (by decide) ml_X10_129 meX10_trusted rfl ⟨prX10_trusted, (Nat.le_of_ble_eq_true rfl), (Nat.le_of_ble_eq_true rfl), rfl, rfl⟩ (Nat.le_of_ble_eq_true rfl) dX10_spread_247 (fun v60 => ?_)
              refine x_imul (pc := 250) dX10_spread_250 ?_
              refine x_iload (pc := 251) dX10_spread_251 rfl ?_
              refine x_idiv (pc := 253) dX10_spread_253 (fun hb61 => ?_)
              refine x_isub (pc := 254) dX10_spread_254 ?_
              refine SP.bdi (fun x62 e63 => ?_)
              refine x_istore (pc := 255) (L' := [some (.ref 170), none, some (.int p2), some (.int v1), some (.int s9.1), some (.int x14), none, some (.int s19.1), some (.int s22.1), some (.int x62), some (.int s32.2), none, none, none]) dX10_spread_255 (Nat.le_of_ble_eq_true rfl) rfl rfl ?_
              refine x_iinc (pc := 257) (b := (s32.2 + 1)) (L' := [some (.ref 170), none, some (.int p2), some (.int v1), some (.int s9.1), some (.int x14), none, some (.int s19.1), some (.int s22.1), some (.int x62), some (.int (s32.2 + 1)), none, none, none]) dX10_spread_257 rfl rfl (Nat.le_of_ble_eq_true rfl) rfl rfl ?_
              refine x_goto (pc := 260) (tgt := 232) dX10_spread_260 (by decide) ?_
              have hz := hkk33 (x62, (s32.2 + 1))
              try dsimp only at hz
              exact hz
          · refine x_iload_n (pc := 212) dX10_spread_212 rfl ?_
            refine x_iload_n (pc := 213) dX10_spread_213 rfl ?_
            refine x_icmp_ne (pc := 214) (tgt := 222) dX10_spread_214 (by decide) (fun h64 => ?_) (fun h64 => ?_)
            · refine x_iconst (pc := 222) (a := 0) dX10_spread_222 (by decide) ?_
              exact x_iret (pc := 223) rfl rfl dX10_spread_223 (Nat.zero_le _) (Nat.zero_le _)
            · refine x_iload (pc := 217) dX10_spread_217 rfl ?_
              refine x_goto (pc := 219) (tgt := 223) dX10_spread_219 (by decide) ?_
              exact x_iret (pc := 223) rfl rfl dX10_spread_223 (Nat.zero_le _) (Nat.zero_le _)
      · refine x_iconst (pc := 96) (a := 1) dX10_spread_96 (by decide) ?_
        refine x_istore (pc := 97) (L' := [some (.ref 170), none, some (.int p2), some (.int v1), some (.int s9.1), some (.int x14), none, some (.int s19.1), some (.int s19.2), some (.int (1:Int32)), none, none, none, none]) dX10_spread_97 (Nat.le_of_ble_eq_true rfl) rfl rfl ?_
        refine x_iload (pc := 99) dX10_spread_99 rfl ?_
        refine x_istore (pc := 101) (L' := [some (.ref 170), none, some (.int p2), some (.int v1), some (.int s9.1), some (.int x14), none, some (.int s19.1), some (.int s19.2), some (.int (1:Int32)), some (.int s9.1), none, none, none]) dX10_spread_101 (Nat.le_of_ble_eq_true rfl) rfl rfl ?_
        refine SP.mask (pc := 103) [true, false, true, true, true, true, false, true, true, true, true, false, false, false] (L' := [some (.ref 170), none, some (.int p2), some (.int v1), some (.int s9.1), some (.int x14), none, some (.int s19.1), some (.int s19.2), some (.int (1:Int32)), some (.int s9.1), none, none, none]) rfl ?_
        refine SP.lp (pc := 103) (fun (s65 : (Int32 × Int32)) => [some (.ref 170), none, some (.int p2), some (.int v1), some (.int s9.1), some (.int x14), none, some (.int s19.1), some (.int s19.2), some (.int s65.1), some (.int s65.2), none, none, none]) (fun (s65 : (Int32 × Int32)) => xwd q16.2) (fun s65 kk66 hkk66 => ?_) xfu ((1:Int32), s9.1)
        try dsimp only
        refine x_iload (pc := 103) dX10_spread_103 rfl ?_
        refine x_iload_n (pc := 105) dX10_spread_105 rfl ?_
        refine SP.jn 144 (fun (s68 : Unit) => [some (.ref 170), none, some (.int p2), some (.int v1), some (.int s9.1), some (.int x14), none, some (.int s19.1), some (.int s19.2), some (.int s65.1), none, none, none, none]) (fun (s68 : Unit) => []) (fun (s68 : Unit) => xwd q16.2) (fun kk67 hkk67 => ?_) (fun s68 => ?_)
        · try dsimp only
          refine x_icmp_gt (pc := 106) (tgt := 144) dX10_spread_106 (by decide) (fun h69 => ?_) (fun h69 => ?_)
          · refine SP.mask (pc := 144) [true, false, true, true, true, true, false, true, true, true, false, false, false, false] (L' := [some (.ref 170), none, some (.int p2), some (.int v1), some (.int s9.1), some (.int x14), none, some (.int s19.1), some (.int s19.2), some (.int s65.1), none, none, none, none]) rfl ?_
            have hz := hkk67 ()
            try dsimp only at hz
            exact hz
          · refine x_iload (pc := 109) dX10_spread_109 rfl ?_
            refine x_if_eq (pc := 111) (tgt := 144) dX10_spread_111 (by decide) (fun h70 => ?_) (fun h70 => ?_)
            · refine SP.mask (pc := 144) [true, false, true, true, true, true, false, true, true, true, false, false, false, false] (L' := [some (.ref 170), none, some (.int p2), some (.int v1), some (.int s9.1), some (.int x14), none, some (.int s19.1), some (.int s19.2), some (.int s65.1), none, none, none, none]) rfl ?_
              have hz := hkk67 ()
              try dsimp only at hz
              exact hz
            · refine x_aload_n (pc := 114) dX10_spread_114 rfl ?_
              refine x_aload_n (pc := 115) dX10_spread_115 rfl ?_
              refine m_getR (pc := 116) (t := 187) xC10 22 fl_X10_72 rfl (by decide) rfl (by decide) rfl dX10_spread_116 ?_
              refine x_iload (pc := 119) dX10_spread_119 rfl ?_
              refine m_iald (pc := 121) rfl rfl dX10_spread_121 (fun hb71 => ?_)
              refine x_iload (pc := 122) dX10_spread_122 rfl ?_
              refine cV_I (pc := 124) (As := [(.int (q16.2.1 187 s19.2.toNatClampNeg)), (.int s65.2)]) (rest := []) (ct_X10_trusted (q16.2.1 187 s19.2.toNatClampNeg) s65.2 q16.2) rfl xC10 rfl (by decide) ml_X10_129 meX10_trusted rfl ⟨prX10_trusted, (Nat.le_of_ble_eq_true rfl), (Nat.le_of_ble_eq_true rfl), rfl, rfl⟩ (Nat.le_of_ble_eq_true rfl) dX10_spread_124 (fun v72 => ?_)
              refine x_iconst (pc := 127) (a := -1) dX10_spread_127 (by decide) ?_
              refine x_icmp_eq (pc := 128) (tgt := 135) dX10_spread_128 (by decide) (fun h73 => ?_) (fun h73 => ?_)
              · refine x_iconst (pc := 135) (a := 0) dX10_spread_135 (by decide) ?_
                refine x_istore (pc := 136) (L' := [some (.ref 170), none, some (.int p2), some (.int v1), some (.int s9.1), some (.int x14), none, some (.int s19.1), some (.int s19.2), some (.int (0:Int32)), some (.int s65.2), none, none, none]) dX10_spread_136 (Nat.le_of_ble_eq_true rfl) rfl rfl ?_
                refine x_iinc (pc := 138) (b := (s65.2 + 1)) (L' := [some (.ref 170), none, some (.int p2), some (.int v1), some (.int s9.1), some (.int x14), none, some (.int s19.1), some (.int s19.2), some (.int (0:Int32)), some (.int (s65.2 + 1)), none, none, none]) dX10_spread_138 rfl rfl (Nat.le_of_ble_eq_true rfl) rfl rfl ?_
                refine x_goto (pc := 141) (tgt := 103) dX10_spread_141 (by decide) ?_
                have hz := hkk66 ((0:Int32), (s65.2 + 1))
                try dsimp only at hz
                exact hz
              · refine x_iconst (pc := 131) (a := 1) dX10_spread_131 (by decide) ?_
                refine x_goto (pc := 132) (tgt := 136) dX10_spread_132 (by decide) ?_
                refine x_istore (pc := 136) (L' := [some (.ref 170), none, some (.int p2), some (.int v1), some (.int s9.1), some (.int x14), none, some (.int s19.1), some (.int s19.2), some (.int (1:Int32)), some (.int s65.2), none, none, none]) dX10_spread_136 (Nat.le_of_ble_eq_true rfl) rfl rfl ?_
                refine x_iinc (pc := 138) (b := (s65.2 + 1)) (L' := [some (.ref 170), none, some (.int p2), some (.int v1), some (.int s9.1), some (.int x14), none, some (.int s19.1), some (.int s19.2), some (.int (1:Int32)), some (.int (s65.2 + 1)), none, none, none]) dX10_spread_138 rfl rfl (Nat.le_of_ble_eq_true rfl) rfl rfl ?_
                refine x_goto (pc := 141) (tgt := 103) dX10_spread_141 (by decide) ?_
                have hz := hkk66 ((1:Int32), (s65.2 + 1))
                try dsimp only at hz
                exact hz
        · try dsimp only
          refine x_iload (pc := 144) dX10_spread_144 rfl ?_
          refine x_if_eq (pc := 146) (tgt := 159) dX10_spread_146 (by decide) (fun h74 => ?_) (fun h74 => ?_)
          · refine x_iload (pc := 159) dX10_spread_159 rfl ?_
            refine x_istore (pc := 161) (L' := [some (.ref 170), none, some (.int p2), some (.int v1), some (.int s9.1), some (.int x14), none, some (.int s19.1), some (.int s19.2), some (.int s65.1), none, none, none, none]) dX10_spread_161 (Nat.le_of_ble_eq_true rfl) rfl rfl ?_
            refine x_iinc (pc := 163) (b := (s19.2 + (-1))) (L' := [some (.ref 170), none, some (.int p2), some (.int v1), some (.int s9.1), some (.int x14), none, some (.int s19.1), some (.int (s19.2 + (-1))), some (.int s65.1), none, none, none, none]) dX10_spread_163 rfl rfl (Nat.le_of_ble_eq_true rfl) rfl rfl ?_
            refine x_goto (pc := 166) (tgt := 91) dX10_spread_166 (by decide) ?_
            refine SP.mask (pc := 91) [true, false, true, true, true, true, false, true, true, false, false, false, false, false] (L' := [some (.ref 170), none, some (.int p2), some (.int v1), some (.int s9.1), some (.int x14), none, some (.int s19.1), some (.int (s19.2 + (-1))), none, none, none, none, none]) rfl ?_
            have hz := hkk20 (s19.1, (s19.2 + (-1)))
            try dsimp only at hz
            exact hz
          · refine x_aload_n (pc := 149) dX10_spread_149 rfl ?_
            refine m_getR (pc := 150) (t := 187) xC10 22 fl_X10_72 rfl (by decide) rfl (by decide) rfl dX10_spread_150 ?_
            refine x_iload (pc := 153) dX10_spread_153 rfl ?_
            refine m_iald (pc := 155) rfl rfl dX10_spread_155 (fun hb75 => ?_)
            refine x_goto (pc := 156) (tgt := 161) dX10_spread_156 (by decide) ?_
            refine SP.bdi (fun x76 e77 => ?_)
            refine x_istore (pc := 161) (L' := [some (.ref 170), none, some (.int p2), some (.int v1), some (.int s9.1), some (.int x14), none, some (.int x76), some (.int s19.2), some (.int s65.1), none, none, none, none]) dX10_spread_161 (Nat.le_of_ble_eq_true rfl) rfl rfl ?_
            refine x_iinc (pc := 163) (b := (s19.2 + (-1))) (L' := [some (.ref 170), none, some (.int p2), some (.int v1), some (.int s9.1), some (.int x14), none, some (.int x76), some (.int (s19.2 + (-1))), some (.int s65.1), none, none, none, none]) dX10_spread_163 rfl rfl (Nat.le_of_ble_eq_true rfl) rfl rfl ?_
            refine x_goto (pc := 166) (tgt := 91) dX10_spread_166 (by decide) ?_
            refine SP.mask (pc := 91) [true, false, true, true, true, true, false, true, true, false, false, false, false, false] (L' := [some (.ref 170), none, some (.int p2), some (.int v1), some (.int s9.1), some (.int x14), none, some (.int x76), some (.int (s19.2 + (-1))), none, none, none, none, none]) rfl ?_
            have hz := hkk20 (x76, (s19.2 + (-1)))
            try dsimp only at hz
            exact hz
    · refine x_aload_n (pc := 36) dX10_spread_36 rfl ?_
      refine m_getR (pc := 37) (t := 177) xC10 6 fl_X10_28 rfl (by decide) rfl (by decide) rfl dX10_spread_37 ?_
      refine x_iload_n (pc := 40) dX10_spread_40 rfl ?_
      refine x_iload (pc := 41) dX10_spread_41 rfl ?_
      refine cS_I (pc := 43) (As := [(.int p1), (.int s9.2)]) (rest := [(.ref 177)]) (ct_X10_at p1 s9.2 M) rfl ml_X10_92 meX10_at rfl ⟨prX10_at, (Nat.le_of_ble_eq_true rfl), (Nat.le_of_ble_eq_true rfl), rfl, rfl⟩ (Nat.le_of_ble_eq_true rfl) dX10_spread_43 (fun v78 => ?_)
      refine m_iald (pc := 46) rfl rfl dX10_spread_46 (fun hb79 => ?_)
      refine x_iconst (pc := 47) (a := -1) dX10_spread_47 (by decide) ?_
      refine x_icmp_eq (pc := 48) (tgt := 57) dX10_spread_48 (by decide) (fun h80 => ?_) (fun h80 => ?_)
      · refine x_iinc (pc := 57) (b := (s9.2 + 1)) (L' := [some (.ref 170), some (.int p1), some (.int p2), some (.int v1), some (.int s9.1), some (.int (s9.2 + 1)), none, none, none, none, none, none, none, none]) dX10_spread_57 rfl rfl (Nat.le_of_ble_eq_true rfl) rfl rfl ?_
        refine x_goto (pc := 60) (tgt := 30) dX10_spread_60 (by decide) ?_
        have hz := hkk10 (s9.1, (s9.2 + 1))
        try dsimp only at hz
        exact hz
      · refine x_iload (pc := 51) dX10_spread_51 rfl ?_
        refine x_iconst (pc := 53) (a := 1) dX10_spread_53 (by decide) ?_
        refine x_iadd (pc := 54) dX10_spread_54 ?_
        refine SP.bdi (fun x81 e82 => ?_)
        refine x_istore (pc := 55) (L' := [some (.ref 170), some (.int p1), some (.int p2), some (.int v1), some (.int x81), some (.int s9.2), none, none, none, none, none, none, none, none]) dX10_spread_55 (Nat.le_of_ble_eq_true rfl) rfl rfl ?_
        refine x_iinc (pc := 57) (b := (s9.2 + 1)) (L' := [some (.ref 170), some (.int p1), some (.int p2), some (.int v1), some (.int x81), some (.int (s9.2 + 1)), none, none, none, none, none, none, none, none]) dX10_spread_57 rfl rfl (Nat.le_of_ble_eq_true rfl) rfl rfl ?_
        refine x_goto (pc := 60) (tgt := 30) dX10_spread_60 (by decide) ?_
        have hz := hkk10 (x81, (s9.2 + 1))
        try dsimp only at hz
        exact hz
  · refine x_iconst (pc := 12) (a := -1) dX10_spread_12 (by decide) ?_
    exact x_iret (pc := 13) rfl rfl dX10_spread_13 (Nat.zero_le _) (Nat.zero_le _)

set_option maxRecDepth 100000 in
set_option maxHeartbeats 4000000 in
theorem ct_X10_tells (p1 : Int32) (p2 : Int32) (M : xM)  : Ct iX10_tells (rI M) [(.ref 170), (.int p1), (.int p2)] (xwd M) (fX10_tells p1 p2 M) := by
  refine Ct.of' (L := [some (.ref 170), some (.int p1), some (.int p2)]) 0 rfl (by decide +kernel) (Nat.le_of_ble_eq_true rfl) rfl ?_
  unfold fX10_tells
  refine x_aload_n (pc := 0) dX10_tells_0 rfl ?_
  refine x_iload_n (pc := 1) dX10_tells_1 rfl ?_
  refine cV_I (pc := 2) (As := [(.int p1)]) (rest := []) (ct_X10_isGauge p1 M) rfl xC10 rfl (by decide) ml_X10_103 meX10_isGauge rfl ⟨prX10_isGauge, (Nat.le_of_ble_eq_true rfl), (Nat.le_of_ble_eq_true rfl), rfl, rfl⟩ (Nat.le_of_ble_eq_true rfl) dX10_tells_2 (fun v1 => ?_)
  refine x_if_eq (pc := 5) (tgt := 45) dX10_tells_5 (by decide) (fun h2 => ?_) (fun h2 => ?_)
  · refine x_iconst (pc := 45) (a := 0) dX10_tells_45 (by decide) ?_
    exact x_zret (pc := 46) rfl (by decide) rfl dX10_tells_46 (Nat.zero_le _) (Nat.zero_le _)
  · refine x_aload_n (pc := 8) dX10_tells_8 rfl ?_
    refine m_getR (pc := 9) (t := 171) xC10 0 fl_X10_9 rfl (by decide) rfl (by decide) rfl dX10_tells_9 ?_
    refine x_iload_n (pc := 12) dX10_tells_12 rfl ?_
    refine m_iald (pc := 13) rfl rfl dX10_tells_13 (fun hb3 => ?_)
    refine x_iconst (pc := 14) (a := 3) dX10_tells_14 (by decide) ?_
    refine x_icmp_ne (pc := 15) (tgt := 31) dX10_tells_15 (by decide) (fun h4 => ?_) (fun h4 => ?_)
    · refine x_aload_n (pc := 31) dX10_tells_31 rfl ?_
      refine x_iload_n (pc := 32) dX10_tells_32 rfl ?_
      refine x_iload_n (pc := 33) dX10_tells_33 rfl ?_
      refine cV_I (pc := 34) (As := [(.int p1), (.int p2)]) (rest := []) (ct_X10_trusted p1 p2 M) rfl xC10 rfl (by decide) ml_X10_129 meX10_trusted rfl ⟨prX10_trusted, (Nat.le_of_ble_eq_true rfl), (Nat.le_of_ble_eq_true rfl), rfl, rfl⟩ (Nat.le_of_ble_eq_true rfl) dX10_tells_34 (fun v5 => ?_)
      refine x_iconst (pc := 37) (a := -1) dX10_tells_37 (by decide) ?_
      refine x_icmp_eq (pc := 38) (tgt := 45) dX10_tells_38 (by decide) (fun h6 => ?_) (fun h6 => ?_)
      · refine x_iconst (pc := 45) (a := 0) dX10_tells_45 (by decide) ?_
        exact x_zret (pc := 46) rfl (by decide) rfl dX10_tells_46 (Nat.zero_le _) (Nat.zero_le _)
      · refine x_iconst (pc := 41) (a := 1) dX10_tells_41 (by decide) ?_
        refine x_goto (pc := 42) (tgt := 46) dX10_tells_42 (by decide) ?_
        exact x_zret (pc := 46) rfl (by decide) rfl dX10_tells_46 (Nat.zero_le _) (Nat.zero_le _)
    · refine x_aload_n (pc := 18) dX10_tells_18 rfl ?_
      refine x_iload_n (pc := 19) dX10_tells_19 rfl ?_
      refine x_iload_n (pc := 20) dX10_tells_20 rfl ?_
      refine cV_I (pc := 21) (As := [(.int p1), (.int p2)]) (rest := []) (ct_X10_readOn p1 p2 M) rfl xC10 rfl (by decide) ml_X10_141 meX10_readOn rfl ⟨prX10_readOn, (Nat.le_of_ble_eq_true rfl), (Nat.le_of_ble_eq_true rfl), rfl, rfl⟩ (Nat.le_of_ble_eq_true rfl) dX10_tells_21 (fun v7 => ?_)
      refine x_iconst (pc := 24) (a := -1) dX10_tells_24 (by decide) ?_
      refine x_icmp_eq (pc := 25) (tgt := 45) dX10_tells_25 (by decide) (fun h8 => ?_) (fun h8 => ?_)
      · refine x_iconst (pc := 45) (a := 0) dX10_tells_45 (by decide) ?_
        exact x_zret (pc := 46) rfl (by decide) rfl dX10_tells_46 (Nat.zero_le _) (Nat.zero_le _)
      · refine x_goto (pc := 28) (tgt := 41) dX10_tells_28 (by decide) ?_
        refine x_iconst (pc := 41) (a := 1) dX10_tells_41 (by decide) ?_
        refine x_goto (pc := 42) (tgt := 46) dX10_tells_42 (by decide) ?_
        exact x_zret (pc := 46) rfl (by decide) rfl dX10_tells_46 (Nat.zero_le _) (Nat.zero_le _)

set_option maxRecDepth 100000 in
set_option maxHeartbeats 4000000 in
theorem ct_X10_state (p1 : Int32) (p2 : Int32) (M : xM)  : Ct iX10_state rIM [(.ref 170), (.int p1), (.int p2)] (xwd M) (fX10_state p1 p2 M) := by
  refine Ct.of' (L := [some (.ref 170), some (.int p1), some (.int p2), none]) 1 rfl (by decide +kernel) (Nat.le_of_ble_eq_true rfl) rfl ?_
  unfold fX10_state
  refine x_aload_n (pc := 0) dX10_state_0 rfl ?_
  refine x_iload_n (pc := 1) dX10_state_1 rfl ?_
  refine x_iconst (pc := 2) (a := 0) dX10_state_2 (by decide) ?_
  refine x_iconst (pc := 3) (a := 4) dX10_state_3 (by decide) ?_
  refine cV_I (pc := 4) (As := [(.int p1), (.int (0:Int32)), (.int (4:Int32))]) (rest := []) (ct_X10_fails p1 (0:Int32) (4:Int32) M) rfl xC10 rfl (by decide) ml_X10_96 meX10_fails rfl ⟨prX10_fails, (Nat.le_of_ble_eq_true rfl), (Nat.le_of_ble_eq_true rfl), rfl, rfl⟩ (Nat.le_of_ble_eq_true rfl) dX10_state_4 (fun v1 => ?_)
  refine x_istore_n (pc := 7) (L' := [some (.ref 170), some (.int p1), some (.int p2), some (.int v1)]) dX10_state_7 (Nat.le_of_ble_eq_true rfl) rfl rfl ?_
  refine x_iload_n (pc := 8) dX10_state_8 rfl ?_
  refine x_if_eq (pc := 9) (tgt := 14) dX10_state_9 (by decide) (fun h2 => ?_) (fun h2 => ?_)
  · refine x_iload_n (pc := 14) dX10_state_14 rfl ?_
    refine x_iconst (pc := 15) (a := 0) dX10_state_15 (by decide) ?_
    refine x_bipush (pc := 16) (a := 55) dX10_state_16 (by decide) ?_
    refine cS_I (pc := 18) (As := [(.int p2), (.int (0:Int32)), (.int (55:Int32))]) (rest := []) (ct_X10_isIn p2 (0:Int32) (55:Int32) M) rfl ml_X10_85 meX10_isIn rfl ⟨prX10_isIn, (Nat.le_of_ble_eq_true rfl), (Nat.le_of_ble_eq_true rfl), rfl, rfl⟩ (Nat.le_of_ble_eq_true rfl) dX10_state_18 (fun v3 => ?_)
    refine x_if_ne (pc := 21) (tgt := 26) dX10_state_21 (by decide) (fun h4 => ?_) (fun h4 => ?_)
    · refine x_aload_n (pc := 26) dX10_state_26 rfl ?_
      refine m_getR (pc := 27) (t := 171) xC10 0 fl_X10_9 rfl (by decide) rfl (by decide) rfl dX10_state_27 ?_
      refine x_iload_n (pc := 30) dX10_state_30 rfl ?_
      refine m_iald (pc := 31) rfl rfl dX10_state_31 (fun hb5 => ?_)
      refine x_iconst (pc := 32) (a := 3) dX10_state_32 (by decide) ?_
      refine x_icmp_ne (pc := 33) (tgt := 52) dX10_state_33 (by decide) (fun h6 => ?_) (fun h6 => ?_)
      · refine x_aload_n (pc := 52) dX10_state_52 rfl ?_
        refine x_iload_n (pc := 53) dX10_state_53 rfl ?_
        refine x_iload_n (pc := 54) dX10_state_54 rfl ?_
        refine cV_I (pc := 55) (As := [(.int p1), (.int p2)]) (rest := []) (ct_X10_trusted p1 p2 M) rfl xC10 rfl (by decide) ml_X10_129 meX10_trusted rfl ⟨prX10_trusted, (Nat.le_of_ble_eq_true rfl), (Nat.le_of_ble_eq_true rfl), rfl, rfl⟩ (Nat.le_of_ble_eq_true rfl) dX10_state_55 (fun v7 => ?_)
        refine x_iconst (pc := 58) (a := -1) dX10_state_58 (by decide) ?_
        refine x_icmp_eq (pc := 59) (tgt := 64) dX10_state_59 (by decide) (fun h8 => ?_) (fun h8 => ?_)
        · refine x_aload_n (pc := 64) dX10_state_64 rfl ?_
          refine x_iload_n (pc := 65) dX10_state_65 rfl ?_
          refine x_iload_n (pc := 66) dX10_state_66 rfl ?_
          refine cV_IM (pc := 67) (As := [(.int p1), (.int p2)]) (rest := []) (ct_X10_mended p1 p2 M) rfl xC10 rfl (by decide) ml_X10_144 meX10_mended rfl ⟨prX10_mended, (Nat.le_of_ble_eq_true rfl), (Nat.le_of_ble_eq_true rfl), rfl, rfl⟩ (Nat.le_of_ble_eq_true rfl) dX10_state_67 (fun q9 => ?_)
          refine x_iconst (pc := 70) (a := -1) dX10_state_70 (by decide) ?_
          refine x_icmp_eq (pc := 71) (tgt := 78) dX10_state_71 (by decide) (fun h10 => ?_) (fun h10 => ?_)
          · refine x_aload_n (pc := 78) dX10_state_78 rfl ?_
            refine x_iload_n (pc := 79) dX10_state_79 rfl ?_
            refine x_iload_n (pc := 80) dX10_state_80 rfl ?_
            refine cV_I (pc := 81) (As := [(.int p1), (.int p2)]) (rest := []) (ct_X10_raw0 p1 p2 q9.2) rfl xC10 rfl (by decide) ml_X10_116 meX10_raw0 rfl ⟨prX10_raw0, (Nat.le_of_ble_eq_true rfl), (Nat.le_of_ble_eq_true rfl), rfl, rfl⟩ (Nat.le_of_ble_eq_true rfl) dX10_state_81 (fun v11 => ?_)
            refine x_iconst (pc := 84) (a := -1) dX10_state_84 (by decide) ?_
            refine x_icmp_ne (pc := 85) (tgt := 92) dX10_state_85 (by decide) (fun h12 => ?_) (fun h12 => ?_)
            · refine x_iconst (pc := 92) (a := 2) dX10_state_92 (by decide) ?_
              exact x_iret (pc := 93) rfl rfl dX10_state_93 (Nat.zero_le _) (Nat.zero_le _)
            · refine x_iconst (pc := 88) (a := 0) dX10_state_88 (by decide) ?_
              refine x_goto (pc := 89) (tgt := 93) dX10_state_89 (by decide) ?_
              exact x_iret (pc := 93) rfl rfl dX10_state_93 (Nat.zero_le _) (Nat.zero_le _)
          · refine x_iconst (pc := 74) (a := 3) dX10_state_74 (by decide) ?_
            refine x_goto (pc := 75) (tgt := 93) dX10_state_75 (by decide) ?_
            exact x_iret (pc := 93) rfl rfl dX10_state_93 (Nat.zero_le _) (Nat.zero_le _)
        · refine x_iconst (pc := 62) (a := 1) dX10_state_62 (by decide) ?_
          exact x_iret (pc := 63) rfl rfl dX10_state_63 (Nat.zero_le _) (Nat.zero_le _)
      · refine x_aload_n (pc := 36) dX10_state_36 rfl ?_
        refine x_iload_n (pc := 37) dX10_state_37 rfl ?_
        refine x_iload_n (pc := 38) dX10_state_38 rfl ?_
        refine cV_I (pc := 39) (As := [(.int p1), (.int p2)]) (rest := []) (ct_X10_readOn p1 p2 M) rfl xC10 rfl (by decide) ml_X10_141 meX10_readOn rfl ⟨prX10_readOn, (Nat.le_of_ble_eq_true rfl), (Nat.le_of_ble_eq_true rfl), rfl, rfl⟩ (Nat.le_of_ble_eq_true rfl) dX10_state_39 (fun v13 => ?_)
        refine x_iconst (pc := 42) (a := -1) dX10_state_42 (by decide) ?_
        refine x_icmp_ne (pc := 43) (tgt := 50) dX10_state_43 (by decide) (fun h14 => ?_) (fun h14 => ?_)
        · refine x_iconst (pc := 50) (a := 4) dX10_state_50 (by decide) ?_
          exact x_iret (pc := 51) rfl rfl dX10_state_51 (Nat.zero_le _) (Nat.zero_le _)
        · refine x_iconst (pc := 46) (a := 0) dX10_state_46 (by decide) ?_
          refine x_goto (pc := 47) (tgt := 51) dX10_state_47 (by decide) ?_
          exact x_iret (pc := 51) rfl rfl dX10_state_51 (Nat.zero_le _) (Nat.zero_le _)
    · refine x_iconst (pc := 24) (a := -1) dX10_state_24 (by decide) ?_
      exact x_iret (pc := 25) rfl rfl dX10_state_25 (Nat.zero_le _) (Nat.zero_le _)
  · refine x_iload_n (pc := 12) dX10_state_12 rfl ?_
    exact x_iret (pc := 13) rfl rfl dX10_state_13 (Nat.zero_le _) (Nat.zero_le _)

set_option maxRecDepth 100000 in
set_option maxHeartbeats 4000000 in
theorem ct_X10_number0 (p1 : Int32) (p2 : Int32) (M : xM)  : Ct iX10_number0 rIM [(.ref 170), (.int p1), (.int p2)] (xwd M) (fX10_number0 p1 p2 M) := by
  refine Ct.of' (L := [some (.ref 170), some (.int p1), some (.int p2), none]) 1 rfl (by decide +kernel) (Nat.le_of_ble_eq_true rfl) rfl ?_
  unfold fX10_number0
  refine x_aload_n (pc := 0) dX10_number0_0 rfl ?_
  refine m_getR (pc := 1) (t := 171) xC10 0 fl_X10_9 rfl (by decide) rfl (by decide) rfl dX10_number0_1 ?_
  refine x_iload_n (pc := 4) dX10_number0_4 rfl ?_
  refine m_iald (pc := 5) rfl rfl dX10_number0_5 (fun hb1 => ?_)
  refine x_iconst (pc := 6) (a := 3) dX10_number0_6 (by decide) ?_
  refine x_icmp_ne (pc := 7) (tgt := 17) dX10_number0_7 (by decide) (fun h2 => ?_) (fun h2 => ?_)
  · refine x_aload_n (pc := 17) dX10_number0_17 rfl ?_
    refine x_iload_n (pc := 18) dX10_number0_18 rfl ?_
    refine x_iload_n (pc := 19) dX10_number0_19 rfl ?_
    refine cV_I (pc := 20) (As := [(.int p1), (.int p2)]) (rest := []) (ct_X10_trusted p1 p2 M) rfl xC10 rfl (by decide) ml_X10_129 meX10_trusted rfl ⟨prX10_trusted, (Nat.le_of_ble_eq_true rfl), (Nat.le_of_ble_eq_true rfl), rfl, rfl⟩ (Nat.le_of_ble_eq_true rfl) dX10_number0_20 (fun v3 => ?_)
    refine x_istore_n (pc := 23) (L' := [some (.ref 170), some (.int p1), some (.int p2), some (.int v3)]) dX10_number0_23 (Nat.le_of_ble_eq_true rfl) rfl rfl ?_
    refine x_iload_n (pc := 24) dX10_number0_24 rfl ?_
    refine x_iconst (pc := 25) (a := -1) dX10_number0_25 (by decide) ?_
    refine x_icmp_eq (pc := 26) (tgt := 31) dX10_number0_26 (by decide) (fun h4 => ?_) (fun h4 => ?_)
    · refine x_aload_n (pc := 31) dX10_number0_31 rfl ?_
      refine x_iload_n (pc := 32) dX10_number0_32 rfl ?_
      refine x_iload_n (pc := 33) dX10_number0_33 rfl ?_
      refine cV_IM (pc := 34) (As := [(.int p1), (.int p2)]) (rest := []) (ct_X10_mended p1 p2 M) rfl xC10 rfl (by decide) ml_X10_144 meX10_mended rfl ⟨prX10_mended, (Nat.le_of_ble_eq_true rfl), (Nat.le_of_ble_eq_true rfl), rfl, rfl⟩ (Nat.le_of_ble_eq_true rfl) dX10_number0_34 (fun q5 => ?_)
      refine x_istore_n (pc := 37) (L' := [some (.ref 170), some (.int p1), some (.int p2), some (.int q5.1)]) dX10_number0_37 (Nat.le_of_ble_eq_true rfl) rfl rfl ?_
      refine x_iload_n (pc := 38) dX10_number0_38 rfl ?_
      refine x_iconst (pc := 39) (a := -1) dX10_number0_39 (by decide) ?_
      refine x_icmp_eq (pc := 40) (tgt := 47) dX10_number0_40 (by decide) (fun h6 => ?_) (fun h6 => ?_)
      · refine x_aload_n (pc := 47) dX10_number0_47 rfl ?_
        refine x_iload_n (pc := 48) dX10_number0_48 rfl ?_
        refine x_iload_n (pc := 49) dX10_number0_49 rfl ?_
        refine cV_I (pc := 50) (As := [(.int p1), (.int p2)]) (rest := []) (ct_X10_raw0 p1 p2 q5.2) rfl xC10 rfl (by decide) ml_X10_116 meX10_raw0 rfl ⟨prX10_raw0, (Nat.le_of_ble_eq_true rfl), (Nat.le_of_ble_eq_true rfl), rfl, rfl⟩ (Nat.le_of_ble_eq_true rfl) dX10_number0_50 (fun v7 => ?_)
        exact x_iret (pc := 53) rfl rfl dX10_number0_53 (Nat.zero_le _) (Nat.zero_le _)
      · refine x_iload_n (pc := 43) dX10_number0_43 rfl ?_
        refine x_goto (pc := 44) (tgt := 53) dX10_number0_44 (by decide) ?_
        exact x_iret (pc := 53) rfl rfl dX10_number0_53 (Nat.zero_le _) (Nat.zero_le _)
    · refine x_iload_n (pc := 29) dX10_number0_29 rfl ?_
      exact x_iret (pc := 30) rfl rfl dX10_number0_30 (Nat.zero_le _) (Nat.zero_le _)
  · refine x_aload_n (pc := 10) dX10_number0_10 rfl ?_
    refine x_iload_n (pc := 11) dX10_number0_11 rfl ?_
    refine x_iload_n (pc := 12) dX10_number0_12 rfl ?_
    refine cV_IM (pc := 13) (As := [(.int p1), (.int p2)]) (rest := []) (ct_X10_spread p1 p2 M) rfl xC10 rfl (by decide) ml_X10_147 meX10_spread rfl ⟨prX10_spread, (Nat.le_of_ble_eq_true rfl), (Nat.le_of_ble_eq_true rfl), rfl, rfl⟩ (Nat.le_of_ble_eq_true rfl) dX10_number0_13 (fun q8 => ?_)
    exact x_iret (pc := 16) rfl rfl dX10_number0_16 (Nat.zero_le _) (Nat.zero_le _)

set_option maxRecDepth 100000 in
set_option maxHeartbeats 4000000 in
theorem ct_X10_number (p1 : Int32) (p2 : Int32) (M : xM)  : Ct iX10_number rIM [(.ref 170), (.int p1), (.int p2)] (xwd M) (fX10_number p1 p2 M) := by
  refine Ct.of' (L := [some (.ref 170), some (.int p1), some (.int p2), none]) 1 rfl (by decide +kernel) (Nat.le_of_ble_eq_true rfl) rfl ?_
  unfold fX10_number
  refine x_aload_n (pc := 0) dX10_number_0 rfl ?_
  refine x_iload_n (pc := 1) dX10_number_1 rfl ?_
  refine x_iconst (pc := 2) (a := 0) dX10_number_2 (by decide) ?_
  refine x_iconst (pc := 3) (a := 4) dX10_number_3 (by decide) ?_
  refine cV_I (pc := 4) (As := [(.int p1), (.int (0:Int32)), (.int (4:Int32))]) (rest := []) (ct_X10_fails p1 (0:Int32) (4:Int32) M) rfl xC10 rfl (by decide) ml_X10_96 meX10_fails rfl ⟨prX10_fails, (Nat.le_of_ble_eq_true rfl), (Nat.le_of_ble_eq_true rfl), rfl, rfl⟩ (Nat.le_of_ble_eq_true rfl) dX10_number_4 (fun v1 => ?_)
  refine x_istore_n (pc := 7) (L' := [some (.ref 170), some (.int p1), some (.int p2), some (.int v1)]) dX10_number_7 (Nat.le_of_ble_eq_true rfl) rfl rfl ?_
  refine x_iload_n (pc := 8) dX10_number_8 rfl ?_
  refine x_if_eq (pc := 9) (tgt := 16) dX10_number_9 (by decide) (fun h2 => ?_) (fun h2 => ?_)
  · refine x_iload_n (pc := 16) dX10_number_16 rfl ?_
    refine x_iconst (pc := 17) (a := 0) dX10_number_17 (by decide) ?_
    refine x_bipush (pc := 18) (a := 55) dX10_number_18 (by decide) ?_
    refine cS_I (pc := 20) (As := [(.int p2), (.int (0:Int32)), (.int (55:Int32))]) (rest := []) (ct_X10_isIn p2 (0:Int32) (55:Int32) M) rfl ml_X10_85 meX10_isIn rfl ⟨prX10_isIn, (Nat.le_of_ble_eq_true rfl), (Nat.le_of_ble_eq_true rfl), rfl, rfl⟩ (Nat.le_of_ble_eq_true rfl) dX10_number_20 (fun v3 => ?_)
    refine x_if_eq (pc := 23) (tgt := 35) dX10_number_23 (by decide) (fun h4 => ?_) (fun h4 => ?_)
    · refine x_iconst (pc := 35) (a := -1) dX10_number_35 (by decide) ?_
      exact x_iret (pc := 36) rfl rfl dX10_number_36 (Nat.zero_le _) (Nat.zero_le _)
    · refine x_aload_n (pc := 26) dX10_number_26 rfl ?_
      refine x_iload_n (pc := 27) dX10_number_27 rfl ?_
      refine x_iload_n (pc := 28) dX10_number_28 rfl ?_
      refine cV_IM (pc := 29) (As := [(.int p1), (.int p2)]) (rest := []) (ct_X10_number0 p1 p2 M) rfl xC10 rfl (by decide) ml_X10_150 meX10_number0 rfl ⟨prX10_number0, (Nat.le_of_ble_eq_true rfl), (Nat.le_of_ble_eq_true rfl), rfl, rfl⟩ (Nat.le_of_ble_eq_true rfl) dX10_number_29 (fun q5 => ?_)
      refine x_goto (pc := 32) (tgt := 36) dX10_number_32 (by decide) ?_
      exact x_iret (pc := 36) rfl rfl dX10_number_36 (Nat.zero_le _) (Nat.zero_le _)
  · refine x_iload_n (pc := 12) dX10_number_12 rfl ?_
    refine x_goto (pc := 13) (tgt := 36) dX10_number_13 (by decide) ?_
    exact x_iret (pc := 36) rfl rfl dX10_number_36 (Nat.zero_le _) (Nat.zero_le _)

set_option maxRecDepth 100000 in
set_option maxHeartbeats 4000000 in
theorem ct_X10_owner (p1 : Int32) (p2 : Int32) (p3 : Int32) (M : xM)  : Ct iX10_owner (rI M) [(.ref 170), (.int p1), (.int p2), (.int p3)] (xwd M) (fX10_owner p1 p2 p3 M) := by
  refine Ct.of' (L := [some (.ref 170), some (.int p1), some (.int p2), some (.int p3), none, none]) 2 rfl (by decide +kernel) (Nat.le_of_ble_eq_true rfl) rfl ?_
  unfold fX10_owner
  refine x_iconst (pc := 0) (a := -1) dX10_owner_0 (by decide) ?_
  refine x_istore (pc := 1) (L' := [some (.ref 170), some (.int p1), some (.int p2), some (.int p3), some (.int (-1:Int32)), none]) dX10_owner_1 (Nat.le_of_ble_eq_true rfl) rfl rfl ?_
  refine x_iconst (pc := 3) (a := 0) dX10_owner_3 (by decide) ?_
  refine x_istore (pc := 4) (L' := [some (.ref 170), some (.int p1), some (.int p2), some (.int p3), some (.int (-1:Int32)), some (.int (0:Int32))]) dX10_owner_4 (Nat.le_of_ble_eq_true rfl) rfl rfl ?_
  refine SP.mask (pc := 6) [true, true, true, true, true, true] (L' := [some (.ref 170), some (.int p1), some (.int p2), some (.int p3), some (.int (-1:Int32)), some (.int (0:Int32))]) rfl ?_
  refine SP.lp (pc := 6) (fun (s1 : (Int32 × Int32)) => [some (.ref 170), some (.int p1), some (.int p2), some (.int p3), some (.int s1.1), some (.int s1.2)]) (fun (s1 : (Int32 × Int32)) => xwd M) (fun s1 kk2 hkk2 => ?_) xfu ((-1:Int32), (0:Int32))
  try dsimp only
  refine x_iload (pc := 6) dX10_owner_6 rfl ?_
  refine x_bipush (pc := 8) (a := 16) dX10_owner_8 (by decide) ?_
  refine x_icmp_ge (pc := 10) (tgt := 58) dX10_owner_10 (by decide) (fun h3 => ?_) (fun h3 => ?_)
  · refine x_iload (pc := 58) dX10_owner_58 rfl ?_
    exact x_iret (pc := 60) rfl rfl dX10_owner_60 (Nat.zero_le _) (Nat.zero_le _)
  · refine x_aload_n (pc := 13) dX10_owner_13 rfl ?_
    refine x_iload (pc := 14) dX10_owner_14 rfl ?_
    refine x_iload_n (pc := 16) dX10_owner_16 rfl ?_
    refine cV_I (pc := 17) (As := [(.int s1.2), (.int p3)]) (rest := []) (ct_X10_tells s1.2 p3 M) rfl xC10 rfl (by decide) ml_X10_153 meX10_tells rfl ⟨prX10_tells, (Nat.le_of_ble_eq_true rfl), (Nat.le_of_ble_eq_true rfl), rfl, rfl⟩ (Nat.le_of_ble_eq_true rfl) dX10_owner_17 (fun v4 => ?_)
    refine x_if_eq (pc := 20) (tgt := 52) dX10_owner_20 (by decide) (fun h5 => ?_) (fun h5 => ?_)
    · refine x_iinc (pc := 52) (b := (s1.2 + 1)) (L' := [some (.ref 170), some (.int p1), some (.int p2), some (.int p3), some (.int s1.1), some (.int (s1.2 + 1))]) dX10_owner_52 rfl rfl (Nat.le_of_ble_eq_true rfl) rfl rfl ?_
      refine x_goto (pc := 55) (tgt := 6) dX10_owner_55 (by decide) ?_
      have hz := hkk2 (s1.1, (s1.2 + 1))
      try dsimp only at hz
      exact hz
    · refine x_iload (pc := 23) dX10_owner_23 rfl ?_
      refine x_iconst (pc := 25) (a := -1) dX10_owner_25 (by decide) ?_
      refine x_icmp_eq (pc := 26) (tgt := 48) dX10_owner_26 (by decide) (fun h6 => ?_) (fun h6 => ?_)
      · refine x_iload (pc := 48) dX10_owner_48 rfl ?_
        refine x_istore (pc := 50) (L' := [some (.ref 170), some (.int p1), some (.int p2), some (.int p3), some (.int s1.2), some (.int s1.2)]) dX10_owner_50 (Nat.le_of_ble_eq_true rfl) rfl rfl ?_
        refine x_iinc (pc := 52) (b := (s1.2 + 1)) (L' := [some (.ref 170), some (.int p1), some (.int p2), some (.int p3), some (.int s1.2), some (.int (s1.2 + 1))]) dX10_owner_52 rfl rfl (Nat.le_of_ble_eq_true rfl) rfl rfl ?_
        refine x_goto (pc := 55) (tgt := 6) dX10_owner_55 (by decide) ?_
        have hz := hkk2 (s1.2, (s1.2 + 1))
        try dsimp only at hz
        exact hz
      · refine x_aload_n (pc := 29) dX10_owner_29 rfl ?_
        refine x_iload (pc := 30) dX10_owner_30 rfl ?_
        refine x_iload_n (pc := 32) dX10_owner_32 rfl ?_
        refine x_iload_n (pc := 33) dX10_owner_33 rfl ?_
        refine cV_I (pc := 34) (As := [(.int s1.2), (.int p1), (.int p2)]) (rest := []) (ct_X10_far s1.2 p1 p2 M) rfl xC10 rfl (by decide) ml_X10_119 meX10_far rfl ⟨prX10_far, (Nat.le_of_ble_eq_true rfl), (Nat.le_of_ble_eq_true rfl), rfl, rfl⟩ (Nat.le_of_ble_eq_true rfl) dX10_owner_34 (fun v7 => ?_)
        refine x_aload_n (pc := 37) dX10_owner_37 rfl ?_
        refine x_iload (pc := 38) dX10_owner_38 rfl ?_
        refine x_iload_n (pc := 40) dX10_owner_40 rfl ?_
        refine x_iload_n (pc := 41) dX10_owner_41 rfl ?_
        refine cV_I (pc := 42) (As := [(.int s1.1), (.int p1), (.int p2)]) (rest := [(.int v7)]) (ct_X10_far s1.1 p1 p2 M) rfl xC10 rfl (by decide) ml_X10_119 meX10_far rfl ⟨prX10_far, (Nat.le_of_ble_eq_true rfl), (Nat.le_of_ble_eq_true rfl), rfl, rfl⟩ (Nat.le_of_ble_eq_true rfl) dX10_owner_42 (fun v8 => ?_)
        refine x_icmp_ge (pc := 45) (tgt := 52) dX10_owner_45 (by decide) (fun h9 => ?_) (fun h9 => ?_)
        · refine x_iinc (pc := 52) (b := (s1.2 + 1)) (L' := [some (.ref 170), some (.int p1), some (.int p2), some (.int p3), some (.int s1.1), some (.int (s1.2 + 1))]) dX10_owner_52 rfl rfl (Nat.le_of_ble_eq_true rfl) rfl rfl ?_
          refine x_goto (pc := 55) (tgt := 6) dX10_owner_55 (by decide) ?_
          have hz := hkk2 (s1.1, (s1.2 + 1))
          try dsimp only at hz
          exact hz
        · refine x_iload (pc := 48) dX10_owner_48 rfl ?_
          refine x_istore (pc := 50) (L' := [some (.ref 170), some (.int p1), some (.int p2), some (.int p3), some (.int s1.2), some (.int s1.2)]) dX10_owner_50 (Nat.le_of_ble_eq_true rfl) rfl rfl ?_
          refine x_iinc (pc := 52) (b := (s1.2 + 1)) (L' := [some (.ref 170), some (.int p1), some (.int p2), some (.int p3), some (.int s1.2), some (.int (s1.2 + 1))]) dX10_owner_52 rfl rfl (Nat.le_of_ble_eq_true rfl) rfl rfl ?_
          refine x_goto (pc := 55) (tgt := 6) dX10_owner_55 (by decide) ?_
          have hz := hkk2 (s1.2, (s1.2 + 1))
          try dsimp only at hz
          exact hz

set_option maxRecDepth 100000 in
set_option maxHeartbeats 4000000 in
theorem ct_X10_part (p1 : Int32) (p2 : Int32) (p3 : Int32) (M : xM)  : Ct iX10_part (rI M) [(.ref 170), (.int p1), (.int p2), (.int p3)] (xwd M) (fX10_part p1 p2 p3 M) := by
  refine Ct.of' (L := [some (.ref 170), some (.int p1), some (.int p2), some (.int p3)]) 0 rfl (by decide +kernel) (Nat.le_of_ble_eq_true rfl) rfl ?_
  unfold fX10_part
  refine x_iload_n (pc := 0) dX10_part_0 rfl ?_
  refine x_iconst (pc := 1) (a := 0) dX10_part_1 (by decide) ?_
  refine x_bipush (pc := 2) (a := 9) dX10_part_2 (by decide) ?_
  refine cS_I (pc := 4) (As := [(.int p1), (.int (0:Int32)), (.int (9:Int32))]) (rest := []) (ct_X10_isIn p1 (0:Int32) (9:Int32) M) rfl ml_X10_85 meX10_isIn rfl ⟨prX10_isIn, (Nat.le_of_ble_eq_true rfl), (Nat.le_of_ble_eq_true rfl), rfl, rfl⟩ (Nat.le_of_ble_eq_true rfl) dX10_part_4 (fun v1 => ?_)
  refine x_if_eq (pc := 7) (tgt := 40) dX10_part_7 (by decide) (fun h2 => ?_) (fun h2 => ?_)
  · refine x_iconst (pc := 40) (a := -1) dX10_part_40 (by decide) ?_
    exact x_iret (pc := 41) rfl rfl dX10_part_41 (Nat.zero_le _) (Nat.zero_le _)
  · refine x_iload_n (pc := 10) dX10_part_10 rfl ?_
    refine x_iconst (pc := 11) (a := 0) dX10_part_11 (by decide) ?_
    refine x_bipush (pc := 12) (a := 9) dX10_part_12 (by decide) ?_
    refine cS_I (pc := 14) (As := [(.int p2), (.int (0:Int32)), (.int (9:Int32))]) (rest := []) (ct_X10_isIn p2 (0:Int32) (9:Int32) M) rfl ml_X10_85 meX10_isIn rfl ⟨prX10_isIn, (Nat.le_of_ble_eq_true rfl), (Nat.le_of_ble_eq_true rfl), rfl, rfl⟩ (Nat.le_of_ble_eq_true rfl) dX10_part_14 (fun v3 => ?_)
    refine x_if_eq (pc := 17) (tgt := 40) dX10_part_17 (by decide) (fun h4 => ?_) (fun h4 => ?_)
    · refine x_iconst (pc := 40) (a := -1) dX10_part_40 (by decide) ?_
      exact x_iret (pc := 41) rfl rfl dX10_part_41 (Nat.zero_le _) (Nat.zero_le _)
    · refine x_iload_n (pc := 20) dX10_part_20 rfl ?_
      refine x_iconst (pc := 21) (a := 0) dX10_part_21 (by decide) ?_
      refine x_bipush (pc := 22) (a := 55) dX10_part_22 (by decide) ?_
      refine cS_I (pc := 24) (As := [(.int p3), (.int (0:Int32)), (.int (55:Int32))]) (rest := []) (ct_X10_isIn p3 (0:Int32) (55:Int32) M) rfl ml_X10_85 meX10_isIn rfl ⟨prX10_isIn, (Nat.le_of_ble_eq_true rfl), (Nat.le_of_ble_eq_true rfl), rfl, rfl⟩ (Nat.le_of_ble_eq_true rfl) dX10_part_24 (fun v5 => ?_)
      refine x_if_eq (pc := 27) (tgt := 40) dX10_part_27 (by decide) (fun h6 => ?_) (fun h6 => ?_)
      · refine x_iconst (pc := 40) (a := -1) dX10_part_40 (by decide) ?_
        exact x_iret (pc := 41) rfl rfl dX10_part_41 (Nat.zero_le _) (Nat.zero_le _)
      · refine x_aload_n (pc := 30) dX10_part_30 rfl ?_
        refine x_iload_n (pc := 31) dX10_part_31 rfl ?_
        refine x_iload_n (pc := 32) dX10_part_32 rfl ?_
        refine x_iload_n (pc := 33) dX10_part_33 rfl ?_
        refine cV_I (pc := 34) (As := [(.int p1), (.int p2), (.int p3)]) (rest := []) (ct_X10_owner p1 p2 p3 M) rfl xC10 rfl (by decide) ml_X10_156 meX10_owner rfl ⟨prX10_owner, (Nat.le_of_ble_eq_true rfl), (Nat.le_of_ble_eq_true rfl), rfl, rfl⟩ (Nat.le_of_ble_eq_true rfl) dX10_part_34 (fun v7 => ?_)
        refine x_goto (pc := 37) (tgt := 41) dX10_part_37 (by decide) ?_
        exact x_iret (pc := 41) rfl rfl dX10_part_41 (Nat.zero_le _) (Nat.zero_le _)

set_option maxRecDepth 100000 in
set_option maxHeartbeats 4000000 in
theorem ct_X10_squares (p1 : Int32) (p2 : Int32) (M : xM)  : Ct iX10_squares (rI M) [(.ref 170), (.int p1), (.int p2)] (xwd M) (fX10_squares p1 p2 M) := by
  refine Ct.of' (L := [some (.ref 170), some (.int p1), some (.int p2), none, none, none]) 3 rfl (by decide +kernel) (Nat.le_of_ble_eq_true rfl) rfl ?_
  unfold fX10_squares
  refine x_aload_n (pc := 0) dX10_squares_0 rfl ?_
  refine x_iload_n (pc := 1) dX10_squares_1 rfl ?_
  refine x_iconst (pc := 2) (a := 0) dX10_squares_2 (by decide) ?_
  refine x_iconst (pc := 3) (a := 4) dX10_squares_3 (by decide) ?_
  refine cV_I (pc := 4) (As := [(.int p1), (.int (0:Int32)), (.int (4:Int32))]) (rest := []) (ct_X10_fails p1 (0:Int32) (4:Int32) M) rfl xC10 rfl (by decide) ml_X10_96 meX10_fails rfl ⟨prX10_fails, (Nat.le_of_ble_eq_true rfl), (Nat.le_of_ble_eq_true rfl), rfl, rfl⟩ (Nat.le_of_ble_eq_true rfl) dX10_squares_4 (fun v1 => ?_)
  refine x_istore_n (pc := 7) (L' := [some (.ref 170), some (.int p1), some (.int p2), some (.int v1), none, none]) dX10_squares_7 (Nat.le_of_ble_eq_true rfl) rfl rfl ?_
  refine x_iload_n (pc := 8) dX10_squares_8 rfl ?_
  refine x_if_eq (pc := 9) (tgt := 14) dX10_squares_9 (by decide) (fun h2 => ?_) (fun h2 => ?_)
  · refine x_iload_n (pc := 14) dX10_squares_14 rfl ?_
    refine x_iconst (pc := 15) (a := 0) dX10_squares_15 (by decide) ?_
    refine x_bipush (pc := 16) (a := 55) dX10_squares_16 (by decide) ?_
    refine cS_I (pc := 18) (As := [(.int p2), (.int (0:Int32)), (.int (55:Int32))]) (rest := []) (ct_X10_isIn p2 (0:Int32) (55:Int32) M) rfl ml_X10_85 meX10_isIn rfl ⟨prX10_isIn, (Nat.le_of_ble_eq_true rfl), (Nat.le_of_ble_eq_true rfl), rfl, rfl⟩ (Nat.le_of_ble_eq_true rfl) dX10_squares_18 (fun v3 => ?_)
    refine x_if_ne (pc := 21) (tgt := 26) dX10_squares_21 (by decide) (fun h4 => ?_) (fun h4 => ?_)
    · refine x_iconst (pc := 26) (a := 0) dX10_squares_26 (by decide) ?_
      refine x_istore (pc := 27) (L' := [some (.ref 170), some (.int p1), some (.int p2), some (.int v1), some (.int (0:Int32)), none]) dX10_squares_27 (Nat.le_of_ble_eq_true rfl) rfl rfl ?_
      refine x_iconst (pc := 29) (a := 0) dX10_squares_29 (by decide) ?_
      refine x_istore (pc := 30) (L' := [some (.ref 170), some (.int p1), some (.int p2), some (.int v1), some (.int (0:Int32)), some (.int (0:Int32))]) dX10_squares_30 (Nat.le_of_ble_eq_true rfl) rfl rfl ?_
      refine SP.mask (pc := 32) [true, true, true, false, true, true] (L' := [some (.ref 170), some (.int p1), some (.int p2), none, some (.int (0:Int32)), some (.int (0:Int32))]) rfl ?_
      refine SP.lp (pc := 32) (fun (s5 : (Int32 × Int32)) => [some (.ref 170), some (.int p1), some (.int p2), none, some (.int s5.1), some (.int s5.2)]) (fun (s5 : (Int32 × Int32)) => xwd M) (fun s5 kk6 hkk6 => ?_) xfu ((0:Int32), (0:Int32))
      try dsimp only
      refine x_iload (pc := 32) dX10_squares_32 rfl ?_
      refine x_bipush (pc := 34) (a := 100) dX10_squares_34 (by decide) ?_
      refine x_icmp_ge (pc := 36) (tgt := 74) dX10_squares_36 (by decide) (fun h7 => ?_) (fun h7 => ?_)
      · refine x_iload (pc := 74) dX10_squares_74 rfl ?_
        exact x_iret (pc := 76) rfl rfl dX10_squares_76 (Nat.zero_le _) (Nat.zero_le _)
      · refine x_iload (pc := 39) dX10_squares_39 rfl ?_
        refine x_aload_n (pc := 41) dX10_squares_41 rfl ?_
        refine x_iload (pc := 42) dX10_squares_42 rfl ?_
        refine x_bipush (pc := 44) (a := 10) dX10_squares_44 (by decide) ?_
        refine x_idiv (pc := 46) dX10_squares_46 (fun hb8 => ?_)
        refine x_iload (pc := 47) dX10_squares_47 rfl ?_
        refine x_bipush (pc := 49) (a := 10) dX10_squares_49 (by decide) ?_
        refine x_irem (pc := 51) dX10_squares_51 (fun hb9 => ?_)
        refine x_iload_n (pc := 52) dX10_squares_52 rfl ?_
        refine cV_I (pc := 53) (As := [(.int (s5.2 / (10:Int32))), (.int (s5.2 - s5.2 / (10:Int32) * (10:Int32))), (.int p2)]) (rest := [(.int s5.1)]) (ct_X10_owner (s5.2 / (10:Int32)) (s5.2 - s5.2 / (10:Int32) * (10:Int32)) p2 M) rfl xC10 rfl (by decide) ml_X10_156 meX10_owner rfl ⟨prX10_owner, (Nat.le_of_ble_eq_true rfl), (Nat.le_of_ble_eq_true rfl), rfl, rfl⟩ (Nat.le_of_ble_eq_true rfl) dX10_squares_53 (fun v10 => ?_)
        refine x_iload_n (pc := 56) dX10_squares_56 rfl ?_
        refine x_icmp_ne (pc := 57) (tgt := 64) dX10_squares_57 (by decide) (fun h11 => ?_) (fun h11 => ?_)
        · refine x_iconst (pc := 64) (a := 0) dX10_squares_64 (by decide) ?_
          refine x_iadd (pc := 65) dX10_squares_65 ?_
          refine SP.bdi (fun x12 e13 => ?_)
          refine x_istore (pc := 66) (L' := [some (.ref 170), some (.int p1), some (.int p2), none, some (.int x12), some (.int s5.2)]) dX10_squares_66 (Nat.le_of_ble_eq_true rfl) rfl rfl ?_
          refine x_iinc (pc := 68) (b := (s5.2 + 1)) (L' := [some (.ref 170), some (.int p1), some (.int p2), none, some (.int x12), some (.int (s5.2 + 1))]) dX10_squares_68 rfl rfl (Nat.le_of_ble_eq_true rfl) rfl rfl ?_
          refine x_goto (pc := 71) (tgt := 32) dX10_squares_71 (by decide) ?_
          have hz := hkk6 (x12, (s5.2 + 1))
          try dsimp only at hz
          exact hz
        · refine x_iconst (pc := 60) (a := 1) dX10_squares_60 (by decide) ?_
          refine x_goto (pc := 61) (tgt := 65) dX10_squares_61 (by decide) ?_
          refine x_iadd (pc := 65) dX10_squares_65 ?_
          refine SP.bdi (fun x14 e15 => ?_)
          refine x_istore (pc := 66) (L' := [some (.ref 170), some (.int p1), some (.int p2), none, some (.int x14), some (.int s5.2)]) dX10_squares_66 (Nat.le_of_ble_eq_true rfl) rfl rfl ?_
          refine x_iinc (pc := 68) (b := (s5.2 + 1)) (L' := [some (.ref 170), some (.int p1), some (.int p2), none, some (.int x14), some (.int (s5.2 + 1))]) dX10_squares_68 rfl rfl (Nat.le_of_ble_eq_true rfl) rfl rfl ?_
          refine x_goto (pc := 71) (tgt := 32) dX10_squares_71 (by decide) ?_
          have hz := hkk6 (x14, (s5.2 + 1))
          try dsimp only at hz
          exact hz
    · refine x_iconst (pc := 24) (a := -1) dX10_squares_24 (by decide) ?_
      exact x_iret (pc := 25) rfl rfl dX10_squares_25 (Nat.zero_le _) (Nat.zero_le _)
  · refine x_iload_n (pc := 12) dX10_squares_12 rfl ?_
    exact x_iret (pc := 13) rfl rfl dX10_squares_13 (Nat.zero_le _) (Nat.zero_le _)

set_option maxRecDepth 100000 in
set_option maxHeartbeats 4000000 in
theorem ct_X10_many (p1 : Int32) (M : xM)  : Ct iX10_many (rI M) [(.ref 170), (.int p1)] (xwd M) (fX10_many p1 M) := by
  refine Ct.of' (L := [some (.ref 170), some (.int p1), none, none]) 2 rfl (by decide +kernel) (Nat.le_of_ble_eq_true rfl) rfl ?_
  unfold fX10_many
  refine x_iconst (pc := 0) (a := 0) dX10_many_0 (by decide) ?_
  refine x_istore_n (pc := 1) (L' := [some (.ref 170), some (.int p1), some (.int (0:Int32)), none]) dX10_many_1 (Nat.le_of_ble_eq_true rfl) rfl rfl ?_
  refine x_iconst (pc := 2) (a := 0) dX10_many_2 (by decide) ?_
  refine x_istore_n (pc := 3) (L' := [some (.ref 170), some (.int p1), some (.int (0:Int32)), some (.int (0:Int32))]) dX10_many_3 (Nat.le_of_ble_eq_true rfl) rfl rfl ?_
  refine SP.mask (pc := 4) [true, true, true, true] (L' := [some (.ref 170), some (.int p1), some (.int (0:Int32)), some (.int (0:Int32))]) rfl ?_
  refine SP.lp (pc := 4) (fun (s1 : (Int32 × Int32)) => [some (.ref 170), some (.int p1), some (.int s1.1), some (.int s1.2)]) (fun (s1 : (Int32 × Int32)) => xwd M) (fun s1 kk2 hkk2 => ?_) xfu ((0:Int32), (0:Int32))
  try dsimp only
  refine x_iload_n (pc := 4) dX10_many_4 rfl ?_
  refine x_bipush (pc := 5) (a := 100) dX10_many_5 (by decide) ?_
  refine x_icmp_ge (pc := 7) (tgt := 38) dX10_many_7 (by decide) (fun h3 => ?_) (fun h3 => ?_)
  · refine x_iload_n (pc := 38) dX10_many_38 rfl ?_
    exact x_iret (pc := 39) rfl rfl dX10_many_39 (Nat.zero_le _) (Nat.zero_le _)
  · refine x_iload_n (pc := 10) dX10_many_10 rfl ?_
    refine x_aload_n (pc := 11) dX10_many_11 rfl ?_
    refine m_getR (pc := 12) (t := 186) xC10 21 fl_X10_68 rfl (by decide) rfl (by decide) rfl dX10_many_12 ?_
    refine x_bipush (pc := 15) (a := 100) dX10_many_15 (by decide) ?_
    refine x_iload_n (pc := 17) dX10_many_17 rfl ?_
    refine x_imul (pc := 18) dX10_many_18 ?_
    refine x_iload_n (pc := 19) dX10_many_19 rfl ?_
    refine x_iadd (pc := 20) dX10_many_20 ?_
    refine m_zald (pc := 21) rfl rfl dX10_many_21 (fun hb4 => ?_)
    refine x_if_eq (pc := 22) (tgt := 29) dX10_many_22 (by decide) (fun h5 => ?_) (fun h5 => ?_)
    · refine x_iconst (pc := 29) (a := 0) dX10_many_29 (by decide) ?_
      refine x_iadd (pc := 30) dX10_many_30 ?_
      refine SP.bdi (fun x6 e7 => ?_)
      refine x_istore_n (pc := 31) (L' := [some (.ref 170), some (.int p1), some (.int x6), some (.int s1.2)]) dX10_many_31 (Nat.le_of_ble_eq_true rfl) rfl rfl ?_
      refine x_iinc (pc := 32) (b := (s1.2 + 1)) (L' := [some (.ref 170), some (.int p1), some (.int x6), some (.int (s1.2 + 1))]) dX10_many_32 rfl rfl (Nat.le_of_ble_eq_true rfl) rfl rfl ?_
      refine x_goto (pc := 35) (tgt := 4) dX10_many_35 (by decide) ?_
      have hz := hkk2 (x6, (s1.2 + 1))
      try dsimp only at hz
      exact hz
    · refine x_iconst (pc := 25) (a := 1) dX10_many_25 (by decide) ?_
      refine x_goto (pc := 26) (tgt := 30) dX10_many_26 (by decide) ?_
      refine x_iadd (pc := 30) dX10_many_30 ?_
      refine SP.bdi (fun x8 e9 => ?_)
      refine x_istore_n (pc := 31) (L' := [some (.ref 170), some (.int p1), some (.int x8), some (.int s1.2)]) dX10_many_31 (Nat.le_of_ble_eq_true rfl) rfl rfl ?_
      refine x_iinc (pc := 32) (b := (s1.2 + 1)) (L' := [some (.ref 170), some (.int p1), some (.int x8), some (.int (s1.2 + 1))]) dX10_many_32 rfl rfl (Nat.le_of_ble_eq_true rfl) rfl rfl ?_
      refine x_goto (pc := 35) (tgt := 4) dX10_many_35 (by decide) ?_
      have hz := hkk2 (x8, (s1.2 + 1))
      try dsimp only at hz
      exact hz

