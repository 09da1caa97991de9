set_option maxRecDepth 100000 in
set_option maxHeartbeats 4000000 in
theorem ct_X10_valley (p1 : Int32) (p2 : Int32) (p3 : Int32) (p4 : Int32) (M : xM)  : Ct iX10_valley rIM [(.ref 170), (.int p1), (.int p2), (.int p3), (.int p4)] (xwd M) (fX10_valley p1 p2 p3 p4 M) := by
  refine Ct.of' (L := [some (.ref 170), some (.int p1), some (.int p2), some (.int p3), some (.int p4)]) 0 rfl (by decide +kernel) (Nat.le_of_ble_eq_true rfl) rfl ?_
  unfold fX10_valley
  refine x_iload_n (pc := 0) dX10_valley_0 rfl ?_
  refine x_iconst (pc := 1) (a := 0) dX10_valley_1 (by decide) ?_
  refine x_bipush (pc := 2) (a := 7) dX10_valley_2 (by decide) ?_
  refine cS_I (pc := 4) (As := [(.int p1), (.int (0:Int32)), (.int (7:Int32))]) (rest := []) (ct_X10_isIn p1 (0:Int32) (7:Int32) M) rfl ml_X10_85 meX10_isIn rfl ⟨prX10_isIn, (Nat.le_of_ble_eq_true rfl), (Nat.le_of_ble_eq_true rfl), rfl, rfl⟩ (Nat.le_of_ble_eq_true rfl) dX10_valley_4 (fun v1 => ?_)
  refine x_if_eq (pc := 7) (tgt := 30) dX10_valley_7 (by decide) (fun h2 => ?_) (fun h2 => ?_)
  · refine x_iconst (pc := 30) (a := -1) dX10_valley_30 (by decide) ?_
    exact x_iret (pc := 31) rfl rfl dX10_valley_31 (Nat.zero_le _) (Nat.zero_le _)
  · refine x_iload_n (pc := 10) dX10_valley_10 rfl ?_
    refine x_iconst (pc := 11) (a := 0) dX10_valley_11 (by decide) ?_
    refine x_bipush (pc := 12) (a := 9) dX10_valley_12 (by decide) ?_
    refine cS_I (pc := 14) (As := [(.int p2), (.int (0:Int32)), (.int (9:Int32))]) (rest := []) (ct_X10_isIn p2 (0:Int32) (9:Int32) M) rfl ml_X10_85 meX10_isIn rfl ⟨prX10_isIn, (Nat.le_of_ble_eq_true rfl), (Nat.le_of_ble_eq_true rfl), rfl, rfl⟩ (Nat.le_of_ble_eq_true rfl) dX10_valley_14 (fun v3 => ?_)
    refine x_if_eq (pc := 17) (tgt := 30) dX10_valley_17 (by decide) (fun h4 => ?_) (fun h4 => ?_)
    · refine x_iconst (pc := 30) (a := -1) dX10_valley_30 (by decide) ?_
      exact x_iret (pc := 31) rfl rfl dX10_valley_31 (Nat.zero_le _) (Nat.zero_le _)
    · refine x_iload_n (pc := 20) dX10_valley_20 rfl ?_
      refine x_iconst (pc := 21) (a := 0) dX10_valley_21 (by decide) ?_
      refine x_bipush (pc := 22) (a := 9) dX10_valley_22 (by decide) ?_
      refine cS_I (pc := 24) (As := [(.int p3), (.int (0:Int32)), (.int (9:Int32))]) (rest := []) (ct_X10_isIn p3 (0:Int32) (9:Int32) M) rfl ml_X10_85 meX10_isIn rfl ⟨prX10_isIn, (Nat.le_of_ble_eq_true rfl), (Nat.le_of_ble_eq_true rfl), rfl, rfl⟩ (Nat.le_of_ble_eq_true rfl) dX10_valley_24 (fun v5 => ?_)
      refine x_if_ne (pc := 27) (tgt := 32) dX10_valley_27 (by decide) (fun h6 => ?_) (fun h6 => ?_)
      · refine x_aload_n (pc := 32) dX10_valley_32 rfl ?_
        refine m_getR (pc := 33) (t := 186) xC10 21 fl_X10_68 rfl (by decide) rfl (by decide) rfl dX10_valley_33 ?_
        refine x_bipush (pc := 36) (a := 100) dX10_valley_36 (by decide) ?_
        refine x_iload_n (pc := 38) dX10_valley_38 rfl ?_
        refine x_imul (pc := 39) dX10_valley_39 ?_
        refine x_bipush (pc := 40) (a := 10) dX10_valley_40 (by decide) ?_
        refine x_iload_n (pc := 42) dX10_valley_42 rfl ?_
        refine x_imul (pc := 43) dX10_valley_43 ?_
        refine x_iadd (pc := 44) dX10_valley_44 ?_
        refine x_iload_n (pc := 45) dX10_valley_45 rfl ?_
        refine x_iadd (pc := 46) dX10_valley_46 ?_
        refine x_iload (pc := 47) dX10_valley_47 rfl ?_
        refine m_zast (pc := 49) rfl rfl dX10_valley_49 (fun hb7 => ?_)
        refine SP.bdm (fun m8 e9 => ?_)
        refine x_aload_n (pc := 50) dX10_valley_50 rfl ?_
        refine x_iload_n (pc := 51) dX10_valley_51 rfl ?_
        refine cV_I (pc := 52) (As := [(.int p1)]) (rest := []) (ct_X10_many p1 m8) rfl xC10 rfl (by decide) ml_X10_159 meX10_many rfl ⟨prX10_many, (Nat.le_of_ble_eq_true rfl), (Nat.le_of_ble_eq_true rfl), rfl, rfl⟩ (Nat.le_of_ble_eq_true rfl) dX10_valley_52 (fun v10 => ?_)
        exact x_iret (pc := 55) rfl rfl dX10_valley_55 (Nat.zero_le _) (Nat.zero_le _)
      · refine x_iconst (pc := 30) (a := -1) dX10_valley_30 (by decide) ?_
        exact x_iret (pc := 31) rfl rfl dX10_valley_31 (Nat.zero_le _) (Nat.zero_le _)

set_option maxRecDepth 100000 in
set_option maxHeartbeats 4000000 in
theorem ct_X10_isTold (p1 : Int32) (M : xM)  : Ct iX10_isTold (rI M) [(.ref 170), (.int p1)] (xwd M) (fX10_isTold p1 M) := by
  refine Ct.of' (L := [some (.ref 170), some (.int p1), none, none]) 2 rfl (by decide +kernel) (Nat.le_of_ble_eq_true rfl) rfl ?_
  unfold fX10_isTold
  refine x_iconst (pc := 0) (a := 0) dX10_isTold_0 (by decide) ?_
  refine x_istore_n (pc := 1) (L' := [some (.ref 170), some (.int p1), some (.int (0:Int32)), none]) dX10_isTold_1 (Nat.le_of_ble_eq_true rfl) rfl rfl ?_
  refine x_iconst (pc := 2) (a := 0) dX10_isTold_2 (by decide) ?_
  refine x_istore_n (pc := 3) (L' := [some (.ref 170), some (.int p1), some (.int (0:Int32)), some (.int (0:Int32))]) dX10_isTold_3 (Nat.le_of_ble_eq_true rfl) rfl rfl ?_
  refine SP.mask (pc := 4) [true, true, true, true] (L' := [some (.ref 170), some (.int p1), some (.int (0:Int32)), some (.int (0:Int32))]) rfl ?_
  refine SP.lp (pc := 4) (fun (s1 : (Int32 × Int32)) => [some (.ref 170), some (.int p1), some (.int s1.1), some (.int s1.2)]) (fun (s1 : (Int32 × Int32)) => xwd M) (fun s1 kk2 hkk2 => ?_) xfu ((0:Int32), (0:Int32))
  try dsimp only
  refine x_iload_n (pc := 4) dX10_isTold_4 rfl ?_
  refine x_bipush (pc := 5) (a := 16) dX10_isTold_5 (by decide) ?_
  refine x_icmp_ge (pc := 7) (tgt := 35) dX10_isTold_7 (by decide) (fun h3 => ?_) (fun h3 => ?_)
  · refine x_iload_n (pc := 35) dX10_isTold_35 rfl ?_
    exact x_zretb (pc := 36) rfl rfl dX10_isTold_36 (Nat.zero_le _) (Nat.zero_le _)
  · refine x_iload_n (pc := 10) dX10_isTold_10 rfl ?_
    refine x_if_ne (pc := 11) (tgt := 23) dX10_isTold_11 (by decide) (fun h4 => ?_) (fun h4 => ?_)
    · refine x_iconst (pc := 23) (a := 1) dX10_isTold_23 (by decide) ?_
      refine x_goto (pc := 24) (tgt := 28) dX10_isTold_24 (by decide) ?_
      refine x_istore_n (pc := 28) (L' := [some (.ref 170), some (.int p1), some (.int (1:Int32)), some (.int s1.2)]) dX10_isTold_28 (Nat.le_of_ble_eq_true rfl) rfl rfl ?_
      refine x_iinc (pc := 29) (b := (s1.2 + 1)) (L' := [some (.ref 170), some (.int p1), some (.int (1:Int32)), some (.int (s1.2 + 1))]) dX10_isTold_29 rfl rfl (Nat.le_of_ble_eq_true rfl) rfl rfl ?_
      refine x_goto (pc := 32) (tgt := 4) dX10_isTold_32 (by decide) ?_
      have hz := hkk2 ((1:Int32), (s1.2 + 1))
      try dsimp only at hz
      exact hz
    · refine x_aload_n (pc := 14) dX10_isTold_14 rfl ?_
      refine x_iload_n (pc := 15) dX10_isTold_15 rfl ?_
      refine x_iload_n (pc := 16) dX10_isTold_16 rfl ?_
      refine cV_I (pc := 17) (As := [(.int s1.2), (.int p1)]) (rest := []) (ct_X10_tells s1.2 p1 M) rfl xC10 rfl (by decide) ml_X10_153 meX10_tells rfl ⟨prX10_tells, (Nat.le_of_ble_eq_true rfl), (Nat.le_of_ble_eq_true rfl), rfl, rfl⟩ (Nat.le_of_ble_eq_true rfl) dX10_isTold_17 (fun v5 => ?_)
      refine x_if_eq (pc := 20) (tgt := 27) dX10_isTold_20 (by decide) (fun h6 => ?_) (fun h6 => ?_)
      · refine x_iconst (pc := 27) (a := 0) dX10_isTold_27 (by decide) ?_
        refine x_istore_n (pc := 28) (L' := [some (.ref 170), some (.int p1), some (.int (0:Int32)), some (.int s1.2)]) dX10_isTold_28 (Nat.le_of_ble_eq_true rfl) rfl rfl ?_
        refine x_iinc (pc := 29) (b := (s1.2 + 1)) (L' := [some (.ref 170), some (.int p1), some (.int (0:Int32)), some (.int (s1.2 + 1))]) dX10_isTold_29 rfl rfl (Nat.le_of_ble_eq_true rfl) rfl rfl ?_
        refine x_goto (pc := 32) (tgt := 4) dX10_isTold_32 (by decide) ?_
        have hz := hkk2 ((0:Int32), (s1.2 + 1))
        try dsimp only at hz
        exact hz
      · refine x_iconst (pc := 23) (a := 1) dX10_isTold_23 (by decide) ?_
        refine x_goto (pc := 24) (tgt := 28) dX10_isTold_24 (by decide) ?_
        refine x_istore_n (pc := 28) (L' := [some (.ref 170), some (.int p1), some (.int (1:Int32)), some (.int s1.2)]) dX10_isTold_28 (Nat.le_of_ble_eq_true rfl) rfl rfl ?_
        refine x_iinc (pc := 29) (b := (s1.2 + 1)) (L' := [some (.ref 170), some (.int p1), some (.int (1:Int32)), some (.int (s1.2 + 1))]) dX10_isTold_29 rfl rfl (Nat.le_of_ble_eq_true rfl) rfl rfl ?_
        refine x_goto (pc := 32) (tgt := 4) dX10_isTold_32 (by decide) ?_
        have hz := hkk2 ((1:Int32), (s1.2 + 1))
        try dsimp only at hz
        exact hz

set_option maxRecDepth 100000 in
set_option maxHeartbeats 4000000 in
theorem ct_X10_rain0 (p1 : Int32) (p2 : Int32) (M : xM)  : Ct iX10_rain0 rIM [(.ref 170), (.int p1), (.int p2)] (xwd M) (fX10_rain0 p1 p2 M) := by
  refine Ct.of' (L := [some (.ref 170), some (.int p1), some (.int p2), none, none]) 2 rfl (by decide +kernel) (Nat.le_of_ble_eq_true rfl) rfl ?_
  unfold fX10_rain0
  refine x_iload_n (pc := 0) dX10_rain0_0 rfl ?_
  refine x_iconst (pc := 1) (a := 0) dX10_rain0_1 (by decide) ?_
  refine x_bipush (pc := 2) (a := 55) dX10_rain0_2 (by decide) ?_
  refine cS_I (pc := 4) (As := [(.int p2), (.int (0:Int32)), (.int (55:Int32))]) (rest := []) (ct_X10_isIn p2 (0:Int32) (55:Int32) M) rfl ml_X10_85 meX10_isIn rfl ⟨prX10_isIn, (Nat.le_of_ble_eq_true rfl), (Nat.le_of_ble_eq_true rfl), rfl, rfl⟩ (Nat.le_of_ble_eq_true rfl) dX10_rain0_4 (fun v1 => ?_)
  refine x_if_eq (pc := 7) (tgt := 26) dX10_rain0_7 (by decide) (fun h2 => ?_) (fun h2 => ?_)
  · refine x_iconst (pc := 26) (a := -1) dX10_rain0_26 (by decide) ?_
    exact x_iret (pc := 27) rfl rfl dX10_rain0_27 (Nat.zero_le _) (Nat.zero_le _)
  · refine x_aload_n (pc := 10) dX10_rain0_10 rfl ?_
    refine x_iload_n (pc := 11) dX10_rain0_11 rfl ?_
    refine cV_I (pc := 12) (As := [(.int p1)]) (rest := []) (ct_X10_many p1 M) rfl xC10 rfl (by decide) ml_X10_159 meX10_many rfl ⟨prX10_many, (Nat.le_of_ble_eq_true rfl), (Nat.le_of_ble_eq_true rfl), rfl, rfl⟩ (Nat.le_of_ble_eq_true rfl) dX10_rain0_12 (fun v3 => ?_)
    refine x_if_eq (pc := 15) (tgt := 26) dX10_rain0_15 (by decide) (fun h4 => ?_) (fun h4 => ?_)
    · refine x_iconst (pc := 26) (a := -1) dX10_rain0_26 (by decide) ?_
      exact x_iret (pc := 27) rfl rfl dX10_rain0_27 (Nat.zero_le _) (Nat.zero_le _)
    · refine x_aload_n (pc := 18) dX10_rain0_18 rfl ?_
      refine x_iload_n (pc := 19) dX10_rain0_19 rfl ?_
      refine cV_I (pc := 20) (As := [(.int p2)]) (rest := []) (ct_X10_isTold p2 M) rfl xC10 rfl (by decide) ml_X10_162 meX10_isTold rfl ⟨prX10_isTold, (Nat.le_of_ble_eq_true rfl), (Nat.le_of_ble_eq_true rfl), rfl, rfl⟩ (Nat.le_of_ble_eq_true rfl) dX10_rain0_20 (fun v5 => ?_)
      refine x_if_ne (pc := 23) (tgt := 28) dX10_rain0_23 (by decide) (fun h6 => ?_) (fun h6 => ?_)
      · refine x_iconst (pc := 28) (a := 0) dX10_rain0_28 (by decide) ?_
        refine x_istore_n (pc := 29) (L' := [some (.ref 170), some (.int p1), some (.int p2), some (.int (0:Int32)), none]) dX10_rain0_29 (Nat.le_of_ble_eq_true rfl) rfl rfl ?_
        refine x_iconst (pc := 30) (a := 0) dX10_rain0_30 (by decide) ?_
        refine x_istore (pc := 31) (L' := [some (.ref 170), some (.int p1), some (.int p2), some (.int (0:Int32)), some (.int (0:Int32))]) dX10_rain0_31 (Nat.le_of_ble_eq_true rfl) rfl rfl ?_
        refine SP.mask (pc := 33) [true, true, true, true, true] (L' := [some (.ref 170), some (.int p1), some (.int p2), some (.int (0:Int32)), some (.int (0:Int32))]) rfl ?_
        refine SP.lp (pc := 33) (fun (s7 : (Int32 × Int32 × xM)) => [some (.ref 170), some (.int p1), some (.int p2), some (.int s7.1), some (.int s7.2.1)]) (fun (s7 : (Int32 × Int32 × xM)) => xwd s7.2.2) (fun s7 kk8 hkk8 => ?_) xfu ((0:Int32), (0:Int32), M)
        try dsimp only
        refine x_iload (pc := 33) dX10_rain0_33 rfl ?_
        refine x_bipush (pc := 35) (a := 100) dX10_rain0_35 (by decide) ?_
        refine x_icmp_ge (pc := 37) (tgt := 84) dX10_rain0_37 (by decide) (fun h9 => ?_) (fun h9 => ?_)
        · refine x_iload_n (pc := 84) dX10_rain0_84 rfl ?_
          exact x_iret (pc := 85) rfl rfl dX10_rain0_85 (Nat.zero_le _) (Nat.zero_le _)
        · refine x_aload_n (pc := 40) dX10_rain0_40 rfl ?_
          refine m_getR (pc := 41) (t := 186) xC10 21 fl_X10_68 rfl (by decide) rfl (by decide) rfl dX10_rain0_41 ?_
          refine x_bipush (pc := 44) (a := 100) dX10_rain0_44 (by decide) ?_
          refine x_iload_n (pc := 46) dX10_rain0_46 rfl ?_
          refine x_imul (pc := 47) dX10_rain0_47 ?_
          refine x_iload (pc := 48) dX10_rain0_48 rfl ?_
          refine x_iadd (pc := 50) dX10_rain0_50 ?_
          refine m_zald (pc := 51) rfl rfl dX10_rain0_51 (fun hb10 => ?_)
          refine x_if_eq (pc := 52) (tgt := 78) dX10_rain0_52 (by decide) (fun h11 => ?_) (fun h11 => ?_)
          · refine x_iinc (pc := 78) (b := (s7.2.1 + 1)) (L' := [some (.ref 170), some (.int p1), some (.int p2), some (.int s7.1), some (.int (s7.2.1 + 1))]) dX10_rain0_78 rfl rfl (Nat.le_of_ble_eq_true rfl) rfl rfl ?_
            refine x_goto (pc := 81) (tgt := 33) dX10_rain0_81 (by decide) ?_
            have hz := hkk8 (s7.1, (s7.2.1 + 1), s7.2.2)
            try dsimp only at hz
            exact hz
          · refine x_iload_n (pc := 55) dX10_rain0_55 rfl ?_
            refine x_aload_n (pc := 56) dX10_rain0_56 rfl ?_
            refine x_aload_n (pc := 57) dX10_rain0_57 rfl ?_
            refine x_iload (pc := 58) dX10_rain0_58 rfl ?_
            refine x_bipush (pc := 60) (a := 10) dX10_rain0_60 (by decide) ?_
            refine x_idiv (pc := 62) dX10_rain0_62 (fun hb12 => ?_)
            refine x_iload (pc := 63) dX10_rain0_63 rfl ?_
            refine x_bipush (pc := 65) (a := 10) dX10_rain0_65 (by decide) ?_
            refine x_irem (pc := 67) dX10_rain0_67 (fun hb13 => ?_)
            refine x_iload_n (pc := 68) dX10_rain0_68 rfl ?_
            refine cV_I (pc := 69) (As := [(.int (s7.2.1 / (10:Int32))), (.int (s7.2.1 - s7.2.1 / (10:Int32) * (10:Int32))), (.int p2)]) (rest := [(.ref 170), (.int s7.1)]) (ct_X10_owner (s7.2.1 / (10:Int32)) (s7.2.1 - s7.2.1 / (10:Int32) * (10:Int32)) p2 s7.2.2) rfl xC10 rfl (by decide) ml_X10_156 meX10_owner rfl ⟨prX10_owner, (Nat.le_of_ble_eq_true rfl), (Nat.le_of_ble_eq_true rfl), rfl, rfl⟩ (Nat.le_of_ble_eq_true rfl) dX10_rain0_69 (fun v14 => ?_)
            refine x_iload_n (pc := 72) dX10_rain0_72 rfl ?_
            refine cV_IM (pc := 73) (As := [(.int v14), (.int p2)]) (rest := [(.int s7.1)]) (ct_X10_number0 v14 p2 s7.2.2) rfl xC10 rfl (by decide) ml_X10_150 meX10_number0 rfl ⟨prX10_number0, (Nat.le_of_ble_eq_true rfl), (Nat.le_of_ble_eq_true rfl), rfl, rfl⟩ (Nat.le_of_ble_eq_true rfl) dX10_rain0_73 (fun q15 => ?_)
            refine x_iadd (pc := 76) dX10_rain0_76 ?_
            refine SP.bdi (fun x16 e17 => ?_)
            refine x_istore_n (pc := 77) (L' := [some (.ref 170), some (.int p1), some (.int p2), some (.int x16), some (.int s7.2.1)]) dX10_rain0_77 (Nat.le_of_ble_eq_true rfl) rfl rfl ?_
            refine x_iinc (pc := 78) (b := (s7.2.1 + 1)) (L' := [some (.ref 170), some (.int p1), some (.int p2), some (.int x16), some (.int (s7.2.1 + 1))]) dX10_rain0_78 rfl rfl (Nat.le_of_ble_eq_true rfl) rfl rfl ?_
            refine x_goto (pc := 81) (tgt := 33) dX10_rain0_81 (by decide) ?_
            have hz := hkk8 (x16, (s7.2.1 + 1), q15.2)
            try dsimp only at hz
            exact hz
      · refine x_iconst (pc := 26) (a := -1) dX10_rain0_26 (by decide) ?_
        exact x_iret (pc := 27) rfl rfl dX10_rain0_27 (Nat.zero_le _) (Nat.zero_le _)

set_option maxRecDepth 100000 in
set_option maxHeartbeats 4000000 in
theorem ct_X10_rain (p1 : Int32) (p2 : Int32) (M : xM)  : Ct iX10_rain rIM [(.ref 170), (.int p1), (.int p2)] (xwd M) (fX10_rain p1 p2 M) := by
  refine Ct.of' (L := [some (.ref 170), some (.int p1), some (.int p2)]) 0 rfl (by decide +kernel) (Nat.le_of_ble_eq_true rfl) rfl ?_
  unfold fX10_rain
  refine x_iload_n (pc := 0) dX10_rain_0 rfl ?_
  refine x_iconst (pc := 1) (a := 0) dX10_rain_1 (by decide) ?_
  refine x_bipush (pc := 2) (a := 7) dX10_rain_2 (by decide) ?_
  refine cS_I (pc := 4) (As := [(.int p1), (.int (0:Int32)), (.int (7:Int32))]) (rest := []) (ct_X10_isIn p1 (0:Int32) (7:Int32) M) rfl ml_X10_85 meX10_isIn rfl ⟨prX10_isIn, (Nat.le_of_ble_eq_true rfl), (Nat.le_of_ble_eq_true rfl), rfl, rfl⟩ (Nat.le_of_ble_eq_true rfl) dX10_rain_4 (fun v1 => ?_)
  refine x_if_eq (pc := 7) (tgt := 19) dX10_rain_7 (by decide) (fun h2 => ?_) (fun h2 => ?_)
  · refine x_iconst (pc := 19) (a := -1) dX10_rain_19 (by decide) ?_
    exact x_iret (pc := 20) rfl rfl dX10_rain_20 (Nat.zero_le _) (Nat.zero_le _)
  · refine x_aload_n (pc := 10) dX10_rain_10 rfl ?_
    refine x_iload_n (pc := 11) dX10_rain_11 rfl ?_
    refine x_iload_n (pc := 12) dX10_rain_12 rfl ?_
    refine cV_IM (pc := 13) (As := [(.int p1), (.int p2)]) (rest := []) (ct_X10_rain0 p1 p2 M) rfl xC10 rfl (by decide) ml_X10_165 meX10_rain0 rfl ⟨prX10_rain0, (Nat.le_of_ble_eq_true rfl), (Nat.le_of_ble_eq_true rfl), rfl, rfl⟩ (Nat.le_of_ble_eq_true rfl) dX10_rain_13 (fun q3 => ?_)
    refine x_goto (pc := 16) (tgt := 20) dX10_rain_16 (by decide) ?_
    exact x_iret (pc := 20) rfl rfl dX10_rain_20 (Nat.zero_le _) (Nat.zero_le _)

set_option maxRecDepth 100000 in
set_option maxHeartbeats 4000000 in
theorem ct_X10_mean (p1 : Int32) (p2 : Int32) (M : xM)  : Ct iX10_mean rIM [(.ref 170), (.int p1), (.int p2)] (xwd M) (fX10_mean p1 p2 M) := by
  refine Ct.of' (L := [some (.ref 170), some (.int p1), some (.int p2)]) 0 rfl (by decide +kernel) (Nat.le_of_ble_eq_true rfl) rfl ?_
  unfold fX10_mean
  refine x_iload_n (pc := 0) dX10_mean_0 rfl ?_
  refine x_iconst (pc := 1) (a := 0) dX10_mean_1 (by decide) ?_
  refine x_bipush (pc := 2) (a := 7) dX10_mean_2 (by decide) ?_
  refine cS_I (pc := 4) (As := [(.int p1), (.int (0:Int32)), (.int (7:Int32))]) (rest := []) (ct_X10_isIn p1 (0:Int32) (7:Int32) M) rfl ml_X10_85 meX10_isIn rfl ⟨prX10_isIn, (Nat.le_of_ble_eq_true rfl), (Nat.le_of_ble_eq_true rfl), rfl, rfl⟩ (Nat.le_of_ble_eq_true rfl) dX10_mean_4 (fun v1 => ?_)
  refine x_if_eq (pc := 7) (tgt := 20) dX10_mean_7 (by decide) (fun h2 => ?_) (fun h2 => ?_)
  · refine x_iconst (pc := 20) (a := -1) dX10_mean_20 (by decide) ?_
    exact x_iret (pc := 21) rfl rfl dX10_mean_21 (Nat.zero_le _) (Nat.zero_le _)
  · refine x_aload_n (pc := 10) dX10_mean_10 rfl ?_
    refine x_iload_n (pc := 11) dX10_mean_11 rfl ?_
    refine x_iload_n (pc := 12) dX10_mean_12 rfl ?_
    refine cV_IM (pc := 13) (As := [(.int p1), (.int p2)]) (rest := []) (ct_X10_rain0 p1 p2 M) rfl xC10 rfl (by decide) ml_X10_165 meX10_rain0 rfl ⟨prX10_rain0, (Nat.le_of_ble_eq_true rfl), (Nat.le_of_ble_eq_true rfl), rfl, rfl⟩ (Nat.le_of_ble_eq_true rfl) dX10_mean_13 (fun q3 => ?_)
    refine x_iconst (pc := 16) (a := -1) dX10_mean_16 (by decide) ?_
    refine x_icmp_ne (pc := 17) (tgt := 22) dX10_mean_17 (by decide) (fun h4 => ?_) (fun h4 => ?_)
    · refine x_aload_n (pc := 22) dX10_mean_22 rfl ?_
      refine x_iload_n (pc := 23) dX10_mean_23 rfl ?_
      refine x_iload_n (pc := 24) dX10_mean_24 rfl ?_
      refine cV_IM (pc := 25) (As := [(.int p1), (.int p2)]) (rest := []) (ct_X10_rain0 p1 p2 q3.2) rfl xC10 rfl (by decide) ml_X10_165 meX10_rain0 rfl ⟨prX10_rain0, (Nat.le_of_ble_eq_true rfl), (Nat.le_of_ble_eq_true rfl), rfl, rfl⟩ (Nat.le_of_ble_eq_true rfl) dX10_mean_25 (fun q5 => ?_)
      refine x_i2l (pc := 28) dX10_mean_28 ?_
      refine x_ldc2 (pc := 29) (a := 1000) dX10_mean_29 rfl (xword 908 (by decide +kernel) rfl) ?_
      refine x_lmul (pc := 32) dX10_mean_32 ?_
      refine x_aload_n (pc := 33) dX10_mean_33 rfl ?_
      refine x_iload_n (pc := 34) dX10_mean_34 rfl ?_
      refine cV_I (pc := 35) (As := [(.int p1)]) (rest := [(.long (q5.1.toInt64 * (1000:Int64)))]) (ct_X10_many p1 q5.2) rfl xC10 rfl (by decide) ml_X10_159 meX10_many rfl ⟨prX10_many, (Nat.le_of_ble_eq_true rfl), (Nat.le_of_ble_eq_true rfl), rfl, rfl⟩ (Nat.le_of_ble_eq_true rfl) dX10_mean_35 (fun v6 => ?_)
      refine x_i2l (pc := 38) dX10_mean_38 ?_
      refine x_ldiv (pc := 39) dX10_mean_39 (fun hb7 => ?_)
      refine x_l2i (pc := 40) dX10_mean_40 ?_
      exact x_iret (pc := 41) rfl rfl dX10_mean_41 (Nat.zero_le _) (Nat.zero_le _)
    · refine x_iconst (pc := 20) (a := -1) dX10_mean_20 (by decide) ?_
      exact x_iret (pc := 21) rfl rfl dX10_mean_21 (Nat.zero_le _) (Nat.zero_le _)

set_option maxRecDepth 100000 in
set_option maxHeartbeats 4000000 in
theorem ct_X10_flow0 (p1 : Int32) (p2 : Int32) (M : xM)  : Ct iX10_flow0 rJM [(.ref 170), (.int p1), (.int p2)] (xwd M) (fX10_flow0 p1 p2 M) := by
  refine Ct.of' (L := [some (.ref 170), some (.int p1), some (.int p2), none, none, none, none]) 4 rfl (by decide +kernel) (Nat.le_of_ble_eq_true rfl) rfl ?_
  unfold fX10_flow0
  refine x_lconst (pc := 0) (a := 0) dX10_flow0_0 (by decide) ?_
  refine x_lstore_n (pc := 1) (L' := [some (.ref 170), some (.int p1), some (.int p2), some (.long (0:Int64)), none, none, none]) dX10_flow0_1 (Nat.le_of_ble_eq_true rfl) rfl rfl ?_
  refine x_iconst (pc := 2) (a := 0) dX10_flow0_2 (by decide) ?_
  refine x_istore (pc := 3) (L' := [some (.ref 170), some (.int p1), some (.int p2), some (.long (0:Int64)), none, some (.int (0:Int32)), none]) dX10_flow0_3 (Nat.le_of_ble_eq_true rfl) rfl rfl ?_
  refine SP.mask (pc := 5) [true, true, true, true, false, true, false] (L' := [some (.ref 170), some (.int p1), some (.int p2), some (.long (0:Int64)), none, some (.int (0:Int32)), none]) rfl ?_
  refine SP.lp (pc := 5) (fun (s1 : (Int64 × Int32 × xM)) => [some (.ref 170), some (.int p1), some (.int p2), some (.long s1.1), none, some (.int s1.2.1), none]) (fun (s1 : (Int64 × Int32 × xM)) => xwd s1.2.2) (fun s1 kk2 hkk2 => ?_) xfu ((0:Int64), (0:Int32), M)
  try dsimp only
  refine x_iload (pc := 5) dX10_flow0_5 rfl ?_
  refine x_bipush (pc := 7) (a := 8) dX10_flow0_7 (by decide) ?_
  refine x_icmp_ge (pc := 9) (tgt := 68) dX10_flow0_9 (by decide) (fun h3 => ?_) (fun h3 => ?_)
  · refine x_lload_n (pc := 68) dX10_flow0_68 rfl ?_
    exact x_lret (pc := 69) rfl rfl dX10_flow0_69 (Nat.zero_le _) (Nat.zero_le _)
  · refine x_aload_n (pc := 12) dX10_flow0_12 rfl ?_
    refine m_getR (pc := 13) (t := 185) xC10 20 fl_X10_65 rfl (by decide) rfl (by decide) rfl dX10_flow0_13 ?_
    refine x_iload (pc := 16) dX10_flow0_16 rfl ?_
    refine m_iald (pc := 18) rfl rfl dX10_flow0_18 (fun hb4 => ?_)
    refine SP.jn 35 (fun (s6 : (Int32 × xM)) => [some (.ref 170), some (.int p1), some (.int p2), some (.long s1.1), none, some (.int s1.2.1), none]) (fun (s6 : (Int32 × xM)) => [(.int s6.1)]) (fun (s6 : (Int32 × xM)) => xwd s6.2) (fun kk5 hkk5 => ?_) (fun s6 => ?_)
    · try dsimp only
      refine x_if_ne (pc := 19) (tgt := 26) dX10_flow0_19 (by decide) (fun h7 => ?_) (fun h7 => ?_)
      · refine x_aload_n (pc := 26) dX10_flow0_26 rfl ?_
        refine x_iload_n (pc := 27) dX10_flow0_27 rfl ?_
        refine x_iload_n (pc := 28) dX10_flow0_28 rfl ?_
        refine x_iload (pc := 29) dX10_flow0_29 rfl ?_
        refine x_isub (pc := 31) dX10_flow0_31 ?_
        refine cV_IM (pc := 32) (As := [(.int p1), (.int (p2 - s1.2.1))]) (rest := []) (ct_X10_rain0 p1 (p2 - s1.2.1) s1.2.2) rfl xC10 rfl (by decide) ml_X10_165 meX10_rain0 rfl ⟨prX10_rain0, (Nat.le_of_ble_eq_true rfl), (Nat.le_of_ble_eq_true rfl), rfl, rfl⟩ (Nat.le_of_ble_eq_true rfl) dX10_flow0_32 (fun q8 => ?_)
        have hz := hkk5 (q8.1, q8.2)
        try dsimp only at hz
        exact hz
      · refine x_iconst (pc := 22) (a := -1) dX10_flow0_22 (by decide) ?_
        refine x_goto (pc := 23) (tgt := 35) dX10_flow0_23 (by decide) ?_
        have hz := hkk5 ((-1:Int32), s1.2.2)
        try dsimp only at hz
        exact hz
    · try dsimp only
      refine x_istore (pc := 35) (L' := [some (.ref 170), some (.int p1), some (.int p2), some (.long s1.1), none, some (.int s1.2.1), some (.int s6.1)]) dX10_flow0_35 (Nat.le_of_ble_eq_true rfl) rfl rfl ?_
      refine x_lload_n (pc := 37) dX10_flow0_37 rfl ?_
      refine x_iload (pc := 38) dX10_flow0_38 rfl ?_
      refine x_iconst (pc := 40) (a := -1) dX10_flow0_40 (by decide) ?_
      refine x_icmp_ne (pc := 41) (tgt := 48) dX10_flow0_41 (by decide) (fun h9 => ?_) (fun h9 => ?_)
      · refine x_iload (pc := 48) dX10_flow0_48 rfl ?_
        refine x_i2l (pc := 50) dX10_flow0_50 ?_
        refine x_aload_n (pc := 51) dX10_flow0_51 rfl ?_
        refine m_getR (pc := 52) (t := 185) xC10 20 fl_X10_65 rfl (by decide) rfl (by decide) rfl dX10_flow0_52 ?_
        refine x_iload (pc := 55) dX10_flow0_55 rfl ?_
        refine m_iald (pc := 57) rfl rfl dX10_flow0_57 (fun hb10 => ?_)
        refine x_i2l (pc := 58) dX10_flow0_58 ?_
        refine x_lmul (pc := 59) dX10_flow0_59 ?_
        refine x_ladd (pc := 60) dX10_flow0_60 ?_
        refine SP.bdl (fun x11 e12 => ?_)
        refine x_lstore_n (pc := 61) (L' := [some (.ref 170), some (.int p1), some (.int p2), some (.long x11), none, some (.int s1.2.1), some (.int s6.1)]) dX10_flow0_61 (Nat.le_of_ble_eq_true rfl) rfl rfl ?_
        refine x_iinc (pc := 62) (b := (s1.2.1 + 1)) (L' := [some (.ref 170), some (.int p1), some (.int p2), some (.long x11), none, some (.int (s1.2.1 + 1)), some (.int s6.1)]) dX10_flow0_62 rfl rfl (Nat.le_of_ble_eq_true rfl) rfl rfl ?_
        refine x_goto (pc := 65) (tgt := 5) dX10_flow0_65 (by decide) ?_
        refine SP.mask (pc := 5) [true, true, true, true, false, true, false] (L' := [some (.ref 170), some (.int p1), some (.int p2), some (.long x11), none, some (.int (s1.2.1 + 1)), none]) rfl ?_
        have hz := hkk2 (x11, (s1.2.1 + 1), s6.2)
        try dsimp only at hz
        exact hz
      · refine x_lconst (pc := 44) (a := 0) dX10_flow0_44 (by decide) ?_
        refine x_goto (pc := 45) (tgt := 60) dX10_flow0_45 (by decide) ?_
        refine x_ladd (pc := 60) dX10_flow0_60 ?_
        refine SP.bdl (fun x13 e14 => ?_)
        refine x_lstore_n (pc := 61) (L' := [some (.ref 170), some (.int p1), some (.int p2), some (.long x13), none, some (.int s1.2.1), some (.int s6.1)]) dX10_flow0_61 (Nat.le_of_ble_eq_true rfl) rfl rfl ?_
        refine x_iinc (pc := 62) (b := (s1.2.1 + 1)) (L' := [some (.ref 170), some (.int p1), some (.int p2), some (.long x13), none, some (.int (s1.2.1 + 1)), some (.int s6.1)]) dX10_flow0_62 rfl rfl (Nat.le_of_ble_eq_true rfl) rfl rfl ?_
        refine x_goto (pc := 65) (tgt := 5) dX10_flow0_65 (by decide) ?_
        refine SP.mask (pc := 5) [true, true, true, true, false, true, false] (L' := [some (.ref 170), some (.int p1), some (.int p2), some (.long x13), none, some (.int (s1.2.1 + 1)), none]) rfl ?_
        have hz := hkk2 (x13, (s1.2.1 + 1), s6.2)
        try dsimp only at hz
        exact hz

set_option maxRecDepth 100000 in
set_option maxHeartbeats 4000000 in
theorem ct_X10_flow (p1 : Int32) (p2 : Int32) (M : xM)  : Ct iX10_flow rJM [(.ref 170), (.int p1), (.int p2)] (xwd M) (fX10_flow p1 p2 M) := by
  refine Ct.of' (L := [some (.ref 170), some (.int p1), some (.int p2)]) 0 rfl (by decide +kernel) (Nat.le_of_ble_eq_true rfl) rfl ?_
  unfold fX10_flow
  refine x_iload_n (pc := 0) dX10_flow_0 rfl ?_
  refine x_iconst (pc := 1) (a := 0) dX10_flow_1 (by decide) ?_
  refine x_bipush (pc := 2) (a := 7) dX10_flow_2 (by decide) ?_
  refine cS_I (pc := 4) (As := [(.int p1), (.int (0:Int32)), (.int (7:Int32))]) (rest := []) (ct_X10_isIn p1 (0:Int32) (7:Int32) M) rfl ml_X10_85 meX10_isIn rfl ⟨prX10_isIn, (Nat.le_of_ble_eq_true rfl), (Nat.le_of_ble_eq_true rfl), rfl, rfl⟩ (Nat.le_of_ble_eq_true rfl) dX10_flow_4 (fun v1 => ?_)
  refine x_if_eq (pc := 7) (tgt := 29) dX10_flow_7 (by decide) (fun h2 => ?_) (fun h2 => ?_)
  · refine x_ldc2 (pc := 29) (a := -1) dX10_flow_29 rfl (xword 969 (by decide +kernel) rfl) ?_
    exact x_lret (pc := 32) rfl rfl dX10_flow_32 (Nat.zero_le _) (Nat.zero_le _)
  · refine x_iload_n (pc := 10) dX10_flow_10 rfl ?_
    refine x_iconst (pc := 11) (a := 0) dX10_flow_11 (by decide) ?_
    refine x_bipush (pc := 12) (a := 63) dX10_flow_12 (by decide) ?_
    refine cS_I (pc := 14) (As := [(.int p2), (.int (0:Int32)), (.int (63:Int32))]) (rest := []) (ct_X10_isIn p2 (0:Int32) (63:Int32) M) rfl ml_X10_85 meX10_isIn rfl ⟨prX10_isIn, (Nat.le_of_ble_eq_true rfl), (Nat.le_of_ble_eq_true rfl), rfl, rfl⟩ (Nat.le_of_ble_eq_true rfl) dX10_flow_14 (fun v3 => ?_)
    refine x_if_eq (pc := 17) (tgt := 29) dX10_flow_17 (by decide) (fun h4 => ?_) (fun h4 => ?_)
    · refine x_ldc2 (pc := 29) (a := -1) dX10_flow_29 rfl (xword 969 (by decide +kernel) rfl) ?_
      exact x_lret (pc := 32) rfl rfl dX10_flow_32 (Nat.zero_le _) (Nat.zero_le _)
    · refine x_aload_n (pc := 20) dX10_flow_20 rfl ?_
      refine x_iload_n (pc := 21) dX10_flow_21 rfl ?_
      refine x_iload_n (pc := 22) dX10_flow_22 rfl ?_
      refine cV_JM (pc := 23) (As := [(.int p1), (.int p2)]) (rest := []) (ct_X10_flow0 p1 p2 M) rfl xC10 rfl (by decide) ml_X10_168 meX10_flow0 rfl ⟨prX10_flow0, (Nat.le_of_ble_eq_true rfl), (Nat.le_of_ble_eq_true rfl), rfl, rfl⟩ (Nat.le_of_ble_eq_true rfl) dX10_flow_23 (fun q5 => ?_)
      refine x_goto (pc := 26) (tgt := 32) dX10_flow_26 (by decide) ?_
      exact x_lret (pc := 32) rfl rfl dX10_flow_32 (Nat.zero_le _) (Nat.zero_le _)

set_option maxRecDepth 100000 in
set_option maxHeartbeats 4000000 in
theorem ct_X10_ahead (p1 : Int32) (p2 : Int64) (M : xM)  : Ct iX10_ahead rIM [(.ref 170), (.int p1), (.long p2)] (xwd M) (fX10_ahead p1 p2 M) := by
  refine Ct.of' (L := [some (.ref 170), some (.int p1), some (.long p2), none, none]) 1 rfl (by decide +kernel) (Nat.le_of_ble_eq_true rfl) rfl ?_
  unfold fX10_ahead
  refine x_iload_n (pc := 0) dX10_ahead_0 rfl ?_
  refine x_iconst (pc := 1) (a := 0) dX10_ahead_1 (by decide) ?_
  refine x_bipush (pc := 2) (a := 7) dX10_ahead_2 (by decide) ?_
  refine cS_I (pc := 4) (As := [(.int p1), (.int (0:Int32)), (.int (7:Int32))]) (rest := []) (ct_X10_isIn p1 (0:Int32) (7:Int32) M) rfl ml_X10_85 meX10_isIn rfl ⟨prX10_isIn, (Nat.le_of_ble_eq_true rfl), (Nat.le_of_ble_eq_true rfl), rfl, rfl⟩ (Nat.le_of_ble_eq_true rfl) dX10_ahead_4 (fun v1 => ?_)
  refine x_if_ne (pc := 7) (tgt := 12) dX10_ahead_7 (by decide) (fun h2 => ?_) (fun h2 => ?_)
  · refine x_aload_n (pc := 12) dX10_ahead_12 rfl ?_
    refine m_getI (pc := 13) xC10 15 fl_X10_89 rfl (by decide) rfl (by decide) rfl dX10_ahead_13 ?_
    refine SP.bdi (fun x3 e4 => ?_)
    refine x_istore (pc := 16) (L' := [some (.ref 170), some (.int p1), some (.long p2), none, some (.int x3)]) dX10_ahead_16 (Nat.le_of_ble_eq_true rfl) rfl rfl ?_
    refine SP.mask (pc := 18) [true, true, true, false, true] (L' := [some (.ref 170), some (.int p1), some (.long p2), none, some (.int x3)]) rfl ?_
    refine SP.lp (pc := 18) (fun (s5 : (Int32 × xM)) => [some (.ref 170), some (.int p1), some (.long p2), none, some (.int s5.1)]) (fun (s5 : (Int32 × xM)) => xwd s5.2) (fun s5 kk6 hkk6 => ?_) xfu (x3, M)
    try dsimp only
    refine x_iload (pc := 18) dX10_ahead_18 rfl ?_
    refine x_bipush (pc := 20) (a := 64) dX10_ahead_20 (by decide) ?_
    refine x_icmp_ge (pc := 22) (tgt := 46) dX10_ahead_22 (by decide) (fun h7 => ?_) (fun h7 => ?_)
    · refine x_iconst (pc := 46) (a := -1) dX10_ahead_46 (by decide) ?_
      exact x_iret (pc := 47) rfl rfl dX10_ahead_47 (Nat.zero_le _) (Nat.zero_le _)
    · refine x_aload_n (pc := 25) dX10_ahead_25 rfl ?_
      refine x_iload_n (pc := 26) dX10_ahead_26 rfl ?_
      refine x_iload (pc := 27) dX10_ahead_27 rfl ?_
      refine cV_JM (pc := 29) (As := [(.int p1), (.int s5.1)]) (rest := []) (ct_X10_flow0 p1 s5.1 s5.2) rfl xC10 rfl (by decide) ml_X10_168 meX10_flow0 rfl ⟨prX10_flow0, (Nat.le_of_ble_eq_true rfl), (Nat.le_of_ble_eq_true rfl), rfl, rfl⟩ (Nat.le_of_ble_eq_true rfl) dX10_ahead_29 (fun q8 => ?_)
      refine x_lload_n (pc := 32) dX10_ahead_32 rfl ?_
      refine x_lcmp (pc := 33) dX10_ahead_33 ?_
      refine x_if_le (pc := 34) (tgt := 40) dX10_ahead_34 (by decide) (fun h9 => ?_) (fun h9 => ?_)
      · refine x_iinc (pc := 40) (b := (s5.1 + 1)) (L' := [some (.ref 170), some (.int p1), some (.long p2), none, some (.int (s5.1 + 1))]) dX10_ahead_40 rfl rfl (Nat.le_of_ble_eq_true rfl) rfl rfl ?_
        refine x_goto (pc := 43) (tgt := 18) dX10_ahead_43 (by decide) ?_
        have hz := hkk6 ((s5.1 + 1), q8.2)
        try dsimp only at hz
        exact hz
      · refine x_iload (pc := 37) dX10_ahead_37 rfl ?_
        exact x_iret (pc := 39) rfl rfl dX10_ahead_39 (Nat.zero_le _) (Nat.zero_le _)
  · refine x_iconst (pc := 10) (a := -1) dX10_ahead_10 (by decide) ?_
    exact x_iret (pc := 11) rfl rfl dX10_ahead_11 (Nat.zero_le _) (Nat.zero_le _)

set_option maxRecDepth 100000 in
set_option maxHeartbeats 4000000 in
theorem ct_X10_weekOf (p1 : Int32) (p2 : Int32) (p3 : Int32) (M : xM)  : Ct iX10_weekOf rJM [(.ref 170), (.int p1), (.int p2), (.int p3)] (xwd M) (fX10_weekOf p1 p2 p3 M) := by
  refine Ct.of' (L := [some (.ref 170), some (.int p1), some (.int p2), some (.int p3), none, none, none, none, none, none, none, none, none, none]) 10 rfl (by decide +kernel) (Nat.le_of_ble_eq_true rfl) rfl ?_
  unfold fX10_weekOf
  refine x_lconst (pc := 0) (a := 0) dX10_weekOf_0 (by decide) ?_
  refine x_lstore (pc := 1) (L' := [some (.ref 170), some (.int p1), some (.int p2), some (.int p3), some (.long (0:Int64)), none, none, none, none, none, none, none, none, none]) dX10_weekOf_1 (Nat.le_of_ble_eq_true rfl) rfl rfl ?_
  refine x_bipush (pc := 3) (a := 7) dX10_weekOf_3 (by decide) ?_
  refine x_iload_n (pc := 5) dX10_weekOf_5 rfl ?_
  refine x_imul (pc := 6) dX10_weekOf_6 ?_
  refine SP.bdi (fun x1 e2 => ?_)
  refine x_istore (pc := 7) (L' := [some (.ref 170), some (.int p1), some (.int p2), some (.int p3), some (.long (0:Int64)), none, some (.int x1), none, none, none, none, none, none, none]) dX10_weekOf_7 (Nat.le_of_ble_eq_true rfl) rfl rfl ?_
  refine SP.mask (pc := 9) [true, true, true, true, true, false, true, false, false, false, false, false, false, false] (L' := [some (.ref 170), some (.int p1), some (.int p2), some (.int p3), some (.long (0:Int64)), none, some (.int x1), none, none, none, none, none, none, none]) rfl ?_
  refine SP.lp (pc := 9) (fun (s3 : (Int64 × Int32 × xM)) => [some (.ref 170), some (.int p1), some (.int p2), some (.int p3), some (.long s3.1), none, some (.int s3.2.1), none, none, none, none, none, none, none]) (fun (s3 : (Int64 × Int32 × xM)) => xwd s3.2.2) (fun s3 kk4 hkk4 => ?_) xfu ((0:Int64), x1, M)
  try dsimp only
  refine x_iload (pc := 9) dX10_weekOf_9 rfl ?_
  refine x_bipush (pc := 11) (a := 7) dX10_weekOf_11 (by decide) ?_
  refine x_iload_n (pc := 13) dX10_weekOf_13 rfl ?_
  refine x_imul (pc := 14) dX10_weekOf_14 ?_
  refine x_bipush (pc := 15) (a := 7) dX10_weekOf_15 (by decide) ?_
  refine x_iadd (pc := 17) dX10_weekOf_17 ?_
  refine x_icmp_ge (pc := 18) (tgt := 170) dX10_weekOf_18 (by decide) (fun h5 => ?_) (fun h5 => ?_)
  · refine x_lload (pc := 170) dX10_weekOf_170 rfl ?_
    exact x_lret (pc := 172) rfl rfl dX10_weekOf_172 (Nat.zero_le _) (Nat.zero_le _)
  · refine x_aload_n (pc := 21) dX10_weekOf_21 rfl ?_
    refine x_iload_n (pc := 22) dX10_weekOf_22 rfl ?_
    refine cV_IM (pc := 23) (As := [(.int p1)]) (rest := []) (ct_X10_rows p1 s3.2.2) rfl xC10 rfl (by decide) ml_X10_125 meX10_rows rfl ⟨prX10_rows, (Nat.le_of_ble_eq_true rfl), (Nat.le_of_ble_eq_true rfl), rfl, rfl⟩ (Nat.le_of_ble_eq_true rfl) dX10_weekOf_23 (fun q6 => ?_)
    refine x_istore (pc := 26) (L' := [some (.ref 170), some (.int p1), some (.int p2), some (.int p3), some (.long s3.1), none, some (.int s3.2.1), some (.int q6.1), none, none, none, none, none, none]) dX10_weekOf_26 (Nat.le_of_ble_eq_true rfl) rfl rfl ?_
    refine x_iconst (pc := 28) (a := 0) dX10_weekOf_28 (by decide) ?_
    refine x_istore (pc := 29) (L' := [some (.ref 170), some (.int p1), some (.int p2), some (.int p3), some (.long s3.1), none, some (.int s3.2.1), some (.int q6.1), some (.int (0:Int32)), none, none, none, none, none]) dX10_weekOf_29 (Nat.le_of_ble_eq_true rfl) rfl rfl ?_
    refine x_aload_n (pc := 31) dX10_weekOf_31 rfl ?_
    refine x_iload_n (pc := 32) dX10_weekOf_32 rfl ?_
    refine x_iload (pc := 33) dX10_weekOf_33 rfl ?_
    refine cV_I (pc := 35) (As := [(.int p1), (.int s3.2.1)]) (rest := []) (ct_X10_trusted p1 s3.2.1 q6.2) rfl xC10 rfl (by decide) ml_X10_129 meX10_trusted rfl ⟨prX10_trusted, (Nat.le_of_ble_eq_true rfl), (Nat.le_of_ble_eq_true rfl), rfl, rfl⟩ (Nat.le_of_ble_eq_true rfl) dX10_weekOf_35 (fun v7 => ?_)
    refine x_iconst (pc := 38) (a := -1) dX10_weekOf_38 (by decide) ?_
    refine SP.jn 47 (fun (s9 : Int32) => [some (.ref 170), some (.int p1), some (.int p2), some (.int p3), some (.long s3.1), none, some (.int s3.2.1), some (.int q6.1), some (.int (0:Int32)), none, none, none, none, none]) (fun (s9 : Int32) => [(.int s9)]) (fun (s9 : Int32) => xwd q6.2) (fun kk8 hkk8 => ?_) (fun s9 => ?_)
    · try dsimp only
      refine x_icmp_eq (pc := 39) (tgt := 46) dX10_weekOf_39 (by decide) (fun h10 => ?_) (fun h10 => ?_)
      · refine x_iconst (pc := 46) (a := 0) dX10_weekOf_46 (by decide) ?_
        have hz := hkk8 (0:Int32)
        try dsimp only at hz
        exact hz
      · refine x_iconst (pc := 42) (a := 1) dX10_weekOf_42 (by decide) ?_
        refine x_goto (pc := 43) (tgt := 47) dX10_weekOf_43 (by decide) ?_
        have hz := hkk8 (1:Int32)
        try dsimp only at hz
        exact hz
    · try dsimp only
      refine x_istore (pc := 47) (L' := [some (.ref 170), some (.int p1), some (.int p2), some (.int p3), some (.long s3.1), none, some (.int s3.2.1), some (.int q6.1), some (.int (0:Int32)), some (.int s9), none, none, none, none]) dX10_weekOf_47 (Nat.le_of_ble_eq_true rfl) rfl rfl ?_
      refine x_lconst (pc := 49) (a := 0) dX10_weekOf_49 (by decide) ?_
      refine x_lstore (pc := 50) (L' := [some (.ref 170), some (.int p1), some (.int p2), some (.int p3), some (.long s3.1), none, some (.int s3.2.1), some (.int q6.1), some (.int (0:Int32)), some (.int s9), some (.long (0:Int64)), none, none, none]) dX10_weekOf_50 (Nat.le_of_ble_eq_true rfl) rfl rfl ?_
      refine x_iconst (pc := 52) (a := 0) dX10_weekOf_52 (by decide) ?_
      refine x_istore (pc := 53) (L' := [some (.ref 170), some (.int p1), some (.int p2), some (.int p3), some (.long s3.1), none, some (.int s3.2.1), some (.int q6.1), some (.int (0:Int32)), some (.int s9), some (.long (0:Int64)), none, some (.int (0:Int32)), none]) dX10_weekOf_53 (Nat.le_of_ble_eq_true rfl) rfl rfl ?_
      refine SP.mask (pc := 55) [true, true, true, true, true, false, true, true, true, true, true, false, true, false] (L' := [some (.ref 170), some (.int p1), some (.int p2), some (.int p3), some (.long s3.1), none, some (.int s3.2.1), some (.int q6.1), some (.int (0:Int32)), some (.int s9), some (.long (0:Int64)), none, some (.int (0:Int32)), none]) rfl ?_
      refine SP.lp (pc := 55) (fun (s11 : (Int32 × Int32 × Int64 × Int32)) => [some (.ref 170), some (.int p1), some (.int p2), some (.int p3), some (.long s3.1), none, some (.int s3.2.1), some (.int q6.1), some (.int s11.1), some (.int s11.2.1), some (.long s11.2.2.1), none, some (.int s11.2.2.2), none]) (fun (s11 : (Int32 × Int32 × Int64 × Int32)) => xwd q6.2) (fun s11 kk12 hkk12 => ?_) xfu ((0:Int32), s9, (0:Int64), (0:Int32))
      try dsimp only
      refine x_iload (pc := 55) dX10_weekOf_55 rfl ?_
      refine x_iload (pc := 57) dX10_weekOf_57 rfl ?_
      refine SP.jn 137 (fun (s14 : Unit) => [some (.ref 170), some (.int p1), some (.int p2), some (.int p3), some (.long s3.1), none, some (.int s3.2.1), none, none, some (.int s11.2.1), some (.long s11.2.2.1), none, none, none]) (fun (s14 : Unit) => []) (fun (s14 : Unit) => xwd q6.2) (fun kk13 hkk13 => ?_) (fun s14 => ?_)
      · try dsimp only
        refine x_icmp_ge (pc := 59) (tgt := 137) dX10_weekOf_59 (by decide) (fun h15 => ?_) (fun h15 => ?_)
        · refine SP.mask (pc := 137) [true, true, true, true, true, false, true, false, false, true, true, false, false, false] (L' := [some (.ref 170), some (.int p1), some (.int p2), some (.int p3), some (.long s3.1), none, some (.int s3.2.1), none, none, some (.int s11.2.1), some (.long s11.2.2.1), none, none, none]) rfl ?_
          have hz := hkk13 ()
          try dsimp only at hz
          exact hz
        · refine x_iload (pc := 62) dX10_weekOf_62 rfl ?_
          refine x_iconst (pc := 64) (a := 4) dX10_weekOf_64 (by decide) ?_
          refine x_icmp_ge (pc := 65) (tgt := 137) dX10_weekOf_65 (by decide) (fun h16 => ?_) (fun h16 => ?_)
          · refine SP.mask (pc := 137) [true, true, true, true, true, false, true, false, false, true, true, false, false, false] (L' := [some (.ref 170), some (.int p1), some (.int p2), some (.int p3), some (.long s3.1), none, some (.int s3.2.1), none, none, some (.int s11.2.1), some (.long s11.2.2.1), none, none, none]) rfl ?_
            have hz := hkk13 ()
            try dsimp only at hz
            exact hz
          · refine x_aload_n (pc := 68) dX10_weekOf_68 rfl ?_
            refine m_getR (pc := 69) (t := 171) xC10 0 fl_X10_9 rfl (by decide) rfl (by decide) rfl dX10_weekOf_69 ?_
            refine x_aload_n (pc := 72) dX10_weekOf_72 rfl ?_
            refine m_getR (pc := 73) (t := 187) xC10 22 fl_X10_72 rfl (by decide) rfl (by decide) rfl dX10_weekOf_73 ?_
            refine x_iload (pc := 76) dX10_weekOf_76 rfl ?_
            refine m_iald (pc := 78) rfl rfl dX10_weekOf_78 (fun hb17 => ?_)
            refine m_iald (pc := 79) rfl rfl dX10_weekOf_79 (fun hb18 => ?_)
            refine x_iconst (pc := 80) (a := 3) dX10_weekOf_80 (by decide) ?_
            refine x_icmp_ne (pc := 81) (tgt := 87) dX10_weekOf_81 (by decide) (fun h19 => ?_) (fun h19 => ?_)
            · refine x_iinc (pc := 87) (b := (s11.1 + 1)) (L' := [some (.ref 170), some (.int p1), some (.int p2), some (.int p3), some (.long s3.1), none, some (.int s3.2.1), some (.int q6.1), some (.int (s11.1 + 1)), some (.int s11.2.1), some (.long s11.2.2.1), none, some (.int s11.2.2.2), none]) dX10_weekOf_87 rfl rfl (Nat.le_of_ble_eq_true rfl) rfl rfl ?_
              refine x_aload_n (pc := 90) dX10_weekOf_90 rfl ?_
              refine x_aload_n (pc := 91) dX10_weekOf_91 rfl ?_
              refine m_getR (pc := 92) (t := 187) xC10 22 fl_X10_72 rfl (by decide) rfl (by decide) rfl dX10_weekOf_92 ?_
              refine x_iload (pc := 95) dX10_weekOf_95 rfl ?_
              refine m_iald (pc := 97) rfl rfl dX10_weekOf_97 (fun hb20 => ?_)
              refine x_iload (pc := 98) dX10_weekOf_98 rfl ?_
              refine cV_I (pc := 100) (As := [(.int (q6.2.1 187 s11.2.2.2.toNatClampNeg)), (.int s3.2.1)]) (rest := []) (ct_X10_trusted (q6.2.1 187 s11.2.2.2.toNatClampNeg) s3.2.1 q6.2) rfl xC10 rfl (by decide) ml_X10_129 meX10_trusted rfl ⟨prX10_trusted, (Nat.le_of_ble_eq_true rfl), (Nat.le_of_ble_eq_true rfl), rfl, rfl⟩ (Nat.le_of_ble_eq_true rfl) dX10_weekOf_100 (fun v21 => ?_)
              refine x_istore (pc := 103) (L' := [some (.ref 170), some (.int p1), some (.int p2), some (.int p3), some (.long s3.1), none, some (.int s3.2.1), some (.int q6.1), some (.int (s11.1 + 1)), some (.int s11.2.1), some (.long s11.2.2.1), none, some (.int s11.2.2.2), some (.int v21)]) dX10_weekOf_103 (Nat.le_of_ble_eq_true rfl) rfl rfl ?_
              refine x_iload (pc := 105) dX10_weekOf_105 rfl ?_
              refine SP.jn 121 (fun (s23 : Int32) => [some (.ref 170), some (.int p1), some (.int p2), some (.int p3), some (.long s3.1), none, some (.int s3.2.1), some (.int q6.1), some (.int (s11.1 + 1)), none, some (.long s11.2.2.1), none, some (.int s11.2.2.2), some (.int v21)]) (fun (s23 : Int32) => [(.int s23)]) (fun (s23 : Int32) => xwd q6.2) (fun kk22 hkk22 => ?_) (fun s23 => ?_)
              · try dsimp only
                refine SP.jn 120 (fun (s25 : Unit) => [some (.ref 170), some (.int p1), some (.int p2), some (.int p3), some (.long s3.1), none, some (.int s3.2.1), some (.int q6.1), some (.int (s11.1 + 1)), none, some (.long s11.2.2.1), none, some (.int s11.2.2.2), some (.int v21)]) (fun (s25 : Unit) => []) (fun (s25 : Unit) => xwd q6.2) (fun kk24 hkk24 => ?_) (fun s25 => ?_)
                · try dsimp only
                  refine x_if_eq (pc := 107) (tgt := 120) dX10_weekOf_107 (by decide) (fun h26 => ?_) (fun h26 => ?_)
                  · refine SP.mask (pc := 120) [true, true, true, true, true, false, true, true, true, false, true, false, true, true] (L' := [some (.ref 170), some (.int p1), some (.int p2), some (.int p3), some (.long s3.1), none, some (.int s3.2.1), some (.int q6.1), some (.int (s11.1 + 1)), none, some (.long s11.2.2.1), none, some (.int s11.2.2.2), some (.int v21)]) rfl ?_
                    have hz := hkk24 ()
                    try dsimp only at hz
                    exact hz
                  · refine x_iload (pc := 110) dX10_weekOf_110 rfl ?_
                    refine x_iconst (pc := 112) (a := -1) dX10_weekOf_112 (by decide) ?_
                    refine x_icmp_eq (pc := 113) (tgt := 120) dX10_weekOf_113 (by decide) (fun h27 => ?_) (fun h27 => ?_)
                    · refine SP.mask (pc := 120) [true, true, true, true, true, false, true, true, true, false, true, false, true, true] (L' := [some (.ref 170), some (.int p1), some (.int p2), some (.int p3), some (.long s3.1), none, some (.int s3.2.1), some (.int q6.1), some (.int (s11.1 + 1)), none, some (.long s11.2.2.1), none, some (.int s11.2.2.2), some (.int v21)]) rfl ?_
                      have hz := hkk24 ()
                      try dsimp only at hz
                      exact hz
                    · refine x_iconst (pc := 116) (a := 1) dX10_weekOf_116 (by decide) ?_
                      refine x_goto (pc := 117) (tgt := 121) dX10_weekOf_117 (by decide) ?_
                      refine SP.mask (pc := 121) [true, true, true, true, true, false, true, true, true, false, true, false, true, true] (L' := [some (.ref 170), some (.int p1), some (.int p2), some (.int p3), some (.long s3.1), none, some (.int s3.2.1), some (.int q6.1), some (.int (s11.1 + 1)), none, some (.long s11.2.2.1), none, some (.int s11.2.2.2), some (.int v21)]) rfl ?_
                      have hz := hkk22 (1:Int32)
                      try dsimp only at hz
                      exact hz
                · try dsimp only
                  refine x_iconst (pc := 120) (a := 0) dX10_weekOf_120 (by decide) ?_
                  have hz := hkk22 (0:Int32)
                  try dsimp only at hz
                  exact hz
              · try dsimp only
                refine x_istore (pc := 121) (L' := [some (.ref 170), some (.int p1), some (.int p2), some (.int p3), some (.long s3.1), none, some (.int s3.2.1), some (.int q6.1), some (.int (s11.1 + 1)), some (.int s23), some (.long s11.2.2.1), none, some (.int s11.2.2.2), some (.int v21)]) dX10_weekOf_121 (Nat.le_of_ble_eq_true rfl) rfl rfl ?_
                refine x_lload (pc := 123) dX10_weekOf_123 rfl ?_
                refine x_iload (pc := 125) dX10_weekOf_125 rfl ?_
                refine x_i2l (pc := 127) dX10_weekOf_127 ?_
                refine x_ladd (pc := 128) dX10_weekOf_128 ?_
                refine SP.bdl (fun x28 e29 => ?_)
                refine x_lstore (pc := 129) (L' := [some (.ref 170), some (.int p1), some (.int p2), some (.int p3), some (.long s3.1), none, some (.int s3.2.1), some (.int q6.1), some (.int (s11.1 + 1)), some (.int s23), some (.long x28), none, some (.int s11.2.2.2), some (.int v21)]) dX10_weekOf_129 (Nat.le_of_ble_eq_true rfl) rfl rfl ?_
                refine x_iinc (pc := 131) (b := (s11.2.2.2 + 1)) (L' := [some (.ref 170), some (.int p1), some (.int p2), some (.int p3), some (.long s3.1), none, some (.int s3.2.1), some (.int q6.1), some (.int (s11.1 + 1)), some (.int s23), some (.long x28), none, some (.int (s11.2.2.2 + 1)), some (.int v21)]) dX10_weekOf_131 rfl rfl (Nat.le_of_ble_eq_true rfl) rfl rfl ?_
                refine x_goto (pc := 134) (tgt := 55) dX10_weekOf_134 (by decide) ?_
                refine SP.mask (pc := 55) [true, true, true, true, true, false, true, true, true, true, true, false, true, false] (L' := [some (.ref 170), some (.int p1), some (.int p2), some (.int p3), some (.long s3.1), none, some (.int s3.2.1), some (.int q6.1), some (.int (s11.1 + 1)), some (.int s23), some (.long x28), none, some (.int (s11.2.2.2 + 1)), none]) rfl ?_
                have hz := hkk12 ((s11.1 + 1), s23, x28, (s11.2.2.2 + 1))
                try dsimp only at hz
                exact hz
            · refine x_goto (pc := 84) (tgt := 131) dX10_weekOf_84 (by decide) ?_
              refine x_iinc (pc := 131) (b := (s11.2.2.2 + 1)) (L' := [some (.ref 170), some (.int p1), some (.int p2), some (.int p3), some (.long s3.1), none, some (.int s3.2.1), some (.int q6.1), some (.int s11.1), some (.int s11.2.1), some (.long s11.2.2.1), none, some (.int (s11.2.2.2 + 1)), none]) dX10_weekOf_131 rfl rfl (Nat.le_of_ble_eq_true rfl) rfl rfl ?_
              refine x_goto (pc := 134) (tgt := 55) dX10_weekOf_134 (by decide) ?_
              have hz := hkk12 (s11.1, s11.2.1, s11.2.2.1, (s11.2.2.2 + 1))
              try dsimp only at hz
              exact hz
      · try dsimp only
        refine x_iload (pc := 137) dX10_weekOf_137 rfl ?_
        refine x_if_eq (pc := 139) (tgt := 164) dX10_weekOf_139 (by decide) (fun h30 => ?_) (fun h30 => ?_)
        · refine x_iinc (pc := 164) (b := (s3.2.1 + 1)) (L' := [some (.ref 170), some (.int p1), some (.int p2), some (.int p3), some (.long s3.1), none, some (.int (s3.2.1 + 1)), none, none, some (.int s11.2.1), some (.long s11.2.2.1), none, none, none]) dX10_weekOf_164 rfl rfl (Nat.le_of_ble_eq_true rfl) rfl rfl ?_
          refine x_goto (pc := 167) (tgt := 9) dX10_weekOf_167 (by decide) ?_
          refine SP.mask (pc := 9) [true, true, true, true, true, false, true, false, false, false, false, false, false, false] (L' := [some (.ref 170), some (.int p1), some (.int p2), some (.int p3), some (.long s3.1), none, some (.int (s3.2.1 + 1)), none, none, none, none, none, none, none]) rfl ?_
          have hz := hkk4 (s3.1, (s3.2.1 + 1), q6.2)
          try dsimp only at hz
          exact hz
        · refine x_lload (pc := 142) dX10_weekOf_142 rfl ?_
          refine x_iload_n (pc := 144) dX10_weekOf_144 rfl ?_
          refine x_if_eq (pc := 145) (tgt := 159) dX10_weekOf_145 (by decide) (fun h31 => ?_) (fun h31 => ?_)
          · refine x_lload (pc := 159) dX10_weekOf_159 rfl ?_
            refine x_ladd (pc := 161) dX10_weekOf_161 ?_
            refine SP.bdl (fun x32 e33 => ?_)
            refine x_lstore (pc := 162) (L' := [some (.ref 170), some (.int p1), some (.int p2), some (.int p3), some (.long x32), none, some (.int s3.2.1), none, none, some (.int s11.2.1), some (.long s11.2.2.1), none, none, none]) dX10_weekOf_162 (Nat.le_of_ble_eq_true rfl) rfl rfl ?_
            refine x_iinc (pc := 164) (b := (s3.2.1 + 1)) (L' := [some (.ref 170), some (.int p1), some (.int p2), some (.int p3), some (.long x32), none, some (.int (s3.2.1 + 1)), none, none, some (.int s11.2.1), some (.long s11.2.2.1), none, none, none]) dX10_weekOf_164 rfl rfl (Nat.le_of_ble_eq_true rfl) rfl rfl ?_
            refine x_goto (pc := 167) (tgt := 9) dX10_weekOf_167 (by decide) ?_
            refine SP.mask (pc := 9) [true, true, true, true, true, false, true, false, false, false, false, false, false, false] (L' := [some (.ref 170), some (.int p1), some (.int p2), some (.int p3), some (.long x32), none, some (.int (s3.2.1 + 1)), none, none, none, none, none, none, none]) rfl ?_
            have hz := hkk4 (x32, (s3.2.1 + 1), q6.2)
            try dsimp only at hz
            exact hz
          · refine x_aload_n (pc := 148) dX10_weekOf_148 rfl ?_
            refine x_iload_n (pc := 149) dX10_weekOf_149 rfl ?_
            refine x_iload (pc := 150) dX10_weekOf_150 rfl ?_
            refine cV_I (pc := 152) (As := [(.int p1), (.int s3.2.1)]) (rest := [(.long s3.1)]) (ct_X10_trusted p1 s3.2.1 q6.2) rfl xC10 rfl (by decide) ml_X10_129 meX10_trusted rfl ⟨prX10_trusted, (Nat.le_of_ble_eq_true rfl), (Nat.le_of_ble_eq_true rfl), rfl, rfl⟩ (Nat.le_of_ble_eq_true rfl) dX10_weekOf_152 (fun v34 => ?_)
            refine x_i2l (pc := 155) dX10_weekOf_155 ?_
            refine x_goto (pc := 156) (tgt := 161) dX10_weekOf_156 (by decide) ?_
            refine x_ladd (pc := 161) dX10_weekOf_161 ?_
            refine SP.bdl (fun x35 e36 => ?_)
            refine x_lstore (pc := 162) (L' := [some (.ref 170), some (.int p1), some (.int p2), some (.int p3), some (.long x35), none, some (.int s3.2.1), none, none, some (.int s11.2.1), some (.long s11.2.2.1), none, none, none]) dX10_weekOf_162 (Nat.le_of_ble_eq_true rfl) rfl rfl ?_
            refine x_iinc (pc := 164) (b := (s3.2.1 + 1)) (L' := [some (.ref 170), some (.int p1), some (.int p2), some (.int p3), some (.long x35), none, some (.int (s3.2.1 + 1)), none, none, some (.int s11.2.1), some (.long s11.2.2.1), none, none, none]) dX10_weekOf_164 rfl rfl (Nat.le_of_ble_eq_true rfl) rfl rfl ?_
            refine x_goto (pc := 167) (tgt := 9) dX10_weekOf_167 (by decide) ?_
            refine SP.mask (pc := 9) [true, true, true, true, true, false, true, false, false, false, false, false, false, false] (L' := [some (.ref 170), some (.int p1), some (.int p2), some (.int p3), some (.long x35), none, some (.int (s3.2.1 + 1)), none, none, none, none, none, none, none]) rfl ?_
            have hz := hkk4 (x35, (s3.2.1 + 1), q6.2)
            try dsimp only at hz
            exact hz

set_option maxRecDepth 100000 in
set_option maxHeartbeats 4000000 in
theorem ct_X10_failsStore (p1 : Int32) (M : xM)  : Ct iX10_failsStore (rI M) [(.ref 170), (.int p1)] (xwd M) (fX10_failsStore p1 M) := by
  refine Ct.of' (L := [some (.ref 170), some (.int p1), none]) 1 rfl (by decide +kernel) (Nat.le_of_ble_eq_true rfl) rfl ?_
  unfold fX10_failsStore
  refine x_aload_n (pc := 0) dX10_failsStore_0 rfl ?_
  refine x_iload_n (pc := 1) dX10_failsStore_1 rfl ?_
  refine x_iconst (pc := 2) (a := 0) dX10_failsStore_2 (by decide) ?_
  refine x_iconst (pc := 3) (a := 4) dX10_failsStore_3 (by decide) ?_
  refine cV_I (pc := 4) (As := [(.int p1), (.int (0:Int32)), (.int (4:Int32))]) (rest := []) (ct_X10_fails p1 (0:Int32) (4:Int32) M) rfl xC10 rfl (by decide) ml_X10_96 meX10_fails rfl ⟨prX10_fails, (Nat.le_of_ble_eq_true rfl), (Nat.le_of_ble_eq_true rfl), rfl, rfl⟩ (Nat.le_of_ble_eq_true rfl) dX10_failsStore_4 (fun v1 => ?_)
  refine x_istore_n (pc := 7) (L' := [some (.ref 170), some (.int p1), some (.int v1)]) dX10_failsStore_7 (Nat.le_of_ble_eq_true rfl) rfl rfl ?_
  refine x_iload_n (pc := 8) dX10_failsStore_8 rfl ?_
  refine x_if_ne (pc := 9) (tgt := 27) dX10_failsStore_9 (by decide) (fun h2 => ?_) (fun h2 => ?_)
  · refine x_iload_n (pc := 27) dX10_failsStore_27 rfl ?_
    exact x_iret (pc := 28) rfl rfl dX10_failsStore_28 (Nat.zero_le _) (Nat.zero_le _)
  · refine x_aload_n (pc := 12) dX10_failsStore_12 rfl ?_
    refine m_getR (pc := 13) (t := 171) xC10 0 fl_X10_9 rfl (by decide) rfl (by decide) rfl dX10_failsStore_13 ?_
    refine x_iload_n (pc := 16) dX10_failsStore_16 rfl ?_
    refine m_iald (pc := 17) rfl rfl dX10_failsStore_17 (fun hb3 => ?_)
    refine x_iconst (pc := 18) (a := 3) dX10_failsStore_18 (by decide) ?_
    refine x_icmp_ne (pc := 19) (tgt := 27) dX10_failsStore_19 (by decide) (fun h4 => ?_) (fun h4 => ?_)
    · refine x_iload_n (pc := 27) dX10_failsStore_27 rfl ?_
      exact x_iret (pc := 28) rfl rfl dX10_failsStore_28 (Nat.zero_le _) (Nat.zero_le _)
    · refine x_bipush (pc := 22) (a := -2) dX10_failsStore_22 (by decide) ?_
      refine x_goto (pc := 24) (tgt := 28) dX10_failsStore_24 (by decide) ?_
      exact x_iret (pc := 28) rfl rfl dX10_failsStore_28 (Nat.zero_le _) (Nat.zero_le _)

set_option maxRecDepth 100000 in
set_option maxHeartbeats 4000000 in
theorem ct_X10_week (p1 : Int32) (p2 : Int32) (p3 : Int32) (M : xM)  : Ct iX10_week rIM [(.ref 170), (.int p1), (.int p2), (.int p3)] (xwd M) (fX10_week p1 p2 p3 M) := by
  refine Ct.of' (L := [some (.ref 170), some (.int p1), some (.int p2), some (.int p3), none]) 1 rfl (by decide +kernel) (Nat.le_of_ble_eq_true rfl) rfl ?_
  unfold fX10_week
  refine x_aload_n (pc := 0) dX10_week_0 rfl ?_
  refine x_iload_n (pc := 1) dX10_week_1 rfl ?_
  refine cV_I (pc := 2) (As := [(.int p1)]) (rest := []) (ct_X10_failsStore p1 M) rfl xC10 rfl (by decide) ml_X10_174 meX10_failsStore rfl ⟨prX10_failsStore, (Nat.le_of_ble_eq_true rfl), (Nat.le_of_ble_eq_true rfl), rfl, rfl⟩ (Nat.le_of_ble_eq_true rfl) dX10_week_2 (fun v1 => ?_)
  refine x_istore (pc := 5) (L' := [some (.ref 170), some (.int p1), some (.int p2), some (.int p3), some (.int v1)]) dX10_week_5 (Nat.le_of_ble_eq_true rfl) rfl rfl ?_
  refine x_iload (pc := 7) dX10_week_7 rfl ?_
  refine x_if_eq (pc := 9) (tgt := 15) dX10_week_9 (by decide) (fun h2 => ?_) (fun h2 => ?_)
  · refine x_iload_n (pc := 15) dX10_week_15 rfl ?_
    refine x_iconst (pc := 16) (a := 0) dX10_week_16 (by decide) ?_
    refine x_bipush (pc := 17) (a := 7) dX10_week_17 (by decide) ?_
    refine cS_I (pc := 19) (As := [(.int p2), (.int (0:Int32)), (.int (7:Int32))]) (rest := []) (ct_X10_isIn p2 (0:Int32) (7:Int32) M) rfl ml_X10_85 meX10_isIn rfl ⟨prX10_isIn, (Nat.le_of_ble_eq_true rfl), (Nat.le_of_ble_eq_true rfl), rfl, rfl⟩ (Nat.le_of_ble_eq_true rfl) dX10_week_19 (fun v3 => ?_)
    refine x_if_eq (pc := 22) (tgt := 53) dX10_week_22 (by decide) (fun h4 => ?_) (fun h4 => ?_)
    · refine x_iconst (pc := 53) (a := -1) dX10_week_53 (by decide) ?_
      exact x_iret (pc := 54) rfl rfl dX10_week_54 (Nat.zero_le _) (Nat.zero_le _)
    · refine x_iload_n (pc := 25) dX10_week_25 rfl ?_
      refine x_iconst (pc := 26) (a := 0) dX10_week_26 (by decide) ?_
      refine x_iconst (pc := 27) (a := 1) dX10_week_27 (by decide) ?_
      refine cS_I (pc := 28) (As := [(.int p3), (.int (0:Int32)), (.int (1:Int32))]) (rest := []) (ct_X10_isIn p3 (0:Int32) (1:Int32) M) rfl ml_X10_85 meX10_isIn rfl ⟨prX10_isIn, (Nat.le_of_ble_eq_true rfl), (Nat.le_of_ble_eq_true rfl), rfl, rfl⟩ (Nat.le_of_ble_eq_true rfl) dX10_week_28 (fun v5 => ?_)
      refine x_if_eq (pc := 31) (tgt := 53) dX10_week_31 (by decide) (fun h6 => ?_) (fun h6 => ?_)
      · refine x_iconst (pc := 53) (a := -1) dX10_week_53 (by decide) ?_
        exact x_iret (pc := 54) rfl rfl dX10_week_54 (Nat.zero_le _) (Nat.zero_le _)
      · refine x_aload_n (pc := 34) dX10_week_34 rfl ?_
        refine x_iload_n (pc := 35) dX10_week_35 rfl ?_
        refine x_iload_n (pc := 36) dX10_week_36 rfl ?_
        refine x_iload_n (pc := 37) dX10_week_37 rfl ?_
        refine SP.jn 46 (fun (s8 : Int32) => [none, none, none, none, none]) (fun (s8 : Int32) => [(.int s8), (.int p2), (.int p1), (.ref 170)]) (fun (s8 : Int32) => xwd M) (fun kk7 hkk7 => ?_) (fun s8 => ?_)
        · try dsimp only
          refine x_if_ne (pc := 38) (tgt := 45) dX10_week_38 (by decide) (fun h9 => ?_) (fun h9 => ?_)
          · refine x_iconst (pc := 45) (a := 0) dX10_week_45 (by decide) ?_
            refine SP.mask (pc := 46) [false, false, false, false, false] (L' := [none, none, none, none, none]) rfl ?_
            have hz := hkk7 (0:Int32)
            try dsimp only at hz
            exact hz
          · refine x_iconst (pc := 41) (a := 1) dX10_week_41 (by decide) ?_
            refine x_goto (pc := 42) (tgt := 46) dX10_week_42 (by decide) ?_
            refine SP.mask (pc := 46) [false, false, false, false, false] (L' := [none, none, none, none, none]) rfl ?_
            have hz := hkk7 (1:Int32)
            try dsimp only at hz
            exact hz
        · try dsimp only
          refine cV_JM (pc := 46) (As := [(.int p1), (.int p2), (.int s8)]) (rest := []) (ct_X10_weekOf p1 p2 s8 M) rfl xC10 rfl (by decide) ml_X10_177 meX10_weekOf rfl ⟨prX10_weekOf, (Nat.le_of_ble_eq_true rfl), (Nat.le_of_ble_eq_true rfl), rfl, rfl⟩ (Nat.le_of_ble_eq_true rfl) dX10_week_46 (fun q10 => ?_)
          refine x_l2i (pc := 49) dX10_week_49 ?_
          refine x_goto (pc := 50) (tgt := 54) dX10_week_50 (by decide) ?_
          exact x_iret (pc := 54) rfl rfl dX10_week_54 (Nat.zero_le _) (Nat.zero_le _)
  · refine x_iload (pc := 12) dX10_week_12 rfl ?_
    exact x_iret (pc := 14) rfl rfl dX10_week_14 (Nat.zero_le _) (Nat.zero_le _)

set_option maxRecDepth 100000 in
set_option maxHeartbeats 4000000 in
theorem ct_X10_apart (p1 : Int32) (p2 : Int32) (M : xM)  : Ct iX10_apart (rJ M) [(.ref 170), (.int p1), (.int p2)] (xwd M) (fX10_apart p1 p2 M) := by
  refine Ct.of' (L := [some (.ref 170), some (.int p1), some (.int p2), none, none, none, none, none, none, none, none, none]) 9 rfl (by decide +kernel) (Nat.le_of_ble_eq_true rfl) rfl ?_
  unfold fX10_apart
  refine x_lconst (pc := 0) (a := 0) dX10_apart_0 (by decide) ?_
  refine x_lstore_n (pc := 1) (L' := [some (.ref 170), some (.int p1), some (.int p2), some (.long (0:Int64)), none, none, none, none, none, none, none, none]) dX10_apart_1 (Nat.le_of_ble_eq_true rfl) rfl rfl ?_
  refine x_lconst (pc := 2) (a := 0) dX10_apart_2 (by decide) ?_
  refine x_lstore (pc := 3) (L' := [some (.ref 170), some (.int p1), some (.int p2), some (.long (0:Int64)), none, some (.long (0:Int64)), none, none, none, none, none, none]) dX10_apart_3 (Nat.le_of_ble_eq_true rfl) rfl rfl ?_
  refine x_iload_n (pc := 5) dX10_apart_5 rfl ?_
  refine x_istore (pc := 6) (L' := [some (.ref 170), some (.int p1), some (.int p2), some (.long (0:Int64)), none, some (.long (0:Int64)), none, some (.int p1), none, none, none, none]) dX10_apart_6 (Nat.le_of_ble_eq_true rfl) rfl rfl ?_
  refine SP.mask (pc := 8) [true, true, true, true, false, true, false, true, false, false, false, false] (L' := [some (.ref 170), some (.int p1), some (.int p2), some (.long (0:Int64)), none, some (.long (0:Int64)), none, some (.int p1), none, none, none, none]) rfl ?_
  refine SP.lp (pc := 8) (fun (s1 : (Int64 × Int64 × Int32)) => [some (.ref 170), some (.int p1), some (.int p2), some (.long s1.1), none, some (.long s1.2.1), none, some (.int s1.2.2), none, none, none, none]) (fun (s1 : (Int64 × Int64 × Int32)) => xwd M) (fun s1 kk2 hkk2 => ?_) xfu ((0:Int64), (0:Int64), p1)
  try dsimp only
  refine x_iload (pc := 8) dX10_apart_8 rfl ?_
  refine x_iload_n (pc := 10) dX10_apart_10 rfl ?_
  refine x_icmp_ge (pc := 11) (tgt := 42) dX10_apart_11 (by decide) (fun h3 => ?_) (fun h3 => ?_)
  · refine x_lconst (pc := 42) (a := 0) dX10_apart_42 (by decide) ?_
    refine x_lstore (pc := 43) (L' := [some (.ref 170), some (.int p1), some (.int p2), some (.long s1.1), none, some (.long s1.2.1), none, some (.long (0:Int64)), none, none, none, none]) dX10_apart_43 (Nat.le_of_ble_eq_true rfl) rfl rfl ?_
    refine x_iload_n (pc := 45) dX10_apart_45 rfl ?_
    refine x_istore (pc := 46) (L' := [some (.ref 170), some (.int p1), some (.int p2), some (.long s1.1), none, some (.long s1.2.1), none, some (.long (0:Int64)), none, some (.int p1), none, none]) dX10_apart_46 (Nat.le_of_ble_eq_true rfl) rfl rfl ?_
    refine SP.mask (pc := 48) [true, false, true, true, false, true, false, true, false, true, false, false] (L' := [some (.ref 170), none, some (.int p2), some (.long s1.1), none, some (.long s1.2.1), none, some (.long (0:Int64)), none, some (.int p1), none, none]) rfl ?_
    refine SP.lp (pc := 48) (fun (s4 : (Int64 × Int32)) => [some (.ref 170), none, some (.int p2), some (.long s1.1), none, some (.long s1.2.1), none, some (.long s4.1), none, some (.int s4.2), none, none]) (fun (s4 : (Int64 × Int32)) => xwd M) (fun s4 kk5 hkk5 => ?_) xfu ((0:Int64), p1)
    try dsimp only
    refine x_iload (pc := 48) dX10_apart_48 rfl ?_
    refine x_iload_n (pc := 50) dX10_apart_50 rfl ?_
    refine x_icmp_ge (pc := 51) (tgt := 119) dX10_apart_51 (by decide) (fun h6 => ?_) (fun h6 => ?_)
    · refine x_lload (pc := 119) dX10_apart_119 rfl ?_
      refine x_lconst (pc := 121) (a := 0) dX10_apart_121 (by decide) ?_
      refine x_lcmp (pc := 122) dX10_apart_122 ?_
      refine x_if_ne (pc := 123) (tgt := 135) dX10_apart_123 (by decide) (fun h7 => ?_) (fun h7 => ?_)
      · refine x_lload (pc := 135) dX10_apart_135 rfl ?_
        refine x_ldc2 (pc := 137) (a := 1000) dX10_apart_137 rfl (xword 908 (by decide +kernel) rfl) ?_
        refine x_lmul (pc := 140) dX10_apart_140 ?_
        refine x_lload (pc := 141) dX10_apart_141 rfl ?_
        refine x_ldiv (pc := 143) dX10_apart_143 (fun hb8 => ?_)
        exact x_lret (pc := 144) rfl rfl dX10_apart_144 (Nat.zero_le _) (Nat.zero_le _)
      · refine x_lload (pc := 126) dX10_apart_126 rfl ?_
        refine x_ldc2 (pc := 128) (a := 1000) dX10_apart_128 rfl (xword 908 (by decide +kernel) rfl) ?_
        refine x_lmul (pc := 131) dX10_apart_131 ?_
        refine x_goto (pc := 132) (tgt := 144) dX10_apart_132 (by decide) ?_
        exact x_lret (pc := 144) rfl rfl dX10_apart_144 (Nat.zero_le _) (Nat.zero_le _)
    · refine x_lload (pc := 54) dX10_apart_54 rfl ?_
      refine x_lconst (pc := 56) (a := 0) dX10_apart_56 (by decide) ?_
      refine x_lcmp (pc := 57) dX10_apart_57 ?_
      refine SP.jn 91 (fun (s10 : Int64) => [some (.ref 170), none, some (.int p2), some (.long s1.1), none, some (.long s1.2.1), none, some (.long s4.1), none, some (.int s4.2), none, none]) (fun (s10 : Int64) => [(.long s10)]) (fun (s10 : Int64) => xwd M) (fun kk9 hkk9 => ?_) (fun s10 => ?_)
      · try dsimp only
        refine x_if_ne (pc := 58) (tgt := 71) dX10_apart_58 (by decide) (fun h11 => ?_) (fun h11 => ?_)
        · refine x_aload_n (pc := 71) dX10_apart_71 rfl ?_
          refine m_getR (pc := 72) (t := 189) xC10 24 fl_X10_78 rfl (by decide) rfl (by decide) rfl dX10_apart_72 ?_
          refine x_iload (pc := 75) dX10_apart_75 rfl ?_
          refine m_lald (pc := 77) rfl rfl dX10_apart_77 (fun hb12 => ?_)
          refine x_lload (pc := 78) dX10_apart_78 rfl ?_
          refine x_lmul (pc := 80) dX10_apart_80 ?_
          refine x_aload_n (pc := 81) dX10_apart_81 rfl ?_
          refine m_getR (pc := 82) (t := 190) xC10 25 fl_X10_82 rfl (by decide) rfl (by decide) rfl dX10_apart_82 ?_
          refine x_iload (pc := 85) dX10_apart_85 rfl ?_
          refine m_lald (pc := 87) rfl rfl dX10_apart_87 (fun hb13 => ?_)
          refine x_lload_n (pc := 88) dX10_apart_88 rfl ?_
          refine x_lmul (pc := 89) dX10_apart_89 ?_
          refine x_lsub (pc := 90) dX10_apart_90 ?_
          have hz := hkk9 (((M.2 189 s4.2.toNatClampNeg) * s1.2.1) - ((M.2 190 s4.2.toNatClampNeg) * s1.1))
          try dsimp only at hz
          exact hz
        · refine x_aload_n (pc := 61) dX10_apart_61 rfl ?_
          refine m_getR (pc := 62) (t := 189) xC10 24 fl_X10_78 rfl (by decide) rfl (by decide) rfl dX10_apart_62 ?_
          refine x_iload (pc := 65) dX10_apart_65 rfl ?_
          refine m_lald (pc := 67) rfl rfl dX10_apart_67 (fun hb14 => ?_)
          refine x_goto (pc := 68) (tgt := 91) dX10_apart_68 (by decide) ?_
          have hz := hkk9 (M.2 189 s4.2.toNatClampNeg)
          try dsimp only at hz
          exact hz
      · try dsimp only
        refine x_lstore (pc := 91) (L' := [some (.ref 170), none, some (.int p2), some (.long s1.1), none, some (.long s1.2.1), none, some (.long s4.1), none, some (.int s4.2), some (.long s10), none]) dX10_apart_91 (Nat.le_of_ble_eq_true rfl) rfl rfl ?_
        refine x_lload (pc := 93) dX10_apart_93 rfl ?_
        refine x_lload (pc := 95) dX10_apart_95 rfl ?_
        refine x_lconst (pc := 97) (a := 0) dX10_apart_97 (by decide) ?_
        refine x_lcmp (pc := 98) dX10_apart_98 ?_
        refine x_if_ge (pc := 99) (tgt := 108) dX10_apart_99 (by decide) (fun h15 => ?_) (fun h15 => ?_)
        · refine x_lload (pc := 108) dX10_apart_108 rfl ?_
          refine x_ladd (pc := 110) dX10_apart_110 ?_
          refine SP.bdl (fun x16 e17 => ?_)
          refine x_lstore (pc := 111) (L' := [some (.ref 170), none, some (.int p2), some (.long s1.1), none, some (.long s1.2.1), none, some (.long x16), none, some (.int s4.2), some (.long s10), none]) dX10_apart_111 (Nat.le_of_ble_eq_true rfl) rfl rfl ?_
          refine x_iinc (pc := 113) (b := (s4.2 + 1)) (L' := [some (.ref 170), none, some (.int p2), some (.long s1.1), none, some (.long s1.2.1), none, some (.long x16), none, some (.int (s4.2 + 1)), some (.long s10), none]) dX10_apart_113 rfl rfl (Nat.le_of_ble_eq_true rfl) rfl rfl ?_
          refine x_goto (pc := 116) (tgt := 48) dX10_apart_116 (by decide) ?_
          refine SP.mask (pc := 48) [true, false, true, true, false, true, false, true, false, true, false, false] (L' := [some (.ref 170), none, some (.int p2), some (.long s1.1), none, some (.long s1.2.1), none, some (.long x16), none, some (.int (s4.2 + 1)), none, none]) rfl ?_
          have hz := hkk5 (x16, (s4.2 + 1))
          try dsimp only at hz
          exact hz
        · refine x_lload (pc := 102) dX10_apart_102 rfl ?_
          refine x_lneg (pc := 104) dX10_apart_104 ?_
          refine x_goto (pc := 105) (tgt := 110) dX10_apart_105 (by decide) ?_
          refine x_ladd (pc := 110) dX10_apart_110 ?_
          refine SP.bdl (fun x18 e19 => ?_)
          refine x_lstore (pc := 111) (L' := [some (.ref 170), none, some (.int p2), some (.long s1.1), none, some (.long s1.2.1), none, some (.long x18), none, some (.int s4.2), some (.long s10), none]) dX10_apart_111 (Nat.le_of_ble_eq_true rfl) rfl rfl ?_
          refine x_iinc (pc := 113) (b := (s4.2 + 1)) (L' := [some (.ref 170), none, some (.int p2), some (.long s1.1), none, some (.long s1.2.1), none, some (.long x18), none, some (.int (s4.2 + 1)), some (.long s10), none]) dX10_apart_113 rfl rfl (Nat.le_of_ble_eq_true rfl) rfl rfl ?_
          refine x_goto (pc := 116) (tgt := 48) dX10_apart_116 (by decide) ?_
          refine SP.mask (pc := 48) [true, false, true, true, false, true, false, true, false, true, false, false] (L' := [some (.ref 170), none, some (.int p2), some (.long s1.1), none, some (.long s1.2.1), none, some (.long x18), none, some (.int (s4.2 + 1)), none, none]) rfl ?_
          have hz := hkk5 (x18, (s4.2 + 1))
          try dsimp only at hz
          exact hz
  · refine x_lload_n (pc := 14) dX10_apart_14 rfl ?_
    refine x_aload_n (pc := 15) dX10_apart_15 rfl ?_
    refine m_getR (pc := 16) (t := 189) xC10 24 fl_X10_78 rfl (by decide) rfl (by decide) rfl dX10_apart_16 ?_
    refine x_iload (pc := 19) dX10_apart_19 rfl ?_
    refine m_lald (pc := 21) rfl rfl dX10_apart_21 (fun hb20 => ?_)
    refine x_ladd (pc := 22) dX10_apart_22 ?_
    refine SP.bdl (fun x21 e22 => ?_)
    refine x_lstore_n (pc := 23) (L' := [some (.ref 170), some (.int p1), some (.int p2), some (.long x21), none, some (.long s1.2.1), none, some (.int s1.2.2), none, none, none, none]) dX10_apart_23 (Nat.le_of_ble_eq_true rfl) rfl rfl ?_
    refine x_lload (pc := 24) dX10_apart_24 rfl ?_
    refine x_aload_n (pc := 26) dX10_apart_26 rfl ?_
    refine m_getR (pc := 27) (t := 190) xC10 25 fl_X10_82 rfl (by decide) rfl (by decide) rfl dX10_apart_27 ?_
    refine x_iload (pc := 30) dX10_apart_30 rfl ?_
    refine m_lald (pc := 32) rfl rfl dX10_apart_32 (fun hb23 => ?_)
    refine x_ladd (pc := 33) dX10_apart_33 ?_
    refine SP.bdl (fun x24 e25 => ?_)
    refine x_lstore (pc := 34) (L' := [some (.ref 170), some (.int p1), some (.int p2), some (.long x21), none, some (.long x24), none, some (.int s1.2.2), none, none, none, none]) dX10_apart_34 (Nat.le_of_ble_eq_true rfl) rfl rfl ?_
    refine x_iinc (pc := 36) (b := (s1.2.2 + 1)) (L' := [some (.ref 170), some (.int p1), some (.int p2), some (.long x21), none, some (.long x24), none, some (.int (s1.2.2 + 1)), none, none, none, none]) dX10_apart_36 rfl rfl (Nat.le_of_ble_eq_true rfl) rfl rfl ?_
    refine x_goto (pc := 39) (tgt := 8) dX10_apart_39 (by decide) ?_
    have hz := hkk2 (x21, x24, (s1.2.2 + 1))
    try dsimp only at hz
    exact hz

set_option maxRecDepth 100000 in
set_option maxHeartbeats 4000000 in
theorem ct_X10_weeks (p1 : Int32) (M : xM)  : Ct iX10_weeks rM [(.ref 170), (.int p1)] (xwd M) (fX10_weeks p1 M) := by
  refine Ct.of' (L := [some (.ref 170), some (.int p1), none]) 1 rfl (by decide +kernel) (Nat.le_of_ble_eq_true rfl) rfl ?_
  unfold fX10_weeks
  refine x_iconst (pc := 0) (a := 0) dX10_weeks_0 (by decide) ?_
  refine x_istore_n (pc := 1) (L' := [some (.ref 170), some (.int p1), some (.int (0:Int32))]) dX10_weeks_1 (Nat.le_of_ble_eq_true rfl) rfl rfl ?_
  refine SP.mask (pc := 2) [true, true, true] (L' := [some (.ref 170), some (.int p1), some (.int (0:Int32))]) rfl ?_
  refine SP.lp (pc := 2) (fun (s1 : (Int32 × xM)) => [some (.ref 170), some (.int p1), some (.int s1.1)]) (fun (s1 : (Int32 × xM)) => xwd s1.2) (fun s1 kk2 hkk2 => ?_) xfu ((0:Int32), M)
  try dsimp only
  refine x_iload_n (pc := 2) dX10_weeks_2 rfl ?_
  refine x_bipush (pc := 3) (a := 8) dX10_weeks_3 (by decide) ?_
  refine x_icmp_ge (pc := 5) (tgt := 40) dX10_weeks_5 (by decide) (fun h3 => ?_) (fun h3 => ?_)
  · exact x_vret (pc := 40) rfl rfl dX10_weeks_40 (Nat.zero_le _) (Nat.zero_le _)
  · refine x_aload_n (pc := 8) dX10_weeks_8 rfl ?_
    refine m_getR (pc := 9) (t := 189) xC10 24 fl_X10_78 rfl (by decide) rfl (by decide) rfl dX10_weeks_9 ?_
    refine x_iload_n (pc := 12) dX10_weeks_12 rfl ?_
    refine x_aload_n (pc := 13) dX10_weeks_13 rfl ?_
    refine x_iload_n (pc := 14) dX10_weeks_14 rfl ?_
    refine x_iload_n (pc := 15) dX10_weeks_15 rfl ?_
    refine x_iconst (pc := 16) (a := 1) dX10_weeks_16 (by decide) ?_
    refine cV_JM (pc := 17) (As := [(.int p1), (.int s1.1), (.int (1:Int32))]) (rest := [(.int s1.1), (.ref 189)]) (ct_X10_weekOf p1 s1.1 (1:Int32) s1.2) rfl xC10 rfl (by decide) ml_X10_177 meX10_weekOf rfl ⟨prX10_weekOf, (Nat.le_of_ble_eq_true rfl), (Nat.le_of_ble_eq_true rfl), rfl, rfl⟩ (Nat.le_of_ble_eq_true rfl) dX10_weeks_17 (fun q4 => ?_)
    refine m_last (pc := 20) rfl rfl dX10_weeks_20 (fun hb5 => ?_)
    refine SP.bdm (fun m6 e7 => ?_)
    refine x_aload_n (pc := 21) dX10_weeks_21 rfl ?_
    refine m_getR (pc := 22) (t := 190) xC10 25 fl_X10_82 rfl (by decide) rfl (by decide) rfl dX10_weeks_22 ?_
    refine x_iload_n (pc := 25) dX10_weeks_25 rfl ?_
    refine x_aload_n (pc := 26) dX10_weeks_26 rfl ?_
    refine x_iload_n (pc := 27) dX10_weeks_27 rfl ?_
    refine x_iload_n (pc := 28) dX10_weeks_28 rfl ?_
    refine x_iconst (pc := 29) (a := 0) dX10_weeks_29 (by decide) ?_
    refine cV_JM (pc := 30) (As := [(.int p1), (.int s1.1), (.int (0:Int32))]) (rest := [(.int s1.1), (.ref 190)]) (ct_X10_weekOf p1 s1.1 (0:Int32) m6) rfl xC10 rfl (by decide) ml_X10_177 meX10_weekOf rfl ⟨prX10_weekOf, (Nat.le_of_ble_eq_true rfl), (Nat.le_of_ble_eq_true rfl), rfl, rfl⟩ (Nat.le_of_ble_eq_true rfl) dX10_weeks_30 (fun q8 => ?_)
    refine m_last (pc := 33) rfl rfl dX10_weeks_33 (fun hb9 => ?_)
    refine SP.bdm (fun m10 e11 => ?_)
    refine x_iinc (pc := 34) (b := (s1.1 + 1)) (L' := [some (.ref 170), some (.int p1), some (.int (s1.1 + 1))]) dX10_weeks_34 rfl rfl (Nat.le_of_ble_eq_true rfl) rfl rfl ?_
    refine x_goto (pc := 37) (tgt := 2) dX10_weeks_37 (by decide) ?_
    have hz := hkk2 ((s1.1 + 1), m10)
    try dsimp only at hz
    exact hz

set_option maxRecDepth 100000 in
set_option maxHeartbeats 4000000 in
theorem ct_X10_cleft (p1 : Int32) (M : xM)  : Ct iX10_cleft rIM [(.ref 170), (.int p1)] (xwd M) (fX10_cleft p1 M) := by
  refine Ct.of' (L := [some (.ref 170), some (.int p1), none, none, none, none]) 4 rfl (by decide +kernel) (Nat.le_of_ble_eq_true rfl) rfl ?_
  unfold fX10_cleft
  refine x_aload_n (pc := 0) dX10_cleft_0 rfl ?_
  refine x_iload_n (pc := 1) dX10_cleft_1 rfl ?_
  refine cV_I (pc := 2) (As := [(.int p1)]) (rest := []) (ct_X10_failsStore p1 M) rfl xC10 rfl (by decide) ml_X10_174 meX10_failsStore rfl ⟨prX10_failsStore, (Nat.le_of_ble_eq_true rfl), (Nat.le_of_ble_eq_true rfl), rfl, rfl⟩ (Nat.le_of_ble_eq_true rfl) dX10_cleft_2 (fun v1 => ?_)
  refine x_istore_n (pc := 5) (L' := [some (.ref 170), some (.int p1), some (.int v1), none, none, none]) dX10_cleft_5 (Nat.le_of_ble_eq_true rfl) rfl rfl ?_
  refine x_iload_n (pc := 6) dX10_cleft_6 rfl ?_
  refine x_if_eq (pc := 7) (tgt := 12) dX10_cleft_7 (by decide) (fun h2 => ?_) (fun h2 => ?_)
  · refine x_aload_n (pc := 12) dX10_cleft_12 rfl ?_
    refine x_iload_n (pc := 13) dX10_cleft_13 rfl ?_
    refine cV_M (pc := 14) (As := [(.int p1)]) (rest := []) (ct_X10_weeks p1 M) rfl xC10 rfl (by decide) ml_X10_181 meX10_weeks rfl ⟨prX10_weeks, (Nat.le_of_ble_eq_true rfl), (Nat.le_of_ble_eq_true rfl), rfl, rfl⟩ (Nat.le_of_ble_eq_true rfl) dX10_cleft_14 (fun q3 => ?_)
    refine x_aload_n (pc := 17) dX10_cleft_17 rfl ?_
    refine m_getI (pc := 18) xC10 15 fl_X10_89 rfl (by decide) rfl (by decide) rfl dX10_cleft_18 ?_
    refine x_bipush (pc := 21) (a := 7) dX10_cleft_21 (by decide) ?_
    refine x_idiv (pc := 23) dX10_cleft_23 (fun hb4 => ?_)
    refine SP.bdi (fun x5 e6 => ?_)
    refine x_istore_n (pc := 24) (L' := [some (.ref 170), some (.int p1), some (.int v1), some (.int x5), none, none]) dX10_cleft_24 (Nat.le_of_ble_eq_true rfl) rfl rfl ?_
    refine x_iconst (pc := 25) (a := -1) dX10_cleft_25 (by decide) ?_
    refine x_istore (pc := 26) (L' := [some (.ref 170), some (.int p1), some (.int v1), some (.int x5), some (.int (-1:Int32)), none]) dX10_cleft_26 (Nat.le_of_ble_eq_true rfl) rfl rfl ?_
    refine x_iload_n (pc := 28) dX10_cleft_28 rfl ?_
    refine x_iconst (pc := 29) (a := 1) dX10_cleft_29 (by decide) ?_
    refine x_isub (pc := 30) dX10_cleft_30 ?_
    refine SP.bdi (fun x7 e8 => ?_)
    refine x_istore (pc := 31) (L' := [some (.ref 170), some (.int p1), some (.int v1), some (.int x5), some (.int (-1:Int32)), some (.int x7)]) dX10_cleft_31 (Nat.le_of_ble_eq_true rfl) rfl rfl ?_
    refine SP.mask (pc := 33) [true, false, false, true, true, true] (L' := [some (.ref 170), none, none, some (.int x5), some (.int (-1:Int32)), some (.int x7)]) rfl ?_
    refine SP.lp (pc := 33) (fun (s9 : (Int32 × Int32)) => [some (.ref 170), none, none, some (.int x5), some (.int s9.1), some (.int s9.2)]) (fun (s9 : (Int32 × Int32)) => xwd q3) (fun s9 kk10 hkk10 => ?_) xfu ((-1:Int32), x7)
    try dsimp only
    refine x_iload (pc := 33) dX10_cleft_33 rfl ?_
    refine x_iconst (pc := 35) (a := 1) dX10_cleft_35 (by decide) ?_
    refine x_icmp_lt (pc := 36) (tgt := 89) dX10_cleft_36 (by decide) (fun h11 => ?_) (fun h11 => ?_)
    · refine x_iload (pc := 89) dX10_cleft_89 rfl ?_
      exact x_iret (pc := 91) rfl rfl dX10_cleft_91 (Nat.zero_le _) (Nat.zero_le _)
    · refine x_iload (pc := 39) dX10_cleft_39 rfl ?_
      refine x_iconst (pc := 41) (a := -1) dX10_cleft_41 (by decide) ?_
      refine x_icmp_eq (pc := 42) (tgt := 79) dX10_cleft_42 (by decide) (fun h12 => ?_) (fun h12 => ?_)
      · refine x_iload (pc := 79) dX10_cleft_79 rfl ?_
        refine x_istore (pc := 81) (L' := [some (.ref 170), none, none, some (.int x5), some (.int s9.2), some (.int s9.2)]) dX10_cleft_81 (Nat.le_of_ble_eq_true rfl) rfl rfl ?_
        refine x_iinc (pc := 83) (b := (s9.2 + (-1))) (L' := [some (.ref 170), none, none, some (.int x5), some (.int s9.2), some (.int (s9.2 + (-1)))]) dX10_cleft_83 rfl rfl (Nat.le_of_ble_eq_true rfl) rfl rfl ?_
        refine x_goto (pc := 86) (tgt := 33) dX10_cleft_86 (by decide) ?_
        have hz := hkk10 (s9.2, (s9.2 + (-1)))
        try dsimp only at hz
        exact hz
      · refine x_aload_n (pc := 45) dX10_cleft_45 rfl ?_
        refine x_iconst (pc := 46) (a := 0) dX10_cleft_46 (by decide) ?_
        refine x_iload (pc := 47) dX10_cleft_47 rfl ?_
        refine cV_J (pc := 49) (As := [(.int (0:Int32)), (.int s9.2)]) (rest := []) (ct_X10_apart (0:Int32) s9.2 q3) rfl xC10 rfl (by decide) ml_X10_185 meX10_apart rfl ⟨prX10_apart, (Nat.le_of_ble_eq_true rfl), (Nat.le_of_ble_eq_true rfl), rfl, rfl⟩ (Nat.le_of_ble_eq_true rfl) dX10_cleft_49 (fun v13 => ?_)
        refine x_aload_n (pc := 52) dX10_cleft_52 rfl ?_
        refine x_iload (pc := 53) dX10_cleft_53 rfl ?_
        refine x_iload_n (pc := 55) dX10_cleft_55 rfl ?_
        refine cV_J (pc := 56) (As := [(.int s9.2), (.int x5)]) (rest := [(.long v13)]) (ct_X10_apart s9.2 x5 q3) rfl xC10 rfl (by decide) ml_X10_185 meX10_apart rfl ⟨prX10_apart, (Nat.le_of_ble_eq_true rfl), (Nat.le_of_ble_eq_true rfl), rfl, rfl⟩ (Nat.le_of_ble_eq_true rfl) dX10_cleft_56 (fun v14 => ?_)
        refine x_ladd (pc := 59) dX10_cleft_59 ?_
        refine x_aload_n (pc := 60) dX10_cleft_60 rfl ?_
        refine x_iconst (pc := 61) (a := 0) dX10_cleft_61 (by decide) ?_
        refine x_iload (pc := 62) dX10_cleft_62 rfl ?_
        refine cV_J (pc := 64) (As := [(.int (0:Int32)), (.int s9.1)]) (rest := [(.long (v13 + v14))]) (ct_X10_apart (0:Int32) s9.1 q3) rfl xC10 rfl (by decide) ml_X10_185 meX10_apart rfl ⟨prX10_apart, (Nat.le_of_ble_eq_true rfl), (Nat.le_of_ble_eq_true rfl), rfl, rfl⟩ (Nat.le_of_ble_eq_true rfl) dX10_cleft_64 (fun v15 => ?_)
        refine x_aload_n (pc := 67) dX10_cleft_67 rfl ?_
        refine x_iload (pc := 68) dX10_cleft_68 rfl ?_
        refine x_iload_n (pc := 70) dX10_cleft_70 rfl ?_
        refine cV_J (pc := 71) (As := [(.int s9.1), (.int x5)]) (rest := [(.long v15), (.long (v13 + v14))]) (ct_X10_apart s9.1 x5 q3) rfl xC10 rfl (by decide) ml_X10_185 meX10_apart rfl ⟨prX10_apart, (Nat.le_of_ble_eq_true rfl), (Nat.le_of_ble_eq_true rfl), rfl, rfl⟩ (Nat.le_of_ble_eq_true rfl) dX10_cleft_71 (fun v16 => ?_)
        refine x_ladd (pc := 74) dX10_cleft_74 ?_
        refine x_lcmp (pc := 75) dX10_cleft_75 ?_
        refine x_if_gt (pc := 76) (tgt := 83) dX10_cleft_76 (by decide) (fun h17 => ?_) (fun h17 => ?_)
        · refine x_iinc (pc := 83) (b := (s9.2 + (-1))) (L' := [some (.ref 170), none, none, some (.int x5), some (.int s9.1), some (.int (s9.2 + (-1)))]) dX10_cleft_83 rfl rfl (Nat.le_of_ble_eq_true rfl) rfl rfl ?_
          refine x_goto (pc := 86) (tgt := 33) dX10_cleft_86 (by decide) ?_
          have hz := hkk10 (s9.1, (s9.2 + (-1)))
          try dsimp only at hz
          exact hz
        · refine x_iload (pc := 79) dX10_cleft_79 rfl ?_
          refine x_istore (pc := 81) (L' := [some (.ref 170), none, none, some (.int x5), some (.int s9.2), some (.int s9.2)]) dX10_cleft_81 (Nat.le_of_ble_eq_true rfl) rfl rfl ?_
          refine x_iinc (pc := 83) (b := (s9.2 + (-1))) (L' := [some (.ref 170), none, none, some (.int x5), some (.int s9.2), some (.int (s9.2 + (-1)))]) dX10_cleft_83 rfl rfl (Nat.le_of_ble_eq_true rfl) rfl rfl ?_
          refine x_goto (pc := 86) (tgt := 33) dX10_cleft_86 (by decide) ?_
          have hz := hkk10 (s9.2, (s9.2 + (-1)))
          try dsimp only at hz
          exact hz
  · refine x_iload_n (pc := 10) dX10_cleft_10 rfl ?_
    exact x_iret (pc := 11) rfl rfl dX10_cleft_11 (Nat.zero_le _) (Nat.zero_le _)

set_option maxRecDepth 100000 in
set_option maxHeartbeats 4000000 in
theorem ct_X10_misses (p1 : Int32) (p2 : Int32) (M : xM)  : Ct iX10_misses rJM [(.ref 170), (.int p1), (.int p2)] (xwd M) (fX10_misses p1 p2 M) := by
  refine Ct.of' (L := [some (.ref 170), some (.int p1), some (.int p2), none]) 1 rfl (by decide +kernel) (Nat.le_of_ble_eq_true rfl) rfl ?_
  unfold fX10_misses
  refine x_aload_n (pc := 0) dX10_misses_0 rfl ?_
  refine x_iload_n (pc := 1) dX10_misses_1 rfl ?_
  refine cV_I (pc := 2) (As := [(.int p1)]) (rest := []) (ct_X10_failsStore p1 M) rfl xC10 rfl (by decide) ml_X10_174 meX10_failsStore rfl ⟨prX10_failsStore, (Nat.le_of_ble_eq_true rfl), (Nat.le_of_ble_eq_true rfl), rfl, rfl⟩ (Nat.le_of_ble_eq_true rfl) dX10_misses_2 (fun v1 => ?_)
  refine x_istore_n (pc := 5) (L' := [some (.ref 170), some (.int p1), some (.int p2), some (.int v1)]) dX10_misses_5 (Nat.le_of_ble_eq_true rfl) rfl rfl ?_
  refine x_iload_n (pc := 6) dX10_misses_6 rfl ?_
  refine x_if_eq (pc := 7) (tgt := 13) dX10_misses_7 (by decide) (fun h2 => ?_) (fun h2 => ?_)
  · refine x_iload_n (pc := 13) dX10_misses_13 rfl ?_
    refine x_iconst (pc := 14) (a := 1) dX10_misses_14 (by decide) ?_
    refine x_aload_n (pc := 15) dX10_misses_15 rfl ?_
    refine m_getI (pc := 16) xC10 15 fl_X10_89 rfl (by decide) rfl (by decide) rfl dX10_misses_16 ?_
    refine x_bipush (pc := 19) (a := 7) dX10_misses_19 (by decide) ?_
    refine x_idiv (pc := 21) dX10_misses_21 (fun hb3 => ?_)
    refine x_iconst (pc := 22) (a := 1) dX10_misses_22 (by decide) ?_
    refine x_isub (pc := 23) dX10_misses_23 ?_
    refine cS_I (pc := 24) (As := [(.int p2), (.int (1:Int32)), (.int (((M.1 170 15) / (7:Int32)) - (1:Int32)))]) (rest := []) (ct_X10_isIn p2 (1:Int32) (((M.1 170 15) / (7:Int32)) - (1:Int32)) M) rfl ml_X10_85 meX10_isIn rfl ⟨prX10_isIn, (Nat.le_of_ble_eq_true rfl), (Nat.le_of_ble_eq_true rfl), rfl, rfl⟩ (Nat.le_of_ble_eq_true rfl) dX10_misses_24 (fun v4 => ?_)
    refine x_if_ne (pc := 27) (tgt := 34) dX10_misses_27 (by decide) (fun h5 => ?_) (fun h5 => ?_)
    · refine x_aload_n (pc := 34) dX10_misses_34 rfl ?_
      refine x_iload_n (pc := 35) dX10_misses_35 rfl ?_
      refine cV_M (pc := 36) (As := [(.int p1)]) (rest := []) (ct_X10_weeks p1 M) rfl xC10 rfl (by decide) ml_X10_181 meX10_weeks rfl ⟨prX10_weeks, (Nat.le_of_ble_eq_true rfl), (Nat.le_of_ble_eq_true rfl), rfl, rfl⟩ (Nat.le_of_ble_eq_true rfl) dX10_misses_36 (fun q6 => ?_)
      refine x_aload_n (pc := 39) dX10_misses_39 rfl ?_
      refine x_iconst (pc := 40) (a := 0) dX10_misses_40 (by decide) ?_
      refine x_iload_n (pc := 41) dX10_misses_41 rfl ?_
      refine cV_J (pc := 42) (As := [(.int (0:Int32)), (.int p2)]) (rest := []) (ct_X10_apart (0:Int32) p2 q6) rfl xC10 rfl (by decide) ml_X10_185 meX10_apart rfl ⟨prX10_apart, (Nat.le_of_ble_eq_true rfl), (Nat.le_of_ble_eq_true rfl), rfl, rfl⟩ (Nat.le_of_ble_eq_true rfl) dX10_misses_42 (fun v7 => ?_)
      refine x_aload_n (pc := 45) dX10_misses_45 rfl ?_
      refine x_iload_n (pc := 46) dX10_misses_46 rfl ?_
      refine x_aload_n (pc := 47) dX10_misses_47 rfl ?_
      refine m_getI (pc := 48) xC10 15 fl_X10_89 rfl (by decide) rfl (by decide) rfl dX10_misses_48 ?_
      refine x_bipush (pc := 51) (a := 7) dX10_misses_51 (by decide) ?_
      refine x_idiv (pc := 53) dX10_misses_53 (fun hb8 => ?_)
      refine cV_J (pc := 54) (As := [(.int p2), (.int ((q6.1 170 15) / (7:Int32)))]) (rest := [(.long v7)]) (ct_X10_apart p2 ((q6.1 170 15) / (7:Int32)) q6) rfl xC10 rfl (by decide) ml_X10_185 meX10_apart rfl ⟨prX10_apart, (Nat.le_of_ble_eq_true rfl), (Nat.le_of_ble_eq_true rfl), rfl, rfl⟩ (Nat.le_of_ble_eq_true rfl) dX10_misses_54 (fun v9 => ?_)
      refine x_ladd (pc := 57) dX10_misses_57 ?_
      exact x_lret (pc := 58) rfl rfl dX10_misses_58 (Nat.zero_le _) (Nat.zero_le _)
    · refine x_ldc2 (pc := 30) (a := -1) dX10_misses_30 rfl (xword 969 (by decide +kernel) rfl) ?_
      exact x_lret (pc := 33) rfl rfl dX10_misses_33 (Nat.zero_le _) (Nat.zero_le _)
  · refine x_iload_n (pc := 10) dX10_misses_10 rfl ?_
    refine x_i2l (pc := 11) dX10_misses_11 ?_
    exact x_lret (pc := 12) rfl rfl dX10_misses_12 (Nat.zero_le _) (Nat.zero_le _)

