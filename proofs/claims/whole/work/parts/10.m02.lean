set_option maxRecDepth 100000 in
set_option maxHeartbeats 4000000 in
theorem ct_X7_isDailyGauge (k : Nat) (M : xM) (hk : k < 16) : Ct iX7_isDailyGauge (rI M) [(.ref (8 + 4 * k))] (xwd M) (fX7_isDailyGauge k M) := by
  refine Ct.of' (L := [some (.ref (8 + 4 * k))]) 0 rfl (by decide +kernel) (Nat.le_of_ble_eq_true rfl) rfl ?_
  unfold fX7_isDailyGauge
  refine x_aload_n (pc := 0) dX7_isDailyGauge_0 rfl ?_
  refine m_getI (pc := 1) xC7 0 fl_X7_9 (xPl hk) (by decide) rfl (by decide) rfl dX7_isDailyGauge_1 ?_
  refine x_iconst (pc := 4) (a := -1) dX7_isDailyGauge_4 (by decide) ?_
  refine x_icmp_eq (pc := 5) (tgt := 28) dX7_isDailyGauge_5 (by decide) (fun h1 => ?_) (fun h1 => ?_)
  · refine x_iconst (pc := 28) (a := 0) dX7_isDailyGauge_28 (by decide) ?_
    exact x_zret (pc := 29) rfl (by decide) rfl dX7_isDailyGauge_29 (Nat.zero_le _) (Nat.zero_le _)
  · refine x_aload_n (pc := 8) dX7_isDailyGauge_8 rfl ?_
    refine m_getI (pc := 9) xC7 0 fl_X7_9 (xPl hk) (by decide) rfl (by decide) rfl dX7_isDailyGauge_9 ?_
    refine x_iconst (pc := 12) (a := 5) dX7_isDailyGauge_12 (by decide) ?_
    refine x_icmp_eq (pc := 13) (tgt := 28) dX7_isDailyGauge_13 (by decide) (fun h2 => ?_) (fun h2 => ?_)
    · refine x_iconst (pc := 28) (a := 0) dX7_isDailyGauge_28 (by decide) ?_
      exact x_zret (pc := 29) rfl (by decide) rfl dX7_isDailyGauge_29 (Nat.zero_le _) (Nat.zero_le _)
    · refine x_aload_n (pc := 16) dX7_isDailyGauge_16 rfl ?_
      refine m_getI (pc := 17) xC7 0 fl_X7_9 (xPl hk) (by decide) rfl (by decide) rfl dX7_isDailyGauge_17 ?_
      refine x_iconst (pc := 20) (a := 3) dX7_isDailyGauge_20 (by decide) ?_
      refine x_icmp_eq (pc := 21) (tgt := 28) dX7_isDailyGauge_21 (by decide) (fun h3 => ?_) (fun h3 => ?_)
      · refine x_iconst (pc := 28) (a := 0) dX7_isDailyGauge_28 (by decide) ?_
        exact x_zret (pc := 29) rfl (by decide) rfl dX7_isDailyGauge_29 (Nat.zero_le _) (Nat.zero_le _)
      · refine x_iconst (pc := 24) (a := 1) dX7_isDailyGauge_24 (by decide) ?_
        refine x_goto (pc := 25) (tgt := 29) dX7_isDailyGauge_25 (by decide) ?_
        exact x_zret (pc := 29) rfl (by decide) rfl dX7_isDailyGauge_29 (Nat.zero_le _) (Nat.zero_le _)

set_option maxRecDepth 100000 in
set_option maxHeartbeats 4000000 in
theorem ct_X1_gatherNeighbours (p1 : Int32) (M : xM)  : Ct iX1_gatherNeighbours rM [(.ref 164), (.int p1)] (xwd M) (fX1_gatherNeighbours p1 M) := by
  refine Ct.of' (L := [some (.ref 164), some (.int p1), none, none]) 2 rfl (by decide +kernel) (Nat.le_of_ble_eq_true rfl) rfl ?_
  unfold fX1_gatherNeighbours
  refine x_aload_n (pc := 0) dX1_gatherNeighbours_0 rfl ?_
  refine m_getR (pc := 1) (t := 165) xC1 1 fl_X1_12 rfl (by decide) rfl (by decide) rfl dX1_gatherNeighbours_1 ?_
  refine x_iconst (pc := 4) (a := 0) dX1_gatherNeighbours_4 (by decide) ?_
  refine m_putI (pc := 5) xC2 2 fl_X1_49 (xCi_T (Or.inr rfl)) (by decide) rfl (by decide) rfl rfl rfl dX1_gatherNeighbours_5 ?_
  refine SP.bdm (fun m1 e2 => ?_)
  refine x_iload_n (pc := 8) dX1_gatherNeighbours_8 rfl ?_
  refine cSN_I (pc := 9) (As := [(.int p1)]) (rest := []) (ct_X9_isPlace p1 m1) rfl ml_X1_53 meX9_isPlace rfl ⟨prX9_isPlace, (Nat.le_of_ble_eq_true rfl), (Nat.le_of_ble_eq_true rfl), rfl, rfl⟩ (Nat.le_of_ble_eq_true rfl) dX1_gatherNeighbours_9 (fun v3 => ?_)
  refine x_if_ne (pc := 12) (tgt := 16) dX1_gatherNeighbours_12 (by decide) (fun h4 => ?_) (fun h4 => ?_)
  · refine x_aload_n (pc := 16) dX1_gatherNeighbours_16 rfl ?_
    refine m_getR (pc := 17) (t := 1) xC1 0 fl_X1_25 rfl (by decide) rfl (by decide) rfl dX1_gatherNeighbours_17 ?_
    refine m_getR (pc := 20) (t := 2) xC6 0 fl_X1_57 rfl (by decide) rfl (by decide) rfl dX1_gatherNeighbours_20 ?_
    refine x_iload_n (pc := 23) dX1_gatherNeighbours_23 rfl ?_
    refine m_aald (pc := 24) (t0 := 3) rfl (by decide) rfl (fun _ => rfl) rfl (xE_pl _) dX1_gatherNeighbours_24 (fun hb5 => ?_)
    refine x_astore_n (pc := 25) (L' := [some (.ref 164), some (.int p1), some (.ref (8 + 4 * p1.toNatClampNeg)), none]) dX1_gatherNeighbours_25 (Nat.le_of_ble_eq_true rfl) rfl rfl ?_
    refine x_iconst (pc := 26) (a := 0) dX1_gatherNeighbours_26 (by decide) ?_
    refine x_istore_n (pc := 27) (L' := [some (.ref 164), some (.int p1), some (.ref (8 + 4 * p1.toNatClampNeg)), some (.int (0:Int32))]) dX1_gatherNeighbours_27 (Nat.le_of_ble_eq_true rfl) rfl rfl ?_
    refine SP.mask (pc := 28) [true, true, true, true] (L' := [some (.ref 164), some (.int p1), some (.ref (8 + 4 * p1.toNatClampNeg)), some (.int (0:Int32))]) rfl ?_
    refine SP.lp (pc := 28) (fun (s6 : (Int32 × xM)) => [some (.ref 164), some (.int p1), some (.ref (8 + 4 * p1.toNatClampNeg)), some (.int s6.1)]) (fun (s6 : (Int32 × xM)) => xwd s6.2) (fun s6 kk7 hkk7 => ?_) xfu ((0:Int32), m1)
    try dsimp only
    refine x_iload_n (pc := 28) dX1_gatherNeighbours_28 rfl ?_
    refine x_bipush (pc := 29) (a := 16) dX1_gatherNeighbours_29 (by decide) ?_
    refine x_icmp_ge (pc := 31) (tgt := 88) dX1_gatherNeighbours_31 (by decide) (fun h8 => ?_) (fun h8 => ?_)
    · exact x_vret (pc := 88) rfl rfl dX1_gatherNeighbours_88 (Nat.zero_le _) (Nat.zero_le _)
    · refine x_iload_n (pc := 34) dX1_gatherNeighbours_34 rfl ?_
      refine x_iload_n (pc := 35) dX1_gatherNeighbours_35 rfl ?_
      refine x_icmp_eq (pc := 36) (tgt := 82) dX1_gatherNeighbours_36 (by decide) (fun h9 => ?_) (fun h9 => ?_)
      · refine x_iinc (pc := 82) (b := (s6.1 + 1)) (L' := [some (.ref 164), some (.int p1), some (.ref (8 + 4 * p1.toNatClampNeg)), some (.int (s6.1 + 1))]) dX1_gatherNeighbours_82 rfl rfl (Nat.le_of_ble_eq_true rfl) rfl rfl ?_
        refine x_goto (pc := 85) (tgt := 28) dX1_gatherNeighbours_85 (by decide) ?_
        have hz := hkk7 ((s6.1 + 1), s6.2)
        try dsimp only at hz
        exact hz
      · refine x_aload_n (pc := 39) dX1_gatherNeighbours_39 rfl ?_
        refine m_getR (pc := 40) (t := 1) xC1 0 fl_X1_25 rfl (by decide) rfl (by decide) rfl dX1_gatherNeighbours_40 ?_
        refine m_getR (pc := 43) (t := 2) xC6 0 fl_X1_57 rfl (by decide) rfl (by decide) rfl dX1_gatherNeighbours_43 ?_
        refine x_iload_n (pc := 46) dX1_gatherNeighbours_46 rfl ?_
        refine m_aald (pc := 47) (t0 := 3) rfl (by decide) rfl (fun _ => rfl) rfl (xE_pl _) dX1_gatherNeighbours_47 (fun hb10 => ?_)
        refine cV_I (pc := 48) (As := []) (rest := []) (ct_X7_isDailyGauge s6.1.toNatClampNeg s6.2 (xinb_lt hb10)) rfl xC7 (xPl (xinb_lt hb10)) (by decide) ml_X1_63 meX7_isDailyGauge rfl ⟨prX7_isDailyGauge, (Nat.le_of_ble_eq_true rfl), (Nat.le_of_ble_eq_true rfl), rfl, rfl⟩ (Nat.le_of_ble_eq_true rfl) dX1_gatherNeighbours_48 (fun v11 => ?_)
        refine x_if_eq (pc := 51) (tgt := 82) dX1_gatherNeighbours_51 (by decide) (fun h12 => ?_) (fun h12 => ?_)
        · refine x_iinc (pc := 82) (b := (s6.1 + 1)) (L' := [some (.ref 164), some (.int p1), some (.ref (8 + 4 * p1.toNatClampNeg)), some (.int (s6.1 + 1))]) dX1_gatherNeighbours_82 rfl rfl (Nat.le_of_ble_eq_true rfl) rfl rfl ?_
          refine x_goto (pc := 85) (tgt := 28) dX1_gatherNeighbours_85 (by decide) ?_
          have hz := hkk7 ((s6.1 + 1), s6.2)
          try dsimp only at hz
          exact hz
        · refine x_aload_n (pc := 54) dX1_gatherNeighbours_54 rfl ?_
          refine m_getR (pc := 55) (t := 165) xC1 1 fl_X1_12 rfl (by decide) rfl (by decide) rfl dX1_gatherNeighbours_55 ?_
          refine x_iload_n (pc := 58) dX1_gatherNeighbours_58 rfl ?_
          refine x_aload_n (pc := 59) dX1_gatherNeighbours_59 rfl ?_
          refine m_getI (pc := 60) xC7 1 fl_X1_69 (xPl (xinb_lt hb5)) (by decide) rfl (by decide) rfl dX1_gatherNeighbours_60 ?_
          refine x_aload_n (pc := 63) dX1_gatherNeighbours_63 rfl ?_
          refine m_getI (pc := 64) xC7 2 fl_X1_72 (xPl (xinb_lt hb5)) (by decide) rfl (by decide) rfl dX1_gatherNeighbours_64 ?_
          refine x_aload_n (pc := 67) dX1_gatherNeighbours_67 rfl ?_
          refine m_getR (pc := 68) (t := 1) xC1 0 fl_X1_25 rfl (by decide) rfl (by decide) rfl dX1_gatherNeighbours_68 ?_
          refine m_getR (pc := 71) (t := 2) xC6 0 fl_X1_57 rfl (by decide) rfl (by decide) rfl dX1_gatherNeighbours_71 ?_
          refine x_iload_n (pc := 74) dX1_gatherNeighbours_74 rfl ?_
          refine m_aald (pc := 75) (t0 := 3) rfl (by decide) rfl (fun _ => rfl) rfl (xE_pl _) dX1_gatherNeighbours_75 (fun hb13 => ?_)
          refine cSN_I (pc := 76) (As := [(.int (s6.2.1 (8 + 4 * p1.toNatClampNeg) 1)), (.int (s6.2.1 (8 + 4 * p1.toNatClampNeg) 2)), (.ref (8 + 4 * s6.1.toNatClampNeg))]) (rest := [(.int s6.1), (.ref 165)]) (ct_X9_squaredDistance (s6.2.1 (8 + 4 * p1.toNatClampNeg) 1) (s6.2.1 (8 + 4 * p1.toNatClampNeg) 2) s6.1.toNatClampNeg s6.2 (xinb_lt hb13)) rfl ml_X1_75 meX9_squaredDistance rfl ⟨prX9_squaredDistance, (Nat.le_of_ble_eq_true rfl), (Nat.le_of_ble_eq_true rfl), rfl, rfl⟩ (Nat.le_of_ble_eq_true rfl) dX1_gatherNeighbours_76 (fun v14 => ?_)
          refine cV_M (pc := 79) (As := [(.int s6.1), (.int v14)]) (rest := []) (ct_X2_offer 165 s6.1 v14 s6.2 (Or.inr rfl)) rfl xC2 (xCi_T (Or.inr rfl)) (by decide) ml_X1_79 meX2_offer rfl ⟨prX2_offer, (Nat.le_of_ble_eq_true rfl), (Nat.le_of_ble_eq_true rfl), rfl, rfl⟩ (Nat.le_of_ble_eq_true rfl) dX1_gatherNeighbours_79 (fun q15 => ?_)
          refine x_iinc (pc := 82) (b := (s6.1 + 1)) (L' := [some (.ref 164), some (.int p1), some (.ref (8 + 4 * p1.toNatClampNeg)), some (.int (s6.1 + 1))]) dX1_gatherNeighbours_82 rfl rfl (Nat.le_of_ble_eq_true rfl) rfl rfl ?_
          refine x_goto (pc := 85) (tgt := 28) dX1_gatherNeighbours_85 (by decide) ?_
          have hz := hkk7 ((s6.1 + 1), q15)
          try dsimp only at hz
          exact hz
  · exact x_vret (pc := 15) rfl rfl dX1_gatherNeighbours_15 (Nat.zero_le _) (Nat.zero_le _)

set_option maxRecDepth 100000 in
set_option maxHeartbeats 4000000 in
theorem ct_X2_placeAt (c : Nat) (p1 : Int32) (M : xM) (hc : xCi c) : Ct iX2_placeAt (rI M) [(.ref c), (.int p1)] (xwd M) (fX2_placeAt c p1 M) := by
  refine Ct.of' (L := [some (.ref c), some (.int p1)]) 0 rfl (by decide +kernel) (Nat.le_of_ble_eq_true rfl) rfl ?_
  unfold fX2_placeAt
  refine x_iload_n (pc := 0) dX2_placeAt_0 rfl ?_
  refine x_if_lt (pc := 1) (tgt := 21) dX2_placeAt_1 (by decide) (fun h1 => ?_) (fun h1 => ?_)
  · refine x_iconst (pc := 21) (a := -1) dX2_placeAt_21 (by decide) ?_
    exact x_iret (pc := 22) rfl rfl dX2_placeAt_22 (Nat.zero_le _) (Nat.zero_le _)
  · refine x_iload_n (pc := 4) dX2_placeAt_4 rfl ?_
    refine x_aload_n (pc := 5) dX2_placeAt_5 rfl ?_
    refine m_getI (pc := 6) xC2 2 fl_X2_18 (xCi_T hc) (by decide) rfl (by decide) rfl dX2_placeAt_6 ?_
    refine x_icmp_ge (pc := 9) (tgt := 21) dX2_placeAt_9 (by decide) (fun h2 => ?_) (fun h2 => ?_)
    · refine x_iconst (pc := 21) (a := -1) dX2_placeAt_21 (by decide) ?_
      exact x_iret (pc := 22) rfl rfl dX2_placeAt_22 (Nat.zero_le _) (Nat.zero_le _)
    · refine x_aload_n (pc := 12) dX2_placeAt_12 rfl ?_
      refine m_getR (pc := 13) (t := (c + 1)) xC2 0 fl_X2_9 (xCi_T hc) (by decide) rfl (by decide) rfl dX2_placeAt_13 ?_
      refine x_iload_n (pc := 16) dX2_placeAt_16 rfl ?_
      refine m_iald (pc := 17) (xCi_T1 hc) (xCi_N1 hc) dX2_placeAt_17 (fun hb3 => ?_)
      refine x_goto (pc := 18) (tgt := 22) dX2_placeAt_18 (by decide) ?_
      exact x_iret (pc := 22) rfl rfl dX2_placeAt_22 (Nat.zero_le _) (Nat.zero_le _)

set_option maxRecDepth 100000 in
set_option maxHeartbeats 4000000 in
theorem ct_X1_sumOfNeighbours (p2 : Int32) (M : xM)  : Ct iX1_sumOfNeighbours (rI M) [(.ref 164), (.ref 72), (.int p2)] (xwd M) (fX1_sumOfNeighbours p2 M) := by
  refine Ct.of' (L := [some (.ref 164), some (.ref 72), some (.int p2), none, none, none]) 3 rfl (by decide +kernel) (Nat.le_of_ble_eq_true rfl) rfl ?_
  unfold fX1_sumOfNeighbours
  refine x_iconst (pc := 0) (a := 0) dX1_sumOfNeighbours_0 (by decide) ?_
  refine x_istore_n (pc := 1) (L' := [some (.ref 164), some (.ref 72), some (.int p2), some (.int (0:Int32)), none, none]) dX1_sumOfNeighbours_1 (Nat.le_of_ble_eq_true rfl) rfl rfl ?_
  refine x_iconst (pc := 2) (a := 0) dX1_sumOfNeighbours_2 (by decide) ?_
  refine x_istore (pc := 3) (L' := [some (.ref 164), some (.ref 72), some (.int p2), some (.int (0:Int32)), some (.int (0:Int32)), none]) dX1_sumOfNeighbours_3 (Nat.le_of_ble_eq_true rfl) rfl rfl ?_
  refine SP.mask (pc := 5) [true, true, true, true, true, false] (L' := [some (.ref 164), some (.ref 72), some (.int p2), some (.int (0:Int32)), some (.int (0:Int32)), none]) rfl ?_
  refine SP.lp (pc := 5) (fun (s1 : (Int32 × Int32)) => [some (.ref 164), some (.ref 72), some (.int p2), some (.int s1.1), some (.int s1.2), none]) (fun (s1 : (Int32 × Int32)) => xwd M) (fun s1 kk2 hkk2 => ?_) xfu ((0:Int32), (0:Int32))
  try dsimp only
  refine x_iload (pc := 5) dX1_sumOfNeighbours_5 rfl ?_
  refine x_aload_n (pc := 7) dX1_sumOfNeighbours_7 rfl ?_
  refine m_getR (pc := 8) (t := 165) xC1 1 fl_X1_12 rfl (by decide) rfl (by decide) rfl dX1_sumOfNeighbours_8 ?_
  refine m_getI (pc := 11) xC2 2 fl_X1_49 (xCi_T (Or.inr rfl)) (by decide) rfl (by decide) rfl dX1_sumOfNeighbours_11 ?_
  refine x_icmp_ge (pc := 14) (tgt := 52) dX1_sumOfNeighbours_14 (by decide) (fun h3 => ?_) (fun h3 => ?_)
  · refine x_iload_n (pc := 52) dX1_sumOfNeighbours_52 rfl ?_
    exact x_iret (pc := 53) rfl rfl dX1_sumOfNeighbours_53 (Nat.zero_le _) (Nat.zero_le _)
  · refine x_aload_n (pc := 17) dX1_sumOfNeighbours_17 rfl ?_
    refine x_aload_n (pc := 18) dX1_sumOfNeighbours_18 rfl ?_
    refine m_getR (pc := 19) (t := 165) xC1 1 fl_X1_12 rfl (by decide) rfl (by decide) rfl dX1_sumOfNeighbours_19 ?_
    refine x_iload (pc := 22) dX1_sumOfNeighbours_22 rfl ?_
    refine cV_I (pc := 24) (As := [(.int s1.2)]) (rest := [(.ref 72)]) (ct_X2_placeAt 165 s1.2 M (Or.inr rfl)) rfl xC2 (xCi_T (Or.inr rfl)) (by decide) ml_X1_83 meX2_placeAt rfl ⟨prX2_placeAt, (Nat.le_of_ble_eq_true rfl), (Nat.le_of_ble_eq_true rfl), rfl, rfl⟩ (Nat.le_of_ble_eq_true rfl) dX1_sumOfNeighbours_24 (fun v4 => ?_)
    refine x_iload_n (pc := 27) dX1_sumOfNeighbours_27 rfl ?_
    refine cV_I (pc := 28) (As := [(.int v4), (.int p2)]) (rest := []) (ct_X0_trustedOf v4 p2 M) rfl xC0 rfl (by decide) ml_X1_39 meX0_trustedOf rfl ⟨prX0_trustedOf, (Nat.le_of_ble_eq_true rfl), (Nat.le_of_ble_eq_true rfl), rfl, rfl⟩ (Nat.le_of_ble_eq_true rfl) dX1_sumOfNeighbours_28 (fun v5 => ?_)
    refine x_istore (pc := 31) (L' := [some (.ref 164), some (.ref 72), some (.int p2), some (.int s1.1), some (.int s1.2), some (.int v5)]) dX1_sumOfNeighbours_31 (Nat.le_of_ble_eq_true rfl) rfl rfl ?_
    refine x_iload (pc := 33) dX1_sumOfNeighbours_33 rfl ?_
    refine x_iconst (pc := 35) (a := -1) dX1_sumOfNeighbours_35 (by decide) ?_
    refine x_icmp_ne (pc := 36) (tgt := 41) dX1_sumOfNeighbours_36 (by decide) (fun h6 => ?_) (fun h6 => ?_)
    · refine x_iload_n (pc := 41) dX1_sumOfNeighbours_41 rfl ?_
      refine x_iload (pc := 42) dX1_sumOfNeighbours_42 rfl ?_
      refine x_iadd (pc := 44) dX1_sumOfNeighbours_44 ?_
      refine SP.bdi (fun x7 e8 => ?_)
      refine x_istore_n (pc := 45) (L' := [some (.ref 164), some (.ref 72), some (.int p2), some (.int x7), some (.int s1.2), some (.int v5)]) dX1_sumOfNeighbours_45 (Nat.le_of_ble_eq_true rfl) rfl rfl ?_
      refine x_iinc (pc := 46) (b := (s1.2 + 1)) (L' := [some (.ref 164), some (.ref 72), some (.int p2), some (.int x7), some (.int (s1.2 + 1)), some (.int v5)]) dX1_sumOfNeighbours_46 rfl rfl (Nat.le_of_ble_eq_true rfl) rfl rfl ?_
      refine x_goto (pc := 49) (tgt := 5) dX1_sumOfNeighbours_49 (by decide) ?_
      refine SP.mask (pc := 5) [true, true, true, true, true, false] (L' := [some (.ref 164), some (.ref 72), some (.int p2), some (.int x7), some (.int (s1.2 + 1)), none]) rfl ?_
      have hz := hkk2 (x7, (s1.2 + 1))
      try dsimp only at hz
      exact hz
    · refine x_iconst (pc := 39) (a := -1) dX1_sumOfNeighbours_39 (by decide) ?_
      exact x_iret (pc := 40) rfl rfl dX1_sumOfNeighbours_40 (Nat.zero_le _) (Nat.zero_le _)

set_option maxRecDepth 100000 in
set_option maxHeartbeats 4000000 in
theorem ct_X1_sumWeeks (p2 : Int32) (M : xM)  : Ct iX1_sumWeeks rM [(.ref 164), (.ref 72), (.int p2)] (xwd M) (fX1_sumWeeks p2 M) := by
  refine Ct.of' (L := [some (.ref 164), some (.ref 72), some (.int p2), none, none, none]) 3 rfl (by decide +kernel) (Nat.le_of_ble_eq_true rfl) rfl ?_
  unfold fX1_sumWeeks
  refine x_aload_n (pc := 0) dX1_sumWeeks_0 rfl ?_
  refine x_iload_n (pc := 1) dX1_sumWeeks_1 rfl ?_
  refine cV_M (pc := 2) (As := [(.int p2)]) (rest := []) (ct_X1_gatherNeighbours p2 M) rfl xC1 rfl (by decide) ml_X1_29 meX1_gatherNeighbours rfl ⟨prX1_gatherNeighbours, (Nat.le_of_ble_eq_true rfl), (Nat.le_of_ble_eq_true rfl), rfl, rfl⟩ (Nat.le_of_ble_eq_true rfl) dX1_sumWeeks_2 (fun q1 => ?_)
  refine x_aload_n (pc := 5) dX1_sumWeeks_5 rfl ?_
  refine m_getR (pc := 6) (t := 168) xC1 2 fl_X1_18 rfl (by decide) rfl (by decide) rfl dX1_sumWeeks_6 ?_
  refine x_iconst (pc := 9) (a := 0) dX1_sumWeeks_9 (by decide) ?_
  refine cS_M (pc := 10) (As := [(.ref 168), (.int (0:Int32))]) (rest := []) (ct_J7_fill_53178 168 8 (0:Int32) q1 rfl rfl) rfl ml_X1_33 meJ7_fill_53178 rfl ⟨prJ7_fill_53178, (Nat.le_of_ble_eq_true rfl), (Nat.le_of_ble_eq_true rfl), rfl, rfl⟩ (Nat.le_of_ble_eq_true rfl) dX1_sumWeeks_10 (fun q2 => ?_)
  refine x_aload_n (pc := 13) dX1_sumWeeks_13 rfl ?_
  refine m_getR (pc := 14) (t := 169) xC1 3 fl_X1_22 rfl (by decide) rfl (by decide) rfl dX1_sumWeeks_14 ?_
  refine x_iconst (pc := 17) (a := 0) dX1_sumWeeks_17 (by decide) ?_
  refine cS_M (pc := 18) (As := [(.ref 169), (.int (0:Int32))]) (rest := []) (ct_J7_fill_53178 169 8 (0:Int32) q2 rfl rfl) rfl ml_X1_33 meJ7_fill_53178 rfl ⟨prJ7_fill_53178, (Nat.le_of_ble_eq_true rfl), (Nat.le_of_ble_eq_true rfl), rfl, rfl⟩ (Nat.le_of_ble_eq_true rfl) dX1_sumWeeks_18 (fun q3 => ?_)
  refine x_iconst (pc := 21) (a := 0) dX1_sumWeeks_21 (by decide) ?_
  refine x_istore_n (pc := 22) (L' := [some (.ref 164), some (.ref 72), some (.int p2), some (.int (0:Int32)), none, none]) dX1_sumWeeks_22 (Nat.le_of_ble_eq_true rfl) rfl rfl ?_
  refine SP.mask (pc := 23) [true, true, true, true, false, false] (L' := [some (.ref 164), some (.ref 72), some (.int p2), some (.int (0:Int32)), none, none]) rfl ?_
  refine SP.lp (pc := 23) (fun (s4 : (Int32 × xM)) => [some (.ref 164), some (.ref 72), some (.int p2), some (.int s4.1), none, none]) (fun (s4 : (Int32 × xM)) => xwd s4.2) (fun s4 kk5 hkk5 => ?_) xfu ((0:Int32), q3)
  try dsimp only
  refine x_iload_n (pc := 23) dX1_sumWeeks_23 rfl ?_
  refine x_bipush (pc := 24) (a := 56) dX1_sumWeeks_24 (by decide) ?_
  refine x_icmp_ge (pc := 26) (tgt := 91) dX1_sumWeeks_26 (by decide) (fun h6 => ?_) (fun h6 => ?_)
  · exact x_vret (pc := 91) rfl rfl dX1_sumWeeks_91 (Nat.zero_le _) (Nat.zero_le _)
  · refine x_aload_n (pc := 29) dX1_sumWeeks_29 rfl ?_
    refine x_iload_n (pc := 30) dX1_sumWeeks_30 rfl ?_
    refine x_iload_n (pc := 31) dX1_sumWeeks_31 rfl ?_
    refine cV_I (pc := 32) (As := [(.int p2), (.int s4.1)]) (rest := []) (ct_X0_trustedOf p2 s4.1 s4.2) rfl xC0 rfl (by decide) ml_X1_39 meX0_trustedOf rfl ⟨prX0_trustedOf, (Nat.le_of_ble_eq_true rfl), (Nat.le_of_ble_eq_true rfl), rfl, rfl⟩ (Nat.le_of_ble_eq_true rfl) dX1_sumWeeks_32 (fun v7 => ?_)
    refine x_istore (pc := 35) (L' := [some (.ref 164), some (.ref 72), some (.int p2), some (.int s4.1), some (.int v7), none]) dX1_sumWeeks_35 (Nat.le_of_ble_eq_true rfl) rfl rfl ?_
    refine x_aload_n (pc := 37) dX1_sumWeeks_37 rfl ?_
    refine x_aload_n (pc := 38) dX1_sumWeeks_38 rfl ?_
    refine x_iload_n (pc := 39) dX1_sumWeeks_39 rfl ?_
    refine cV_I (pc := 40) (As := [(.ref 72), (.int s4.1)]) (rest := []) (ct_X1_sumOfNeighbours s4.1 s4.2) rfl xC1 rfl (by decide) ml_X1_45 meX1_sumOfNeighbours rfl ⟨prX1_sumOfNeighbours, (Nat.le_of_ble_eq_true rfl), (Nat.le_of_ble_eq_true rfl), rfl, rfl⟩ (Nat.le_of_ble_eq_true rfl) dX1_sumWeeks_40 (fun v8 => ?_)
    refine x_istore (pc := 43) (L' := [some (.ref 164), some (.ref 72), some (.int p2), some (.int s4.1), some (.int v7), some (.int v8)]) dX1_sumWeeks_43 (Nat.le_of_ble_eq_true rfl) rfl rfl ?_
    refine x_iload (pc := 45) dX1_sumWeeks_45 rfl ?_
    refine x_iconst (pc := 47) (a := -1) dX1_sumWeeks_47 (by decide) ?_
    refine x_icmp_eq (pc := 48) (tgt := 85) dX1_sumWeeks_48 (by decide) (fun h9 => ?_) (fun h9 => ?_)
    · refine x_iinc (pc := 85) (b := (s4.1 + 1)) (L' := [some (.ref 164), some (.ref 72), some (.int p2), some (.int (s4.1 + 1)), some (.int v7), some (.int v8)]) dX1_sumWeeks_85 rfl rfl (Nat.le_of_ble_eq_true rfl) rfl rfl ?_
      refine x_goto (pc := 88) (tgt := 23) dX1_sumWeeks_88 (by decide) ?_
      refine SP.mask (pc := 23) [true, true, true, true, false, false] (L' := [some (.ref 164), some (.ref 72), some (.int p2), some (.int (s4.1 + 1)), none, none]) rfl ?_
      have hz := hkk5 ((s4.1 + 1), s4.2)
      try dsimp only at hz
      exact hz
    · refine x_iload (pc := 51) dX1_sumWeeks_51 rfl ?_
      refine x_iconst (pc := 53) (a := -1) dX1_sumWeeks_53 (by decide) ?_
      refine x_icmp_eq (pc := 54) (tgt := 85) dX1_sumWeeks_54 (by decide) (fun h10 => ?_) (fun h10 => ?_)
      · refine x_iinc (pc := 85) (b := (s4.1 + 1)) (L' := [some (.ref 164), some (.ref 72), some (.int p2), some (.int (s4.1 + 1)), some (.int v7), some (.int v8)]) dX1_sumWeeks_85 rfl rfl (Nat.le_of_ble_eq_true rfl) rfl rfl ?_
        refine x_goto (pc := 88) (tgt := 23) dX1_sumWeeks_88 (by decide) ?_
        refine SP.mask (pc := 23) [true, true, true, true, false, false] (L' := [some (.ref 164), some (.ref 72), some (.int p2), some (.int (s4.1 + 1)), none, none]) rfl ?_
        have hz := hkk5 ((s4.1 + 1), s4.2)
        try dsimp only at hz
        exact hz
      · refine x_aload_n (pc := 57) dX1_sumWeeks_57 rfl ?_
        refine m_getR (pc := 58) (t := 168) xC1 2 fl_X1_18 rfl (by decide) rfl (by decide) rfl dX1_sumWeeks_58 ?_
        refine x_iload_n (pc := 61) dX1_sumWeeks_61 rfl ?_
        refine x_bipush (pc := 62) (a := 7) dX1_sumWeeks_62 (by decide) ?_
        refine x_idiv (pc := 64) dX1_sumWeeks_64 (fun hb11 => ?_)
        refine x_dup2 (pc := 65) dX1_sumWeeks_65 rfl rfl ?_
        refine m_iald (pc := 66) rfl rfl dX1_sumWeeks_66 (fun hb12 => ?_)
        refine x_iload (pc := 67) dX1_sumWeeks_67 rfl ?_
        refine x_iadd (pc := 69) dX1_sumWeeks_69 ?_
        refine m_iast (pc := 70) rfl rfl dX1_sumWeeks_70 (fun hb13 => ?_)
        refine SP.bdm (fun m14 e15 => ?_)
        refine x_aload_n (pc := 71) dX1_sumWeeks_71 rfl ?_
        refine m_getR (pc := 72) (t := 169) xC1 3 fl_X1_22 rfl (by decide) rfl (by decide) rfl dX1_sumWeeks_72 ?_
        refine x_iload_n (pc := 75) dX1_sumWeeks_75 rfl ?_
        refine x_bipush (pc := 76) (a := 7) dX1_sumWeeks_76 (by decide) ?_
        refine x_idiv (pc := 78) dX1_sumWeeks_78 (fun hb16 => ?_)
        refine x_dup2 (pc := 79) dX1_sumWeeks_79 rfl rfl ?_
        refine m_iald (pc := 80) rfl rfl dX1_sumWeeks_80 (fun hb17 => ?_)
        refine x_iload (pc := 81) dX1_sumWeeks_81 rfl ?_
        refine x_iadd (pc := 83) dX1_sumWeeks_83 ?_
        refine m_iast (pc := 84) rfl rfl dX1_sumWeeks_84 (fun hb18 => ?_)
        refine SP.bdm (fun m19 e20 => ?_)
        refine x_iinc (pc := 85) (b := (s4.1 + 1)) (L' := [some (.ref 164), some (.ref 72), some (.int p2), some (.int (s4.1 + 1)), some (.int v7), some (.int v8)]) dX1_sumWeeks_85 rfl rfl (Nat.le_of_ble_eq_true rfl) rfl rfl ?_
        refine x_goto (pc := 88) (tgt := 23) dX1_sumWeeks_88 (by decide) ?_
        refine SP.mask (pc := 23) [true, true, true, true, false, false] (L' := [some (.ref 164), some (.ref 72), some (.int p2), some (.int (s4.1 + 1)), none, none]) rfl ?_
        have hz := hkk5 ((s4.1 + 1), m19)
        try dsimp only at hz
        exact hz

set_option maxRecDepth 100000 in
set_option maxHeartbeats 4000000 in
theorem ct_X1_missesOfPart (p1 : Int32) (p2 : Int32) (M : xM)  : Ct iX1_missesOfPart (rJ M) [(.ref 164), (.int p1), (.int p2)] (xwd M) (fX1_missesOfPart p1 p2 M) := by
  refine Ct.of' (L := [some (.ref 164), some (.int p1), some (.int p2), none, none, none, none, none, none, none]) 7 rfl (by decide +kernel) (Nat.le_of_ble_eq_true rfl) rfl ?_
  unfold fX1_missesOfPart
  refine x_lconst (pc := 0) (a := 0) dX1_missesOfPart_0 (by decide) ?_
  refine x_lstore_n (pc := 1) (L' := [some (.ref 164), some (.int p1), some (.int p2), some (.long (0:Int64)), none, none, none, none, none, none]) dX1_missesOfPart_1 (Nat.le_of_ble_eq_true rfl) rfl rfl ?_
  refine x_lconst (pc := 2) (a := 0) dX1_missesOfPart_2 (by decide) ?_
  refine x_lstore (pc := 3) (L' := [some (.ref 164), some (.int p1), some (.int p2), some (.long (0:Int64)), none, some (.long (0:Int64)), none, none, none, none]) dX1_missesOfPart_3 (Nat.le_of_ble_eq_true rfl) rfl rfl ?_
  refine x_iconst (pc := 5) (a := 0) dX1_missesOfPart_5 (by decide) ?_
  refine x_iload_n (pc := 6) dX1_missesOfPart_6 rfl ?_
  refine x_mmax (pc := 7) (xword 686 (by decide +kernel) rfl) (xword 388 (by decide +kernel) rfl) (xword 60 (by decide +kernel) rfl) (xword 389 (by decide +kernel) rfl) (Nat.le_of_ble_eq_true rfl) (Nat.le_of_ble_eq_true rfl) (Nat.zero_le _) (Nat.zero_le _) dX1_missesOfPart_7 ?_
  refine SP.bdi (fun x1 e2 => ?_)
  refine x_istore (pc := 10) (L' := [some (.ref 164), some (.int p1), some (.int p2), some (.long (0:Int64)), none, some (.long (0:Int64)), none, some (.int x1), none, none]) dX1_missesOfPart_10 (Nat.le_of_ble_eq_true rfl) rfl rfl ?_
  refine SP.mask (pc := 12) [true, true, true, true, false, true, false, true, false, false] (L' := [some (.ref 164), some (.int p1), some (.int p2), some (.long (0:Int64)), none, some (.long (0:Int64)), none, some (.int x1), none, none]) rfl ?_
  refine SP.lp (pc := 12) (fun (s3 : (Int64 × Int64 × Int32)) => [some (.ref 164), some (.int p1), some (.int p2), some (.long s3.1), none, some (.long s3.2.1), none, some (.int s3.2.2), none, none]) (fun (s3 : (Int64 × Int64 × Int32)) => xwd M) (fun s3 kk4 hkk4 => ?_) xfu ((0:Int64), (0:Int64), x1)
  try dsimp only
  refine x_iload (pc := 12) dX1_missesOfPart_12 rfl ?_
  refine x_iload_n (pc := 14) dX1_missesOfPart_14 rfl ?_
  refine SP.jn 55 (fun (s6 : Unit) => [some (.ref 164), some (.int p1), some (.int p2), some (.long s3.1), none, some (.long s3.2.1), none, none, none, none]) (fun (s6 : Unit) => []) (fun (s6 : Unit) => xwd M) (fun kk5 hkk5 => ?_) (fun s6 => ?_)
  · try dsimp only
    refine x_icmp_gt (pc := 15) (tgt := 55) dX1_missesOfPart_15 (by decide) (fun h7 => ?_) (fun h7 => ?_)
    · refine SP.mask (pc := 55) [true, true, true, true, false, true, false, false, false, false] (L' := [some (.ref 164), some (.int p1), some (.int p2), some (.long s3.1), none, some (.long s3.2.1), none, none, none, none]) rfl ?_
      have hz := hkk5 ()
      try dsimp only at hz
      exact hz
    · refine x_iload (pc := 18) dX1_missesOfPart_18 rfl ?_
      refine x_bipush (pc := 20) (a := 8) dX1_missesOfPart_20 (by decide) ?_
      refine x_icmp_ge (pc := 22) (tgt := 55) dX1_missesOfPart_22 (by decide) (fun h8 => ?_) (fun h8 => ?_)
      · refine SP.mask (pc := 55) [true, true, true, true, false, true, false, false, false, false] (L' := [some (.ref 164), some (.int p1), some (.int p2), some (.long s3.1), none, some (.long s3.2.1), none, none, none, none]) rfl ?_
        have hz := hkk5 ()
        try dsimp only at hz
        exact hz
      · refine x_lload_n (pc := 25) dX1_missesOfPart_25 rfl ?_
        refine x_aload_n (pc := 26) dX1_missesOfPart_26 rfl ?_
        refine m_getR (pc := 27) (t := 168) xC1 2 fl_X1_18 rfl (by decide) rfl (by decide) rfl dX1_missesOfPart_27 ?_
        refine x_iload (pc := 30) dX1_missesOfPart_30 rfl ?_
        refine m_iald (pc := 32) rfl rfl dX1_missesOfPart_32 (fun hb9 => ?_)
        refine x_i2l (pc := 33) dX1_missesOfPart_33 ?_
        refine x_ladd (pc := 34) dX1_missesOfPart_34 ?_
        refine SP.bdl (fun x10 e11 => ?_)
        refine x_lstore_n (pc := 35) (L' := [some (.ref 164), some (.int p1), some (.int p2), some (.long x10), none, some (.long s3.2.1), none, some (.int s3.2.2), none, none]) dX1_missesOfPart_35 (Nat.le_of_ble_eq_true rfl) rfl rfl ?_
        refine x_lload (pc := 36) dX1_missesOfPart_36 rfl ?_
        refine x_aload_n (pc := 38) dX1_missesOfPart_38 rfl ?_
        refine m_getR (pc := 39) (t := 169) xC1 3 fl_X1_22 rfl (by decide) rfl (by decide) rfl dX1_missesOfPart_39 ?_
        refine x_iload (pc := 42) dX1_missesOfPart_42 rfl ?_
        refine m_iald (pc := 44) rfl rfl dX1_missesOfPart_44 (fun hb12 => ?_)
        refine x_i2l (pc := 45) dX1_missesOfPart_45 ?_
        refine x_ladd (pc := 46) dX1_missesOfPart_46 ?_
        refine SP.bdl (fun x13 e14 => ?_)
        refine x_lstore (pc := 47) (L' := [some (.ref 164), some (.int p1), some (.int p2), some (.long x10), none, some (.long x13), none, some (.int s3.2.2), none, none]) dX1_missesOfPart_47 (Nat.le_of_ble_eq_true rfl) rfl rfl ?_
        refine x_iinc (pc := 49) (b := (s3.2.2 + 1)) (L' := [some (.ref 164), some (.int p1), some (.int p2), some (.long x10), none, some (.long x13), none, some (.int (s3.2.2 + 1)), none, none]) dX1_missesOfPart_49 rfl rfl (Nat.le_of_ble_eq_true rfl) rfl rfl ?_
        refine x_goto (pc := 52) (tgt := 12) dX1_missesOfPart_52 (by decide) ?_
        have hz := hkk4 (x10, x13, (s3.2.2 + 1))
        try dsimp only at hz
        exact hz
  · try dsimp only
    refine x_lload (pc := 55) dX1_missesOfPart_55 rfl ?_
    refine x_lconst (pc := 57) (a := 0) dX1_missesOfPart_57 (by decide) ?_
    refine x_lcmp (pc := 58) dX1_missesOfPart_58 ?_
    refine x_if_gt (pc := 59) (tgt := 68) dX1_missesOfPart_59 (by decide) (fun h15 => ?_) (fun h15 => ?_)
    · refine x_lconst (pc := 68) (a := 0) dX1_missesOfPart_68 (by decide) ?_
      refine x_lstore (pc := 69) (L' := [some (.ref 164), some (.int p1), some (.int p2), some (.long s3.1), none, some (.long s3.2.1), none, some (.long (0:Int64)), none, none]) dX1_missesOfPart_69 (Nat.le_of_ble_eq_true rfl) rfl rfl ?_
      refine x_iconst (pc := 71) (a := 0) dX1_missesOfPart_71 (by decide) ?_
      refine x_iload_n (pc := 72) dX1_missesOfPart_72 rfl ?_
      refine x_mmax (pc := 73) (xword 686 (by decide +kernel) rfl) (xword 388 (by decide +kernel) rfl) (xword 60 (by decide +kernel) rfl) (xword 389 (by decide +kernel) rfl) (Nat.le_of_ble_eq_true rfl) (Nat.le_of_ble_eq_true rfl) (Nat.zero_le _) (Nat.zero_le _) dX1_missesOfPart_73 ?_
      refine SP.bdi (fun x16 e17 => ?_)
      refine x_istore (pc := 76) (L' := [some (.ref 164), some (.int p1), some (.int p2), some (.long s3.1), none, some (.long s3.2.1), none, some (.long (0:Int64)), none, some (.int x16)]) dX1_missesOfPart_76 (Nat.le_of_ble_eq_true rfl) rfl rfl ?_
      refine SP.mask (pc := 78) [true, false, true, true, false, true, false, true, false, true] (L' := [some (.ref 164), none, some (.int p2), some (.long s3.1), none, some (.long s3.2.1), none, some (.long (0:Int64)), none, some (.int x16)]) rfl ?_
      refine SP.lp (pc := 78) (fun (s18 : (Int64 × Int32)) => [some (.ref 164), none, some (.int p2), some (.long s3.1), none, some (.long s3.2.1), none, some (.long s18.1), none, some (.int s18.2)]) (fun (s18 : (Int64 × Int32)) => xwd M) (fun s18 kk19 hkk19 => ?_) xfu ((0:Int64), x16)
      try dsimp only
      refine x_iload (pc := 78) dX1_missesOfPart_78 rfl ?_
      refine x_iload_n (pc := 80) dX1_missesOfPart_80 rfl ?_
      refine x_icmp_gt (pc := 81) (tgt := 127) dX1_missesOfPart_81 (by decide) (fun h20 => ?_) (fun h20 => ?_)
      · refine x_lload (pc := 127) dX1_missesOfPart_127 rfl ?_
        refine x_ldc2 (pc := 129) (a := 1000) dX1_missesOfPart_129 rfl (xword 687 (by decide +kernel) rfl) ?_
        refine x_lmul (pc := 132) dX1_missesOfPart_132 ?_
        refine x_lload (pc := 133) dX1_missesOfPart_133 rfl ?_
        refine x_ldiv (pc := 135) dX1_missesOfPart_135 (fun hb21 => ?_)
        exact x_lret (pc := 136) rfl rfl dX1_missesOfPart_136 (Nat.zero_le _) (Nat.zero_le _)
      · refine x_iload (pc := 84) dX1_missesOfPart_84 rfl ?_
        refine x_bipush (pc := 86) (a := 8) dX1_missesOfPart_86 (by decide) ?_
        refine x_icmp_ge (pc := 88) (tgt := 127) dX1_missesOfPart_88 (by decide) (fun h22 => ?_) (fun h22 => ?_)
        · refine x_lload (pc := 127) dX1_missesOfPart_127 rfl ?_
          refine x_ldc2 (pc := 129) (a := 1000) dX1_missesOfPart_129 rfl (xword 687 (by decide +kernel) rfl) ?_
          refine x_lmul (pc := 132) dX1_missesOfPart_132 ?_
          refine x_lload (pc := 133) dX1_missesOfPart_133 rfl ?_
          refine x_ldiv (pc := 135) dX1_missesOfPart_135 (fun hb23 => ?_)
          exact x_lret (pc := 136) rfl rfl dX1_missesOfPart_136 (Nat.zero_le _) (Nat.zero_le _)
        · refine x_lload (pc := 91) dX1_missesOfPart_91 rfl ?_
          refine x_aload_n (pc := 93) dX1_missesOfPart_93 rfl ?_
          refine m_getR (pc := 94) (t := 168) xC1 2 fl_X1_18 rfl (by decide) rfl (by decide) rfl dX1_missesOfPart_94 ?_
          refine x_iload (pc := 97) dX1_missesOfPart_97 rfl ?_
          refine m_iald (pc := 99) rfl rfl dX1_missesOfPart_99 (fun hb24 => ?_)
          refine x_i2l (pc := 100) dX1_missesOfPart_100 ?_
          refine x_lload (pc := 101) dX1_missesOfPart_101 rfl ?_
          refine x_lmul (pc := 103) dX1_missesOfPart_103 ?_
          refine x_aload_n (pc := 104) dX1_missesOfPart_104 rfl ?_
          refine m_getR (pc := 105) (t := 169) xC1 3 fl_X1_22 rfl (by decide) rfl (by decide) rfl dX1_missesOfPart_105 ?_
          refine x_iload (pc := 108) dX1_missesOfPart_108 rfl ?_
          refine m_iald (pc := 110) rfl rfl dX1_missesOfPart_110 (fun hb25 => ?_)
          refine x_i2l (pc := 111) dX1_missesOfPart_111 ?_
          refine x_lload_n (pc := 112) dX1_missesOfPart_112 rfl ?_
          refine x_lmul (pc := 113) dX1_missesOfPart_113 ?_
          refine x_lsub (pc := 114) dX1_missesOfPart_114 ?_
          refine x_mabsL (pc := 115) (xword 688 (by decide +kernel) rfl) (xword 689 (by decide +kernel) rfl) (xword 60 (by decide +kernel) rfl) (xword 690 (by decide +kernel) rfl) (Nat.le_of_ble_eq_true rfl) (Nat.le_of_ble_eq_true rfl) (Nat.zero_le _) (Nat.zero_le _) dX1_missesOfPart_115 ?_
          refine x_ladd (pc := 118) dX1_missesOfPart_118 ?_
          refine SP.bdl (fun x26 e27 => ?_)
          refine x_lstore (pc := 119) (L' := [some (.ref 164), none, some (.int p2), some (.long s3.1), none, some (.long s3.2.1), none, some (.long x26), none, some (.int s18.2)]) dX1_missesOfPart_119 (Nat.le_of_ble_eq_true rfl) rfl rfl ?_
          refine x_iinc (pc := 121) (b := (s18.2 + 1)) (L' := [some (.ref 164), none, some (.int p2), some (.long s3.1), none, some (.long s3.2.1), none, some (.long x26), none, some (.int (s18.2 + 1))]) dX1_missesOfPart_121 rfl rfl (Nat.le_of_ble_eq_true rfl) rfl rfl ?_
          refine x_goto (pc := 124) (tgt := 78) dX1_missesOfPart_124 (by decide) ?_
          have hz := hkk19 (x26, (s18.2 + 1))
          try dsimp only at hz
          exact hz
    · refine x_lload_n (pc := 62) dX1_missesOfPart_62 rfl ?_
      refine x_ldc2 (pc := 63) (a := 1000) dX1_missesOfPart_63 rfl (xword 687 (by decide +kernel) rfl) ?_
      refine x_lmul (pc := 66) dX1_missesOfPart_66 ?_
      exact x_lret (pc := 67) rfl rfl dX1_missesOfPart_67 (Nat.zero_le _) (Nat.zero_le _)

set_option maxRecDepth 100000 in
set_option maxHeartbeats 4000000 in
theorem ct_X1_missesAt (p1 : Int32) (p2 : Int32) (M : xM)  : Ct iX1_missesAt (rJ M) [(.ref 164), (.int p1), (.int p2)] (xwd M) (fX1_missesAt p1 p2 M) := by
  refine Ct.of' (L := [some (.ref 164), some (.int p1), some (.int p2)]) 0 rfl (by decide +kernel) (Nat.le_of_ble_eq_true rfl) rfl ?_
  unfold fX1_missesAt
  refine x_aload_n (pc := 0) dX1_missesAt_0 rfl ?_
  refine x_iconst (pc := 1) (a := 0) dX1_missesAt_1 (by decide) ?_
  refine x_iload_n (pc := 2) dX1_missesAt_2 rfl ?_
  refine x_iconst (pc := 3) (a := 1) dX1_missesAt_3 (by decide) ?_
  refine x_isub (pc := 4) dX1_missesAt_4 ?_
  refine cV_J (pc := 5) (As := [(.int (0:Int32)), (.int (p1 - (1:Int32)))]) (rest := []) (ct_X1_missesOfPart (0:Int32) (p1 - (1:Int32)) M) rfl xC1 rfl (by decide) ml_X1_91 meX1_missesOfPart rfl ⟨prX1_missesOfPart, (Nat.le_of_ble_eq_true rfl), (Nat.le_of_ble_eq_true rfl), rfl, rfl⟩ (Nat.le_of_ble_eq_true rfl) dX1_missesAt_5 (fun v1 => ?_)
  refine x_aload_n (pc := 8) dX1_missesAt_8 rfl ?_
  refine x_iload_n (pc := 9) dX1_missesAt_9 rfl ?_
  refine x_iload_n (pc := 10) dX1_missesAt_10 rfl ?_
  refine cV_J (pc := 11) (As := [(.int p1), (.int p2)]) (rest := [(.long v1)]) (ct_X1_missesOfPart p1 p2 M) rfl xC1 rfl (by decide) ml_X1_91 meX1_missesOfPart rfl ⟨prX1_missesOfPart, (Nat.le_of_ble_eq_true rfl), (Nat.le_of_ble_eq_true rfl), rfl, rfl⟩ (Nat.le_of_ble_eq_true rfl) dX1_missesAt_11 (fun v2 => ?_)
  refine x_ladd (pc := 14) dX1_missesAt_14 ?_
  exact x_lret (pc := 15) rfl rfl dX1_missesAt_15 (Nat.zero_le _) (Nat.zero_le _)

set_option maxRecDepth 100000 in
set_option maxHeartbeats 4000000 in
theorem ct_X1_leastBreak (p1 : Int32) (M : xM)  : Ct iX1_leastBreak (rI M) [(.ref 164), (.int p1)] (xwd M) (fX1_leastBreak p1 M) := by
  refine Ct.of' (L := [some (.ref 164), some (.int p1), none, none, none, none, none, none]) 6 rfl (by decide +kernel) (Nat.le_of_ble_eq_true rfl) rfl ?_
  unfold fX1_leastBreak
  refine x_iconst (pc := 0) (a := -1) dX1_leastBreak_0 (by decide) ?_
  refine x_istore_n (pc := 1) (L' := [some (.ref 164), some (.int p1), some (.int (-1:Int32)), none, none, none, none, none]) dX1_leastBreak_1 (Nat.le_of_ble_eq_true rfl) rfl rfl ?_
  refine x_lconst (pc := 2) (a := 0) dX1_leastBreak_2 (by decide) ?_
  refine x_lstore_n (pc := 3) (L' := [some (.ref 164), some (.int p1), some (.int (-1:Int32)), some (.long (0:Int64)), none, none, none, none]) dX1_leastBreak_3 (Nat.le_of_ble_eq_true rfl) rfl rfl ?_
  refine x_iconst (pc := 4) (a := 1) dX1_leastBreak_4 (by decide) ?_
  refine x_istore (pc := 5) (L' := [some (.ref 164), some (.int p1), some (.int (-1:Int32)), some (.long (0:Int64)), none, some (.int (1:Int32)), none, none]) dX1_leastBreak_5 (Nat.le_of_ble_eq_true rfl) rfl rfl ?_
  refine SP.mask (pc := 7) [true, true, true, true, false, true, false, false] (L' := [some (.ref 164), some (.int p1), some (.int (-1:Int32)), some (.long (0:Int64)), none, some (.int (1:Int32)), none, none]) rfl ?_
  refine SP.lp (pc := 7) (fun (s1 : (Int32 × Int64 × Int32)) => [some (.ref 164), some (.int p1), some (.int s1.1), some (.long s1.2.1), none, some (.int s1.2.2), none, none]) (fun (s1 : (Int32 × Int64 × Int32)) => xwd M) (fun s1 kk2 hkk2 => ?_) xfu ((-1:Int32), (0:Int64), (1:Int32))
  try dsimp only
  refine x_iload (pc := 7) dX1_leastBreak_7 rfl ?_
  refine x_iload_n (pc := 9) dX1_leastBreak_9 rfl ?_
  refine x_icmp_gt (pc := 10) (tgt := 53) dX1_leastBreak_10 (by decide) (fun h3 => ?_) (fun h3 => ?_)
  · refine x_iload_n (pc := 53) dX1_leastBreak_53 rfl ?_
    exact x_iret (pc := 54) rfl rfl dX1_leastBreak_54 (Nat.zero_le _) (Nat.zero_le _)
  · refine x_iload (pc := 13) dX1_leastBreak_13 rfl ?_
    refine x_bipush (pc := 15) (a := 8) dX1_leastBreak_15 (by decide) ?_
    refine x_icmp_ge (pc := 17) (tgt := 53) dX1_leastBreak_17 (by decide) (fun h4 => ?_) (fun h4 => ?_)
    · refine x_iload_n (pc := 53) dX1_leastBreak_53 rfl ?_
      exact x_iret (pc := 54) rfl rfl dX1_leastBreak_54 (Nat.zero_le _) (Nat.zero_le _)
    · refine x_aload_n (pc := 20) dX1_leastBreak_20 rfl ?_
      refine x_iload (pc := 21) dX1_leastBreak_21 rfl ?_
      refine x_iload_n (pc := 23) dX1_leastBreak_23 rfl ?_
      refine cV_J (pc := 24) (As := [(.int s1.2.2), (.int p1)]) (rest := []) (ct_X1_missesAt s1.2.2 p1 M) rfl xC1 rfl (by decide) ml_X1_87 meX1_missesAt rfl ⟨prX1_missesAt, (Nat.le_of_ble_eq_true rfl), (Nat.le_of_ble_eq_true rfl), rfl, rfl⟩ (Nat.le_of_ble_eq_true rfl) dX1_leastBreak_24 (fun v5 => ?_)
      refine x_lstore (pc := 27) (L' := [some (.ref 164), some (.int p1), some (.int s1.1), some (.long s1.2.1), none, some (.int s1.2.2), some (.long v5), none]) dX1_leastBreak_27 (Nat.le_of_ble_eq_true rfl) rfl rfl ?_
      refine x_iload_n (pc := 29) dX1_leastBreak_29 rfl ?_
      refine x_iconst (pc := 30) (a := -1) dX1_leastBreak_30 (by decide) ?_
      refine x_icmp_eq (pc := 31) (tgt := 41) dX1_leastBreak_31 (by decide) (fun h6 => ?_) (fun h6 => ?_)
      · refine x_iload (pc := 41) dX1_leastBreak_41 rfl ?_
        refine x_istore_n (pc := 43) (L' := [some (.ref 164), some (.int p1), some (.int s1.2.2), some (.long s1.2.1), none, some (.int s1.2.2), some (.long v5), none]) dX1_leastBreak_43 (Nat.le_of_ble_eq_true rfl) rfl rfl ?_
        refine x_lload (pc := 44) dX1_leastBreak_44 rfl ?_
        refine x_lstore_n (pc := 46) (L' := [some (.ref 164), some (.int p1), some (.int s1.2.2), some (.long v5), none, some (.int s1.2.2), some (.long v5), none]) dX1_leastBreak_46 (Nat.le_of_ble_eq_true rfl) rfl rfl ?_
        refine x_iinc (pc := 47) (b := (s1.2.2 + 1)) (L' := [some (.ref 164), some (.int p1), some (.int s1.2.2), some (.long v5), none, some (.int (s1.2.2 + 1)), some (.long v5), none]) dX1_leastBreak_47 rfl rfl (Nat.le_of_ble_eq_true rfl) rfl rfl ?_
        refine x_goto (pc := 50) (tgt := 7) dX1_leastBreak_50 (by decide) ?_
        refine SP.mask (pc := 7) [true, true, true, true, false, true, false, false] (L' := [some (.ref 164), some (.int p1), some (.int s1.2.2), some (.long v5), none, some (.int (s1.2.2 + 1)), none, none]) rfl ?_
        have hz := hkk2 (s1.2.2, v5, (s1.2.2 + 1))
        try dsimp only at hz
        exact hz
      · refine x_lload (pc := 34) dX1_leastBreak_34 rfl ?_
        refine x_lload_n (pc := 36) dX1_leastBreak_36 rfl ?_
        refine x_lcmp (pc := 37) dX1_leastBreak_37 ?_
        refine x_if_ge (pc := 38) (tgt := 47) dX1_leastBreak_38 (by decide) (fun h7 => ?_) (fun h7 => ?_)
        · refine x_iinc (pc := 47) (b := (s1.2.2 + 1)) (L' := [some (.ref 164), some (.int p1), some (.int s1.1), some (.long s1.2.1), none, some (.int (s1.2.2 + 1)), some (.long v5), none]) dX1_leastBreak_47 rfl rfl (Nat.le_of_ble_eq_true rfl) rfl rfl ?_
          refine x_goto (pc := 50) (tgt := 7) dX1_leastBreak_50 (by decide) ?_
          refine SP.mask (pc := 7) [true, true, true, true, false, true, false, false] (L' := [some (.ref 164), some (.int p1), some (.int s1.1), some (.long s1.2.1), none, some (.int (s1.2.2 + 1)), none, none]) rfl ?_
          have hz := hkk2 (s1.1, s1.2.1, (s1.2.2 + 1))
          try dsimp only at hz
          exact hz
        · refine x_iload (pc := 41) dX1_leastBreak_41 rfl ?_
          refine x_istore_n (pc := 43) (L' := [some (.ref 164), some (.int p1), some (.int s1.2.2), some (.long s1.2.1), none, some (.int s1.2.2), some (.long v5), none]) dX1_leastBreak_43 (Nat.le_of_ble_eq_true rfl) rfl rfl ?_
          refine x_lload (pc := 44) dX1_leastBreak_44 rfl ?_
          refine x_lstore_n (pc := 46) (L' := [some (.ref 164), some (.int p1), some (.int s1.2.2), some (.long v5), none, some (.int s1.2.2), some (.long v5), none]) dX1_leastBreak_46 (Nat.le_of_ble_eq_true rfl) rfl rfl ?_
          refine x_iinc (pc := 47) (b := (s1.2.2 + 1)) (L' := [some (.ref 164), some (.int p1), some (.int s1.2.2), some (.long v5), none, some (.int (s1.2.2 + 1)), some (.long v5), none]) dX1_leastBreak_47 rfl rfl (Nat.le_of_ble_eq_true rfl) rfl rfl ?_
          refine x_goto (pc := 50) (tgt := 7) dX1_leastBreak_50 (by decide) ?_
          refine SP.mask (pc := 7) [true, true, true, true, false, true, false, false] (L' := [some (.ref 164), some (.int p1), some (.int s1.2.2), some (.long v5), none, some (.int (s1.2.2 + 1)), none, none]) rfl ?_
          have hz := hkk2 (s1.2.2, v5, (s1.2.2 + 1))
          try dsimp only at hz
          exact hz

set_option maxRecDepth 100000 in
set_option maxHeartbeats 4000000 in
theorem ct_X3_append (p1 : Int32) (p2 : Int32) (p3 : Int32) (M : xM)  : Ct iX3_append rIM [(.ref 3), (.int p1), (.int p2), (.int p3)] (xwd M) (fX3_append p1 p2 p3 M) := by
  refine Ct.of' (L := [some (.ref 3), some (.int p1), some (.int p2), some (.int p3)]) 0 rfl (by decide +kernel) (Nat.le_of_ble_eq_true rfl) rfl ?_
  unfold fX3_append
  refine x_aload_n (pc := 0) dX3_append_0 rfl ?_
  refine m_getI (pc := 1) xC3 3 fl_X3_21 rfl (by decide) rfl (by decide) rfl dX3_append_1 ?_
  refine x_bipush (pc := 4) (a := 100) dX3_append_4 (by decide) ?_
  refine x_icmp_lt (pc := 6) (tgt := 11) dX3_append_6 (by decide) (fun h1 => ?_) (fun h1 => ?_)
  · refine x_aload_n (pc := 11) dX3_append_11 rfl ?_
    refine m_getR (pc := 12) (t := 4) xC3 0 fl_X3_9 rfl (by decide) rfl (by decide) rfl dX3_append_12 ?_
    refine x_aload_n (pc := 15) dX3_append_15 rfl ?_
    refine m_getI (pc := 16) xC3 3 fl_X3_21 rfl (by decide) rfl (by decide) rfl dX3_append_16 ?_
    refine x_iload_n (pc := 19) dX3_append_19 rfl ?_
    refine m_iast (pc := 20) rfl rfl dX3_append_20 (fun hb2 => ?_)
    refine SP.bdm (fun m3 e4 => ?_)
    refine x_aload_n (pc := 21) dX3_append_21 rfl ?_
    refine m_getR (pc := 22) (t := 5) xC3 1 fl_X3_15 rfl (by decide) rfl (by decide) rfl dX3_append_22 ?_
    refine x_aload_n (pc := 25) dX3_append_25 rfl ?_
    refine m_getI (pc := 26) xC3 3 fl_X3_21 rfl (by decide) rfl (by decide) rfl dX3_append_26 ?_
    refine x_iload_n (pc := 29) dX3_append_29 rfl ?_
    refine m_iast (pc := 30) rfl rfl dX3_append_30 (fun hb5 => ?_)
    refine SP.bdm (fun m6 e7 => ?_)
    refine x_aload_n (pc := 31) dX3_append_31 rfl ?_
    refine m_getR (pc := 32) (t := 6) xC3 2 fl_X3_18 rfl (by decide) rfl (by decide) rfl dX3_append_32 ?_
    refine x_aload_n (pc := 35) dX3_append_35 rfl ?_
    refine m_getI (pc := 36) xC3 3 fl_X3_21 rfl (by decide) rfl (by decide) rfl dX3_append_36 ?_
    refine x_iload_n (pc := 39) dX3_append_39 rfl ?_
    refine m_iast (pc := 40) rfl rfl dX3_append_40 (fun hb8 => ?_)
    refine SP.bdm (fun m9 e10 => ?_)
    refine x_aload_n (pc := 41) dX3_append_41 rfl ?_
    refine x_dup (pc := 42) dX3_append_42 rfl ?_
    refine m_getI (pc := 43) xC3 3 fl_X3_21 rfl (by decide) rfl (by decide) rfl dX3_append_43 ?_
    refine x_iconst (pc := 46) (a := 1) dX3_append_46 (by decide) ?_
    refine x_iadd (pc := 47) dX3_append_47 ?_
    refine m_putI (pc := 48) xC3 3 fl_X3_21 rfl (by decide) rfl (by decide) rfl rfl rfl dX3_append_48 ?_
    refine SP.bdm (fun m11 e12 => ?_)
    refine x_aload_n (pc := 51) dX3_append_51 rfl ?_
    refine m_getI (pc := 52) xC3 3 fl_X3_21 rfl (by decide) rfl (by decide) rfl dX3_append_52 ?_
    refine x_iconst (pc := 55) (a := 1) dX3_append_55 (by decide) ?_
    refine x_isub (pc := 56) dX3_append_56 ?_
    exact x_iret (pc := 57) rfl rfl dX3_append_57 (Nat.zero_le _) (Nat.zero_le _)
  · refine x_iconst (pc := 9) (a := -1) dX3_append_9 (by decide) ?_
    exact x_iret (pc := 10) rfl rfl dX3_append_10 (Nat.zero_le _) (Nat.zero_le _)

set_option maxRecDepth 100000 in
set_option maxHeartbeats 4000000 in
theorem ct_X4_ownerOf (p2 : Int32) (p3 : Int32) (p4 : Int32) (M : xM)  : Ct iX4_ownerOf (rI M) [(.ref 146), (.ref 72), (.int p2), (.int p3), (.int p4)] (xwd M) (fX4_ownerOf p2 p3 p4 M) := by
  refine Ct.of' (L := [some (.ref 146), some (.ref 72), some (.int p2), some (.int p3), some (.int p4), none, none, none, none]) 4 rfl (by decide +kernel) (Nat.le_of_ble_eq_true rfl) rfl ?_
  unfold fX4_ownerOf
  refine x_iconst (pc := 0) (a := -1) dX4_ownerOf_0 (by decide) ?_
  refine x_istore (pc := 1) (L' := [some (.ref 146), some (.ref 72), some (.int p2), some (.int p3), some (.int p4), some (.int (-1:Int32)), none, none, none]) dX4_ownerOf_1 (Nat.le_of_ble_eq_true rfl) rfl rfl ?_
  refine x_iconst (pc := 3) (a := 0) dX4_ownerOf_3 (by decide) ?_
  refine x_istore (pc := 4) (L' := [some (.ref 146), some (.ref 72), some (.int p2), some (.int p3), some (.int p4), some (.int (-1:Int32)), some (.int (0:Int32)), none, none]) dX4_ownerOf_4 (Nat.le_of_ble_eq_true rfl) rfl rfl ?_
  refine x_iconst (pc := 6) (a := 0) dX4_ownerOf_6 (by decide) ?_
  refine x_istore (pc := 7) (L' := [some (.ref 146), some (.ref 72), some (.int p2), some (.int p3), some (.int p4), some (.int (-1:Int32)), some (.int (0:Int32)), some (.int (0:Int32)), none]) dX4_ownerOf_7 (Nat.le_of_ble_eq_true rfl) rfl rfl ?_
  refine SP.mask (pc := 9) [true, true, true, true, true, true, true, true, false] (L' := [some (.ref 146), some (.ref 72), some (.int p2), some (.int p3), some (.int p4), some (.int (-1:Int32)), some (.int (0:Int32)), some (.int (0:Int32)), none]) rfl ?_
  refine SP.lp (pc := 9) (fun (s1 : (Int32 × Int32 × Int32)) => [some (.ref 146), some (.ref 72), some (.int p2), some (.int p3), some (.int p4), some (.int s1.1), some (.int s1.2.1), some (.int s1.2.2), none]) (fun (s1 : (Int32 × Int32 × Int32)) => xwd M) (fun s1 kk2 hkk2 => ?_) xfu ((-1:Int32), (0:Int32), (0:Int32))
  try dsimp only
  refine x_iload (pc := 9) dX4_ownerOf_9 rfl ?_
  refine x_bipush (pc := 11) (a := 16) dX4_ownerOf_11 (by decide) ?_
  refine x_icmp_ge (pc := 13) (tgt := 75) dX4_ownerOf_13 (by decide) (fun h3 => ?_) (fun h3 => ?_)
  · refine x_iload (pc := 75) dX4_ownerOf_75 rfl ?_
    exact x_iret (pc := 77) rfl rfl dX4_ownerOf_77 (Nat.zero_le _) (Nat.zero_le _)
  · refine x_aload_n (pc := 16) dX4_ownerOf_16 rfl ?_
    refine x_iload (pc := 17) dX4_ownerOf_17 rfl ?_
    refine x_iload (pc := 19) dX4_ownerOf_19 rfl ?_
    refine cV_I (pc := 21) (As := [(.int s1.2.2), (.int p4)]) (rest := []) (ct_X0_toldOf s1.2.2 p4 M) rfl xC0 rfl (by decide) ml_X4_22 meX0_toldOf rfl ⟨prX0_toldOf, (Nat.le_of_ble_eq_true rfl), (Nat.le_of_ble_eq_true rfl), rfl, rfl⟩ (Nat.le_of_ble_eq_true rfl) dX4_ownerOf_21 (fun v4 => ?_)
    refine x_iconst (pc := 24) (a := -1) dX4_ownerOf_24 (by decide) ?_
    refine x_icmp_ne (pc := 25) (tgt := 31) dX4_ownerOf_25 (by decide) (fun h5 => ?_) (fun h5 => ?_)
    · refine x_iload_n (pc := 31) dX4_ownerOf_31 rfl ?_
      refine x_iload_n (pc := 32) dX4_ownerOf_32 rfl ?_
      refine x_aload_n (pc := 33) dX4_ownerOf_33 rfl ?_
      refine m_getR (pc := 34) (t := 1) xC4 0 fl_X4_17 rfl (by decide) rfl (by decide) rfl dX4_ownerOf_34 ?_
      refine m_getR (pc := 37) (t := 2) xC6 0 fl_X4_28 rfl (by decide) rfl (by decide) rfl dX4_ownerOf_37 ?_
      refine x_iload (pc := 40) dX4_ownerOf_40 rfl ?_
      refine m_aald (pc := 42) (t0 := 3) rfl (by decide) rfl (fun _ => rfl) rfl (xE_pl _) dX4_ownerOf_42 (fun hb6 => ?_)
      refine cSN_I (pc := 43) (As := [(.int p2), (.int p3), (.ref (8 + 4 * s1.2.2.toNatClampNeg))]) (rest := []) (ct_X9_squaredDistance p2 p3 s1.2.2.toNatClampNeg M (xinb_lt hb6)) rfl ml_X4_34 meX9_squaredDistance rfl ⟨prX9_squaredDistance, (Nat.le_of_ble_eq_true rfl), (Nat.le_of_ble_eq_true rfl), rfl, rfl⟩ (Nat.le_of_ble_eq_true rfl) dX4_ownerOf_43 (fun v7 => ?_)
      refine x_istore (pc := 46) (L' := [some (.ref 146), some (.ref 72), some (.int p2), some (.int p3), some (.int p4), some (.int s1.1), some (.int s1.2.1), some (.int s1.2.2), some (.int v7)]) dX4_ownerOf_46 (Nat.le_of_ble_eq_true rfl) rfl rfl ?_
      refine x_iload (pc := 48) dX4_ownerOf_48 rfl ?_
      refine x_iconst (pc := 50) (a := -1) dX4_ownerOf_50 (by decide) ?_
      refine x_icmp_eq (pc := 51) (tgt := 61) dX4_ownerOf_51 (by decide) (fun h8 => ?_) (fun h8 => ?_)
      · refine x_iload (pc := 61) dX4_ownerOf_61 rfl ?_
        refine x_istore (pc := 63) (L' := [some (.ref 146), some (.ref 72), some (.int p2), some (.int p3), some (.int p4), some (.int s1.2.2), some (.int s1.2.1), some (.int s1.2.2), some (.int v7)]) dX4_ownerOf_63 (Nat.le_of_ble_eq_true rfl) rfl rfl ?_
        refine x_iload (pc := 65) dX4_ownerOf_65 rfl ?_
        refine x_istore (pc := 67) (L' := [some (.ref 146), some (.ref 72), some (.int p2), some (.int p3), some (.int p4), some (.int s1.2.2), some (.int v7), some (.int s1.2.2), some (.int v7)]) dX4_ownerOf_67 (Nat.le_of_ble_eq_true rfl) rfl rfl ?_
        refine x_iinc (pc := 69) (b := (s1.2.2 + 1)) (L' := [some (.ref 146), some (.ref 72), some (.int p2), some (.int p3), some (.int p4), some (.int s1.2.2), some (.int v7), some (.int (s1.2.2 + 1)), some (.int v7)]) dX4_ownerOf_69 rfl rfl (Nat.le_of_ble_eq_true rfl) rfl rfl ?_
        refine x_goto (pc := 72) (tgt := 9) dX4_ownerOf_72 (by decide) ?_
        refine SP.mask (pc := 9) [true, true, true, true, true, true, true, true, false] (L' := [some (.ref 146), some (.ref 72), some (.int p2), some (.int p3), some (.int p4), some (.int s1.2.2), some (.int v7), some (.int (s1.2.2 + 1)), none]) rfl ?_
        have hz := hkk2 (s1.2.2, v7, (s1.2.2 + 1))
        try dsimp only at hz
        exact hz
      · refine x_iload (pc := 54) dX4_ownerOf_54 rfl ?_
        refine x_iload (pc := 56) dX4_ownerOf_56 rfl ?_
        refine x_icmp_ge (pc := 58) (tgt := 69) dX4_ownerOf_58 (by decide) (fun h9 => ?_) (fun h9 => ?_)
        · refine x_iinc (pc := 69) (b := (s1.2.2 + 1)) (L' := [some (.ref 146), some (.ref 72), some (.int p2), some (.int p3), some (.int p4), some (.int s1.1), some (.int s1.2.1), some (.int (s1.2.2 + 1)), some (.int v7)]) dX4_ownerOf_69 rfl rfl (Nat.le_of_ble_eq_true rfl) rfl rfl ?_
          refine x_goto (pc := 72) (tgt := 9) dX4_ownerOf_72 (by decide) ?_
          refine SP.mask (pc := 9) [true, true, true, true, true, true, true, true, false] (L' := [some (.ref 146), some (.ref 72), some (.int p2), some (.int p3), some (.int p4), some (.int s1.1), some (.int s1.2.1), some (.int (s1.2.2 + 1)), none]) rfl ?_
          have hz := hkk2 (s1.1, s1.2.1, (s1.2.2 + 1))
          try dsimp only at hz
          exact hz
        · refine x_iload (pc := 61) dX4_ownerOf_61 rfl ?_
          refine x_istore (pc := 63) (L' := [some (.ref 146), some (.ref 72), some (.int p2), some (.int p3), some (.int p4), some (.int s1.2.2), some (.int s1.2.1), some (.int s1.2.2), some (.int v7)]) dX4_ownerOf_63 (Nat.le_of_ble_eq_true rfl) rfl rfl ?_
          refine x_iload (pc := 65) dX4_ownerOf_65 rfl ?_
          refine x_istore (pc := 67) (L' := [some (.ref 146), some (.ref 72), some (.int p2), some (.int p3), some (.int p4), some (.int s1.2.2), some (.int v7), some (.int s1.2.2), some (.int v7)]) dX4_ownerOf_67 (Nat.le_of_ble_eq_true rfl) rfl rfl ?_
          refine x_iinc (pc := 69) (b := (s1.2.2 + 1)) (L' := [some (.ref 146), some (.ref 72), some (.int p2), some (.int p3), some (.int p4), some (.int s1.2.2), some (.int v7), some (.int (s1.2.2 + 1)), some (.int v7)]) dX4_ownerOf_69 rfl rfl (Nat.le_of_ble_eq_true rfl) rfl rfl ?_
          refine x_goto (pc := 72) (tgt := 9) dX4_ownerOf_72 (by decide) ?_
          refine SP.mask (pc := 9) [true, true, true, true, true, true, true, true, false] (L' := [some (.ref 146), some (.ref 72), some (.int p2), some (.int p3), some (.int p4), some (.int s1.2.2), some (.int v7), some (.int (s1.2.2 + 1)), none]) rfl ?_
          have hz := hkk2 (s1.2.2, v7, (s1.2.2 + 1))
          try dsimp only at hz
          exact hz
    · refine x_goto (pc := 28) (tgt := 69) dX4_ownerOf_28 (by decide) ?_
      refine x_iinc (pc := 69) (b := (s1.2.2 + 1)) (L' := [some (.ref 146), some (.ref 72), some (.int p2), some (.int p3), some (.int p4), some (.int s1.1), some (.int s1.2.1), some (.int (s1.2.2 + 1)), none]) dX4_ownerOf_69 rfl rfl (Nat.le_of_ble_eq_true rfl) rfl rfl ?_
      refine x_goto (pc := 72) (tgt := 9) dX4_ownerOf_72 (by decide) ?_
      have hz := hkk2 (s1.1, s1.2.1, (s1.2.2 + 1))
      try dsimp only at hz
      exact hz

set_option maxRecDepth 100000 in
set_option maxHeartbeats 4000000 in
theorem ct_X4_countOwned (p2 : Int32) (p3 : Int32) (M : xM)  : Ct iX4_countOwned (rI M) [(.ref 146), (.ref 72), (.int p2), (.int p3)] (xwd M) (fX4_countOwned p2 p3 M) := by
  refine Ct.of' (L := [some (.ref 146), some (.ref 72), some (.int p2), some (.int p3), none, none]) 2 rfl (by decide +kernel) (Nat.le_of_ble_eq_true rfl) rfl ?_
  unfold fX4_countOwned
  refine x_iconst (pc := 0) (a := 0) dX4_countOwned_0 (by decide) ?_
  refine x_istore (pc := 1) (L' := [some (.ref 146), some (.ref 72), some (.int p2), some (.int p3), some (.int (0:Int32)), none]) dX4_countOwned_1 (Nat.le_of_ble_eq_true rfl) rfl rfl ?_
  refine x_aload_n (pc := 3) dX4_countOwned_3 rfl ?_
  refine x_iload_n (pc := 4) dX4_countOwned_4 rfl ?_
  refine x_iload_n (pc := 5) dX4_countOwned_5 rfl ?_
  refine cV_I (pc := 6) (As := [(.int p2), (.int p3)]) (rest := []) (ct_X0_toldOf p2 p3 M) rfl xC0 rfl (by decide) ml_X4_22 meX0_toldOf rfl ⟨prX0_toldOf, (Nat.le_of_ble_eq_true rfl), (Nat.le_of_ble_eq_true rfl), rfl, rfl⟩ (Nat.le_of_ble_eq_true rfl) dX4_countOwned_6 (fun v1 => ?_)
  refine x_iconst (pc := 9) (a := -1) dX4_countOwned_9 (by decide) ?_
  refine x_icmp_ne (pc := 10) (tgt := 16) dX4_countOwned_10 (by decide) (fun h2 => ?_) (fun h2 => ?_)
  · refine x_iconst (pc := 16) (a := 0) dX4_countOwned_16 (by decide) ?_
    refine x_istore (pc := 17) (L' := [some (.ref 146), some (.ref 72), some (.int p2), some (.int p3), some (.int (0:Int32)), some (.int (0:Int32))]) dX4_countOwned_17 (Nat.le_of_ble_eq_true rfl) rfl rfl ?_
    refine SP.mask (pc := 19) [true, true, true, true, true, true] (L' := [some (.ref 146), some (.ref 72), some (.int p2), some (.int p3), some (.int (0:Int32)), some (.int (0:Int32))]) rfl ?_
    refine SP.lp (pc := 19) (fun (s3 : (Int32 × Int32)) => [some (.ref 146), some (.ref 72), some (.int p2), some (.int p3), some (.int s3.1), some (.int s3.2)]) (fun (s3 : (Int32 × Int32)) => xwd M) (fun s3 kk4 hkk4 => ?_) xfu ((0:Int32), (0:Int32))
    try dsimp only
    refine x_iload (pc := 19) dX4_countOwned_19 rfl ?_
    refine x_bipush (pc := 21) (a := 100) dX4_countOwned_21 (by decide) ?_
    refine x_icmp_ge (pc := 23) (tgt := 55) dX4_countOwned_23 (by decide) (fun h5 => ?_) (fun h5 => ?_)
    · refine x_iload (pc := 55) dX4_countOwned_55 rfl ?_
      exact x_iret (pc := 57) rfl rfl dX4_countOwned_57 (Nat.zero_le _) (Nat.zero_le _)
    · refine x_aload_n (pc := 26) dX4_countOwned_26 rfl ?_
      refine x_aload_n (pc := 27) dX4_countOwned_27 rfl ?_
      refine x_iload (pc := 28) dX4_countOwned_28 rfl ?_
      refine x_bipush (pc := 30) (a := 10) dX4_countOwned_30 (by decide) ?_
      refine x_irem (pc := 32) dX4_countOwned_32 (fun hb6 => ?_)
      refine x_iload (pc := 33) dX4_countOwned_33 rfl ?_
      refine x_bipush (pc := 35) (a := 10) dX4_countOwned_35 (by decide) ?_
      refine x_idiv (pc := 37) dX4_countOwned_37 (fun hb7 => ?_)
      refine x_iload_n (pc := 38) dX4_countOwned_38 rfl ?_
      refine cV_I (pc := 39) (As := [(.ref 72), (.int (s3.2 - s3.2 / (10:Int32) * (10:Int32))), (.int (s3.2 / (10:Int32))), (.int p3)]) (rest := []) (ct_X4_ownerOf (s3.2 - s3.2 / (10:Int32) * (10:Int32)) (s3.2 / (10:Int32)) p3 M) rfl xC4 rfl (by decide) ml_X4_38 meX4_ownerOf rfl ⟨prX4_ownerOf, (Nat.le_of_ble_eq_true rfl), (Nat.le_of_ble_eq_true rfl), rfl, rfl⟩ (Nat.le_of_ble_eq_true rfl) dX4_countOwned_39 (fun v8 => ?_)
      refine x_iload_n (pc := 42) dX4_countOwned_42 rfl ?_
      refine x_icmp_ne (pc := 43) (tgt := 49) dX4_countOwned_43 (by decide) (fun h9 => ?_) (fun h9 => ?_)
      · refine x_iinc (pc := 49) (b := (s3.2 + 1)) (L' := [some (.ref 146), some (.ref 72), some (.int p2), some (.int p3), some (.int s3.1), some (.int (s3.2 + 1))]) dX4_countOwned_49 rfl rfl (Nat.le_of_ble_eq_true rfl) rfl rfl ?_
        refine x_goto (pc := 52) (tgt := 19) dX4_countOwned_52 (by decide) ?_
        have hz := hkk4 (s3.1, (s3.2 + 1))
        try dsimp only at hz
        exact hz
      · refine x_iinc (pc := 46) (b := (s3.1 + 1)) (L' := [some (.ref 146), some (.ref 72), some (.int p2), some (.int p3), some (.int (s3.1 + 1)), some (.int s3.2)]) dX4_countOwned_46 rfl rfl (Nat.le_of_ble_eq_true rfl) rfl rfl ?_
        refine x_iinc (pc := 49) (b := (s3.2 + 1)) (L' := [some (.ref 146), some (.ref 72), some (.int p2), some (.int p3), some (.int (s3.1 + 1)), some (.int (s3.2 + 1))]) dX4_countOwned_49 rfl rfl (Nat.le_of_ble_eq_true rfl) rfl rfl ?_
        refine x_goto (pc := 52) (tgt := 19) dX4_countOwned_52 (by decide) ?_
        have hz := hkk4 ((s3.1 + 1), (s3.2 + 1))
        try dsimp only at hz
        exact hz
  · refine x_iload (pc := 13) dX4_countOwned_13 rfl ?_
    exact x_iret (pc := 15) rfl rfl dX4_countOwned_15 (Nat.zero_le _) (Nat.zero_le _)

set_option maxRecDepth 100000 in
set_option maxHeartbeats 4000000 in
theorem ct_X4_rainOf (k2 : Nat) (p3 : Int32) (M : xM) (hk2 : k2 < 8) : Ct iX4_rainOf (rI M) [(.ref 146), (.ref 72), (.ref (148 + 2 * k2)), (.int p3)] (xwd M) (fX4_rainOf k2 p3 M) := by
  refine Ct.of' (L := [some (.ref 146), some (.ref 72), some (.ref (148 + 2 * k2)), some (.int p3), none, none, none]) 3 rfl (by decide +kernel) (Nat.le_of_ble_eq_true rfl) rfl ?_
  unfold fX4_rainOf
  refine x_iconst (pc := 0) (a := 0) dX4_rainOf_0 (by decide) ?_
  refine x_istore (pc := 1) (L' := [some (.ref 146), some (.ref 72), some (.ref (148 + 2 * k2)), some (.int p3), some (.int (0:Int32)), none, none]) dX4_rainOf_1 (Nat.le_of_ble_eq_true rfl) rfl rfl ?_
  refine x_aload_n (pc := 3) dX4_rainOf_3 rfl ?_
  refine m_getI (pc := 4) xC8 1 fl_X4_42 (xVa hk2) (by decide) rfl (by decide) rfl dX4_rainOf_4 ?_
  refine x_if_ne (pc := 7) (tgt := 12) dX4_rainOf_7 (by decide) (fun h1 => ?_) (fun h1 => ?_)
  · refine x_iconst (pc := 12) (a := 0) dX4_rainOf_12 (by decide) ?_
    refine x_istore (pc := 13) (L' := [some (.ref 146), some (.ref 72), some (.ref (148 + 2 * k2)), some (.int p3), some (.int (0:Int32)), some (.int (0:Int32)), none]) dX4_rainOf_13 (Nat.le_of_ble_eq_true rfl) rfl rfl ?_
    refine SP.mask (pc := 15) [true, true, true, true, true, true, false] (L' := [some (.ref 146), some (.ref 72), some (.ref (148 + 2 * k2)), some (.int p3), some (.int (0:Int32)), some (.int (0:Int32)), none]) rfl ?_
    refine SP.lp (pc := 15) (fun (s2 : (Int32 × Int32)) => [some (.ref 146), some (.ref 72), some (.ref (148 + 2 * k2)), some (.int p3), some (.int s2.1), some (.int s2.2), none]) (fun (s2 : (Int32 × Int32)) => xwd M) (fun s2 kk3 hkk3 => ?_) xfu ((0:Int32), (0:Int32))
    try dsimp only
    refine x_iload (pc := 15) dX4_rainOf_15 rfl ?_
    refine x_bipush (pc := 17) (a := 100) dX4_rainOf_17 (by decide) ?_
    refine x_icmp_ge (pc := 19) (tgt := 76) dX4_rainOf_19 (by decide) (fun h4 => ?_) (fun h4 => ?_)
    · refine x_iload (pc := 76) dX4_rainOf_76 rfl ?_
      exact x_iret (pc := 78) rfl rfl dX4_rainOf_78 (Nat.zero_le _) (Nat.zero_le _)
    · refine x_aload_n (pc := 22) dX4_rainOf_22 rfl ?_
      refine m_getR (pc := 23) (t := (148 + 2 * k2 + 1)) xC8 0 fl_X4_46 (xVa hk2) (by decide) rfl (by decide) rfl dX4_rainOf_23 ?_
      refine x_iload (pc := 26) dX4_rainOf_26 rfl ?_
      refine m_zald (pc := 28) (xVaA hk2) (xVaN hk2) dX4_rainOf_28 (fun hb5 => ?_)
      refine x_if_eq (pc := 29) (tgt := 70) dX4_rainOf_29 (by decide) (fun h6 => ?_) (fun h6 => ?_)
      · refine x_iinc (pc := 70) (b := (s2.2 + 1)) (L' := [some (.ref 146), some (.ref 72), some (.ref (148 + 2 * k2)), some (.int p3), some (.int s2.1), some (.int (s2.2 + 1)), none]) dX4_rainOf_70 rfl rfl (Nat.le_of_ble_eq_true rfl) rfl rfl ?_
        refine x_goto (pc := 73) (tgt := 15) dX4_rainOf_73 (by decide) ?_
        have hz := hkk3 (s2.1, (s2.2 + 1))
        try dsimp only at hz
        exact hz
      · refine x_aload_n (pc := 32) dX4_rainOf_32 rfl ?_
        refine x_aload_n (pc := 33) dX4_rainOf_33 rfl ?_
        refine x_iload (pc := 34) dX4_rainOf_34 rfl ?_
        refine x_bipush (pc := 36) (a := 10) dX4_rainOf_36 (by decide) ?_
        refine x_irem (pc := 38) dX4_rainOf_38 (fun hb7 => ?_)
        refine x_iload (pc := 39) dX4_rainOf_39 rfl ?_
        refine x_bipush (pc := 41) (a := 10) dX4_rainOf_41 (by decide) ?_
        refine x_idiv (pc := 43) dX4_rainOf_43 (fun hb8 => ?_)
        refine x_iload_n (pc := 44) dX4_rainOf_44 rfl ?_
        refine cV_I (pc := 45) (As := [(.ref 72), (.int (s2.2 - s2.2 / (10:Int32) * (10:Int32))), (.int (s2.2 / (10:Int32))), (.int p3)]) (rest := []) (ct_X4_ownerOf (s2.2 - s2.2 / (10:Int32) * (10:Int32)) (s2.2 / (10:Int32)) p3 M) rfl xC4 rfl (by decide) ml_X4_38 meX4_ownerOf rfl ⟨prX4_ownerOf, (Nat.le_of_ble_eq_true rfl), (Nat.le_of_ble_eq_true rfl), rfl, rfl⟩ (Nat.le_of_ble_eq_true rfl) dX4_rainOf_45 (fun v9 => ?_)
        refine x_istore (pc := 48) (L' := [some (.ref 146), some (.ref 72), some (.ref (148 + 2 * k2)), some (.int p3), some (.int s2.1), some (.int s2.2), some (.int v9)]) dX4_rainOf_48 (Nat.le_of_ble_eq_true rfl) rfl rfl ?_
        refine x_iload (pc := 50) dX4_rainOf_50 rfl ?_
        refine x_iconst (pc := 52) (a := -1) dX4_rainOf_52 (by decide) ?_
        refine x_icmp_ne (pc := 53) (tgt := 58) dX4_rainOf_53 (by decide) (fun h10 => ?_) (fun h10 => ?_)
        · refine x_iload (pc := 58) dX4_rainOf_58 rfl ?_
          refine x_aload_n (pc := 60) dX4_rainOf_60 rfl ?_
          refine x_iload (pc := 61) dX4_rainOf_61 rfl ?_
          refine x_iload_n (pc := 63) dX4_rainOf_63 rfl ?_
          refine cV_I (pc := 64) (As := [(.int v9), (.int p3)]) (rest := [(.int s2.1)]) (ct_X0_toldOf v9 p3 M) rfl xC0 rfl (by decide) ml_X4_22 meX0_toldOf rfl ⟨prX0_toldOf, (Nat.le_of_ble_eq_true rfl), (Nat.le_of_ble_eq_true rfl), rfl, rfl⟩ (Nat.le_of_ble_eq_true rfl) dX4_rainOf_64 (fun v11 => ?_)
          refine x_iadd (pc := 67) dX4_rainOf_67 ?_
          refine SP.bdi (fun x12 e13 => ?_)
          refine x_istore (pc := 68) (L' := [some (.ref 146), some (.ref 72), some (.ref (148 + 2 * k2)), some (.int p3), some (.int x12), some (.int s2.2), some (.int v9)]) dX4_rainOf_68 (Nat.le_of_ble_eq_true rfl) rfl rfl ?_
          refine x_iinc (pc := 70) (b := (s2.2 + 1)) (L' := [some (.ref 146), some (.ref 72), some (.ref (148 + 2 * k2)), some (.int p3), some (.int x12), some (.int (s2.2 + 1)), some (.int v9)]) dX4_rainOf_70 rfl rfl (Nat.le_of_ble_eq_true rfl) rfl rfl ?_
          refine x_goto (pc := 73) (tgt := 15) dX4_rainOf_73 (by decide) ?_
          refine SP.mask (pc := 15) [true, true, true, true, true, true, false] (L' := [some (.ref 146), some (.ref 72), some (.ref (148 + 2 * k2)), some (.int p3), some (.int x12), some (.int (s2.2 + 1)), none]) rfl ?_
          have hz := hkk3 (x12, (s2.2 + 1))
          try dsimp only at hz
          exact hz
        · refine x_iconst (pc := 56) (a := -1) dX4_rainOf_56 (by decide) ?_
          exact x_iret (pc := 57) rfl rfl dX4_rainOf_57 (Nat.zero_le _) (Nat.zero_le _)
  · refine x_iconst (pc := 10) (a := -1) dX4_rainOf_10 (by decide) ?_
    exact x_iret (pc := 11) rfl rfl dX4_rainOf_11 (Nat.zero_le _) (Nat.zero_le _)

set_option maxRecDepth 100000 in
set_option maxHeartbeats 4000000 in
theorem ct_X4_flowOf (k2 : Nat) (p3 : Int32) (M : xM) (hk2 : k2 < 8) : Ct iX4_flowOf (rJ M) [(.ref 146), (.ref 72), (.ref (148 + 2 * k2)), (.int p3)] (xwd M) (fX4_flowOf k2 p3 M) := by
  refine Ct.of' (L := [some (.ref 146), some (.ref 72), some (.ref (148 + 2 * k2)), some (.int p3), none, none, none, none, none]) 5 rfl (by decide +kernel) (Nat.le_of_ble_eq_true rfl) rfl ?_
  unfold fX4_flowOf
  refine x_lconst (pc := 0) (a := 0) dX4_flowOf_0 (by decide) ?_
  refine x_lstore (pc := 1) (L' := [some (.ref 146), some (.ref 72), some (.ref (148 + 2 * k2)), some (.int p3), some (.long (0:Int64)), none, none, none, none]) dX4_flowOf_1 (Nat.le_of_ble_eq_true rfl) rfl rfl ?_
  refine x_iconst (pc := 3) (a := 0) dX4_flowOf_3 (by decide) ?_
  refine x_istore (pc := 4) (L' := [some (.ref 146), some (.ref 72), some (.ref (148 + 2 * k2)), some (.int p3), some (.long (0:Int64)), none, some (.int (0:Int32)), none, none]) dX4_flowOf_4 (Nat.le_of_ble_eq_true rfl) rfl rfl ?_
  refine SP.mask (pc := 6) [true, true, true, true, true, false, true, false, false] (L' := [some (.ref 146), some (.ref 72), some (.ref (148 + 2 * k2)), some (.int p3), some (.long (0:Int64)), none, some (.int (0:Int32)), none, none]) rfl ?_
  refine SP.lp (pc := 6) (fun (s1 : (Int64 × Int32)) => [some (.ref 146), some (.ref 72), some (.ref (148 + 2 * k2)), some (.int p3), some (.long s1.1), none, some (.int s1.2), none, none]) (fun (s1 : (Int64 × Int32)) => xwd M) (fun s1 kk2 hkk2 => ?_) xfu ((0:Int64), (0:Int32))
  try dsimp only
  refine x_iload (pc := 6) dX4_flowOf_6 rfl ?_
  refine x_bipush (pc := 8) (a := 8) dX4_flowOf_8 (by decide) ?_
  refine x_icmp_ge (pc := 10) (tgt := 63) dX4_flowOf_10 (by decide) (fun h3 => ?_) (fun h3 => ?_)
  · refine x_lload (pc := 63) dX4_flowOf_63 rfl ?_
    exact x_lret (pc := 65) rfl rfl dX4_flowOf_65 (Nat.zero_le _) (Nat.zero_le _)
  · refine x_aload_n (pc := 13) dX4_flowOf_13 rfl ?_
    refine m_getR (pc := 14) (t := 1) xC4 0 fl_X4_17 rfl (by decide) rfl (by decide) rfl dX4_flowOf_14 ?_
    refine x_iconst (pc := 17) (a := 4) dX4_flowOf_17 (by decide) ?_
    refine x_iload (pc := 18) dX4_flowOf_18 rfl ?_
    refine x_iadd (pc := 20) dX4_flowOf_20 ?_
    refine cV_I (pc := 21) (As := [(.int ((4:Int32) + s1.2))]) (rest := []) (ct_X6_rule ((4:Int32) + s1.2) M) rfl xC6 rfl (by decide) ml_X4_50 meX6_rule rfl ⟨prX6_rule, (Nat.le_of_ble_eq_true rfl), (Nat.le_of_ble_eq_true rfl), rfl, rfl⟩ (Nat.le_of_ble_eq_true rfl) dX4_flowOf_21 (fun v4 => ?_)
    refine x_i2l (pc := 24) dX4_flowOf_24 ?_
    refine x_lstore (pc := 25) (L' := [some (.ref 146), some (.ref 72), some (.ref (148 + 2 * k2)), some (.int p3), some (.long s1.1), none, some (.int s1.2), some (.long v4.toInt64), none]) dX4_flowOf_25 (Nat.le_of_ble_eq_true rfl) rfl rfl ?_
    refine x_lload (pc := 27) dX4_flowOf_27 rfl ?_
    refine x_lconst (pc := 29) (a := 0) dX4_flowOf_29 (by decide) ?_
    refine x_lcmp (pc := 30) dX4_flowOf_30 ?_
    refine x_if_eq (pc := 31) (tgt := 57) dX4_flowOf_31 (by decide) (fun h5 => ?_) (fun h5 => ?_)
    · refine x_iinc (pc := 57) (b := (s1.2 + 1)) (L' := [some (.ref 146), some (.ref 72), some (.ref (148 + 2 * k2)), some (.int p3), some (.long s1.1), none, some (.int (s1.2 + 1)), some (.long v4.toInt64), none]) dX4_flowOf_57 rfl rfl (Nat.le_of_ble_eq_true rfl) rfl rfl ?_
      refine x_goto (pc := 60) (tgt := 6) dX4_flowOf_60 (by decide) ?_
      refine SP.mask (pc := 6) [true, true, true, true, true, false, true, false, false] (L' := [some (.ref 146), some (.ref 72), some (.ref (148 + 2 * k2)), some (.int p3), some (.long s1.1), none, some (.int (s1.2 + 1)), none, none]) rfl ?_
      have hz := hkk2 (s1.1, (s1.2 + 1))
      try dsimp only at hz
      exact hz
    · refine x_lload (pc := 34) dX4_flowOf_34 rfl ?_
      refine x_lload (pc := 36) dX4_flowOf_36 rfl ?_
      refine x_iconst (pc := 38) (a := 0) dX4_flowOf_38 (by decide) ?_
      refine x_aload_n (pc := 39) dX4_flowOf_39 rfl ?_
      refine x_aload_n (pc := 40) dX4_flowOf_40 rfl ?_
      refine x_aload_n (pc := 41) dX4_flowOf_41 rfl ?_
      refine x_iload_n (pc := 42) dX4_flowOf_42 rfl ?_
      refine x_iload (pc := 43) dX4_flowOf_43 rfl ?_
      refine x_isub (pc := 45) dX4_flowOf_45 ?_
      refine cV_I (pc := 46) (As := [(.ref 72), (.ref (148 + 2 * k2)), (.int (p3 - s1.2))]) (rest := [(.int (0:Int32)), (.long v4.toInt64), (.long s1.1)]) (ct_X4_rainOf k2 (p3 - s1.2) M hk2) rfl xC4 rfl (by decide) ml_X4_54 meX4_rainOf rfl ⟨prX4_rainOf, (Nat.le_of_ble_eq_true rfl), (Nat.le_of_ble_eq_true rfl), rfl, rfl⟩ (Nat.le_of_ble_eq_true rfl) dX4_flowOf_46 (fun v6 => ?_)
      refine x_mmax (pc := 49) (xword 638 (by decide +kernel) rfl) (xword 388 (by decide +kernel) rfl) (xword 60 (by decide +kernel) rfl) (xword 389 (by decide +kernel) rfl) (Nat.le_of_ble_eq_true rfl) (Nat.le_of_ble_eq_true rfl) (Nat.zero_le _) (Nat.zero_le _) dX4_flowOf_49 ?_
      refine x_i2l (pc := 52) dX4_flowOf_52 ?_
      refine x_lmul (pc := 53) dX4_flowOf_53 ?_
      refine x_ladd (pc := 54) dX4_flowOf_54 ?_
      refine SP.bdl (fun x7 e8 => ?_)
      refine x_lstore (pc := 55) (L' := [some (.ref 146), some (.ref 72), some (.ref (148 + 2 * k2)), some (.int p3), some (.long x7), none, some (.int s1.2), some (.long v4.toInt64), none]) dX4_flowOf_55 (Nat.le_of_ble_eq_true rfl) rfl rfl ?_
      refine x_iinc (pc := 57) (b := (s1.2 + 1)) (L' := [some (.ref 146), some (.ref 72), some (.ref (148 + 2 * k2)), some (.int p3), some (.long x7), none, some (.int (s1.2 + 1)), some (.long v4.toInt64), none]) dX4_flowOf_57 rfl rfl (Nat.le_of_ble_eq_true rfl) rfl rfl ?_
      refine x_goto (pc := 60) (tgt := 6) dX4_flowOf_60 (by decide) ?_
      refine SP.mask (pc := 6) [true, true, true, true, true, false, true, false, false] (L' := [some (.ref 146), some (.ref 72), some (.ref (148 + 2 * k2)), some (.int p3), some (.long x7), none, some (.int (s1.2 + 1)), none, none]) rfl ?_
      have hz := hkk2 (x7, (s1.2 + 1))
      try dsimp only at hz
      exact hz

set_option maxRecDepth 100000 in
set_option maxHeartbeats 4000000 in
theorem ct_X5_gather (p2 : Int32) (p3 : Int32) (M : xM)  : Ct iX5_gather rIM [(.ref 142), (.ref 72), (.int p2), (.int p3)] (xwd M) (fX5_gather p2 p3 M) := by
  refine Ct.of' (L := [some (.ref 142), some (.ref 72), some (.int p2), some (.int p3), none, none]) 2 rfl (by decide +kernel) (Nat.le_of_ble_eq_true rfl) rfl ?_
  unfold fX5_gather
  refine x_aload_n (pc := 0) dX5_gather_0 rfl ?_
  refine m_getR (pc := 1) (t := 143) xC5 1 fl_X5_12 rfl (by decide) rfl (by decide) rfl dX5_gather_1 ?_
  refine x_iconst (pc := 4) (a := 0) dX5_gather_4 (by decide) ?_
  refine m_putI (pc := 5) xC2 2 fl_X5_22 (xCi_T (Or.inl rfl)) (by decide) rfl (by decide) rfl rfl rfl dX5_gather_5 ?_
  refine SP.bdm (fun m1 e2 => ?_)
  refine x_iload_n (pc := 8) dX5_gather_8 rfl ?_
  refine cSN_I (pc := 9) (As := [(.int p2)]) (rest := []) (ct_X9_isPlace p2 m1) rfl ml_X5_26 meX9_isPlace rfl ⟨prX9_isPlace, (Nat.le_of_ble_eq_true rfl), (Nat.le_of_ble_eq_true rfl), rfl, rfl⟩ (Nat.le_of_ble_eq_true rfl) dX5_gather_9 (fun v3 => ?_)
  refine x_if_eq (pc := 12) (tgt := 46) dX5_gather_12 (by decide) (fun h4 => ?_) (fun h4 => ?_)
  · refine x_iconst (pc := 46) (a := 0) dX5_gather_46 (by decide) ?_
    exact x_iret (pc := 47) rfl rfl dX5_gather_47 (Nat.zero_le _) (Nat.zero_le _)
  · refine x_aload_n (pc := 15) dX5_gather_15 rfl ?_
    refine m_getR (pc := 16) (t := 1) xC5 0 fl_X5_18 rfl (by decide) rfl (by decide) rfl dX5_gather_16 ?_
    refine m_getR (pc := 19) (t := 2) xC6 0 fl_X5_30 rfl (by decide) rfl (by decide) rfl dX5_gather_19 ?_
    refine x_iload_n (pc := 22) dX5_gather_22 rfl ?_
    refine m_aald (pc := 23) (t0 := 3) rfl (by decide) rfl (fun _ => rfl) rfl (xE_pl _) dX5_gather_23 (fun hb5 => ?_)
    refine cV_I (pc := 24) (As := []) (rest := []) (ct_X7_isDailyGauge p2.toNatClampNeg m1 (xinb_lt hb5)) rfl xC7 (xPl (xinb_lt hb5)) (by decide) ml_X5_36 meX7_isDailyGauge rfl ⟨prX7_isDailyGauge, (Nat.le_of_ble_eq_true rfl), (Nat.le_of_ble_eq_true rfl), rfl, rfl⟩ (Nat.le_of_ble_eq_true rfl) dX5_gather_24 (fun v6 => ?_)
    refine x_if_eq (pc := 27) (tgt := 46) dX5_gather_27 (by decide) (fun h7 => ?_) (fun h7 => ?_)
    · refine x_iconst (pc := 46) (a := 0) dX5_gather_46 (by decide) ?_
      exact x_iret (pc := 47) rfl rfl dX5_gather_47 (Nat.zero_le _) (Nat.zero_le _)
    · refine x_iload_n (pc := 30) dX5_gather_30 rfl ?_
      refine x_aload_n (pc := 31) dX5_gather_31 rfl ?_
      refine m_getR (pc := 32) (t := 1) xC5 0 fl_X5_18 rfl (by decide) rfl (by decide) rfl dX5_gather_32 ?_
      refine m_getR (pc := 35) (t := 2) xC6 0 fl_X5_30 rfl (by decide) rfl (by decide) rfl dX5_gather_35 ?_
      refine x_iload_n (pc := 38) dX5_gather_38 rfl ?_
      refine m_aald (pc := 39) (t0 := 3) rfl (by decide) rfl (fun _ => rfl) rfl (xE_pl _) dX5_gather_39 (fun hb8 => ?_)
      refine m_getI (pc := 40) xC7 4 fl_X5_42 (xPl (xinb_lt hb8)) (by decide) rfl (by decide) rfl dX5_gather_40 ?_
      refine x_icmp_ge (pc := 43) (tgt := 48) dX5_gather_43 (by decide) (fun h9 => ?_) (fun h9 => ?_)
      · refine x_aload_n (pc := 48) dX5_gather_48 rfl ?_
        refine m_getR (pc := 49) (t := 1) xC5 0 fl_X5_18 rfl (by decide) rfl (by decide) rfl dX5_gather_49 ?_
        refine m_getR (pc := 52) (t := 2) xC6 0 fl_X5_30 rfl (by decide) rfl (by decide) rfl dX5_gather_52 ?_
        refine x_iload_n (pc := 55) dX5_gather_55 rfl ?_
        refine m_aald (pc := 56) (t0 := 3) rfl (by decide) rfl (fun _ => rfl) rfl (xE_pl _) dX5_gather_56 (fun hb10 => ?_)
        refine x_astore (pc := 57) (L' := [some (.ref 142), some (.ref 72), some (.int p2), some (.int p3), some (.ref (8 + 4 * p2.toNatClampNeg)), none]) dX5_gather_57 (Nat.le_of_ble_eq_true rfl) rfl rfl ?_
        refine x_iconst (pc := 59) (a := 0) dX5_gather_59 (by decide) ?_
        refine x_istore (pc := 60) (L' := [some (.ref 142), some (.ref 72), some (.int p2), some (.int p3), some (.ref (8 + 4 * p2.toNatClampNeg)), some (.int (0:Int32))]) dX5_gather_60 (Nat.le_of_ble_eq_true rfl) rfl rfl ?_
        refine SP.mask (pc := 62) [true, true, true, true, true, true] (L' := [some (.ref 142), some (.ref 72), some (.int p2), some (.int p3), some (.ref (8 + 4 * p2.toNatClampNeg)), some (.int (0:Int32))]) rfl ?_
        refine SP.lp (pc := 62) (fun (s11 : (Int32 × xM)) => [some (.ref 142), some (.ref 72), some (.int p2), some (.int p3), some (.ref (8 + 4 * p2.toNatClampNeg)), some (.int s11.1)]) (fun (s11 : (Int32 × xM)) => xwd s11.2) (fun s11 kk12 hkk12 => ?_) xfu ((0:Int32), m1)
        try dsimp only
        refine x_iload (pc := 62) dX5_gather_62 rfl ?_
        refine x_bipush (pc := 64) (a := 16) dX5_gather_64 (by decide) ?_
        refine x_icmp_ge (pc := 66) (tgt := 124) dX5_gather_66 (by decide) (fun h13 => ?_) (fun h13 => ?_)
        · refine x_aload_n (pc := 124) dX5_gather_124 rfl ?_
          refine m_getR (pc := 125) (t := 143) xC5 1 fl_X5_12 rfl (by decide) rfl (by decide) rfl dX5_gather_125 ?_
          refine m_getI (pc := 128) xC2 2 fl_X5_22 (xCi_T (Or.inl rfl)) (by decide) rfl (by decide) rfl dX5_gather_128 ?_
          exact x_iret (pc := 131) rfl rfl dX5_gather_131 (Nat.zero_le _) (Nat.zero_le _)
        · refine x_iload (pc := 69) dX5_gather_69 rfl ?_
          refine x_iload_n (pc := 71) dX5_gather_71 rfl ?_
          refine x_icmp_eq (pc := 72) (tgt := 118) dX5_gather_72 (by decide) (fun h14 => ?_) (fun h14 => ?_)
          · refine x_iinc (pc := 118) (b := (s11.1 + 1)) (L' := [some (.ref 142), some (.ref 72), some (.int p2), some (.int p3), some (.ref (8 + 4 * p2.toNatClampNeg)), some (.int (s11.1 + 1))]) dX5_gather_118 rfl rfl (Nat.le_of_ble_eq_true rfl) rfl rfl ?_
            refine x_goto (pc := 121) (tgt := 62) dX5_gather_121 (by decide) ?_
            have hz := hkk12 ((s11.1 + 1), s11.2)
            try dsimp only at hz
            exact hz
          · refine x_aload_n (pc := 75) dX5_gather_75 rfl ?_
            refine x_iload (pc := 76) dX5_gather_76 rfl ?_
            refine x_iload_n (pc := 78) dX5_gather_78 rfl ?_
            refine cV_I (pc := 79) (As := [(.int s11.1), (.int p3)]) (rest := []) (ct_X0_trustedOf s11.1 p3 s11.2) rfl xC0 rfl (by decide) ml_X5_45 meX0_trustedOf rfl ⟨prX0_trustedOf, (Nat.le_of_ble_eq_true rfl), (Nat.le_of_ble_eq_true rfl), rfl, rfl⟩ (Nat.le_of_ble_eq_true rfl) dX5_gather_79 (fun v15 => ?_)
            refine x_iconst (pc := 82) (a := -1) dX5_gather_82 (by decide) ?_
            refine x_icmp_eq (pc := 83) (tgt := 118) dX5_gather_83 (by decide) (fun h16 => ?_) (fun h16 => ?_)
            · refine x_iinc (pc := 118) (b := (s11.1 + 1)) (L' := [some (.ref 142), some (.ref 72), some (.int p2), some (.int p3), some (.ref (8 + 4 * p2.toNatClampNeg)), some (.int (s11.1 + 1))]) dX5_gather_118 rfl rfl (Nat.le_of_ble_eq_true rfl) rfl rfl ?_
              refine x_goto (pc := 121) (tgt := 62) dX5_gather_121 (by decide) ?_
              have hz := hkk12 ((s11.1 + 1), s11.2)
              try dsimp only at hz
              exact hz
            · refine x_aload_n (pc := 86) dX5_gather_86 rfl ?_
              refine m_getR (pc := 87) (t := 143) xC5 1 fl_X5_12 rfl (by decide) rfl (by decide) rfl dX5_gather_87 ?_
              refine x_iload (pc := 90) dX5_gather_90 rfl ?_
              refine x_aload (pc := 92) dX5_gather_92 rfl ?_
              refine m_getI (pc := 94) xC7 1 fl_X5_51 (xPl (xinb_lt hb10)) (by decide) rfl (by decide) rfl dX5_gather_94 ?_
              refine x_aload (pc := 97) dX5_gather_97 rfl ?_
              refine m_getI (pc := 99) xC7 2 fl_X5_54 (xPl (xinb_lt hb10)) (by decide) rfl (by decide) rfl dX5_gather_99 ?_
              refine x_aload_n (pc := 102) dX5_gather_102 rfl ?_
              refine m_getR (pc := 103) (t := 1) xC5 0 fl_X5_18 rfl (by decide) rfl (by decide) rfl dX5_gather_103 ?_
              refine m_getR (pc := 106) (t := 2) xC6 0 fl_X5_30 rfl (by decide) rfl (by decide) rfl dX5_gather_106 ?_
              refine x_iload (pc := 109) dX5_gather_109 rfl ?_
              refine m_aald (pc := 111) (t0 := 3) rfl (by decide) rfl (fun _ => rfl) rfl (xE_pl _) dX5_gather_111 (fun hb17 => ?_)
              refine cSN_I (pc := 112) (As := [(.int (s11.2.1 (8 + 4 * p2.toNatClampNeg) 1)), (.int (s11.2.1 (8 + 4 * p2.toNatClampNeg) 2)), (.ref (8 + 4 * s11.1.toNatClampNeg))]) (rest := [(.int s11.1), (.ref 143)]) (ct_X9_squaredDistance (s11.2.1 (8 + 4 * p2.toNatClampNeg) 1) (s11.2.1 (8 + 4 * p2.toNatClampNeg) 2) s11.1.toNatClampNeg s11.2 (xinb_lt hb17)) rfl ml_X5_57 meX9_squaredDistance rfl ⟨prX9_squaredDistance, (Nat.le_of_ble_eq_true rfl), (Nat.le_of_ble_eq_true rfl), rfl, rfl⟩ (Nat.le_of_ble_eq_true rfl) dX5_gather_112 (fun v18 => ?_)
              refine cV_M (pc := 115) (As := [(.int s11.1), (.int v18)]) (rest := []) (ct_X2_offer 143 s11.1 v18 s11.2 (Or.inl rfl)) rfl xC2 (xCi_T (Or.inl rfl)) (by decide) ml_X5_61 meX2_offer rfl ⟨prX2_offer, (Nat.le_of_ble_eq_true rfl), (Nat.le_of_ble_eq_true rfl), rfl, rfl⟩ (Nat.le_of_ble_eq_true rfl) dX5_gather_115 (fun q19 => ?_)
              refine x_iinc (pc := 118) (b := (s11.1 + 1)) (L' := [some (.ref 142), some (.ref 72), some (.int p2), some (.int p3), some (.ref (8 + 4 * p2.toNatClampNeg)), some (.int (s11.1 + 1))]) dX5_gather_118 rfl rfl (Nat.le_of_ble_eq_true rfl) rfl rfl ?_
              refine x_goto (pc := 121) (tgt := 62) dX5_gather_121 (by decide) ?_
              have hz := hkk12 ((s11.1 + 1), q19)
              try dsimp only at hz
              exact hz
      · refine x_iconst (pc := 46) (a := 0) dX5_gather_46 (by decide) ?_
        exact x_iret (pc := 47) rfl rfl dX5_gather_47 (Nat.zero_le _) (Nat.zero_le _)

set_option maxRecDepth 100000 in
set_option maxHeartbeats 4000000 in
theorem ct_X5_nearness (p0 : Int32) (M : xM)  : Ct iX5_nearness (rI M) [(.int p0)] (xwd M) (fX5_nearness p0 M) := by
  refine Ct.of' (L := [some (.int p0)]) 0 rfl (by decide +kernel) (Nat.le_of_ble_eq_true rfl) rfl ?_
  unfold fX5_nearness
  refine x_iload_n (pc := 0) dX5_nearness_0 rfl ?_
  refine x_if_gt (pc := 1) (tgt := 10) dX5_nearness_1 (by decide) (fun h1 => ?_) (fun h1 => ?_)
  · refine x_iconst (pc := 10) (a := 1) dX5_nearness_10 (by decide) ?_
    refine x_sipush (pc := 11) (a := 144) dX5_nearness_11 (by decide) ?_
    refine x_iload_n (pc := 14) dX5_nearness_14 rfl ?_
    refine x_idiv (pc := 15) dX5_nearness_15 (fun hb2 => ?_)
    refine x_mmax (pc := 16) (xword 571 (by decide +kernel) rfl) (xword 388 (by decide +kernel) rfl) (xword 60 (by decide +kernel) rfl) (xword 389 (by decide +kernel) rfl) (Nat.le_of_ble_eq_true rfl) (Nat.le_of_ble_eq_true rfl) (Nat.zero_le _) (Nat.zero_le _) dX5_nearness_16 ?_
    exact x_iret (pc := 19) rfl rfl dX5_nearness_19 (Nat.zero_le _) (Nat.zero_le _)
  · refine x_sipush (pc := 4) (a := 288) dX5_nearness_4 (by decide) ?_
    refine x_goto (pc := 7) (tgt := 19) dX5_nearness_7 (by decide) ?_
    exact x_iret (pc := 19) rfl rfl dX5_nearness_19 (Nat.zero_le _) (Nat.zero_le _)

set_option maxRecDepth 100000 in
set_option maxHeartbeats 4000000 in
theorem ct_X5_thousandthsBy (p2 : Int32) (p3 : Int32) (p4 : Int32) (M : xM)  : Ct iX5_thousandthsBy (rJ M) [(.ref 142), (.ref 72), (.int p2), (.int p3), (.int p4)] (xwd M) (fX5_thousandthsBy p2 p3 p4 M) := by
  refine Ct.of' (L := [some (.ref 142), some (.ref 72), some (.int p2), some (.int p3), some (.int p4), none, none, none, none, none, none, none]) 7 rfl (by decide +kernel) (Nat.le_of_ble_eq_true rfl) rfl ?_
  unfold fX5_thousandthsBy
  refine x_lconst (pc := 0) (a := 0) dX5_thousandthsBy_0 (by decide) ?_
  refine x_lstore (pc := 1) (L' := [some (.ref 142), some (.ref 72), some (.int p2), some (.int p3), some (.int p4), some (.long (0:Int64)), none, none, none, none, none, none]) dX5_thousandthsBy_1 (Nat.le_of_ble_eq_true rfl) rfl rfl ?_
  refine x_lconst (pc := 3) (a := 0) dX5_thousandthsBy_3 (by decide) ?_
  refine x_lstore (pc := 4) (L' := [some (.ref 142), some (.ref 72), some (.int p2), some (.int p3), some (.int p4), some (.long (0:Int64)), none, some (.long (0:Int64)), none, none, none, none]) dX5_thousandthsBy_4 (Nat.le_of_ble_eq_true rfl) rfl rfl ?_
  refine x_iconst (pc := 6) (a := 0) dX5_thousandthsBy_6 (by decide) ?_
  refine x_istore (pc := 7) (L' := [some (.ref 142), some (.ref 72), some (.int p2), some (.int p3), some (.int p4), some (.long (0:Int64)), none, some (.long (0:Int64)), none, some (.int (0:Int32)), none, none]) dX5_thousandthsBy_7 (Nat.le_of_ble_eq_true rfl) rfl rfl ?_
  refine SP.mask (pc := 9) [true, true, true, true, true, true, false, true, false, true, false, false] (L' := [some (.ref 142), some (.ref 72), some (.int p2), some (.int p3), some (.int p4), some (.long (0:Int64)), none, some (.long (0:Int64)), none, some (.int (0:Int32)), none, none]) rfl ?_
  refine SP.lp (pc := 9) (fun (s1 : (Int64 × Int64 × Int32)) => [some (.ref 142), some (.ref 72), some (.int p2), some (.int p3), some (.int p4), some (.long s1.1), none, some (.long s1.2.1), none, some (.int s1.2.2), none, none]) (fun (s1 : (Int64 × Int64 × Int32)) => xwd M) (fun s1 kk2 hkk2 => ?_) xfu ((0:Int64), (0:Int64), (0:Int32))
  try dsimp only
  refine x_iload (pc := 9) dX5_thousandthsBy_9 rfl ?_
  refine x_aload_n (pc := 11) dX5_thousandthsBy_11 rfl ?_
  refine m_getR (pc := 12) (t := 1) xC5 0 fl_X5_18 rfl (by decide) rfl (by decide) rfl dX5_thousandthsBy_12 ?_
  refine m_getI (pc := 15) xC6 3 fl_X5_91 rfl (by decide) rfl (by decide) rfl dX5_thousandthsBy_15 ?_
  refine SP.jn 80 (fun (s4 : Unit) => [none, some (.ref 72), none, some (.int p3), some (.int p4), some (.long s1.1), none, some (.long s1.2.1), none, none, none, none]) (fun (s4 : Unit) => []) (fun (s4 : Unit) => xwd M) (fun kk3 hkk3 => ?_) (fun s4 => ?_)
  · try dsimp only
    refine x_icmp_ge (pc := 18) (tgt := 80) dX5_thousandthsBy_18 (by decide) (fun h5 => ?_) (fun h5 => ?_)
    · refine SP.mask (pc := 80) [false, true, false, true, true, true, false, true, false, false, false, false] (L' := [none, some (.ref 72), none, some (.int p3), some (.int p4), some (.long s1.1), none, some (.long s1.2.1), none, none, none, none]) rfl ?_
      have hz := hkk3 ()
      try dsimp only at hz
      exact hz
    · refine x_iload (pc := 21) dX5_thousandthsBy_21 rfl ?_
      refine x_bipush (pc := 23) (a := 56) dX5_thousandthsBy_23 (by decide) ?_
      refine x_icmp_ge (pc := 25) (tgt := 80) dX5_thousandthsBy_25 (by decide) (fun h6 => ?_) (fun h6 => ?_)
      · refine SP.mask (pc := 80) [false, true, false, true, true, true, false, true, false, false, false, false] (L' := [none, some (.ref 72), none, some (.int p3), some (.int p4), some (.long s1.1), none, some (.long s1.2.1), none, none, none, none]) rfl ?_
        have hz := hkk3 ()
        try dsimp only at hz
        exact hz
      · refine x_aload_n (pc := 28) dX5_thousandthsBy_28 rfl ?_
        refine x_iload_n (pc := 29) dX5_thousandthsBy_29 rfl ?_
        refine x_iload (pc := 30) dX5_thousandthsBy_30 rfl ?_
        refine cV_I (pc := 32) (As := [(.int p2), (.int s1.2.2)]) (rest := []) (ct_X0_trustedOf p2 s1.2.2 M) rfl xC0 rfl (by decide) ml_X5_45 meX0_trustedOf rfl ⟨prX0_trustedOf, (Nat.le_of_ble_eq_true rfl), (Nat.le_of_ble_eq_true rfl), rfl, rfl⟩ (Nat.le_of_ble_eq_true rfl) dX5_thousandthsBy_32 (fun v7 => ?_)
        refine x_istore (pc := 35) (L' := [some (.ref 142), some (.ref 72), some (.int p2), some (.int p3), some (.int p4), some (.long s1.1), none, some (.long s1.2.1), none, some (.int s1.2.2), some (.int v7), none]) dX5_thousandthsBy_35 (Nat.le_of_ble_eq_true rfl) rfl rfl ?_
        refine x_aload_n (pc := 37) dX5_thousandthsBy_37 rfl ?_
        refine x_iload_n (pc := 38) dX5_thousandthsBy_38 rfl ?_
        refine x_iload (pc := 39) dX5_thousandthsBy_39 rfl ?_
        refine cV_I (pc := 41) (As := [(.int p3), (.int s1.2.2)]) (rest := []) (ct_X0_trustedOf p3 s1.2.2 M) rfl xC0 rfl (by decide) ml_X5_45 meX0_trustedOf rfl ⟨prX0_trustedOf, (Nat.le_of_ble_eq_true rfl), (Nat.le_of_ble_eq_true rfl), rfl, rfl⟩ (Nat.le_of_ble_eq_true rfl) dX5_thousandthsBy_41 (fun v8 => ?_)
        refine x_istore (pc := 44) (L' := [some (.ref 142), some (.ref 72), some (.int p2), some (.int p3), some (.int p4), some (.long s1.1), none, some (.long s1.2.1), none, some (.int s1.2.2), some (.int v7), some (.int v8)]) dX5_thousandthsBy_44 (Nat.le_of_ble_eq_true rfl) rfl rfl ?_
        refine x_iload (pc := 46) dX5_thousandthsBy_46 rfl ?_
        refine x_iconst (pc := 48) (a := -1) dX5_thousandthsBy_48 (by decide) ?_
        refine x_icmp_eq (pc := 49) (tgt := 74) dX5_thousandthsBy_49 (by decide) (fun h9 => ?_) (fun h9 => ?_)
        · refine x_iinc (pc := 74) (b := (s1.2.2 + 1)) (L' := [some (.ref 142), some (.ref 72), some (.int p2), some (.int p3), some (.int p4), some (.long s1.1), none, some (.long s1.2.1), none, some (.int (s1.2.2 + 1)), some (.int v7), some (.int v8)]) dX5_thousandthsBy_74 rfl rfl (Nat.le_of_ble_eq_true rfl) rfl rfl ?_
          refine x_goto (pc := 77) (tgt := 9) dX5_thousandthsBy_77 (by decide) ?_
          refine SP.mask (pc := 9) [true, true, true, true, true, true, false, true, false, true, false, false] (L' := [some (.ref 142), some (.ref 72), some (.int p2), some (.int p3), some (.int p4), some (.long s1.1), none, some (.long s1.2.1), none, some (.int (s1.2.2 + 1)), none, none]) rfl ?_
          have hz := hkk2 (s1.1, s1.2.1, (s1.2.2 + 1))
          try dsimp only at hz
          exact hz
        · refine x_iload (pc := 52) dX5_thousandthsBy_52 rfl ?_
          refine x_iconst (pc := 54) (a := -1) dX5_thousandthsBy_54 (by decide) ?_
          refine x_icmp_eq (pc := 55) (tgt := 74) dX5_thousandthsBy_55 (by decide) (fun h10 => ?_) (fun h10 => ?_)
          · refine x_iinc (pc := 74) (b := (s1.2.2 + 1)) (L' := [some (.ref 142), some (.ref 72), some (.int p2), some (.int p3), some (.int p4), some (.long s1.1), none, some (.long s1.2.1), none, some (.int (s1.2.2 + 1)), some (.int v7), some (.int v8)]) dX5_thousandthsBy_74 rfl rfl (Nat.le_of_ble_eq_true rfl) rfl rfl ?_
            refine x_goto (pc := 77) (tgt := 9) dX5_thousandthsBy_77 (by decide) ?_
            refine SP.mask (pc := 9) [true, true, true, true, true, true, false, true, false, true, false, false] (L' := [some (.ref 142), some (.ref 72), some (.int p2), some (.int p3), some (.int p4), some (.long s1.1), none, some (.long s1.2.1), none, some (.int (s1.2.2 + 1)), none, none]) rfl ?_
            have hz := hkk2 (s1.1, s1.2.1, (s1.2.2 + 1))
            try dsimp only at hz
            exact hz
          · refine x_lload (pc := 58) dX5_thousandthsBy_58 rfl ?_
            refine x_iload (pc := 60) dX5_thousandthsBy_60 rfl ?_
            refine x_i2l (pc := 62) dX5_thousandthsBy_62 ?_
            refine x_ladd (pc := 63) dX5_thousandthsBy_63 ?_
            refine SP.bdl (fun x11 e12 => ?_)
            refine x_lstore (pc := 64) (L' := [some (.ref 142), some (.ref 72), some (.int p2), some (.int p3), some (.int p4), some (.long x11), none, some (.long s1.2.1), none, some (.int s1.2.2), some (.int v7), some (.int v8)]) dX5_thousandthsBy_64 (Nat.le_of_ble_eq_true rfl) rfl rfl ?_
            refine x_lload (pc := 66) dX5_thousandthsBy_66 rfl ?_
            refine x_iload (pc := 68) dX5_thousandthsBy_68 rfl ?_
            refine x_i2l (pc := 70) dX5_thousandthsBy_70 ?_
            refine x_ladd (pc := 71) dX5_thousandthsBy_71 ?_
            refine SP.bdl (fun x13 e14 => ?_)
            refine x_lstore (pc := 72) (L' := [some (.ref 142), some (.ref 72), some (.int p2), some (.int p3), some (.int p4), some (.long x11), none, some (.long x13), none, some (.int s1.2.2), some (.int v7), some (.int v8)]) dX5_thousandthsBy_72 (Nat.le_of_ble_eq_true rfl) rfl rfl ?_
            refine x_iinc (pc := 74) (b := (s1.2.2 + 1)) (L' := [some (.ref 142), some (.ref 72), some (.int p2), some (.int p3), some (.int p4), some (.long x11), none, some (.long x13), none, some (.int (s1.2.2 + 1)), some (.int v7), some (.int v8)]) dX5_thousandthsBy_74 rfl rfl (Nat.le_of_ble_eq_true rfl) rfl rfl ?_
            refine x_goto (pc := 77) (tgt := 9) dX5_thousandthsBy_77 (by decide) ?_
            refine SP.mask (pc := 9) [true, true, true, true, true, true, false, true, false, true, false, false] (L' := [some (.ref 142), some (.ref 72), some (.int p2), some (.int p3), some (.int p4), some (.long x11), none, some (.long x13), none, some (.int (s1.2.2 + 1)), none, none]) rfl ?_
            have hz := hkk2 (x11, x13, (s1.2.2 + 1))
            try dsimp only at hz
            exact hz
  · try dsimp only
    refine x_ldc2 (pc := 80) (a := 1000) dX5_thousandthsBy_80 rfl (xword 576 (by decide +kernel) rfl) ?_
    refine x_aload_n (pc := 83) dX5_thousandthsBy_83 rfl ?_
    refine x_iload_n (pc := 84) dX5_thousandthsBy_84 rfl ?_
    refine x_iload (pc := 85) dX5_thousandthsBy_85 rfl ?_
    refine cV_I (pc := 87) (As := [(.int p3), (.int p4)]) (rest := [(.long (1000:Int64))]) (ct_X0_trustedOf p3 p4 M) rfl xC0 rfl (by decide) ml_X5_45 meX0_trustedOf rfl ⟨prX0_trustedOf, (Nat.le_of_ble_eq_true rfl), (Nat.le_of_ble_eq_true rfl), rfl, rfl⟩ (Nat.le_of_ble_eq_true rfl) dX5_thousandthsBy_87 (fun v15 => ?_)
    refine x_i2l (pc := 90) dX5_thousandthsBy_90 ?_
    refine x_lmul (pc := 91) dX5_thousandthsBy_91 ?_
    refine SP.bdl (fun x16 e17 => ?_)
    refine x_lstore (pc := 92) (L' := [none, some (.ref 72), none, some (.int p3), some (.int p4), some (.long s1.1), none, some (.long s1.2.1), none, some (.long x16), none, none]) dX5_thousandthsBy_92 (Nat.le_of_ble_eq_true rfl) rfl rfl ?_
    refine x_lload (pc := 94) dX5_thousandthsBy_94 rfl ?_
    refine x_lconst (pc := 96) (a := 0) dX5_thousandthsBy_96 (by decide) ?_
    refine x_lcmp (pc := 97) dX5_thousandthsBy_97 ?_
    refine x_if_gt (pc := 98) (tgt := 106) dX5_thousandthsBy_98 (by decide) (fun h18 => ?_) (fun h18 => ?_)
    · refine x_lload (pc := 106) dX5_thousandthsBy_106 rfl ?_
      refine x_lload (pc := 108) dX5_thousandthsBy_108 rfl ?_
      refine x_lmul (pc := 110) dX5_thousandthsBy_110 ?_
      refine x_lload (pc := 111) dX5_thousandthsBy_111 rfl ?_
      refine x_ldiv (pc := 113) dX5_thousandthsBy_113 (fun hb19 => ?_)
      exact x_lret (pc := 114) rfl rfl dX5_thousandthsBy_114 (Nat.zero_le _) (Nat.zero_le _)
    · refine x_lload (pc := 101) dX5_thousandthsBy_101 rfl ?_
      refine x_goto (pc := 103) (tgt := 114) dX5_thousandthsBy_103 (by decide) ?_
      exact x_lret (pc := 114) rfl rfl dX5_thousandthsBy_114 (Nat.zero_le _) (Nat.zero_le _)

set_option maxRecDepth 100000 in
set_option maxHeartbeats 4000000 in
theorem ct_X5_mend (p2 : Int32) (p3 : Int32) (M : xM)  : Ct iX5_mend rIM [(.ref 142), (.ref 72), (.int p2), (.int p3)] (xwd M) (fX5_mend p2 p3 M) := by
  refine Ct.of' (L := [some (.ref 142), some (.ref 72), some (.int p2), some (.int p3), none, none, none, none, none, none, none, none]) 8 rfl (by decide +kernel) (Nat.le_of_ble_eq_true rfl) rfl ?_
  unfold fX5_mend
  refine x_aload_n (pc := 0) dX5_mend_0 rfl ?_
  refine x_aload_n (pc := 1) dX5_mend_1 rfl ?_
  refine x_iload_n (pc := 2) dX5_mend_2 rfl ?_
  refine x_iload_n (pc := 3) dX5_mend_3 rfl ?_
  refine cV_IM (pc := 4) (As := [(.ref 72), (.int p2), (.int p3)]) (rest := []) (ct_X5_gather p2 p3 M) rfl xC5 rfl (by decide) ml_X5_65 meX5_gather rfl ⟨prX5_gather, (Nat.le_of_ble_eq_true rfl), (Nat.le_of_ble_eq_true rfl), rfl, rfl⟩ (Nat.le_of_ble_eq_true rfl) dX5_mend_4 (fun q1 => ?_)
  refine x_istore (pc := 7) (L' := [some (.ref 142), some (.ref 72), some (.int p2), some (.int p3), some (.int q1.1), none, none, none, none, none, none, none]) dX5_mend_7 (Nat.le_of_ble_eq_true rfl) rfl rfl ?_
  refine x_lconst (pc := 9) (a := 0) dX5_mend_9 (by decide) ?_
  refine x_lstore (pc := 10) (L' := [some (.ref 142), some (.ref 72), some (.int p2), some (.int p3), some (.int q1.1), some (.long (0:Int64)), none, none, none, none, none, none]) dX5_mend_10 (Nat.le_of_ble_eq_true rfl) rfl rfl ?_
  refine x_lconst (pc := 12) (a := 0) dX5_mend_12 (by decide) ?_
  refine x_lstore (pc := 13) (L' := [some (.ref 142), some (.ref 72), some (.int p2), some (.int p3), some (.int q1.1), some (.long (0:Int64)), none, some (.long (0:Int64)), none, none, none, none]) dX5_mend_13 (Nat.le_of_ble_eq_true rfl) rfl rfl ?_
  refine x_iconst (pc := 15) (a := 0) dX5_mend_15 (by decide) ?_
  refine x_istore (pc := 16) (L' := [some (.ref 142), some (.ref 72), some (.int p2), some (.int p3), some (.int q1.1), some (.long (0:Int64)), none, some (.long (0:Int64)), none, some (.int (0:Int32)), none, none]) dX5_mend_16 (Nat.le_of_ble_eq_true rfl) rfl rfl ?_
  refine SP.mask (pc := 18) [true, true, true, true, true, true, false, true, false, true, false, false] (L' := [some (.ref 142), some (.ref 72), some (.int p2), some (.int p3), some (.int q1.1), some (.long (0:Int64)), none, some (.long (0:Int64)), none, some (.int (0:Int32)), none, none]) rfl ?_
  refine SP.lp (pc := 18) (fun (s2 : (Int64 × Int64 × Int32)) => [some (.ref 142), some (.ref 72), some (.int p2), some (.int p3), some (.int q1.1), some (.long s2.1), none, some (.long s2.2.1), none, some (.int s2.2.2), none, none]) (fun (s2 : (Int64 × Int64 × Int32)) => xwd q1.2) (fun s2 kk3 hkk3 => ?_) xfu ((0:Int64), (0:Int64), (0:Int32))
  try dsimp only
  refine x_iload (pc := 18) dX5_mend_18 rfl ?_
  refine x_iload (pc := 20) dX5_mend_20 rfl ?_
  refine SP.jn 85 (fun (s5 : Unit) => [none, none, none, none, none, some (.long s2.1), none, some (.long s2.2.1), none, none, none, none]) (fun (s5 : Unit) => []) (fun (s5 : Unit) => xwd q1.2) (fun kk4 hkk4 => ?_) (fun s5 => ?_)
  · try dsimp only
    refine x_icmp_ge (pc := 22) (tgt := 85) dX5_mend_22 (by decide) (fun h6 => ?_) (fun h6 => ?_)
    · refine SP.mask (pc := 85) [false, false, false, false, false, true, false, true, false, false, false, false] (L' := [none, none, none, none, none, some (.long s2.1), none, some (.long s2.2.1), none, none, none, none]) rfl ?_
      have hz := hkk4 ()
      try dsimp only at hz
      exact hz
    · refine x_iload (pc := 25) dX5_mend_25 rfl ?_
      refine x_iconst (pc := 27) (a := 4) dX5_mend_27 (by decide) ?_
      refine x_icmp_ge (pc := 28) (tgt := 85) dX5_mend_28 (by decide) (fun h7 => ?_) (fun h7 => ?_)
      · refine SP.mask (pc := 85) [false, false, false, false, false, true, false, true, false, false, false, false] (L' := [none, none, none, none, none, some (.long s2.1), none, some (.long s2.2.1), none, none, none, none]) rfl ?_
        have hz := hkk4 ()
        try dsimp only at hz
        exact hz
      · refine x_aload_n (pc := 31) dX5_mend_31 rfl ?_
        refine m_getR (pc := 32) (t := 143) xC5 1 fl_X5_12 rfl (by decide) rfl (by decide) rfl dX5_mend_32 ?_
        refine m_getR (pc := 35) (t := (143 + 2)) xC2 1 fl_X5_69 (xCi_T (Or.inl rfl)) (by decide) rfl (by decide) rfl dX5_mend_35 ?_
        refine x_iload (pc := 38) dX5_mend_38 rfl ?_
        refine m_iald (pc := 40) (xCi_T2 (Or.inl rfl)) (xCi_N2 (Or.inl rfl)) dX5_mend_40 (fun hb8 => ?_)
        refine cS_I (pc := 41) (As := [(.int (q1.2.1 (143 + 2) s2.2.2.toNatClampNeg))]) (rest := []) (ct_X5_nearness (q1.2.1 (143 + 2) s2.2.2.toNatClampNeg) q1.2) rfl ml_X5_73 meX5_nearness rfl ⟨prX5_nearness, (Nat.le_of_ble_eq_true rfl), (Nat.le_of_ble_eq_true rfl), rfl, rfl⟩ (Nat.le_of_ble_eq_true rfl) dX5_mend_41 (fun v9 => ?_)
        refine x_i2l (pc := 44) dX5_mend_44 ?_
        refine x_lstore (pc := 45) (L' := [some (.ref 142), some (.ref 72), some (.int p2), some (.int p3), some (.int q1.1), some (.long s2.1), none, some (.long s2.2.1), none, some (.int s2.2.2), some (.long v9.toInt64), none]) dX5_mend_45 (Nat.le_of_ble_eq_true rfl) rfl rfl ?_
        refine x_lload (pc := 47) dX5_mend_47 rfl ?_
        refine x_lload (pc := 49) dX5_mend_49 rfl ?_
        refine x_aload_n (pc := 51) dX5_mend_51 rfl ?_
        refine x_aload_n (pc := 52) dX5_mend_52 rfl ?_
        refine x_iload_n (pc := 53) dX5_mend_53 rfl ?_
        refine x_aload_n (pc := 54) dX5_mend_54 rfl ?_
        refine m_getR (pc := 55) (t := 143) xC5 1 fl_X5_12 rfl (by decide) rfl (by decide) rfl dX5_mend_55 ?_
        refine m_getR (pc := 58) (t := (143 + 1)) xC2 0 fl_X5_77 (xCi_T (Or.inl rfl)) (by decide) rfl (by decide) rfl dX5_mend_58 ?_
        refine x_iload (pc := 61) dX5_mend_61 rfl ?_
        refine m_iald (pc := 63) (xCi_T1 (Or.inl rfl)) (xCi_N1 (Or.inl rfl)) dX5_mend_63 (fun hb10 => ?_)
        refine x_iload_n (pc := 64) dX5_mend_64 rfl ?_
        refine cV_J (pc := 65) (As := [(.ref 72), (.int p2), (.int (q1.2.1 (143 + 1) s2.2.2.toNatClampNeg)), (.int p3)]) (rest := [(.long v9.toInt64), (.long s2.1)]) (ct_X5_thousandthsBy p2 (q1.2.1 (143 + 1) s2.2.2.toNatClampNeg) p3 q1.2) rfl xC5 rfl (by decide) ml_X5_80 meX5_thousandthsBy rfl ⟨prX5_thousandthsBy, (Nat.le_of_ble_eq_true rfl), (Nat.le_of_ble_eq_true rfl), rfl, rfl⟩ (Nat.le_of_ble_eq_true rfl) dX5_mend_65 (fun v11 => ?_)
        refine x_lmul (pc := 68) dX5_mend_68 ?_
        refine x_ladd (pc := 69) dX5_mend_69 ?_
        refine SP.bdl (fun x12 e13 => ?_)
        refine x_lstore (pc := 70) (L' := [some (.ref 142), some (.ref 72), some (.int p2), some (.int p3), some (.int q1.1), some (.long x12), none, some (.long s2.2.1), none, some (.int s2.2.2), some (.long v9.toInt64), none]) dX5_mend_70 (Nat.le_of_ble_eq_true rfl) rfl rfl ?_
        refine x_lload (pc := 72) dX5_mend_72 rfl ?_
        refine x_lload (pc := 74) dX5_mend_74 rfl ?_
        refine x_ladd (pc := 76) dX5_mend_76 ?_
        refine SP.bdl (fun x14 e15 => ?_)
        refine x_lstore (pc := 77) (L' := [some (.ref 142), some (.ref 72), some (.int p2), some (.int p3), some (.int q1.1), some (.long x12), none, some (.long x14), none, some (.int s2.2.2), some (.long v9.toInt64), none]) dX5_mend_77 (Nat.le_of_ble_eq_true rfl) rfl rfl ?_
        refine x_iinc (pc := 79) (b := (s2.2.2 + 1)) (L' := [some (.ref 142), some (.ref 72), some (.int p2), some (.int p3), some (.int q1.1), some (.long x12), none, some (.long x14), none, some (.int (s2.2.2 + 1)), some (.long v9.toInt64), none]) dX5_mend_79 rfl rfl (Nat.le_of_ble_eq_true rfl) rfl rfl ?_
        refine x_goto (pc := 82) (tgt := 18) dX5_mend_82 (by decide) ?_
        refine SP.mask (pc := 18) [true, true, true, true, true, true, false, true, false, true, false, false] (L' := [some (.ref 142), some (.ref 72), some (.int p2), some (.int p3), some (.int q1.1), some (.long x12), none, some (.long x14), none, some (.int (s2.2.2 + 1)), none, none]) rfl ?_
        have hz := hkk3 (x12, x14, (s2.2.2 + 1))
        try dsimp only at hz
        exact hz
  · try dsimp only
    refine x_lload (pc := 85) dX5_mend_85 rfl ?_
    refine x_lconst (pc := 87) (a := 0) dX5_mend_87 (by decide) ?_
    refine x_lcmp (pc := 88) dX5_mend_88 ?_
    refine x_if_gt (pc := 89) (tgt := 96) dX5_mend_89 (by decide) (fun h16 => ?_) (fun h16 => ?_)
    · refine x_lload (pc := 96) dX5_mend_96 rfl ?_
      refine x_lload (pc := 98) dX5_mend_98 rfl ?_
      refine x_ldc2 (pc := 100) (a := 1000) dX5_mend_100 rfl (xword 576 (by decide +kernel) rfl) ?_
      refine x_lmul (pc := 103) dX5_mend_103 ?_
      refine x_ldiv (pc := 104) dX5_mend_104 (fun hb17 => ?_)
      refine x_l2i (pc := 105) dX5_mend_105 ?_
      exact x_iret (pc := 106) rfl rfl dX5_mend_106 (Nat.zero_le _) (Nat.zero_le _)
    · refine x_iconst (pc := 92) (a := -1) dX5_mend_92 (by decide) ?_
      refine x_goto (pc := 93) (tgt := 106) dX5_mend_93 (by decide) ?_
      exact x_iret (pc := 106) rfl rfl dX5_mend_106 (Nat.zero_le _) (Nat.zero_le _)

set_option maxRecDepth 100000 in
set_option maxHeartbeats 4000000 in
theorem ct_X6_lastWholeWeek  (M : xM)  : Ct iX6_lastWholeWeek (rI M) [(.ref 1)] (xwd M) (fX6_lastWholeWeek M) := by
  refine Ct.of' (L := [some (.ref 1)]) 0 rfl (by decide +kernel) (Nat.le_of_ble_eq_true rfl) rfl ?_
  unfold fX6_lastWholeWeek
  refine x_aload_n (pc := 0) dX6_lastWholeWeek_0 rfl ?_
  refine m_getI (pc := 1) xC6 3 fl_X6_37 rfl (by decide) rfl (by decide) rfl dX6_lastWholeWeek_1 ?_
  refine x_bipush (pc := 4) (a := 7) dX6_lastWholeWeek_4 (by decide) ?_
  refine x_idiv (pc := 6) dX6_lastWholeWeek_6 (fun hb1 => ?_)
  refine x_iconst (pc := 7) (a := 1) dX6_lastWholeWeek_7 (by decide) ?_
  refine x_isub (pc := 8) dX6_lastWholeWeek_8 ?_
  exact x_iret (pc := 9) rfl rfl dX6_lastWholeWeek_9 (Nat.zero_le _) (Nat.zero_le _)

set_option maxRecDepth 100000 in
set_option maxHeartbeats 4000000 in
theorem ct_X7_bring (k : Nat) (p1 : Int32) (p2 : Int32) (p3 : Int32) (p4 : Int32) (p5 : Int32) (M : xM) (hk : k < 16) : Ct iX7_bring rM [(.ref (8 + 4 * k)), (.int p1), (.int p2), (.int p3), (.int p4), (.int p5)] (xwd M) (fX7_bring k p1 p2 p3 p4 p5 M) := by
  refine Ct.of' (L := [some (.ref (8 + 4 * k)), some (.int p1), some (.int p2), some (.int p3), some (.int p4), some (.int p5)]) 0 rfl (by decide +kernel) (Nat.le_of_ble_eq_true rfl) rfl ?_
  unfold fX7_bring
  refine x_aload_n (pc := 0) dX7_bring_0 rfl ?_
  refine x_iload_n (pc := 1) dX7_bring_1 rfl ?_
  refine m_putI (pc := 2) xC7 0 fl_X7_9 (xPl hk) (by decide) rfl (by decide) rfl rfl rfl dX7_bring_2 ?_
  refine SP.bdm (fun m1 e2 => ?_)
  refine x_aload_n (pc := 5) dX7_bring_5 rfl ?_
  refine x_iload_n (pc := 6) dX7_bring_6 rfl ?_
  refine m_putI (pc := 7) xC7 1 fl_X7_31 (xPl hk) (by decide) rfl (by decide) rfl rfl rfl dX7_bring_7 ?_
  refine SP.bdm (fun m3 e4 => ?_)
  refine x_aload_n (pc := 10) dX7_bring_10 rfl ?_
  refine x_iload_n (pc := 11) dX7_bring_11 rfl ?_
  refine m_putI (pc := 12) xC7 2 fl_X7_34 (xPl hk) (by decide) rfl (by decide) rfl rfl rfl dX7_bring_12 ?_
  refine SP.bdm (fun m5 e6 => ?_)
  refine x_aload_n (pc := 15) dX7_bring_15 rfl ?_
  refine x_iload (pc := 16) dX7_bring_16 rfl ?_
  refine m_putI (pc := 18) xC7 3 fl_X7_37 (xPl hk) (by decide) rfl (by decide) rfl rfl rfl dX7_bring_18 ?_
  refine SP.bdm (fun m7 e8 => ?_)
  refine x_aload_n (pc := 21) dX7_bring_21 rfl ?_
  refine x_iload (pc := 22) dX7_bring_22 rfl ?_
  refine m_putI (pc := 24) xC7 4 fl_X7_40 (xPl hk) (by decide) rfl (by decide) rfl rfl rfl dX7_bring_24 ?_
  refine SP.bdm (fun m9 e10 => ?_)
  exact x_vret (pc := 27) rfl rfl dX7_bring_27 (Nat.zero_le _) (Nat.zero_le _)

set_option maxRecDepth 100000 in
set_option maxHeartbeats 4000000 in
theorem ct_X7_clear (k : Nat) (M : xM) (hk : k < 16) : Ct iX7_clear rM [(.ref (8 + 4 * k))] (xwd M) (fX7_clear k M) := by
  refine Ct.of' (L := [some (.ref (8 + 4 * k))]) 0 rfl (by decide +kernel) (Nat.le_of_ble_eq_true rfl) rfl ?_
  unfold fX7_clear
  refine x_aload_n (pc := 0) dX7_clear_0 rfl ?_
  refine x_iconst (pc := 1) (a := -1) dX7_clear_1 (by decide) ?_
  refine m_putI (pc := 2) xC7 0 fl_X7_9 (xPl hk) (by decide) rfl (by decide) rfl rfl rfl dX7_clear_2 ?_
  refine SP.bdm (fun m1 e2 => ?_)
  refine x_aload_n (pc := 5) dX7_clear_5 rfl ?_
  refine x_iconst (pc := 6) (a := 0) dX7_clear_6 (by decide) ?_
  refine m_putI (pc := 7) xC7 5 fl_X7_43 (xPl hk) (by decide) rfl (by decide) rfl rfl rfl dX7_clear_7 ?_
  refine SP.bdm (fun m3 e4 => ?_)
  refine x_aload_n (pc := 10) dX7_clear_10 rfl ?_
  refine m_getR (pc := 11) (t := (8 + 4 * k + 1)) xC7 6 fl_X7_15 (xPl hk) (by decide) rfl (by decide) rfl dX7_clear_11 ?_
  refine x_iconst (pc := 14) (a := -1) dX7_clear_14 (by decide) ?_
  refine cS_M (pc := 15) (As := [(.ref (8 + 4 * k + 1)), (.int (-1:Int32))]) (rest := []) (ct_J7_fill_53178 (8 + 4 * k + 1) 56 (-1:Int32) m3 (xPlA hk (Or.inl rfl)) (xPlN hk (Or.inl rfl))) rfl ml_X7_25 meJ7_fill_53178 rfl ⟨prJ7_fill_53178, (Nat.le_of_ble_eq_true rfl), (Nat.le_of_ble_eq_true rfl), rfl, rfl⟩ (Nat.le_of_ble_eq_true rfl) dX7_clear_15 (fun q5 => ?_)
  refine x_aload_n (pc := 18) dX7_clear_18 rfl ?_
  refine m_getR (pc := 19) (t := (8 + 4 * k + 2)) xC7 7 fl_X7_19 (xPl hk) (by decide) rfl (by decide) rfl dX7_clear_19 ?_
  refine x_iconst (pc := 22) (a := -1) dX7_clear_22 (by decide) ?_
  refine cS_M (pc := 23) (As := [(.ref (8 + 4 * k + 2)), (.int (-1:Int32))]) (rest := []) (ct_J7_fill_53178 (8 + 4 * k + 2) 56 (-1:Int32) q5 (xPlA hk (Or.inr (Or.inl rfl))) (xPlN hk (Or.inr (Or.inl rfl)))) rfl ml_X7_25 meJ7_fill_53178 rfl ⟨prJ7_fill_53178, (Nat.le_of_ble_eq_true rfl), (Nat.le_of_ble_eq_true rfl), rfl, rfl⟩ (Nat.le_of_ble_eq_true rfl) dX7_clear_23 (fun q6 => ?_)
  refine x_aload_n (pc := 26) dX7_clear_26 rfl ?_
  refine m_getR (pc := 27) (t := (8 + 4 * k + 3)) xC7 8 fl_X7_22 (xPl hk) (by decide) rfl (by decide) rfl dX7_clear_27 ?_
  refine x_iconst (pc := 30) (a := -1) dX7_clear_30 (by decide) ?_
  refine cS_M (pc := 31) (As := [(.ref (8 + 4 * k + 3)), (.int (-1:Int32))]) (rest := []) (ct_J7_fill_53178 (8 + 4 * k + 3) 56 (-1:Int32) q6 (xPlA hk (Or.inr (Or.inr rfl))) (xPlN hk (Or.inr (Or.inr rfl)))) rfl ml_X7_25 meJ7_fill_53178 rfl ⟨prJ7_fill_53178, (Nat.le_of_ble_eq_true rfl), (Nat.le_of_ble_eq_true rfl), rfl, rfl⟩ (Nat.le_of_ble_eq_true rfl) dX7_clear_31 (fun q7 => ?_)
  exact x_vret (pc := 34) rfl rfl dX7_clear_34 (Nat.zero_le _) (Nat.zero_le _)

set_option maxRecDepth 100000 in
set_option maxHeartbeats 4000000 in
theorem ct_X7_meltAway (k : Nat) (p1 : Int32) (p2 : Int32) (M : xM) (hk : k < 16) : Ct iX7_meltAway rIM [(.ref (8 + 4 * k)), (.int p1), (.int p2)] (xwd M) (fX7_meltAway k p1 p2 M) := by
  refine Ct.of' (L := [some (.ref (8 + 4 * k)), some (.int p1), some (.int p2), none]) 1 rfl (by decide +kernel) (Nat.le_of_ble_eq_true rfl) rfl ?_
  unfold fX7_meltAway
  refine x_iload_n (pc := 0) dX7_meltAway_0 rfl ?_
  refine cSN_I (pc := 1) (As := [(.int p1)]) (rest := []) (ct_X9_isDay p1 M) rfl ml_X7_46 meX9_isDay rfl ⟨prX9_isDay, (Nat.le_of_ble_eq_true rfl), (Nat.le_of_ble_eq_true rfl), rfl, rfl⟩ (Nat.le_of_ble_eq_true rfl) dX7_meltAway_1 (fun v1 => ?_)
  refine x_if_ne (pc := 4) (tgt := 9) dX7_meltAway_4 (by decide) (fun h2 => ?_) (fun h2 => ?_)
  · refine x_iconst (pc := 9) (a := 0) dX7_meltAway_9 (by decide) ?_
    refine x_aload_n (pc := 10) dX7_meltAway_10 rfl ?_
    refine m_getR (pc := 11) (t := (8 + 4 * k + 2)) xC7 7 fl_X7_19 (xPl hk) (by decide) rfl (by decide) rfl dX7_meltAway_11 ?_
    refine x_iload_n (pc := 14) dX7_meltAway_14 rfl ?_
    refine m_iald (pc := 15) (xPlA hk (Or.inr (Or.inl rfl))) (xPlN hk (Or.inr (Or.inl rfl))) dX7_meltAway_15 (fun hb3 => ?_)
    refine x_mmax (pc := 16) (xword 387 (by decide +kernel) rfl) (xword 388 (by decide +kernel) rfl) (xword 60 (by decide +kernel) rfl) (xword 389 (by decide +kernel) rfl) (Nat.le_of_ble_eq_true rfl) (Nat.le_of_ble_eq_true rfl) (Nat.zero_le _) (Nat.zero_le _) dX7_meltAway_16 ?_
    refine x_iload_n (pc := 19) dX7_meltAway_19 rfl ?_
    refine x_iadd (pc := 20) dX7_meltAway_20 ?_
    refine SP.bdi (fun x4 e5 => ?_)
    refine x_istore_n (pc := 21) (L' := [some (.ref (8 + 4 * k)), some (.int p1), some (.int p2), some (.int x4)]) dX7_meltAway_21 (Nat.le_of_ble_eq_true rfl) rfl rfl ?_
    refine x_iload_n (pc := 22) dX7_meltAway_22 rfl ?_
    refine x_aload_n (pc := 23) dX7_meltAway_23 rfl ?_
    refine m_getI (pc := 24) xC7 5 fl_X7_43 (xPl hk) (by decide) rfl (by decide) rfl dX7_meltAway_24 ?_
    refine x_icmp_gt (pc := 27) (tgt := 37) dX7_meltAway_27 (by decide) (fun h6 => ?_) (fun h6 => ?_)
    · refine x_iconst (pc := 37) (a := -1) dX7_meltAway_37 (by decide) ?_
      exact x_iret (pc := 38) rfl rfl dX7_meltAway_38 (Nat.zero_le _) (Nat.zero_le _)
    · refine x_iload_n (pc := 30) dX7_meltAway_30 rfl ?_
      refine x_sipush (pc := 31) (a := 5000) dX7_meltAway_31 (by decide) ?_
      refine x_icmp_le (pc := 34) (tgt := 39) dX7_meltAway_34 (by decide) (fun h7 => ?_) (fun h7 => ?_)
      · refine x_aload_n (pc := 39) dX7_meltAway_39 rfl ?_
        refine x_dup (pc := 40) dX7_meltAway_40 rfl ?_
        refine m_getI (pc := 41) xC7 5 fl_X7_43 (xPl hk) (by decide) rfl (by decide) rfl dX7_meltAway_41 ?_
        refine x_iload_n (pc := 44) dX7_meltAway_44 rfl ?_
        refine x_isub (pc := 45) dX7_meltAway_45 ?_
        refine m_putI (pc := 46) xC7 5 fl_X7_43 (xPl hk) (by decide) rfl (by decide) rfl rfl rfl dX7_meltAway_46 ?_
        refine SP.bdm (fun m8 e9 => ?_)
        refine x_aload_n (pc := 49) dX7_meltAway_49 rfl ?_
        refine m_getR (pc := 50) (t := (8 + 4 * k + 2)) xC7 7 fl_X7_19 (xPl hk) (by decide) rfl (by decide) rfl dX7_meltAway_50 ?_
        refine x_iload_n (pc := 53) dX7_meltAway_53 rfl ?_
        refine x_iload_n (pc := 54) dX7_meltAway_54 rfl ?_
        refine m_iast (pc := 55) (xPlA hk (Or.inr (Or.inl rfl))) (xPlN hk (Or.inr (Or.inl rfl))) dX7_meltAway_55 (fun hb10 => ?_)
        refine SP.bdm (fun m11 e12 => ?_)
        refine x_aload_n (pc := 56) dX7_meltAway_56 rfl ?_
        refine m_getI (pc := 57) xC7 5 fl_X7_43 (xPl hk) (by decide) rfl (by decide) rfl dX7_meltAway_57 ?_
        exact x_iret (pc := 60) rfl rfl dX7_meltAway_60 (Nat.zero_le _) (Nat.zero_le _)
      · refine x_iconst (pc := 37) (a := -1) dX7_meltAway_37 (by decide) ?_
        exact x_iret (pc := 38) rfl rfl dX7_meltAway_38 (Nat.zero_le _) (Nat.zero_le _)
  · refine x_iconst (pc := 7) (a := -1) dX7_meltAway_7 (by decide) ?_
    exact x_iret (pc := 8) rfl rfl dX7_meltAway_8 (Nat.zero_le _) (Nat.zero_le _)

set_option maxRecDepth 100000 in
set_option maxHeartbeats 4000000 in
theorem ct_X8_change (k : Nat) (p1 : Int32) (p2 : Int32) (M : xM) (hk : k < 8) : Ct iX8_change rIM [(.ref (148 + 2 * k)), (.int p1), (.int p2)] (xwd M) (fX8_change k p1 p2 M) := by
  refine Ct.of' (L := [some (.ref (148 + 2 * k)), some (.int p1), some (.int p2)]) 0 rfl (by decide +kernel) (Nat.le_of_ble_eq_true rfl) rfl ?_
  unfold fX8_change
  refine x_iload_n (pc := 0) dX8_change_0 rfl ?_
  refine x_if_lt (pc := 1) (tgt := 45) dX8_change_1 (by decide) (fun h1 => ?_) (fun h1 => ?_)
  · refine x_aload_n (pc := 45) dX8_change_45 rfl ?_
    refine m_getI (pc := 46) xC8 1 fl_X8_15 (xVa hk) (by decide) rfl (by decide) rfl dX8_change_46 ?_
    exact x_iret (pc := 49) rfl rfl dX8_change_49 (Nat.zero_le _) (Nat.zero_le _)
  · refine x_iload_n (pc := 4) dX8_change_4 rfl ?_
    refine x_bipush (pc := 5) (a := 100) dX8_change_5 (by decide) ?_
    refine x_icmp_ge (pc := 7) (tgt := 45) dX8_change_7 (by decide) (fun h2 => ?_) (fun h2 => ?_)
    · refine x_aload_n (pc := 45) dX8_change_45 rfl ?_
      refine m_getI (pc := 46) xC8 1 fl_X8_15 (xVa hk) (by decide) rfl (by decide) rfl dX8_change_46 ?_
      exact x_iret (pc := 49) rfl rfl dX8_change_49 (Nat.zero_le _) (Nat.zero_le _)
    · refine x_aload_n (pc := 10) dX8_change_10 rfl ?_
      refine m_getR (pc := 11) (t := (148 + 2 * k + 1)) xC8 0 fl_X8_9 (xVa hk) (by decide) rfl (by decide) rfl dX8_change_11 ?_
      refine x_iload_n (pc := 14) dX8_change_14 rfl ?_
      refine m_zald (pc := 15) (xVaA hk) (xVaN hk) dX8_change_15 (fun hb3 => ?_)
      refine x_iload_n (pc := 16) dX8_change_16 rfl ?_
      refine x_icmp_eq (pc := 17) (tgt := 45) dX8_change_17 (by decide) (fun h4 => ?_) (fun h4 => ?_)
      · refine x_aload_n (pc := 45) dX8_change_45 rfl ?_
        refine m_getI (pc := 46) xC8 1 fl_X8_15 (xVa hk) (by decide) rfl (by decide) rfl dX8_change_46 ?_
        exact x_iret (pc := 49) rfl rfl dX8_change_49 (Nat.zero_le _) (Nat.zero_le _)
      · refine x_aload_n (pc := 20) dX8_change_20 rfl ?_
        refine m_getR (pc := 21) (t := (148 + 2 * k + 1)) xC8 0 fl_X8_9 (xVa hk) (by decide) rfl (by decide) rfl dX8_change_21 ?_
        refine x_iload_n (pc := 24) dX8_change_24 rfl ?_
        refine x_iload_n (pc := 25) dX8_change_25 rfl ?_
        refine m_zast (pc := 26) (xVaA hk) (xVaN hk) dX8_change_26 (fun hb5 => ?_)
        refine SP.bdm (fun m6 e7 => ?_)
        refine x_aload_n (pc := 27) dX8_change_27 rfl ?_
        refine x_dup (pc := 28) dX8_change_28 rfl ?_
        refine m_getI (pc := 29) xC8 1 fl_X8_15 (xVa hk) (by decide) rfl (by decide) rfl dX8_change_29 ?_
        refine x_iload_n (pc := 32) dX8_change_32 rfl ?_
        refine SP.jn 41 (fun (s9 : Int32) => [some (.ref (148 + 2 * k)), none, none]) (fun (s9 : Int32) => [(.int s9), (.int (m6.1 (148 + 2 * k) 1)), (.ref (148 + 2 * k))]) (fun (s9 : Int32) => xwd m6) (fun kk8 hkk8 => ?_) (fun s9 => ?_)
        · try dsimp only
          refine x_if_eq (pc := 33) (tgt := 40) dX8_change_33 (by decide) (fun h10 => ?_) (fun h10 => ?_)
          · refine x_iconst (pc := 40) (a := -1) dX8_change_40 (by decide) ?_
            refine SP.mask (pc := 41) [true, false, false] (L' := [some (.ref (148 + 2 * k)), none, none]) rfl ?_
            have hz := hkk8 (-1:Int32)
            try dsimp only at hz
            exact hz
          · refine x_iconst (pc := 36) (a := 1) dX8_change_36 (by decide) ?_
            refine x_goto (pc := 37) (tgt := 41) dX8_change_37 (by decide) ?_
            refine SP.mask (pc := 41) [true, false, false] (L' := [some (.ref (148 + 2 * k)), none, none]) rfl ?_
            have hz := hkk8 (1:Int32)
            try dsimp only at hz
            exact hz
        · try dsimp only
          refine x_iadd (pc := 41) dX8_change_41 ?_
          refine m_putI (pc := 42) xC8 1 fl_X8_15 (xVa hk) (by decide) rfl (by decide) rfl rfl rfl dX8_change_42 ?_
          refine SP.bdm (fun m11 e12 => ?_)
          refine x_aload_n (pc := 45) dX8_change_45 rfl ?_
          refine m_getI (pc := 46) xC8 1 fl_X8_15 (xVa hk) (by decide) rfl (by decide) rfl dX8_change_46 ?_
          exact x_iret (pc := 49) rfl rfl dX8_change_49 (Nat.zero_le _) (Nat.zero_le _)

set_option maxRecDepth 100000 in
set_option maxHeartbeats 4000000 in
theorem ct_X9_hasSize (p0 : Int32) (M : xM)  : Ct iX9_hasSize (rI M) [(.int p0)] (xwd M) (fX9_hasSize p0 M) := by
  refine Ct.of' (L := [some (.int p0)]) 0 rfl (by decide +kernel) (Nat.le_of_ble_eq_true rfl) rfl ?_
  unfold fX9_hasSize
  refine x_iload_n (pc := 0) dX9_hasSize_0 rfl ?_
  refine x_iconst (pc := 1) (a := 1) dX9_hasSize_1 (by decide) ?_
  refine x_icmp_eq (pc := 2) (tgt := 10) dX9_hasSize_2 (by decide) (fun h1 => ?_) (fun h1 => ?_)
  · refine x_iconst (pc := 10) (a := 1) dX9_hasSize_10 (by decide) ?_
    refine x_goto (pc := 11) (tgt := 15) dX9_hasSize_11 (by decide) ?_
    exact x_zret (pc := 15) rfl (by decide) rfl dX9_hasSize_15 (Nat.zero_le _) (Nat.zero_le _)
  · refine x_iload_n (pc := 5) dX9_hasSize_5 rfl ?_
    refine x_iconst (pc := 6) (a := 4) dX9_hasSize_6 (by decide) ?_
    refine x_icmp_ne (pc := 7) (tgt := 14) dX9_hasSize_7 (by decide) (fun h2 => ?_) (fun h2 => ?_)
    · refine x_iconst (pc := 14) (a := 0) dX9_hasSize_14 (by decide) ?_
      exact x_zret (pc := 15) rfl (by decide) rfl dX9_hasSize_15 (Nat.zero_le _) (Nat.zero_le _)
    · refine x_iconst (pc := 10) (a := 1) dX9_hasSize_10 (by decide) ?_
      refine x_goto (pc := 11) (tgt := 15) dX9_hasSize_11 (by decide) ?_
      exact x_zret (pc := 15) rfl (by decide) rfl dX9_hasSize_15 (Nat.zero_le _) (Nat.zero_le _)

set_option maxRecDepth 100000 in
set_option maxHeartbeats 4000000 in
theorem ct_X9_isSquare (p0 : Int32) (p1 : Int32) (M : xM)  : Ct iX9_isSquare (rI M) [(.int p0), (.int p1)] (xwd M) (fX9_isSquare p0 p1 M) := by
  refine Ct.of' (L := [some (.int p0), some (.int p1)]) 0 rfl (by decide +kernel) (Nat.le_of_ble_eq_true rfl) rfl ?_
  unfold fX9_isSquare
  refine x_iload_n (pc := 0) dX9_isSquare_0 rfl ?_
  refine x_if_lt (pc := 1) (tgt := 24) dX9_isSquare_1 (by decide) (fun h1 => ?_) (fun h1 => ?_)
  · refine x_iconst (pc := 24) (a := 0) dX9_isSquare_24 (by decide) ?_
    exact x_zret (pc := 25) rfl (by decide) rfl dX9_isSquare_25 (Nat.zero_le _) (Nat.zero_le _)
  · refine x_iload_n (pc := 4) dX9_isSquare_4 rfl ?_
    refine x_bipush (pc := 5) (a := 10) dX9_isSquare_5 (by decide) ?_
    refine x_icmp_ge (pc := 7) (tgt := 24) dX9_isSquare_7 (by decide) (fun h2 => ?_) (fun h2 => ?_)
    · refine x_iconst (pc := 24) (a := 0) dX9_isSquare_24 (by decide) ?_
      exact x_zret (pc := 25) rfl (by decide) rfl dX9_isSquare_25 (Nat.zero_le _) (Nat.zero_le _)
    · refine x_iload_n (pc := 10) dX9_isSquare_10 rfl ?_
      refine x_if_lt (pc := 11) (tgt := 24) dX9_isSquare_11 (by decide) (fun h3 => ?_) (fun h3 => ?_)
      · refine x_iconst (pc := 24) (a := 0) dX9_isSquare_24 (by decide) ?_
        exact x_zret (pc := 25) rfl (by decide) rfl dX9_isSquare_25 (Nat.zero_le _) (Nat.zero_le _)
      · refine x_iload_n (pc := 14) dX9_isSquare_14 rfl ?_
        refine x_bipush (pc := 15) (a := 10) dX9_isSquare_15 (by decide) ?_
        refine x_icmp_ge (pc := 17) (tgt := 24) dX9_isSquare_17 (by decide) (fun h4 => ?_) (fun h4 => ?_)
        · refine x_iconst (pc := 24) (a := 0) dX9_isSquare_24 (by decide) ?_
          exact x_zret (pc := 25) rfl (by decide) rfl dX9_isSquare_25 (Nat.zero_le _) (Nat.zero_le _)
        · refine x_iconst (pc := 20) (a := 1) dX9_isSquare_20 (by decide) ?_
          refine x_goto (pc := 21) (tgt := 25) dX9_isSquare_21 (by decide) ?_
          exact x_zret (pc := 25) rfl (by decide) rfl dX9_isSquare_25 (Nat.zero_le _) (Nat.zero_le _)

set_option maxRecDepth 100000 in
set_option maxHeartbeats 4000000 in
theorem ct_X9_put (p1 : Int32) (p2 : Int32) (p3 : Int32) (p4 : Int32) (p5 : Int32) (M : xM)  : Ct iX9_put rIM [(.ref 0), (.int p1), (.int p2), (.int p3), (.int p4), (.int p5)] (xwd M) (fX9_put p1 p2 p3 p4 p5 M) := by
  refine Ct.of' (L := [some (.ref 0), some (.int p1), some (.int p2), some (.int p3), some (.int p4), some (.int p5), none]) 1 rfl (by decide +kernel) (Nat.le_of_ble_eq_true rfl) rfl ?_
  unfold fX9_put
  refine x_iload_n (pc := 0) dX9_put_0 rfl ?_
  refine cS_I (pc := 1) (As := [(.int p1)]) (rest := []) (ct_X9_isPlace p1 M) rfl ml_X9_46 meX9_isPlace rfl ⟨prX9_isPlace, (Nat.le_of_ble_eq_true rfl), (Nat.le_of_ble_eq_true rfl), rfl, rfl⟩ (Nat.le_of_ble_eq_true rfl) dX9_put_1 (fun v1 => ?_)
  refine x_if_eq (pc := 4) (tgt := 25) dX9_put_4 (by decide) (fun h2 => ?_) (fun h2 => ?_)
  · refine x_iconst (pc := 25) (a := -1) dX9_put_25 (by decide) ?_
    exact x_iret (pc := 26) rfl rfl dX9_put_26 (Nat.zero_le _) (Nat.zero_le _)
  · refine x_iload_n (pc := 7) dX9_put_7 rfl ?_
    refine x_if_lt (pc := 8) (tgt := 25) dX9_put_8 (by decide) (fun h3 => ?_) (fun h3 => ?_)
    · refine x_iconst (pc := 25) (a := -1) dX9_put_25 (by decide) ?_
      exact x_iret (pc := 26) rfl rfl dX9_put_26 (Nat.zero_le _) (Nat.zero_le _)
    · refine x_iload_n (pc := 11) dX9_put_11 rfl ?_
      refine x_iconst (pc := 12) (a := 5) dX9_put_12 (by decide) ?_
      refine x_icmp_gt (pc := 13) (tgt := 25) dX9_put_13 (by decide) (fun h4 => ?_) (fun h4 => ?_)
      · refine x_iconst (pc := 25) (a := -1) dX9_put_25 (by decide) ?_
        exact x_iret (pc := 26) rfl rfl dX9_put_26 (Nat.zero_le _) (Nat.zero_le _)
      · refine x_iload_n (pc := 16) dX9_put_16 rfl ?_
        refine x_iload (pc := 17) dX9_put_17 rfl ?_
        refine cS_I (pc := 19) (As := [(.int p3), (.int p4)]) (rest := []) (ct_X9_isSquare p3 p4 M) rfl ml_X9_50 meX9_isSquare rfl ⟨prX9_isSquare, (Nat.le_of_ble_eq_true rfl), (Nat.le_of_ble_eq_true rfl), rfl, rfl⟩ (Nat.le_of_ble_eq_true rfl) dX9_put_19 (fun v5 => ?_)
        refine x_if_ne (pc := 22) (tgt := 27) dX9_put_22 (by decide) (fun h6 => ?_) (fun h6 => ?_)
        · refine x_iload_n (pc := 27) dX9_put_27 rfl ?_
          refine cS_I (pc := 28) (As := [(.int p2)]) (rest := []) (ct_X9_hasSize p2 M) rfl ml_X9_54 meX9_hasSize rfl ⟨prX9_hasSize, (Nat.le_of_ble_eq_true rfl), (Nat.le_of_ble_eq_true rfl), rfl, rfl⟩ (Nat.le_of_ble_eq_true rfl) dX9_put_28 (fun v7 => ?_)
          refine SP.jn 49 (fun (s9 : Unit) => [some (.ref 0), some (.int p1), some (.int p2), some (.int p3), some (.int p4), some (.int p5), none]) (fun (s9 : Unit) => []) (fun (s9 : Unit) => xwd M) (fun kk8 hkk8 => ?_) (fun s9 => ?_)
          · try dsimp only
            refine x_if_eq (pc := 31) (tgt := 49) dX9_put_31 (by decide) (fun h10 => ?_) (fun h10 => ?_)
            · have hz := hkk8 ()
              try dsimp only at hz
              exact hz
            · refine x_iload (pc := 34) dX9_put_34 rfl ?_
              refine x_iconst (pc := 36) (a := 1) dX9_put_36 (by decide) ?_
              refine x_icmp_lt (pc := 37) (tgt := 47) dX9_put_37 (by decide) (fun h11 => ?_) (fun h11 => ?_)
              · refine x_iconst (pc := 47) (a := -1) dX9_put_47 (by decide) ?_
                exact x_iret (pc := 48) rfl rfl dX9_put_48 (Nat.zero_le _) (Nat.zero_le _)
              · refine x_iload (pc := 40) dX9_put_40 rfl ?_
                refine x_bipush (pc := 42) (a := 20) dX9_put_42 (by decide) ?_
                refine x_icmp_le (pc := 44) (tgt := 49) dX9_put_44 (by decide) (fun h12 => ?_) (fun h12 => ?_)
                · have hz := hkk8 ()
                  try dsimp only at hz
                  exact hz
                · refine x_iconst (pc := 47) (a := -1) dX9_put_47 (by decide) ?_
                  exact x_iret (pc := 48) rfl rfl dX9_put_48 (Nat.zero_le _) (Nat.zero_le _)
          · try dsimp only
            refine x_aload_n (pc := 49) dX9_put_49 rfl ?_
            refine m_getR (pc := 50) (t := 1) xC9 0 fl_X9_10 rfl (by decide) rfl (by decide) rfl dX9_put_50 ?_
            refine m_getR (pc := 53) (t := 2) xC6 0 fl_X9_57 rfl (by decide) rfl (by decide) rfl dX9_put_53 ?_
            refine x_iload_n (pc := 56) dX9_put_56 rfl ?_
            refine m_aald (pc := 57) (t0 := 3) rfl (by decide) rfl (fun _ => rfl) rfl (xE_pl _) dX9_put_57 (fun hb13 => ?_)
            refine x_astore (pc := 58) (L' := [some (.ref 0), some (.int p1), some (.int p2), some (.int p3), some (.int p4), some (.int p5), some (.ref (8 + 4 * p1.toNatClampNeg))]) dX9_put_58 (Nat.le_of_ble_eq_true rfl) rfl rfl ?_
            refine x_aload (pc := 60) dX9_put_60 rfl ?_
            refine m_getI (pc := 62) xC7 0 fl_X9_61 (xPl (xinb_lt hb13)) (by decide) rfl (by decide) rfl dX9_put_62 ?_
            refine x_iconst (pc := 65) (a := -1) dX9_put_65 (by decide) ?_
            refine x_icmp_eq (pc := 66) (tgt := 71) dX9_put_66 (by decide) (fun h14 => ?_) (fun h14 => ?_)
            · refine x_aload (pc := 71) dX9_put_71 rfl ?_
              refine x_iload_n (pc := 73) dX9_put_73 rfl ?_
              refine x_iload_n (pc := 74) dX9_put_74 rfl ?_
              refine x_iload (pc := 75) dX9_put_75 rfl ?_
              refine x_iload_n (pc := 77) dX9_put_77 rfl ?_
              refine cS_I (pc := 78) (As := [(.int p2)]) (rest := [(.int p4), (.int p3), (.int p2), (.ref (8 + 4 * p1.toNatClampNeg))]) (ct_X9_hasSize p2 M) rfl ml_X9_54 meX9_hasSize rfl ⟨prX9_hasSize, (Nat.le_of_ble_eq_true rfl), (Nat.le_of_ble_eq_true rfl), rfl, rfl⟩ (Nat.le_of_ble_eq_true rfl) dX9_put_78 (fun v15 => ?_)
              refine SP.jn 90 (fun (s17 : Int32) => [some (.ref 0), some (.int p1), some (.int p2), none, none, none, none]) (fun (s17 : Int32) => [(.int s17), (.int p4), (.int p3), (.int p2), (.ref (8 + 4 * p1.toNatClampNeg))]) (fun (s17 : Int32) => xwd M) (fun kk16 hkk16 => ?_) (fun s17 => ?_)
              · try dsimp only
                refine x_if_eq (pc := 81) (tgt := 89) dX9_put_81 (by decide) (fun h18 => ?_) (fun h18 => ?_)
                · refine x_iconst (pc := 89) (a := 0) dX9_put_89 (by decide) ?_
                  refine SP.mask (pc := 90) [true, true, true, false, false, false, false] (L' := [some (.ref 0), some (.int p1), some (.int p2), none, none, none, none]) rfl ?_
                  have hz := hkk16 (0:Int32)
                  try dsimp only at hz
                  exact hz
                · refine x_iload (pc := 84) dX9_put_84 rfl ?_
                  refine x_goto (pc := 86) (tgt := 90) dX9_put_86 (by decide) ?_
                  refine SP.mask (pc := 90) [true, true, true, false, false, false, false] (L' := [some (.ref 0), some (.int p1), some (.int p2), none, none, none, none]) rfl ?_
                  have hz := hkk16 p5
                  try dsimp only at hz
                  exact hz
              · try dsimp only
                refine x_iload_n (pc := 90) dX9_put_90 rfl ?_
                refine x_iconst (pc := 91) (a := 5) dX9_put_91 (by decide) ?_
                refine SP.jn 106 (fun (s20 : Int32) => [some (.ref 0), some (.int p1), none, none, none, none, none]) (fun (s20 : Int32) => [(.int s20), (.int s17), (.int p4), (.int p3), (.int p2), (.ref (8 + 4 * p1.toNatClampNeg))]) (fun (s20 : Int32) => xwd M) (fun kk19 hkk19 => ?_) (fun s20 => ?_)
                · try dsimp only
                  refine x_icmp_ne (pc := 92) (tgt := 99) dX9_put_92 (by decide) (fun h21 => ?_) (fun h21 => ?_)
                  · refine x_aload_n (pc := 99) dX9_put_99 rfl ?_
                    refine m_getR (pc := 100) (t := 1) xC9 0 fl_X9_10 rfl (by decide) rfl (by decide) rfl dX9_put_100 ?_
                    refine m_getI (pc := 103) xC6 3 fl_X9_67 rfl (by decide) rfl (by decide) rfl dX9_put_103 ?_
                    refine SP.mask (pc := 106) [true, true, false, false, false, false, false] (L' := [some (.ref 0), some (.int p1), none, none, none, none, none]) rfl ?_
                    have hz := hkk19 (M.1 1 3)
                    try dsimp only at hz
                    exact hz
                  · refine x_iconst (pc := 95) (a := 0) dX9_put_95 (by decide) ?_
                    refine x_goto (pc := 96) (tgt := 106) dX9_put_96 (by decide) ?_
                    refine SP.mask (pc := 106) [true, true, false, false, false, false, false] (L' := [some (.ref 0), some (.int p1), none, none, none, none, none]) rfl ?_
                    have hz := hkk19 (0:Int32)
                    try dsimp only at hz
                    exact hz
                · try dsimp only
                  refine cV_M (pc := 106) (As := [(.int p2), (.int p3), (.int p4), (.int s17), (.int s20)]) (rest := []) (ct_X7_bring p1.toNatClampNeg p2 p3 p4 s17 s20 M (xinb_lt hb13)) rfl xC7 (xPl (xinb_lt hb13)) (by decide) ml_X9_70 meX7_bring rfl ⟨prX7_bring, (Nat.le_of_ble_eq_true rfl), (Nat.le_of_ble_eq_true rfl), rfl, rfl⟩ (Nat.le_of_ble_eq_true rfl) dX9_put_106 (fun q22 => ?_)
                  refine x_aload_n (pc := 109) dX9_put_109 rfl ?_
                  refine m_getR (pc := 110) (t := 1) xC9 0 fl_X9_10 rfl (by decide) rfl (by decide) rfl dX9_put_110 ?_
                  refine x_dup (pc := 113) dX9_put_113 rfl ?_
                  refine m_getI (pc := 114) xC6 4 fl_X9_74 rfl (by decide) rfl (by decide) rfl dX9_put_114 ?_
                  refine x_iconst (pc := 117) (a := 1) dX9_put_117 (by decide) ?_
                  refine x_iadd (pc := 118) dX9_put_118 ?_
                  refine m_putI (pc := 119) xC6 4 fl_X9_74 rfl (by decide) rfl (by decide) rfl rfl rfl dX9_put_119 ?_
                  refine SP.bdm (fun m23 e24 => ?_)
                  refine x_iload_n (pc := 122) dX9_put_122 rfl ?_
                  exact x_iret (pc := 123) rfl rfl dX9_put_123 (Nat.zero_le _) (Nat.zero_le _)
            · refine x_iconst (pc := 69) (a := -1) dX9_put_69 (by decide) ?_
              exact x_iret (pc := 70) rfl rfl dX9_put_70 (Nat.zero_le _) (Nat.zero_le _)
        · refine x_iconst (pc := 25) (a := -1) dX9_put_25 (by decide) ?_
          exact x_iret (pc := 26) rfl rfl dX9_put_26 (Nat.zero_le _) (Nat.zero_le _)

