set_option maxRecDepth 100000 in
set_option maxHeartbeats 4000000 in
theorem ct_J7_fill_53178 (a0 : Nat) (n0 : Nat) (p1 : Int32) (M : xM) (ht0 : xT a0 = 11) (hn0 : xN a0 = n0) : Ct iJ7_fill_53178 rM [(.ref a0), (.int p1)] (xwd M) (fJ7_fill_53178 a0 n0 p1 M) := by
  refine Ct.of' (L := [some (.ref a0), some (.int p1), none, none]) 2 rfl (by decide +kernel) (Nat.le_of_ble_eq_true rfl) rfl ?_
  unfold fJ7_fill_53178
  refine x_iconst (pc := 0) (a := 0) dJ7_fill_53178_0 (by decide) ?_
  refine x_istore_n (pc := 1) (L' := [some (.ref a0), some (.int p1), some (.int (0:Int32)), none]) dJ7_fill_53178_1 (Nat.le_of_ble_eq_true rfl) rfl rfl ?_
  refine x_aload_n (pc := 2) dJ7_fill_53178_2 rfl ?_
  refine m_alen (pc := 3) ht0 hn0 rfl dJ7_fill_53178_3 ?_
  refine SP.bdi (fun x1 e2 => ?_)
  refine x_istore_n (pc := 4) (L' := [some (.ref a0), some (.int p1), some (.int (0:Int32)), some (.int x1)]) dJ7_fill_53178_4 (Nat.le_of_ble_eq_true rfl) rfl rfl ?_
  refine SP.mask (pc := 5) [true, true, true, true] (L' := [some (.ref a0), some (.int p1), some (.int (0:Int32)), some (.int x1)]) rfl ?_
  refine SP.lp (pc := 5) (fun (s3 : (Int32 × xM)) => [some (.ref a0), some (.int p1), some (.int s3.1), some (.int x1)]) (fun (s3 : (Int32 × xM)) => xwd s3.2) (fun s3 kk4 hkk4 => ?_) xfu ((0:Int32), M)
  try dsimp only
  refine x_iload_n (pc := 5) dJ7_fill_53178_5 rfl ?_
  refine x_iload_n (pc := 6) dJ7_fill_53178_6 rfl ?_
  refine x_icmp_ge (pc := 7) (tgt := 20) dJ7_fill_53178_7 (by decide) (fun h5 => ?_) (fun h5 => ?_)
  · exact x_vret (pc := 20) rfl rfl dJ7_fill_53178_20 (Nat.zero_le _) (Nat.zero_le _)
  · refine x_aload_n (pc := 10) dJ7_fill_53178_10 rfl ?_
    refine x_iload_n (pc := 11) dJ7_fill_53178_11 rfl ?_
    refine x_iload_n (pc := 12) dJ7_fill_53178_12 rfl ?_
    refine m_iast (pc := 13) ht0 hn0 dJ7_fill_53178_13 (fun hb6 => ?_)
    refine SP.bdm (fun m7 e8 => ?_)
    refine x_iinc (pc := 14) (b := (s3.1 + 1)) (L' := [some (.ref a0), some (.int p1), some (.int (s3.1 + 1)), some (.int x1)]) dJ7_fill_53178_14 rfl rfl (Nat.le_of_ble_eq_true rfl) rfl rfl ?_
    refine x_goto (pc := 17) (tgt := 5) dJ7_fill_53178_17 (by decide) ?_
    have hz := hkk4 ((s3.1 + 1), m7)
    try dsimp only at hz
    exact hz

set_option maxRecDepth 100000 in
set_option maxHeartbeats 4000000 in
theorem ct_X9_isDay (p0 : Int32) (M : xM)  : Ct iX9_isDay (rI M) [(.int p0)] (xwd M) (fX9_isDay p0 M) := by
  refine Ct.of' (L := [some (.int p0)]) 0 rfl (by decide +kernel) (Nat.le_of_ble_eq_true rfl) rfl ?_
  unfold fX9_isDay
  refine x_iload_n (pc := 0) dX9_isDay_0 rfl ?_
  refine x_if_lt (pc := 1) (tgt := 14) dX9_isDay_1 (by decide) (fun h1 => ?_) (fun h1 => ?_)
  · refine x_iconst (pc := 14) (a := 0) dX9_isDay_14 (by decide) ?_
    exact x_zret (pc := 15) rfl (by decide) rfl dX9_isDay_15 (Nat.zero_le _) (Nat.zero_le _)
  · refine x_iload_n (pc := 4) dX9_isDay_4 rfl ?_
    refine x_bipush (pc := 5) (a := 56) dX9_isDay_5 (by decide) ?_
    refine x_icmp_ge (pc := 7) (tgt := 14) dX9_isDay_7 (by decide) (fun h2 => ?_) (fun h2 => ?_)
    · refine x_iconst (pc := 14) (a := 0) dX9_isDay_14 (by decide) ?_
      exact x_zret (pc := 15) rfl (by decide) rfl dX9_isDay_15 (Nat.zero_le _) (Nat.zero_le _)
    · refine x_iconst (pc := 10) (a := 1) dX9_isDay_10 (by decide) ?_
      refine x_goto (pc := 11) (tgt := 15) dX9_isDay_11 (by decide) ?_
      exact x_zret (pc := 15) rfl (by decide) rfl dX9_isDay_15 (Nat.zero_le _) (Nat.zero_le _)

set_option maxRecDepth 100000 in
set_option maxHeartbeats 4000000 in
theorem ct_X9_isPlace (p0 : Int32) (M : xM)  : Ct iX9_isPlace (rI M) [(.int p0)] (xwd M) (fX9_isPlace p0 M) := by
  refine Ct.of' (L := [some (.int p0)]) 0 rfl (by decide +kernel) (Nat.le_of_ble_eq_true rfl) rfl ?_
  unfold fX9_isPlace
  refine x_iload_n (pc := 0) dX9_isPlace_0 rfl ?_
  refine x_if_lt (pc := 1) (tgt := 14) dX9_isPlace_1 (by decide) (fun h1 => ?_) (fun h1 => ?_)
  · refine x_iconst (pc := 14) (a := 0) dX9_isPlace_14 (by decide) ?_
    exact x_zret (pc := 15) rfl (by decide) rfl dX9_isPlace_15 (Nat.zero_le _) (Nat.zero_le _)
  · refine x_iload_n (pc := 4) dX9_isPlace_4 rfl ?_
    refine x_bipush (pc := 5) (a := 16) dX9_isPlace_5 (by decide) ?_
    refine x_icmp_ge (pc := 7) (tgt := 14) dX9_isPlace_7 (by decide) (fun h2 => ?_) (fun h2 => ?_)
    · refine x_iconst (pc := 14) (a := 0) dX9_isPlace_14 (by decide) ?_
      exact x_zret (pc := 15) rfl (by decide) rfl dX9_isPlace_15 (Nat.zero_le _) (Nat.zero_le _)
    · refine x_iconst (pc := 10) (a := 1) dX9_isPlace_10 (by decide) ?_
      refine x_goto (pc := 11) (tgt := 15) dX9_isPlace_11 (by decide) ?_
      exact x_zret (pc := 15) rfl (by decide) rfl dX9_isPlace_15 (Nat.zero_le _) (Nat.zero_le _)

set_option maxRecDepth 100000 in
set_option maxHeartbeats 4000000 in
theorem ct_X0_doubtOf (p1 : Int32) (p2 : Int32) (M : xM)  : Ct iX0_doubtOf (rI M) [(.ref 72), (.int p1), (.int p2)] (xwd M) (fX0_doubtOf p1 p2 M) := by
  refine Ct.of' (L := [some (.ref 72), some (.int p1), some (.int p2)]) 0 rfl (by decide +kernel) (Nat.le_of_ble_eq_true rfl) rfl ?_
  unfold fX0_doubtOf
  refine x_iload_n (pc := 0) dX0_doubtOf_0 rfl ?_
  refine cSN_I (pc := 1) (As := [(.int p1)]) (rest := []) (ct_X9_isPlace p1 M) rfl ml_X0_39 meX9_isPlace rfl ⟨prX9_isPlace, (Nat.le_of_ble_eq_true rfl), (Nat.le_of_ble_eq_true rfl), rfl, rfl⟩ (Nat.le_of_ble_eq_true rfl) dX0_doubtOf_1 (fun v1 => ?_)
  refine x_if_eq (pc := 4) (tgt := 25) dX0_doubtOf_4 (by decide) (fun h2 => ?_) (fun h2 => ?_)
  · refine x_iconst (pc := 25) (a := 0) dX0_doubtOf_25 (by decide) ?_
    exact x_iret (pc := 26) rfl rfl dX0_doubtOf_26 (Nat.zero_le _) (Nat.zero_le _)
  · refine x_iload_n (pc := 7) dX0_doubtOf_7 rfl ?_
    refine cSN_I (pc := 8) (As := [(.int p2)]) (rest := []) (ct_X9_isDay p2 M) rfl ml_X0_43 meX9_isDay rfl ⟨prX9_isDay, (Nat.le_of_ble_eq_true rfl), (Nat.le_of_ble_eq_true rfl), rfl, rfl⟩ (Nat.le_of_ble_eq_true rfl) dX0_doubtOf_8 (fun v3 => ?_)
    refine x_if_eq (pc := 11) (tgt := 25) dX0_doubtOf_11 (by decide) (fun h4 => ?_) (fun h4 => ?_)
    · refine x_iconst (pc := 25) (a := 0) dX0_doubtOf_25 (by decide) ?_
      exact x_iret (pc := 26) rfl rfl dX0_doubtOf_26 (Nat.zero_le _) (Nat.zero_le _)
    · refine x_aload_n (pc := 14) dX0_doubtOf_14 rfl ?_
      refine m_getR (pc := 15) (t := 90) xC0 2 fl_X0_16 rfl (by decide) rfl (by decide) rfl dX0_doubtOf_15 ?_
      refine x_iload_n (pc := 18) dX0_doubtOf_18 rfl ?_
      refine m_aald (pc := 19) (t0 := 5) rfl (by decide) rfl (fun _ => rfl) rfl (xE_bk xbk90 _) dX0_doubtOf_19 (fun hb5 => ?_)
      refine x_iload_n (pc := 20) dX0_doubtOf_20 rfl ?_
      refine m_iald (pc := 21) (xBk_T xbk90 (xinb_lt hb5)) (xBk_N xbk90 (xinb_lt hb5)) dX0_doubtOf_21 (fun hb6 => ?_)
      refine x_goto (pc := 22) (tgt := 26) dX0_doubtOf_22 (by decide) ?_
      exact x_iret (pc := 26) rfl rfl dX0_doubtOf_26 (Nat.zero_le _) (Nat.zero_le _)

set_option maxRecDepth 100000 in
set_option maxHeartbeats 4000000 in
theorem ct_X0_trustedOf (p1 : Int32) (p2 : Int32) (M : xM)  : Ct iX0_trustedOf (rI M) [(.ref 72), (.int p1), (.int p2)] (xwd M) (fX0_trustedOf p1 p2 M) := by
  refine Ct.of' (L := [some (.ref 72), some (.int p1), some (.int p2)]) 0 rfl (by decide +kernel) (Nat.le_of_ble_eq_true rfl) rfl ?_
  unfold fX0_trustedOf
  refine x_iload_n (pc := 0) dX0_trustedOf_0 rfl ?_
  refine cSN_I (pc := 1) (As := [(.int p1)]) (rest := []) (ct_X9_isPlace p1 M) rfl ml_X0_39 meX9_isPlace rfl ⟨prX9_isPlace, (Nat.le_of_ble_eq_true rfl), (Nat.le_of_ble_eq_true rfl), rfl, rfl⟩ (Nat.le_of_ble_eq_true rfl) dX0_trustedOf_1 (fun v1 => ?_)
  refine x_if_eq (pc := 4) (tgt := 25) dX0_trustedOf_4 (by decide) (fun h2 => ?_) (fun h2 => ?_)
  · refine x_iconst (pc := 25) (a := -1) dX0_trustedOf_25 (by decide) ?_
    exact x_iret (pc := 26) rfl rfl dX0_trustedOf_26 (Nat.zero_le _) (Nat.zero_le _)
  · refine x_iload_n (pc := 7) dX0_trustedOf_7 rfl ?_
    refine cSN_I (pc := 8) (As := [(.int p2)]) (rest := []) (ct_X9_isDay p2 M) rfl ml_X0_43 meX9_isDay rfl ⟨prX9_isDay, (Nat.le_of_ble_eq_true rfl), (Nat.le_of_ble_eq_true rfl), rfl, rfl⟩ (Nat.le_of_ble_eq_true rfl) dX0_trustedOf_8 (fun v3 => ?_)
    refine x_if_eq (pc := 11) (tgt := 25) dX0_trustedOf_11 (by decide) (fun h4 => ?_) (fun h4 => ?_)
    · refine x_iconst (pc := 25) (a := -1) dX0_trustedOf_25 (by decide) ?_
      exact x_iret (pc := 26) rfl rfl dX0_trustedOf_26 (Nat.zero_le _) (Nat.zero_le _)
    · refine x_aload_n (pc := 14) dX0_trustedOf_14 rfl ?_
      refine m_getR (pc := 15) (t := 107) xC0 3 fl_X0_19 rfl (by decide) rfl (by decide) rfl dX0_trustedOf_15 ?_
      refine x_iload_n (pc := 18) dX0_trustedOf_18 rfl ?_
      refine m_aald (pc := 19) (t0 := 5) rfl (by decide) rfl (fun _ => rfl) rfl (xE_bk xbk107 _) dX0_trustedOf_19 (fun hb5 => ?_)
      refine x_iload_n (pc := 20) dX0_trustedOf_20 rfl ?_
      refine m_iald (pc := 21) (xBk_T xbk107 (xinb_lt hb5)) (xBk_N xbk107 (xinb_lt hb5)) dX0_trustedOf_21 (fun hb6 => ?_)
      refine x_goto (pc := 22) (tgt := 26) dX0_trustedOf_22 (by decide) ?_
      exact x_iret (pc := 26) rfl rfl dX0_trustedOf_26 (Nat.zero_le _) (Nat.zero_le _)

set_option maxRecDepth 100000 in
set_option maxHeartbeats 4000000 in
theorem ct_X0_toldOf (p1 : Int32) (p2 : Int32) (M : xM)  : Ct iX0_toldOf (rI M) [(.ref 72), (.int p1), (.int p2)] (xwd M) (fX0_toldOf p1 p2 M) := by
  refine Ct.of' (L := [some (.ref 72), some (.int p1), some (.int p2)]) 0 rfl (by decide +kernel) (Nat.le_of_ble_eq_true rfl) rfl ?_
  unfold fX0_toldOf
  refine x_iload_n (pc := 0) dX0_toldOf_0 rfl ?_
  refine cSN_I (pc := 1) (As := [(.int p1)]) (rest := []) (ct_X9_isPlace p1 M) rfl ml_X0_39 meX9_isPlace rfl ⟨prX9_isPlace, (Nat.le_of_ble_eq_true rfl), (Nat.le_of_ble_eq_true rfl), rfl, rfl⟩ (Nat.le_of_ble_eq_true rfl) dX0_toldOf_1 (fun v1 => ?_)
  refine x_if_eq (pc := 4) (tgt := 25) dX0_toldOf_4 (by decide) (fun h2 => ?_) (fun h2 => ?_)
  · refine x_iconst (pc := 25) (a := -1) dX0_toldOf_25 (by decide) ?_
    exact x_iret (pc := 26) rfl rfl dX0_toldOf_26 (Nat.zero_le _) (Nat.zero_le _)
  · refine x_iload_n (pc := 7) dX0_toldOf_7 rfl ?_
    refine cSN_I (pc := 8) (As := [(.int p2)]) (rest := []) (ct_X9_isDay p2 M) rfl ml_X0_43 meX9_isDay rfl ⟨prX9_isDay, (Nat.le_of_ble_eq_true rfl), (Nat.le_of_ble_eq_true rfl), rfl, rfl⟩ (Nat.le_of_ble_eq_true rfl) dX0_toldOf_8 (fun v3 => ?_)
    refine x_if_eq (pc := 11) (tgt := 25) dX0_toldOf_11 (by decide) (fun h4 => ?_) (fun h4 => ?_)
    · refine x_iconst (pc := 25) (a := -1) dX0_toldOf_25 (by decide) ?_
      exact x_iret (pc := 26) rfl rfl dX0_toldOf_26 (Nat.zero_le _) (Nat.zero_le _)
    · refine x_aload_n (pc := 14) dX0_toldOf_14 rfl ?_
      refine m_getR (pc := 15) (t := 124) xC0 4 fl_X0_22 rfl (by decide) rfl (by decide) rfl dX0_toldOf_15 ?_
      refine x_iload_n (pc := 18) dX0_toldOf_18 rfl ?_
      refine m_aald (pc := 19) (t0 := 5) rfl (by decide) rfl (fun _ => rfl) rfl (xE_bk xbk124 _) dX0_toldOf_19 (fun hb5 => ?_)
      refine x_iload_n (pc := 20) dX0_toldOf_20 rfl ?_
      refine m_iald (pc := 21) (xBk_T xbk124 (xinb_lt hb5)) (xBk_N xbk124 (xinb_lt hb5)) dX0_toldOf_21 (fun hb6 => ?_)
      refine x_goto (pc := 22) (tgt := 26) dX0_toldOf_22 (by decide) ?_
      exact x_iret (pc := 26) rfl rfl dX0_toldOf_26 (Nat.zero_le _) (Nat.zero_le _)

set_option maxRecDepth 100000 in
set_option maxHeartbeats 4000000 in
theorem ct_X0_isTrustedThrough (p1 : Int32) (p2 : Int32) (p3 : Int32) (M : xM)  : Ct iX0_isTrustedThrough (rI M) [(.ref 72), (.int p1), (.int p2), (.int p3)] (xwd M) (fX0_isTrustedThrough p1 p2 p3 M) := by
  refine Ct.of' (L := [some (.ref 72), some (.int p1), some (.int p2), some (.int p3), none]) 1 rfl (by decide +kernel) (Nat.le_of_ble_eq_true rfl) rfl ?_
  unfold fX0_isTrustedThrough
  refine x_iload_n (pc := 0) dX0_isTrustedThrough_0 rfl ?_
  refine x_istore (pc := 1) (L' := [some (.ref 72), some (.int p1), some (.int p2), some (.int p3), some (.int p2)]) dX0_isTrustedThrough_1 (Nat.le_of_ble_eq_true rfl) rfl rfl ?_
  refine SP.mask (pc := 3) [true, true, false, true, true] (L' := [some (.ref 72), some (.int p1), none, some (.int p3), some (.int p2)]) rfl ?_
  refine SP.lp (pc := 3) (fun (s1 : Int32) => [some (.ref 72), some (.int p1), none, some (.int p3), some (.int s1)]) (fun (s1 : Int32) => xwd M) (fun s1 kk2 hkk2 => ?_) xfu p2
  try dsimp only
  refine x_iload (pc := 3) dX0_isTrustedThrough_3 rfl ?_
  refine x_iload_n (pc := 5) dX0_isTrustedThrough_5 rfl ?_
  refine x_icmp_gt (pc := 6) (tgt := 30) dX0_isTrustedThrough_6 (by decide) (fun h3 => ?_) (fun h3 => ?_)
  · refine x_iconst (pc := 30) (a := 1) dX0_isTrustedThrough_30 (by decide) ?_
    exact x_zret (pc := 31) rfl (by decide) rfl dX0_isTrustedThrough_31 (Nat.zero_le _) (Nat.zero_le _)
  · refine x_aload_n (pc := 9) dX0_isTrustedThrough_9 rfl ?_
    refine m_getR (pc := 10) (t := 107) xC0 3 fl_X0_19 rfl (by decide) rfl (by decide) rfl dX0_isTrustedThrough_10 ?_
    refine x_iload_n (pc := 13) dX0_isTrustedThrough_13 rfl ?_
    refine m_aald (pc := 14) (t0 := 5) rfl (by decide) rfl (fun _ => rfl) rfl (xE_bk xbk107 _) dX0_isTrustedThrough_14 (fun hb4 => ?_)
    refine x_iload (pc := 15) dX0_isTrustedThrough_15 rfl ?_
    refine m_iald (pc := 17) (xBk_T xbk107 (xinb_lt hb4)) (xBk_N xbk107 (xinb_lt hb4)) dX0_isTrustedThrough_17 (fun hb5 => ?_)
    refine x_iconst (pc := 18) (a := -1) dX0_isTrustedThrough_18 (by decide) ?_
    refine x_icmp_ne (pc := 19) (tgt := 24) dX0_isTrustedThrough_19 (by decide) (fun h6 => ?_) (fun h6 => ?_)
    · refine x_iinc (pc := 24) (b := (s1 + 1)) (L' := [some (.ref 72), some (.int p1), none, some (.int p3), some (.int (s1 + 1))]) dX0_isTrustedThrough_24 rfl rfl (Nat.le_of_ble_eq_true rfl) rfl rfl ?_
      refine x_goto (pc := 27) (tgt := 3) dX0_isTrustedThrough_27 (by decide) ?_
      have hz := hkk2 (s1 + 1)
      try dsimp only at hz
      exact hz
    · refine x_iconst (pc := 22) (a := 0) dX0_isTrustedThrough_22 (by decide) ?_
      exact x_zret (pc := 23) rfl (by decide) rfl dX0_isTrustedThrough_23 (Nat.zero_le _) (Nat.zero_le _)

set_option maxRecDepth 100000 in
set_option maxHeartbeats 4000000 in
theorem ct_X9_squaredDistance (p0 : Int32) (p1 : Int32) (k2 : Nat) (M : xM) (hk2 : k2 < 16) : Ct iX9_squaredDistance (rI M) [(.int p0), (.int p1), (.ref (8 + 4 * k2))] (xwd M) (fX9_squaredDistance p0 p1 k2 M) := by
  refine Ct.of' (L := [some (.int p0), some (.int p1), some (.ref (8 + 4 * k2))]) 0 rfl (by decide +kernel) (Nat.le_of_ble_eq_true rfl) rfl ?_
  unfold fX9_squaredDistance
  refine x_iload_n (pc := 0) dX9_squaredDistance_0 rfl ?_
  refine x_aload_n (pc := 1) dX9_squaredDistance_1 rfl ?_
  refine m_getI (pc := 2) xC7 1 fl_X9_80 (xPl hk2) (by decide) rfl (by decide) rfl dX9_squaredDistance_2 ?_
  refine x_isub (pc := 5) dX9_squaredDistance_5 ?_
  refine x_iload_n (pc := 6) dX9_squaredDistance_6 rfl ?_
  refine x_aload_n (pc := 7) dX9_squaredDistance_7 rfl ?_
  refine m_getI (pc := 8) xC7 1 fl_X9_80 (xPl hk2) (by decide) rfl (by decide) rfl dX9_squaredDistance_8 ?_
  refine x_isub (pc := 11) dX9_squaredDistance_11 ?_
  refine x_imul (pc := 12) dX9_squaredDistance_12 ?_
  refine x_iload_n (pc := 13) dX9_squaredDistance_13 rfl ?_
  refine x_aload_n (pc := 14) dX9_squaredDistance_14 rfl ?_
  refine m_getI (pc := 15) xC7 2 fl_X9_83 (xPl hk2) (by decide) rfl (by decide) rfl dX9_squaredDistance_15 ?_
  refine x_isub (pc := 18) dX9_squaredDistance_18 ?_
  refine x_iload_n (pc := 19) dX9_squaredDistance_19 rfl ?_
  refine x_aload_n (pc := 20) dX9_squaredDistance_20 rfl ?_
  refine m_getI (pc := 21) xC7 2 fl_X9_83 (xPl hk2) (by decide) rfl (by decide) rfl dX9_squaredDistance_21 ?_
  refine x_isub (pc := 24) dX9_squaredDistance_24 ?_
  refine x_imul (pc := 25) dX9_squaredDistance_25 ?_
  refine x_iadd (pc := 26) dX9_squaredDistance_26 ?_
  exact x_iret (pc := 27) rfl rfl dX9_squaredDistance_27 (Nat.zero_le _) (Nat.zero_le _)

set_option maxRecDepth 100000 in
set_option maxHeartbeats 4000000 in
theorem ct_X0_nearestTrusted (p1 : Int32) (p2 : Int32) (p3 : Int32) (M : xM)  : Ct iX0_nearestTrusted (rI M) [(.ref 72), (.int p1), (.int p2), (.int p3)] (xwd M) (fX0_nearestTrusted p1 p2 p3 M) := by
  refine Ct.of' (L := [some (.ref 72), some (.int p1), some (.int p2), some (.int p3), none, none, none, none, none]) 5 rfl (by decide +kernel) (Nat.le_of_ble_eq_true rfl) rfl ?_
  unfold fX0_nearestTrusted
  refine x_aload_n (pc := 0) dX0_nearestTrusted_0 rfl ?_
  refine m_getR (pc := 1) (t := 1) xC0 0 fl_X0_29 rfl (by decide) rfl (by decide) rfl dX0_nearestTrusted_1 ?_
  refine m_getR (pc := 4) (t := 2) xC6 0 fl_X0_60 rfl (by decide) rfl (by decide) rfl dX0_nearestTrusted_4 ?_
  refine x_iload_n (pc := 7) dX0_nearestTrusted_7 rfl ?_
  refine m_aald (pc := 8) (t0 := 3) rfl (by decide) rfl (fun _ => rfl) rfl (xE_pl _) dX0_nearestTrusted_8 (fun hb1 => ?_)
  refine x_astore (pc := 9) (L' := [some (.ref 72), some (.int p1), some (.int p2), some (.int p3), some (.ref (8 + 4 * p1.toNatClampNeg)), none, none, none, none]) dX0_nearestTrusted_9 (Nat.le_of_ble_eq_true rfl) rfl rfl ?_
  refine x_iconst (pc := 11) (a := -1) dX0_nearestTrusted_11 (by decide) ?_
  refine x_istore (pc := 12) (L' := [some (.ref 72), some (.int p1), some (.int p2), some (.int p3), some (.ref (8 + 4 * p1.toNatClampNeg)), some (.int (-1:Int32)), none, none, none]) dX0_nearestTrusted_12 (Nat.le_of_ble_eq_true rfl) rfl rfl ?_
  refine x_iconst (pc := 14) (a := 0) dX0_nearestTrusted_14 (by decide) ?_
  refine x_istore (pc := 15) (L' := [some (.ref 72), some (.int p1), some (.int p2), some (.int p3), some (.ref (8 + 4 * p1.toNatClampNeg)), some (.int (-1:Int32)), some (.int (0:Int32)), none, none]) dX0_nearestTrusted_15 (Nat.le_of_ble_eq_true rfl) rfl rfl ?_
  refine x_iconst (pc := 17) (a := 0) dX0_nearestTrusted_17 (by decide) ?_
  refine x_istore (pc := 18) (L' := [some (.ref 72), some (.int p1), some (.int p2), some (.int p3), some (.ref (8 + 4 * p1.toNatClampNeg)), some (.int (-1:Int32)), some (.int (0:Int32)), some (.int (0:Int32)), none]) dX0_nearestTrusted_18 (Nat.le_of_ble_eq_true rfl) rfl rfl ?_
  refine SP.mask (pc := 20) [true, false, true, true, true, true, true, true, false] (L' := [some (.ref 72), none, some (.int p2), some (.int p3), some (.ref (8 + 4 * p1.toNatClampNeg)), some (.int (-1:Int32)), some (.int (0:Int32)), some (.int (0:Int32)), none]) rfl ?_
  refine SP.lp (pc := 20) (fun (s2 : (Int32 × Int32 × Int32)) => [some (.ref 72), none, some (.int p2), some (.int p3), some (.ref (8 + 4 * p1.toNatClampNeg)), some (.int s2.1), some (.int s2.2.1), some (.int s2.2.2), none]) (fun (s2 : (Int32 × Int32 × Int32)) => xwd M) (fun s2 kk3 hkk3 => ?_) xfu ((-1:Int32), (0:Int32), (0:Int32))
  try dsimp only
  refine x_iload (pc := 20) dX0_nearestTrusted_20 rfl ?_
  refine x_bipush (pc := 22) (a := 16) dX0_nearestTrusted_22 (by decide) ?_
  refine x_icmp_ge (pc := 24) (tgt := 90) dX0_nearestTrusted_24 (by decide) (fun h4 => ?_) (fun h4 => ?_)
  · refine x_iload (pc := 90) dX0_nearestTrusted_90 rfl ?_
    exact x_iret (pc := 92) rfl rfl dX0_nearestTrusted_92 (Nat.zero_le _) (Nat.zero_le _)
  · refine x_aload (pc := 27) dX0_nearestTrusted_27 rfl ?_
    refine m_getI (pc := 29) xC7 1 fl_X0_94 (xPl (xinb_lt hb1)) (by decide) rfl (by decide) rfl dX0_nearestTrusted_29 ?_
    refine x_aload (pc := 32) dX0_nearestTrusted_32 rfl ?_
    refine m_getI (pc := 34) xC7 2 fl_X0_97 (xPl (xinb_lt hb1)) (by decide) rfl (by decide) rfl dX0_nearestTrusted_34 ?_
    refine x_aload_n (pc := 37) dX0_nearestTrusted_37 rfl ?_
    refine m_getR (pc := 38) (t := 1) xC0 0 fl_X0_29 rfl (by decide) rfl (by decide) rfl dX0_nearestTrusted_38 ?_
    refine m_getR (pc := 41) (t := 2) xC6 0 fl_X0_60 rfl (by decide) rfl (by decide) rfl dX0_nearestTrusted_41 ?_
    refine x_iload (pc := 44) dX0_nearestTrusted_44 rfl ?_
    refine m_aald (pc := 46) (t0 := 3) rfl (by decide) rfl (fun _ => rfl) rfl (xE_pl _) dX0_nearestTrusted_46 (fun hb5 => ?_)
    refine cSN_I (pc := 47) (As := [(.int (M.1 (8 + 4 * p1.toNatClampNeg) 1)), (.int (M.1 (8 + 4 * p1.toNatClampNeg) 2)), (.ref (8 + 4 * s2.2.2.toNatClampNeg))]) (rest := []) (ct_X9_squaredDistance (M.1 (8 + 4 * p1.toNatClampNeg) 1) (M.1 (8 + 4 * p1.toNatClampNeg) 2) s2.2.2.toNatClampNeg M (xinb_lt hb5)) rfl ml_X0_100 meX9_squaredDistance rfl ⟨prX9_squaredDistance, (Nat.le_of_ble_eq_true rfl), (Nat.le_of_ble_eq_true rfl), rfl, rfl⟩ (Nat.le_of_ble_eq_true rfl) dX0_nearestTrusted_47 (fun v6 => ?_)
    refine x_istore (pc := 50) (L' := [some (.ref 72), none, some (.int p2), some (.int p3), some (.ref (8 + 4 * p1.toNatClampNeg)), some (.int s2.1), some (.int s2.2.1), some (.int s2.2.2), some (.int v6)]) dX0_nearestTrusted_50 (Nat.le_of_ble_eq_true rfl) rfl rfl ?_
    refine x_iload (pc := 52) dX0_nearestTrusted_52 rfl ?_
    refine x_iconst (pc := 54) (a := -1) dX0_nearestTrusted_54 (by decide) ?_
    refine SP.jn 65 (fun (s8 : Unit) => [some (.ref 72), none, some (.int p2), some (.int p3), some (.ref (8 + 4 * p1.toNatClampNeg)), some (.int s2.1), some (.int s2.2.1), some (.int s2.2.2), some (.int v6)]) (fun (s8 : Unit) => []) (fun (s8 : Unit) => xwd M) (fun kk7 hkk7 => ?_) (fun s8 => ?_)
    · try dsimp only
      refine x_icmp_eq (pc := 55) (tgt := 65) dX0_nearestTrusted_55 (by decide) (fun h9 => ?_) (fun h9 => ?_)
      · have hz := hkk7 ()
        try dsimp only at hz
        exact hz
      · refine x_iload (pc := 58) dX0_nearestTrusted_58 rfl ?_
        refine x_iload (pc := 60) dX0_nearestTrusted_60 rfl ?_
        refine x_icmp_ge (pc := 62) (tgt := 84) dX0_nearestTrusted_62 (by decide) (fun h10 => ?_) (fun h10 => ?_)
        · refine x_iinc (pc := 84) (b := (s2.2.2 + 1)) (L' := [some (.ref 72), none, some (.int p2), some (.int p3), some (.ref (8 + 4 * p1.toNatClampNeg)), some (.int s2.1), some (.int s2.2.1), some (.int (s2.2.2 + 1)), some (.int v6)]) dX0_nearestTrusted_84 rfl rfl (Nat.le_of_ble_eq_true rfl) rfl rfl ?_
          refine x_goto (pc := 87) (tgt := 20) dX0_nearestTrusted_87 (by decide) ?_
          refine SP.mask (pc := 20) [true, false, true, true, true, true, true, true, false] (L' := [some (.ref 72), none, some (.int p2), some (.int p3), some (.ref (8 + 4 * p1.toNatClampNeg)), some (.int s2.1), some (.int s2.2.1), some (.int (s2.2.2 + 1)), none]) rfl ?_
          have hz := hkk3 (s2.1, s2.2.1, (s2.2.2 + 1))
          try dsimp only at hz
          exact hz
        · have hz := hkk7 ()
          try dsimp only at hz
          exact hz
    · try dsimp only
      refine x_aload_n (pc := 65) dX0_nearestTrusted_65 rfl ?_
      refine x_iload (pc := 66) dX0_nearestTrusted_66 rfl ?_
      refine x_iload_n (pc := 68) dX0_nearestTrusted_68 rfl ?_
      refine x_iload_n (pc := 69) dX0_nearestTrusted_69 rfl ?_
      refine cV_I (pc := 70) (As := [(.int s2.2.2), (.int p2), (.int p3)]) (rest := []) (ct_X0_isTrustedThrough s2.2.2 p2 p3 M) rfl xC0 rfl (by decide) ml_X0_124 meX0_isTrustedThrough rfl ⟨prX0_isTrustedThrough, (Nat.le_of_ble_eq_true rfl), (Nat.le_of_ble_eq_true rfl), rfl, rfl⟩ (Nat.le_of_ble_eq_true rfl) dX0_nearestTrusted_70 (fun v11 => ?_)
      refine x_if_eq (pc := 73) (tgt := 84) dX0_nearestTrusted_73 (by decide) (fun h12 => ?_) (fun h12 => ?_)
      · refine x_iinc (pc := 84) (b := (s2.2.2 + 1)) (L' := [some (.ref 72), none, some (.int p2), some (.int p3), some (.ref (8 + 4 * p1.toNatClampNeg)), some (.int s2.1), some (.int s2.2.1), some (.int (s2.2.2 + 1)), some (.int v6)]) dX0_nearestTrusted_84 rfl rfl (Nat.le_of_ble_eq_true rfl) rfl rfl ?_
        refine x_goto (pc := 87) (tgt := 20) dX0_nearestTrusted_87 (by decide) ?_
        refine SP.mask (pc := 20) [true, false, true, true, true, true, true, true, false] (L' := [some (.ref 72), none, some (.int p2), some (.int p3), some (.ref (8 + 4 * p1.toNatClampNeg)), some (.int s2.1), some (.int s2.2.1), some (.int (s2.2.2 + 1)), none]) rfl ?_
        have hz := hkk3 (s2.1, s2.2.1, (s2.2.2 + 1))
        try dsimp only at hz
        exact hz
      · refine x_iload (pc := 76) dX0_nearestTrusted_76 rfl ?_
        refine x_istore (pc := 78) (L' := [some (.ref 72), none, some (.int p2), some (.int p3), some (.ref (8 + 4 * p1.toNatClampNeg)), some (.int s2.2.2), some (.int s2.2.1), some (.int s2.2.2), some (.int v6)]) dX0_nearestTrusted_78 (Nat.le_of_ble_eq_true rfl) rfl rfl ?_
        refine x_iload (pc := 80) dX0_nearestTrusted_80 rfl ?_
        refine x_istore (pc := 82) (L' := [some (.ref 72), none, some (.int p2), some (.int p3), some (.ref (8 + 4 * p1.toNatClampNeg)), some (.int s2.2.2), some (.int v6), some (.int s2.2.2), some (.int v6)]) dX0_nearestTrusted_82 (Nat.le_of_ble_eq_true rfl) rfl rfl ?_
        refine x_iinc (pc := 84) (b := (s2.2.2 + 1)) (L' := [some (.ref 72), none, some (.int p2), some (.int p3), some (.ref (8 + 4 * p1.toNatClampNeg)), some (.int s2.2.2), some (.int v6), some (.int (s2.2.2 + 1)), some (.int v6)]) dX0_nearestTrusted_84 rfl rfl (Nat.le_of_ble_eq_true rfl) rfl rfl ?_
        refine x_goto (pc := 87) (tgt := 20) dX0_nearestTrusted_87 (by decide) ?_
        refine SP.mask (pc := 20) [true, false, true, true, true, true, true, true, false] (L' := [some (.ref 72), none, some (.int p2), some (.int p3), some (.ref (8 + 4 * p1.toNatClampNeg)), some (.int s2.2.2), some (.int v6), some (.int (s2.2.2 + 1)), none]) rfl ?_
        have hz := hkk3 (s2.2.2, v6, (s2.2.2 + 1))
        try dsimp only at hz
        exact hz

set_option maxRecDepth 100000 in
set_option maxHeartbeats 4000000 in
theorem ct_X0_spreadRest (p1 : Int32) (p2 : Int32) (p3 : Int32) (p4 : Int32) (M : xM)  : Ct iX0_spreadRest rM [(.ref 72), (.int p1), (.int p2), (.int p3), (.int p4)] (xwd M) (fX0_spreadRest p1 p2 p3 p4 M) := by
  refine Ct.of' (L := [some (.ref 72), some (.int p1), some (.int p2), some (.int p3), some (.int p4), none, none, none]) 3 rfl (by decide +kernel) (Nat.le_of_ble_eq_true rfl) rfl ?_
  unfold fX0_spreadRest
  refine x_iconst (pc := 0) (a := 0) dX0_spreadRest_0 (by decide) ?_
  refine x_istore (pc := 1) (L' := [some (.ref 72), some (.int p1), some (.int p2), some (.int p3), some (.int p4), some (.int (0:Int32)), none, none]) dX0_spreadRest_1 (Nat.le_of_ble_eq_true rfl) rfl rfl ?_
  refine SP.mask (pc := 3) [true, true, true, true, true, true, false, false] (L' := [some (.ref 72), some (.int p1), some (.int p2), some (.int p3), some (.int p4), some (.int (0:Int32)), none, none]) rfl ?_
  refine SP.lp (pc := 3) (fun (s1 : (Int32 × xM)) => [some (.ref 72), some (.int p1), some (.int p2), some (.int p3), some (.int p4), some (.int s1.1), none, none]) (fun (s1 : (Int32 × xM)) => xwd s1.2) (fun s1 kk2 hkk2 => ?_) xfu ((0:Int32), M)
  try dsimp only
  refine x_iload (pc := 3) dX0_spreadRest_3 rfl ?_
  refine x_iload (pc := 5) dX0_spreadRest_5 rfl ?_
  refine x_icmp_ge (pc := 7) (tgt := 78) dX0_spreadRest_7 (by decide) (fun h3 => ?_) (fun h3 => ?_)
  · exact x_vret (pc := 78) rfl rfl dX0_spreadRest_78 (Nat.zero_le _) (Nat.zero_le _)
  · refine x_iload_n (pc := 10) dX0_spreadRest_10 rfl ?_
    refine x_istore (pc := 11) (L' := [some (.ref 72), some (.int p1), some (.int p2), some (.int p3), some (.int p4), some (.int s1.1), some (.int p2), none]) dX0_spreadRest_11 (Nat.le_of_ble_eq_true rfl) rfl rfl ?_
    refine x_iload_n (pc := 13) dX0_spreadRest_13 rfl ?_
    refine x_iconst (pc := 14) (a := 1) dX0_spreadRest_14 (by decide) ?_
    refine x_iadd (pc := 15) dX0_spreadRest_15 ?_
    refine SP.bdi (fun x4 e5 => ?_)
    refine x_istore (pc := 16) (L' := [some (.ref 72), some (.int p1), some (.int p2), some (.int p3), some (.int p4), some (.int s1.1), some (.int p2), some (.int x4)]) dX0_spreadRest_16 (Nat.le_of_ble_eq_true rfl) rfl rfl ?_
    refine SP.mask (pc := 18) [true, true, true, true, true, true, true, true] (L' := [some (.ref 72), some (.int p1), some (.int p2), some (.int p3), some (.int p4), some (.int s1.1), some (.int p2), some (.int x4)]) rfl ?_
    refine SP.lp (pc := 18) (fun (s6 : (Int32 × Int32)) => [some (.ref 72), some (.int p1), some (.int p2), some (.int p3), some (.int p4), some (.int s1.1), some (.int s6.1), some (.int s6.2)]) (fun (s6 : (Int32 × Int32)) => xwd s1.2) (fun s6 kk7 hkk7 => ?_) xfu (p2, x4)
    try dsimp only
    refine x_iload (pc := 18) dX0_spreadRest_18 rfl ?_
    refine x_iload_n (pc := 20) dX0_spreadRest_20 rfl ?_
    refine x_icmp_gt (pc := 21) (tgt := 51) dX0_spreadRest_21 (by decide) (fun h8 => ?_) (fun h8 => ?_)
    · refine x_aload_n (pc := 51) dX0_spreadRest_51 rfl ?_
      refine m_getR (pc := 52) (t := 124) xC0 4 fl_X0_22 rfl (by decide) rfl (by decide) rfl dX0_spreadRest_52 ?_
      refine x_iload_n (pc := 55) dX0_spreadRest_55 rfl ?_
      refine m_aald (pc := 56) (t0 := 5) rfl (by decide) rfl (fun _ => rfl) rfl (xE_bk xbk124 _) dX0_spreadRest_56 (fun hb9 => ?_)
      refine x_iload (pc := 57) dX0_spreadRest_57 rfl ?_
      refine x_dup2 (pc := 59) dX0_spreadRest_59 rfl rfl ?_
      refine m_iald (pc := 60) (xBk_T xbk124 (xinb_lt hb9)) (xBk_N xbk124 (xinb_lt hb9)) dX0_spreadRest_60 (fun hb10 => ?_)
      refine x_iconst (pc := 61) (a := 1) dX0_spreadRest_61 (by decide) ?_
      refine x_iadd (pc := 62) dX0_spreadRest_62 ?_
      refine m_iast (pc := 63) (xBk_T xbk124 (xinb_lt hb9)) (xBk_N xbk124 (xinb_lt hb9)) dX0_spreadRest_63 (fun hb11 => ?_)
      refine SP.bdm (fun m12 e13 => ?_)
      refine x_aload_n (pc := 64) dX0_spreadRest_64 rfl ?_
      refine m_getR (pc := 65) (t := 141) xC0 5 fl_X0_25 rfl (by decide) rfl (by decide) rfl dX0_spreadRest_65 ?_
      refine x_iload (pc := 68) dX0_spreadRest_68 rfl ?_
      refine x_iconst (pc := 70) (a := -1) dX0_spreadRest_70 (by decide) ?_
      refine m_iast (pc := 71) rfl rfl dX0_spreadRest_71 (fun hb14 => ?_)
      refine SP.bdm (fun m15 e16 => ?_)
      refine x_iinc (pc := 72) (b := (s1.1 + 1)) (L' := [some (.ref 72), some (.int p1), some (.int p2), some (.int p3), some (.int p4), some (.int (s1.1 + 1)), some (.int s6.1), some (.int s6.2)]) dX0_spreadRest_72 rfl rfl (Nat.le_of_ble_eq_true rfl) rfl rfl ?_
      refine x_goto (pc := 75) (tgt := 3) dX0_spreadRest_75 (by decide) ?_
      refine SP.mask (pc := 3) [true, true, true, true, true, true, false, false] (L' := [some (.ref 72), some (.int p1), some (.int p2), some (.int p3), some (.int p4), some (.int (s1.1 + 1)), none, none]) rfl ?_
      have hz := hkk2 ((s1.1 + 1), m15)
      try dsimp only at hz
      exact hz
    · refine x_aload_n (pc := 24) dX0_spreadRest_24 rfl ?_
      refine m_getR (pc := 25) (t := 141) xC0 5 fl_X0_25 rfl (by decide) rfl (by decide) rfl dX0_spreadRest_25 ?_
      refine x_iload (pc := 28) dX0_spreadRest_28 rfl ?_
      refine m_iald (pc := 30) rfl rfl dX0_spreadRest_30 (fun hb17 => ?_)
      refine x_aload_n (pc := 31) dX0_spreadRest_31 rfl ?_
      refine m_getR (pc := 32) (t := 141) xC0 5 fl_X0_25 rfl (by decide) rfl (by decide) rfl dX0_spreadRest_32 ?_
      refine x_iload (pc := 35) dX0_spreadRest_35 rfl ?_
      refine m_iald (pc := 37) rfl rfl dX0_spreadRest_37 (fun hb18 => ?_)
      refine x_icmp_le (pc := 38) (tgt := 45) dX0_spreadRest_38 (by decide) (fun h19 => ?_) (fun h19 => ?_)
      · refine x_iinc (pc := 45) (b := (s6.2 + 1)) (L' := [some (.ref 72), some (.int p1), some (.int p2), some (.int p3), some (.int p4), some (.int s1.1), some (.int s6.1), some (.int (s6.2 + 1))]) dX0_spreadRest_45 rfl rfl (Nat.le_of_ble_eq_true rfl) rfl rfl ?_
        refine x_goto (pc := 48) (tgt := 18) dX0_spreadRest_48 (by decide) ?_
        have hz := hkk7 (s6.1, (s6.2 + 1))
        try dsimp only at hz
        exact hz
      · refine x_iload (pc := 41) dX0_spreadRest_41 rfl ?_
        refine x_istore (pc := 43) (L' := [some (.ref 72), some (.int p1), some (.int p2), some (.int p3), some (.int p4), some (.int s1.1), some (.int s6.2), some (.int s6.2)]) dX0_spreadRest_43 (Nat.le_of_ble_eq_true rfl) rfl rfl ?_
        refine x_iinc (pc := 45) (b := (s6.2 + 1)) (L' := [some (.ref 72), some (.int p1), some (.int p2), some (.int p3), some (.int p4), some (.int s1.1), some (.int s6.2), some (.int (s6.2 + 1))]) dX0_spreadRest_45 rfl rfl (Nat.le_of_ble_eq_true rfl) rfl rfl ?_
        refine x_goto (pc := 48) (tgt := 18) dX0_spreadRest_48 (by decide) ?_
        have hz := hkk7 (s6.2, (s6.2 + 1))
        try dsimp only at hz
        exact hz

set_option maxRecDepth 100000 in
set_option maxHeartbeats 4000000 in
theorem ct_X0_sumTrusted (p1 : Int32) (p2 : Int32) (p3 : Int32) (M : xM)  : Ct iX0_sumTrusted (rI M) [(.ref 72), (.int p1), (.int p2), (.int p3)] (xwd M) (fX0_sumTrusted p1 p2 p3 M) := by
  refine Ct.of' (L := [some (.ref 72), some (.int p1), some (.int p2), some (.int p3), none, none]) 2 rfl (by decide +kernel) (Nat.le_of_ble_eq_true rfl) rfl ?_
  unfold fX0_sumTrusted
  refine x_iconst (pc := 0) (a := 0) dX0_sumTrusted_0 (by decide) ?_
  refine x_istore (pc := 1) (L' := [some (.ref 72), some (.int p1), some (.int p2), some (.int p3), some (.int (0:Int32)), none]) dX0_sumTrusted_1 (Nat.le_of_ble_eq_true rfl) rfl rfl ?_
  refine x_iload_n (pc := 3) dX0_sumTrusted_3 rfl ?_
  refine x_istore (pc := 4) (L' := [some (.ref 72), some (.int p1), some (.int p2), some (.int p3), some (.int (0:Int32)), some (.int p2)]) dX0_sumTrusted_4 (Nat.le_of_ble_eq_true rfl) rfl rfl ?_
  refine SP.mask (pc := 6) [true, true, false, true, true, true] (L' := [some (.ref 72), some (.int p1), none, some (.int p3), some (.int (0:Int32)), some (.int p2)]) rfl ?_
  refine SP.lp (pc := 6) (fun (s1 : (Int32 × Int32)) => [some (.ref 72), some (.int p1), none, some (.int p3), some (.int s1.1), some (.int s1.2)]) (fun (s1 : (Int32 × Int32)) => xwd M) (fun s1 kk2 hkk2 => ?_) xfu ((0:Int32), p2)
  try dsimp only
  refine x_iload (pc := 6) dX0_sumTrusted_6 rfl ?_
  refine x_iload_n (pc := 8) dX0_sumTrusted_8 rfl ?_
  refine x_icmp_gt (pc := 9) (tgt := 32) dX0_sumTrusted_9 (by decide) (fun h3 => ?_) (fun h3 => ?_)
  · refine x_iload (pc := 32) dX0_sumTrusted_32 rfl ?_
    exact x_iret (pc := 34) rfl rfl dX0_sumTrusted_34 (Nat.zero_le _) (Nat.zero_le _)
  · refine x_iload (pc := 12) dX0_sumTrusted_12 rfl ?_
    refine x_aload_n (pc := 14) dX0_sumTrusted_14 rfl ?_
    refine m_getR (pc := 15) (t := 107) xC0 3 fl_X0_19 rfl (by decide) rfl (by decide) rfl dX0_sumTrusted_15 ?_
    refine x_iload_n (pc := 18) dX0_sumTrusted_18 rfl ?_
    refine m_aald (pc := 19) (t0 := 5) rfl (by decide) rfl (fun _ => rfl) rfl (xE_bk xbk107 _) dX0_sumTrusted_19 (fun hb4 => ?_)
    refine x_iload (pc := 20) dX0_sumTrusted_20 rfl ?_
    refine m_iald (pc := 22) (xBk_T xbk107 (xinb_lt hb4)) (xBk_N xbk107 (xinb_lt hb4)) dX0_sumTrusted_22 (fun hb5 => ?_)
    refine x_iadd (pc := 23) dX0_sumTrusted_23 ?_
    refine SP.bdi (fun x6 e7 => ?_)
    refine x_istore (pc := 24) (L' := [some (.ref 72), some (.int p1), none, some (.int p3), some (.int x6), some (.int s1.2)]) dX0_sumTrusted_24 (Nat.le_of_ble_eq_true rfl) rfl rfl ?_
    refine x_iinc (pc := 26) (b := (s1.2 + 1)) (L' := [some (.ref 72), some (.int p1), none, some (.int p3), some (.int x6), some (.int (s1.2 + 1))]) dX0_sumTrusted_26 rfl rfl (Nat.le_of_ble_eq_true rfl) rfl rfl ?_
    refine x_goto (pc := 29) (tgt := 6) dX0_sumTrusted_29 (by decide) ?_
    have hz := hkk2 (x6, (s1.2 + 1))
    try dsimp only at hz
    exact hz

set_option maxRecDepth 100000 in
set_option maxHeartbeats 4000000 in
theorem ct_X0_spread (p1 : Int32) (p2 : Int32) (p3 : Int32) (M : xM)  : Ct iX0_spread rM [(.ref 72), (.int p1), (.int p2), (.int p3)] (xwd M) (fX0_spread p1 p2 p3 M) := by
  refine Ct.of' (L := [some (.ref 72), some (.int p1), some (.int p2), some (.int p3), none, none, none, none, none]) 5 rfl (by decide +kernel) (Nat.le_of_ble_eq_true rfl) rfl ?_
  unfold fX0_spread
  refine x_aload_n (pc := 0) dX0_spread_0 rfl ?_
  refine m_getR (pc := 1) (t := 1) xC0 0 fl_X0_29 rfl (by decide) rfl (by decide) rfl dX0_spread_1 ?_
  refine m_getR (pc := 4) (t := 2) xC6 0 fl_X0_60 rfl (by decide) rfl (by decide) rfl dX0_spread_4 ?_
  refine x_iload_n (pc := 7) dX0_spread_7 rfl ?_
  refine m_aald (pc := 8) (t0 := 3) rfl (by decide) rfl (fun _ => rfl) rfl (xE_pl _) dX0_spread_8 (fun hb1 => ?_)
  refine m_getR (pc := 9) (t := (8 + 4 * p1.toNatClampNeg + 1)) xC7 6 fl_X0_107 (xPl (xinb_lt hb1)) (by decide) rfl (by decide) rfl dX0_spread_9 ?_
  refine x_iload_n (pc := 12) dX0_spread_12 rfl ?_
  refine m_iald (pc := 13) (xPlA (xinb_lt hb1) (Or.inl rfl)) (xPlN (xinb_lt hb1) (Or.inl rfl)) dX0_spread_13 (fun hb2 => ?_)
  refine SP.bdi (fun x3 e4 => ?_)
  refine x_istore (pc := 14) (L' := [some (.ref 72), some (.int p1), some (.int p2), some (.int p3), some (.int x3), none, none, none, none]) dX0_spread_14 (Nat.le_of_ble_eq_true rfl) rfl rfl ?_
  refine x_aload_n (pc := 16) dX0_spread_16 rfl ?_
  refine x_iload_n (pc := 17) dX0_spread_17 rfl ?_
  refine x_iload_n (pc := 18) dX0_spread_18 rfl ?_
  refine x_iload_n (pc := 19) dX0_spread_19 rfl ?_
  refine cV_I (pc := 20) (As := [(.int p1), (.int p2), (.int p3)]) (rest := []) (ct_X0_nearestTrusted p1 p2 p3 M) rfl xC0 rfl (by decide) ml_X0_114 meX0_nearestTrusted rfl ⟨prX0_nearestTrusted, (Nat.le_of_ble_eq_true rfl), (Nat.le_of_ble_eq_true rfl), rfl, rfl⟩ (Nat.le_of_ble_eq_true rfl) dX0_spread_20 (fun v5 => ?_)
  refine x_istore (pc := 23) (L' := [some (.ref 72), some (.int p1), some (.int p2), some (.int p3), some (.int x3), some (.int v5), none, none, none]) dX0_spread_23 (Nat.le_of_ble_eq_true rfl) rfl rfl ?_
  refine x_iload (pc := 25) dX0_spread_25 rfl ?_
  refine x_iconst (pc := 27) (a := -1) dX0_spread_27 (by decide) ?_
  refine SP.jn 43 (fun (s7 : Int32) => [some (.ref 72), some (.int p1), some (.int p2), some (.int p3), some (.int x3), some (.int v5), none, none, none]) (fun (s7 : Int32) => [(.int s7)]) (fun (s7 : Int32) => xwd M) (fun kk6 hkk6 => ?_) (fun s7 => ?_)
  · try dsimp only
    refine x_icmp_ne (pc := 28) (tgt := 35) dX0_spread_28 (by decide) (fun h8 => ?_) (fun h8 => ?_)
    · refine x_aload_n (pc := 35) dX0_spread_35 rfl ?_
      refine x_iload (pc := 36) dX0_spread_36 rfl ?_
      refine x_iload_n (pc := 38) dX0_spread_38 rfl ?_
      refine x_iload_n (pc := 39) dX0_spread_39 rfl ?_
      refine cV_I (pc := 40) (As := [(.int v5), (.int p2), (.int p3)]) (rest := []) (ct_X0_sumTrusted v5 p2 p3 M) rfl xC0 rfl (by decide) ml_X0_117 meX0_sumTrusted rfl ⟨prX0_sumTrusted, (Nat.le_of_ble_eq_true rfl), (Nat.le_of_ble_eq_true rfl), rfl, rfl⟩ (Nat.le_of_ble_eq_true rfl) dX0_spread_40 (fun v9 => ?_)
      have hz := hkk6 v9
      try dsimp only at hz
      exact hz
    · refine x_iconst (pc := 31) (a := 0) dX0_spread_31 (by decide) ?_
      refine x_goto (pc := 32) (tgt := 43) dX0_spread_32 (by decide) ?_
      have hz := hkk6 (0:Int32)
      try dsimp only at hz
      exact hz
  · try dsimp only
    refine x_istore (pc := 43) (L' := [some (.ref 72), some (.int p1), some (.int p2), some (.int p3), some (.int x3), some (.int v5), some (.int s7), none, none]) dX0_spread_43 (Nat.le_of_ble_eq_true rfl) rfl rfl ?_
    refine x_iload (pc := 45) dX0_spread_45 rfl ?_
    refine x_iconst (pc := 47) (a := -1) dX0_spread_47 (by decide) ?_
    refine SP.jn 56 (fun (s11 : Unit) => [some (.ref 72), some (.int p1), some (.int p2), some (.int p3), some (.int x3), none, none, none, none]) (fun (s11 : Unit) => []) (fun (s11 : Unit) => xwd M) (fun kk10 hkk10 => ?_) (fun s11 => ?_)
    · try dsimp only
      refine x_icmp_eq (pc := 48) (tgt := 56) dX0_spread_48 (by decide) (fun h12 => ?_) (fun h12 => ?_)
      · refine SP.mask (pc := 56) [true, true, true, true, true, false, false, false, false] (L' := [some (.ref 72), some (.int p1), some (.int p2), some (.int p3), some (.int x3), none, none, none, none]) rfl ?_
        have hz := hkk10 ()
        try dsimp only at hz
        exact hz
      · refine x_iload (pc := 51) dX0_spread_51 rfl ?_
        refine x_if_gt (pc := 53) (tgt := 93) dX0_spread_53 (by decide) (fun h13 => ?_) (fun h13 => ?_)
        · refine x_iload (pc := 93) dX0_spread_93 rfl ?_
          refine x_istore (pc := 95) (L' := [some (.ref 72), some (.int p1), some (.int p2), some (.int p3), some (.int x3), some (.int v5), some (.int s7), some (.int x3), none]) dX0_spread_95 (Nat.le_of_ble_eq_true rfl) rfl rfl ?_
          refine x_iload_n (pc := 97) dX0_spread_97 rfl ?_
          refine x_istore (pc := 98) (L' := [some (.ref 72), some (.int p1), some (.int p2), some (.int p3), some (.int x3), some (.int v5), some (.int s7), some (.int x3), some (.int p2)]) dX0_spread_98 (Nat.le_of_ble_eq_true rfl) rfl rfl ?_
          refine SP.mask (pc := 100) [true, true, true, true, true, true, true, true, true] (L' := [some (.ref 72), some (.int p1), some (.int p2), some (.int p3), some (.int x3), some (.int v5), some (.int s7), some (.int x3), some (.int p2)]) rfl ?_
          refine SP.lp (pc := 100) (fun (s14 : (Int32 × Int32 × xM)) => [some (.ref 72), some (.int p1), some (.int p2), some (.int p3), some (.int x3), some (.int v5), some (.int s7), some (.int s14.1), some (.int s14.2.1)]) (fun (s14 : (Int32 × Int32 × xM)) => xwd s14.2.2) (fun s14 kk15 hkk15 => ?_) xfu (x3, p2, M)
          try dsimp only
          refine x_iload (pc := 100) dX0_spread_100 rfl ?_
          refine x_iload_n (pc := 102) dX0_spread_102 rfl ?_
          refine x_icmp_gt (pc := 103) (tgt := 174) dX0_spread_103 (by decide) (fun h16 => ?_) (fun h16 => ?_)
          · refine x_aload_n (pc := 174) dX0_spread_174 rfl ?_
            refine x_iload_n (pc := 175) dX0_spread_175 rfl ?_
            refine x_iload_n (pc := 176) dX0_spread_176 rfl ?_
            refine x_iload_n (pc := 177) dX0_spread_177 rfl ?_
            refine x_iload (pc := 178) dX0_spread_178 rfl ?_
            refine cV_M (pc := 180) (As := [(.int p1), (.int p2), (.int p3), (.int s14.1)]) (rest := []) (ct_X0_spreadRest p1 p2 p3 s14.1 s14.2.2) rfl xC0 rfl (by decide) ml_X0_120 meX0_spreadRest rfl ⟨prX0_spreadRest, (Nat.le_of_ble_eq_true rfl), (Nat.le_of_ble_eq_true rfl), rfl, rfl⟩ (Nat.le_of_ble_eq_true rfl) dX0_spread_180 (fun q17 => ?_)
            exact x_vret (pc := 183) rfl rfl dX0_spread_183 (Nat.zero_le _) (Nat.zero_le _)
          · refine x_aload_n (pc := 106) dX0_spread_106 rfl ?_
            refine m_getR (pc := 107) (t := 124) xC0 4 fl_X0_22 rfl (by decide) rfl (by decide) rfl dX0_spread_107 ?_
            refine x_iload_n (pc := 110) dX0_spread_110 rfl ?_
            refine m_aald (pc := 111) (t0 := 5) rfl (by decide) rfl (fun _ => rfl) rfl (xE_bk xbk124 _) dX0_spread_111 (fun hb18 => ?_)
            refine x_iload (pc := 112) dX0_spread_112 rfl ?_
            refine x_iload (pc := 114) dX0_spread_114 rfl ?_
            refine x_aload_n (pc := 116) dX0_spread_116 rfl ?_
            refine m_getR (pc := 117) (t := 107) xC0 3 fl_X0_19 rfl (by decide) rfl (by decide) rfl dX0_spread_117 ?_
            refine x_iload (pc := 120) dX0_spread_120 rfl ?_
            refine m_aald (pc := 122) (t0 := 5) rfl (by decide) rfl (fun _ => rfl) rfl (xE_bk xbk107 _) dX0_spread_122 (fun hb19 => ?_)
            refine x_iload (pc := 123) dX0_spread_123 rfl ?_
            refine m_iald (pc := 125) (xBk_T xbk107 (xinb_lt hb19)) (xBk_N xbk107 (xinb_lt hb19)) dX0_spread_125 (fun hb20 => ?_)
            refine x_imul (pc := 126) dX0_spread_126 ?_
            refine x_iload (pc := 127) dX0_spread_127 rfl ?_
            refine x_idiv (pc := 129) dX0_spread_129 (fun hb21 => ?_)
            refine m_iast (pc := 130) (xBk_T xbk124 (xinb_lt hb18)) (xBk_N xbk124 (xinb_lt hb18)) dX0_spread_130 (fun hb22 => ?_)
            refine SP.bdm (fun m23 e24 => ?_)
            refine x_aload_n (pc := 131) dX0_spread_131 rfl ?_
            refine m_getR (pc := 132) (t := 141) xC0 5 fl_X0_25 rfl (by decide) rfl (by decide) rfl dX0_spread_132 ?_
            refine x_iload (pc := 135) dX0_spread_135 rfl ?_
            refine x_iload (pc := 137) dX0_spread_137 rfl ?_
            refine x_aload_n (pc := 139) dX0_spread_139 rfl ?_
            refine m_getR (pc := 140) (t := 107) xC0 3 fl_X0_19 rfl (by decide) rfl (by decide) rfl dX0_spread_140 ?_
            refine x_iload (pc := 143) dX0_spread_143 rfl ?_
            refine m_aald (pc := 145) (t0 := 5) rfl (by decide) rfl (fun _ => rfl) rfl (xE_bk xbk107 _) dX0_spread_145 (fun hb25 => ?_)
            refine x_iload (pc := 146) dX0_spread_146 rfl ?_
            refine m_iald (pc := 148) (xBk_T xbk107 (xinb_lt hb25)) (xBk_N xbk107 (xinb_lt hb25)) dX0_spread_148 (fun hb26 => ?_)
            refine x_imul (pc := 149) dX0_spread_149 ?_
            refine x_iload (pc := 150) dX0_spread_150 rfl ?_
            refine x_irem (pc := 152) dX0_spread_152 (fun hb27 => ?_)
            refine m_iast (pc := 153) rfl rfl dX0_spread_153 (fun hb28 => ?_)
            refine SP.bdm (fun m29 e30 => ?_)
            refine x_iload (pc := 154) dX0_spread_154 rfl ?_
            refine x_aload_n (pc := 156) dX0_spread_156 rfl ?_
            refine m_getR (pc := 157) (t := 124) xC0 4 fl_X0_22 rfl (by decide) rfl (by decide) rfl dX0_spread_157 ?_
            refine x_iload_n (pc := 160) dX0_spread_160 rfl ?_
            refine m_aald (pc := 161) (t0 := 5) rfl (by decide) rfl (fun _ => rfl) rfl (xE_bk xbk124 _) dX0_spread_161 (fun hb31 => ?_)
            refine x_iload (pc := 162) dX0_spread_162 rfl ?_
            refine m_iald (pc := 164) (xBk_T xbk124 (xinb_lt hb31)) (xBk_N xbk124 (xinb_lt hb31)) dX0_spread_164 (fun hb32 => ?_)
            refine x_isub (pc := 165) dX0_spread_165 ?_
            refine SP.bdi (fun x33 e34 => ?_)
            refine x_istore (pc := 166) (L' := [some (.ref 72), some (.int p1), some (.int p2), some (.int p3), some (.int x3), some (.int v5), some (.int s7), some (.int x33), some (.int s14.2.1)]) dX0_spread_166 (Nat.le_of_ble_eq_true rfl) rfl rfl ?_
            refine x_iinc (pc := 168) (b := (s14.2.1 + 1)) (L' := [some (.ref 72), some (.int p1), some (.int p2), some (.int p3), some (.int x3), some (.int v5), some (.int s7), some (.int x33), some (.int (s14.2.1 + 1))]) dX0_spread_168 rfl rfl (Nat.le_of_ble_eq_true rfl) rfl rfl ?_
            refine x_goto (pc := 171) (tgt := 100) dX0_spread_171 (by decide) ?_
            have hz := hkk15 (x33, (s14.2.1 + 1), m29)
            try dsimp only at hz
            exact hz
        · refine SP.mask (pc := 56) [true, true, true, true, true, false, false, false, false] (L' := [some (.ref 72), some (.int p1), some (.int p2), some (.int p3), some (.int x3), none, none, none, none]) rfl ?_
          have hz := hkk10 ()
          try dsimp only at hz
          exact hz
    · try dsimp only
      refine x_iload_n (pc := 56) dX0_spread_56 rfl ?_
      refine x_istore (pc := 57) (L' := [some (.ref 72), some (.int p1), some (.int p2), some (.int p3), some (.int x3), none, none, some (.int p2), none]) dX0_spread_57 (Nat.le_of_ble_eq_true rfl) rfl rfl ?_
      refine SP.mask (pc := 59) [true, true, false, true, true, false, false, true, false] (L' := [some (.ref 72), some (.int p1), none, some (.int p3), some (.int x3), none, none, some (.int p2), none]) rfl ?_
      refine SP.lp (pc := 59) (fun (s35 : (Int32 × xM)) => [some (.ref 72), some (.int p1), none, some (.int p3), some (.int x3), none, none, some (.int s35.1), none]) (fun (s35 : (Int32 × xM)) => xwd s35.2) (fun s35 kk36 hkk36 => ?_) xfu (p2, M)
      try dsimp only
      refine x_iload (pc := 59) dX0_spread_59 rfl ?_
      refine x_iload_n (pc := 61) dX0_spread_61 rfl ?_
      refine x_icmp_gt (pc := 62) (tgt := 92) dX0_spread_62 (by decide) (fun h37 => ?_) (fun h37 => ?_)
      · exact x_vret (pc := 92) rfl rfl dX0_spread_92 (Nat.zero_le _) (Nat.zero_le _)
      · refine x_aload_n (pc := 65) dX0_spread_65 rfl ?_
        refine m_getR (pc := 66) (t := 124) xC0 4 fl_X0_22 rfl (by decide) rfl (by decide) rfl dX0_spread_66 ?_
        refine x_iload_n (pc := 69) dX0_spread_69 rfl ?_
        refine m_aald (pc := 70) (t0 := 5) rfl (by decide) rfl (fun _ => rfl) rfl (xE_bk xbk124 _) dX0_spread_70 (fun hb38 => ?_)
        refine x_iload (pc := 71) dX0_spread_71 rfl ?_
        refine x_iload (pc := 73) dX0_spread_73 rfl ?_
        refine x_iload_n (pc := 75) dX0_spread_75 rfl ?_
        refine SP.jn 85 (fun (s40 : Int32) => [some (.ref 72), some (.int p1), none, some (.int p3), some (.int x3), none, none, some (.int s35.1), none]) (fun (s40 : Int32) => [(.int s40), (.int s35.1), (.ref (124 + 1 + p1.toNatClampNeg))]) (fun (s40 : Int32) => xwd s35.2) (fun kk39 hkk39 => ?_) (fun s40 => ?_)
        · try dsimp only
          refine x_icmp_ne (pc := 76) (tgt := 84) dX0_spread_76 (by decide) (fun h41 => ?_) (fun h41 => ?_)
          · refine x_iconst (pc := 84) (a := 0) dX0_spread_84 (by decide) ?_
            have hz := hkk39 (0:Int32)
            try dsimp only at hz
            exact hz
          · refine x_iload (pc := 79) dX0_spread_79 rfl ?_
            refine x_goto (pc := 81) (tgt := 85) dX0_spread_81 (by decide) ?_
            have hz := hkk39 x3
            try dsimp only at hz
            exact hz
        · try dsimp only
          refine m_iast (pc := 85) (xBk_T xbk124 (xinb_lt hb38)) (xBk_N xbk124 (xinb_lt hb38)) dX0_spread_85 (fun hb42 => ?_)
          refine SP.bdm (fun m43 e44 => ?_)
          refine x_iinc (pc := 86) (b := (s35.1 + 1)) (L' := [some (.ref 72), some (.int p1), none, some (.int p3), some (.int x3), none, none, some (.int (s35.1 + 1)), none]) dX0_spread_86 rfl rfl (Nat.le_of_ble_eq_true rfl) rfl rfl ?_
          refine x_goto (pc := 89) (tgt := 59) dX0_spread_89 (by decide) ?_
          have hz := hkk36 ((s35.1 + 1), m43)
          try dsimp only at hz
          exact hz

set_option maxRecDepth 100000 in
set_option maxHeartbeats 4000000 in
theorem ct_X0_writeSpread (p1 : Int32) (p2 : Int32) (M : xM)  : Ct iX0_writeSpread rM [(.ref 72), (.int p1), (.int p2)] (xwd M) (fX0_writeSpread p1 p2 M) := by
  refine Ct.of' (L := [some (.ref 72), some (.int p1), some (.int p2), none, none, none]) 3 rfl (by decide +kernel) (Nat.le_of_ble_eq_true rfl) rfl ?_
  unfold fX0_writeSpread
  refine x_aload_n (pc := 0) dX0_writeSpread_0 rfl ?_
  refine m_getR (pc := 1) (t := 1) xC0 0 fl_X0_29 rfl (by decide) rfl (by decide) rfl dX0_writeSpread_1 ?_
  refine m_getR (pc := 4) (t := 2) xC6 0 fl_X0_60 rfl (by decide) rfl (by decide) rfl dX0_writeSpread_4 ?_
  refine x_iload_n (pc := 7) dX0_writeSpread_7 rfl ?_
  refine m_aald (pc := 8) (t0 := 3) rfl (by decide) rfl (fun _ => rfl) rfl (xE_pl _) dX0_writeSpread_8 (fun hb1 => ?_)
  refine x_astore_n (pc := 9) (L' := [some (.ref 72), some (.int p1), some (.int p2), some (.ref (8 + 4 * p1.toNatClampNeg)), none, none]) dX0_writeSpread_9 (Nat.le_of_ble_eq_true rfl) rfl rfl ?_
  refine x_aload_n (pc := 10) dX0_writeSpread_10 rfl ?_
  refine m_getI (pc := 11) xC7 4 fl_X0_104 (xPl (xinb_lt hb1)) (by decide) rfl (by decide) rfl dX0_writeSpread_11 ?_
  refine SP.bdi (fun x2 e3 => ?_)
  refine x_istore (pc := 14) (L' := [some (.ref 72), some (.int p1), some (.int p2), some (.ref (8 + 4 * p1.toNatClampNeg)), some (.int x2), none]) dX0_writeSpread_14 (Nat.le_of_ble_eq_true rfl) rfl rfl ?_
  refine x_aload_n (pc := 16) dX0_writeSpread_16 rfl ?_
  refine m_getI (pc := 17) xC7 4 fl_X0_104 (xPl (xinb_lt hb1)) (by decide) rfl (by decide) rfl dX0_writeSpread_17 ?_
  refine SP.bdi (fun x4 e5 => ?_)
  refine x_istore (pc := 20) (L' := [some (.ref 72), some (.int p1), some (.int p2), some (.ref (8 + 4 * p1.toNatClampNeg)), some (.int x2), some (.int x4)]) dX0_writeSpread_20 (Nat.le_of_ble_eq_true rfl) rfl rfl ?_
  refine SP.mask (pc := 22) [true, true, true, true, true, true] (L' := [some (.ref 72), some (.int p1), some (.int p2), some (.ref (8 + 4 * p1.toNatClampNeg)), some (.int x2), some (.int x4)]) rfl ?_
  refine SP.lp (pc := 22) (fun (s6 : (Int32 × Int32 × xM)) => [some (.ref 72), some (.int p1), some (.int p2), some (.ref (8 + 4 * p1.toNatClampNeg)), some (.int s6.1), some (.int s6.2.1)]) (fun (s6 : (Int32 × Int32 × xM)) => xwd s6.2.2) (fun s6 kk7 hkk7 => ?_) xfu (x2, x4, M)
  try dsimp only
  refine x_iload (pc := 22) dX0_writeSpread_22 rfl ?_
  refine x_if_lt (pc := 24) (tgt := 65) dX0_writeSpread_24 (by decide) (fun h8 => ?_) (fun h8 => ?_)
  · exact x_vret (pc := 65) rfl rfl dX0_writeSpread_65 (Nat.zero_le _) (Nat.zero_le _)
  · refine x_iload (pc := 27) dX0_writeSpread_27 rfl ?_
    refine x_iload_n (pc := 29) dX0_writeSpread_29 rfl ?_
    refine x_icmp_ge (pc := 30) (tgt := 65) dX0_writeSpread_30 (by decide) (fun h9 => ?_) (fun h9 => ?_)
    · exact x_vret (pc := 65) rfl rfl dX0_writeSpread_65 (Nat.zero_le _) (Nat.zero_le _)
    · refine x_aload_n (pc := 33) dX0_writeSpread_33 rfl ?_
      refine m_getR (pc := 34) (t := (8 + 4 * p1.toNatClampNeg + 1)) xC7 6 fl_X0_107 (xPl (xinb_lt hb1)) (by decide) rfl (by decide) rfl dX0_writeSpread_34 ?_
      refine x_iload (pc := 37) dX0_writeSpread_37 rfl ?_
      refine m_iald (pc := 39) (xPlA (xinb_lt hb1) (Or.inl rfl)) (xPlN (xinb_lt hb1) (Or.inl rfl)) dX0_writeSpread_39 (fun hb10 => ?_)
      refine x_iconst (pc := 40) (a := -1) dX0_writeSpread_40 (by decide) ?_
      refine x_icmp_eq (pc := 41) (tgt := 59) dX0_writeSpread_41 (by decide) (fun h11 => ?_) (fun h11 => ?_)
      · refine x_iinc (pc := 59) (b := (s6.2.1 + 1)) (L' := [some (.ref 72), some (.int p1), some (.int p2), some (.ref (8 + 4 * p1.toNatClampNeg)), some (.int s6.1), some (.int (s6.2.1 + 1))]) dX0_writeSpread_59 rfl rfl (Nat.le_of_ble_eq_true rfl) rfl rfl ?_
        refine x_goto (pc := 62) (tgt := 22) dX0_writeSpread_62 (by decide) ?_
        have hz := hkk7 (s6.1, (s6.2.1 + 1), s6.2.2)
        try dsimp only at hz
        exact hz
      · refine x_aload_n (pc := 44) dX0_writeSpread_44 rfl ?_
        refine x_iload_n (pc := 45) dX0_writeSpread_45 rfl ?_
        refine x_iload (pc := 46) dX0_writeSpread_46 rfl ?_
        refine x_iload (pc := 48) dX0_writeSpread_48 rfl ?_
        refine cV_M (pc := 50) (As := [(.int p1), (.int s6.1), (.int s6.2.1)]) (rest := []) (ct_X0_spread p1 s6.1 s6.2.1 s6.2.2) rfl xC0 rfl (by decide) ml_X0_110 meX0_spread rfl ⟨prX0_spread, (Nat.le_of_ble_eq_true rfl), (Nat.le_of_ble_eq_true rfl), rfl, rfl⟩ (Nat.le_of_ble_eq_true rfl) dX0_writeSpread_50 (fun q12 => ?_)
        refine x_iload (pc := 53) dX0_writeSpread_53 rfl ?_
        refine x_iconst (pc := 55) (a := 1) dX0_writeSpread_55 (by decide) ?_
        refine x_iadd (pc := 56) dX0_writeSpread_56 ?_
        refine SP.bdi (fun x13 e14 => ?_)
        refine x_istore (pc := 57) (L' := [some (.ref 72), some (.int p1), some (.int p2), some (.ref (8 + 4 * p1.toNatClampNeg)), some (.int x13), some (.int s6.2.1)]) dX0_writeSpread_57 (Nat.le_of_ble_eq_true rfl) rfl rfl ?_
        refine x_iinc (pc := 59) (b := (s6.2.1 + 1)) (L' := [some (.ref 72), some (.int p1), some (.int p2), some (.ref (8 + 4 * p1.toNatClampNeg)), some (.int x13), some (.int (s6.2.1 + 1))]) dX0_writeSpread_59 rfl rfl (Nat.le_of_ble_eq_true rfl) rfl rfl ?_
        refine x_goto (pc := 62) (tgt := 22) dX0_writeSpread_62 (by decide) ?_
        have hz := hkk7 (x13, (s6.2.1 + 1), q12)
        try dsimp only at hz
        exact hz

set_option maxRecDepth 100000 in
set_option maxHeartbeats 4000000 in
theorem ct_X6_rule (p1 : Int32) (M : xM)  : Ct iX6_rule (rI M) [(.ref 1), (.int p1)] (xwd M) (fX6_rule p1 M) := by
  refine Ct.of' (L := [some (.ref 1), some (.int p1)]) 0 rfl (by decide +kernel) (Nat.le_of_ble_eq_true rfl) rfl ?_
  unfold fX6_rule
  refine x_iload_n (pc := 0) dX6_rule_0 rfl ?_
  refine x_if_lt (pc := 1) (tgt := 19) dX6_rule_1 (by decide) (fun h1 => ?_) (fun h1 => ?_)
  · refine x_iconst (pc := 19) (a := 0) dX6_rule_19 (by decide) ?_
    exact x_iret (pc := 20) rfl rfl dX6_rule_20 (Nat.zero_le _) (Nat.zero_le _)
  · refine x_iload_n (pc := 4) dX6_rule_4 rfl ?_
    refine x_bipush (pc := 5) (a := 12) dX6_rule_5 (by decide) ?_
    refine x_icmp_ge (pc := 7) (tgt := 19) dX6_rule_7 (by decide) (fun h2 => ?_) (fun h2 => ?_)
    · refine x_iconst (pc := 19) (a := 0) dX6_rule_19 (by decide) ?_
      exact x_iret (pc := 20) rfl rfl dX6_rule_20 (Nat.zero_le _) (Nat.zero_le _)
    · refine x_aload_n (pc := 10) dX6_rule_10 rfl ?_
      refine m_getR (pc := 11) (t := 7) xC6 2 fl_X6_33 rfl (by decide) rfl (by decide) rfl dX6_rule_11 ?_
      refine x_iload_n (pc := 14) dX6_rule_14 rfl ?_
      refine m_iald (pc := 15) rfl rfl dX6_rule_15 (fun hb3 => ?_)
      refine x_goto (pc := 16) (tgt := 20) dX6_rule_16 (by decide) ?_
      exact x_iret (pc := 20) rfl rfl dX6_rule_20 (Nat.zero_le _) (Nat.zero_le _)

set_option maxRecDepth 100000 in
set_option maxHeartbeats 4000000 in
theorem ct_X0_isDryAmongWet (p1 : Int32) (p2 : Int32) (M : xM)  : Ct iX0_isDryAmongWet (rI M) [(.ref 72), (.int p1), (.int p2)] (xwd M) (fX0_isDryAmongWet p1 p2 M) := by
  refine Ct.of' (L := [some (.ref 72), some (.int p1), some (.int p2), none, none, none, none, none]) 5 rfl (by decide +kernel) (Nat.le_of_ble_eq_true rfl) rfl ?_
  unfold fX0_isDryAmongWet
  refine x_aload_n (pc := 0) dX0_isDryAmongWet_0 rfl ?_
  refine m_getR (pc := 1) (t := 1) xC0 0 fl_X0_29 rfl (by decide) rfl (by decide) rfl dX0_isDryAmongWet_1 ?_
  refine m_getR (pc := 4) (t := 2) xC6 0 fl_X0_60 rfl (by decide) rfl (by decide) rfl dX0_isDryAmongWet_4 ?_
  refine x_iload_n (pc := 7) dX0_isDryAmongWet_7 rfl ?_
  refine m_aald (pc := 8) (t0 := 3) rfl (by decide) rfl (fun _ => rfl) rfl (xE_pl _) dX0_isDryAmongWet_8 (fun hb1 => ?_)
  refine x_astore_n (pc := 9) (L' := [some (.ref 72), some (.int p1), some (.int p2), some (.ref (8 + 4 * p1.toNatClampNeg)), none, none, none, none]) dX0_isDryAmongWet_9 (Nat.le_of_ble_eq_true rfl) rfl rfl ?_
  refine x_aload_n (pc := 10) dX0_isDryAmongWet_10 rfl ?_
  refine m_getR (pc := 11) (t := 1) xC0 0 fl_X0_29 rfl (by decide) rfl (by decide) rfl dX0_isDryAmongWet_11 ?_
  refine x_iconst (pc := 14) (a := 1) dX0_isDryAmongWet_14 (by decide) ?_
  refine cV_I (pc := 15) (As := [(.int (1:Int32))]) (rest := []) (ct_X6_rule (1:Int32) M) rfl xC6 rfl (by decide) ml_X0_83 meX6_rule rfl ⟨prX6_rule, (Nat.le_of_ble_eq_true rfl), (Nat.le_of_ble_eq_true rfl), rfl, rfl⟩ (Nat.le_of_ble_eq_true rfl) dX0_isDryAmongWet_15 (fun v2 => ?_)
  refine x_istore (pc := 18) (L' := [some (.ref 72), some (.int p1), some (.int p2), some (.ref (8 + 4 * p1.toNatClampNeg)), some (.int v2), none, none, none]) dX0_isDryAmongWet_18 (Nat.le_of_ble_eq_true rfl) rfl rfl ?_
  refine x_aload_n (pc := 20) dX0_isDryAmongWet_20 rfl ?_
  refine m_getR (pc := 21) (t := 1) xC0 0 fl_X0_29 rfl (by decide) rfl (by decide) rfl dX0_isDryAmongWet_21 ?_
  refine x_iconst (pc := 24) (a := 2) dX0_isDryAmongWet_24 (by decide) ?_
  refine cV_I (pc := 25) (As := [(.int (2:Int32))]) (rest := []) (ct_X6_rule (2:Int32) M) rfl xC6 rfl (by decide) ml_X0_83 meX6_rule rfl ⟨prX6_rule, (Nat.le_of_ble_eq_true rfl), (Nat.le_of_ble_eq_true rfl), rfl, rfl⟩ (Nat.le_of_ble_eq_true rfl) dX0_isDryAmongWet_25 (fun v3 => ?_)
  refine x_istore (pc := 28) (L' := [some (.ref 72), some (.int p1), some (.int p2), some (.ref (8 + 4 * p1.toNatClampNeg)), some (.int v2), some (.int v3), none, none]) dX0_isDryAmongWet_28 (Nat.le_of_ble_eq_true rfl) rfl rfl ?_
  refine x_iconst (pc := 30) (a := 0) dX0_isDryAmongWet_30 (by decide) ?_
  refine x_istore (pc := 31) (L' := [some (.ref 72), some (.int p1), some (.int p2), some (.ref (8 + 4 * p1.toNatClampNeg)), some (.int v2), some (.int v3), some (.int (0:Int32)), none]) dX0_isDryAmongWet_31 (Nat.le_of_ble_eq_true rfl) rfl rfl ?_
  refine x_iconst (pc := 33) (a := 0) dX0_isDryAmongWet_33 (by decide) ?_
  refine x_istore (pc := 34) (L' := [some (.ref 72), some (.int p1), some (.int p2), some (.ref (8 + 4 * p1.toNatClampNeg)), some (.int v2), some (.int v3), some (.int (0:Int32)), some (.int (0:Int32))]) dX0_isDryAmongWet_34 (Nat.le_of_ble_eq_true rfl) rfl rfl ?_
  refine SP.mask (pc := 36) [true, true, true, true, true, true, true, true] (L' := [some (.ref 72), some (.int p1), some (.int p2), some (.ref (8 + 4 * p1.toNatClampNeg)), some (.int v2), some (.int v3), some (.int (0:Int32)), some (.int (0:Int32))]) rfl ?_
  refine SP.lp (pc := 36) (fun (s4 : (Int32 × Int32)) => [some (.ref 72), some (.int p1), some (.int p2), some (.ref (8 + 4 * p1.toNatClampNeg)), some (.int v2), some (.int v3), some (.int s4.1), some (.int s4.2)]) (fun (s4 : (Int32 × Int32)) => xwd M) (fun s4 kk5 hkk5 => ?_) xfu ((0:Int32), (0:Int32))
  try dsimp only
  refine x_iload (pc := 36) dX0_isDryAmongWet_36 rfl ?_
  refine x_bipush (pc := 38) (a := 16) dX0_isDryAmongWet_38 (by decide) ?_
  refine x_icmp_ge (pc := 40) (tgt := 116) dX0_isDryAmongWet_40 (by decide) (fun h6 => ?_) (fun h6 => ?_)
  · refine x_iload (pc := 116) dX0_isDryAmongWet_116 rfl ?_
    refine x_iconst (pc := 118) (a := 2) dX0_isDryAmongWet_118 (by decide) ?_
    refine x_icmp_lt (pc := 119) (tgt := 126) dX0_isDryAmongWet_119 (by decide) (fun h7 => ?_) (fun h7 => ?_)
    · refine x_iconst (pc := 126) (a := 0) dX0_isDryAmongWet_126 (by decide) ?_
      exact x_zret (pc := 127) rfl (by decide) rfl dX0_isDryAmongWet_127 (Nat.zero_le _) (Nat.zero_le _)
    · refine x_iconst (pc := 122) (a := 1) dX0_isDryAmongWet_122 (by decide) ?_
      refine x_goto (pc := 123) (tgt := 127) dX0_isDryAmongWet_123 (by decide) ?_
      exact x_zret (pc := 127) rfl (by decide) rfl dX0_isDryAmongWet_127 (Nat.zero_le _) (Nat.zero_le _)
  · refine x_iload (pc := 43) dX0_isDryAmongWet_43 rfl ?_
    refine x_iload_n (pc := 45) dX0_isDryAmongWet_45 rfl ?_
    refine x_icmp_eq (pc := 46) (tgt := 110) dX0_isDryAmongWet_46 (by decide) (fun h8 => ?_) (fun h8 => ?_)
    · refine x_iinc (pc := 110) (b := (s4.2 + 1)) (L' := [some (.ref 72), some (.int p1), some (.int p2), some (.ref (8 + 4 * p1.toNatClampNeg)), some (.int v2), some (.int v3), some (.int s4.1), some (.int (s4.2 + 1))]) dX0_isDryAmongWet_110 rfl rfl (Nat.le_of_ble_eq_true rfl) rfl rfl ?_
      refine x_goto (pc := 113) (tgt := 36) dX0_isDryAmongWet_113 (by decide) ?_
      have hz := hkk5 (s4.1, (s4.2 + 1))
      try dsimp only at hz
      exact hz
    · refine x_aload_n (pc := 49) dX0_isDryAmongWet_49 rfl ?_
      refine m_getR (pc := 50) (t := 73) xC0 1 fl_X0_11 rfl (by decide) rfl (by decide) rfl dX0_isDryAmongWet_50 ?_
      refine x_iload (pc := 53) dX0_isDryAmongWet_53 rfl ?_
      refine m_aald (pc := 55) (t0 := 5) rfl (by decide) rfl (fun _ => rfl) rfl (xE_bk xbk73 _) dX0_isDryAmongWet_55 (fun hb9 => ?_)
      refine x_iload_n (pc := 56) dX0_isDryAmongWet_56 rfl ?_
      refine m_iald (pc := 57) (xBk_T xbk73 (xinb_lt hb9)) (xBk_N xbk73 (xinb_lt hb9)) dX0_isDryAmongWet_57 (fun hb10 => ?_)
      refine x_iconst (pc := 58) (a := -1) dX0_isDryAmongWet_58 (by decide) ?_
      refine x_icmp_eq (pc := 59) (tgt := 110) dX0_isDryAmongWet_59 (by decide) (fun h11 => ?_) (fun h11 => ?_)
      · refine x_iinc (pc := 110) (b := (s4.2 + 1)) (L' := [some (.ref 72), some (.int p1), some (.int p2), some (.ref (8 + 4 * p1.toNatClampNeg)), some (.int v2), some (.int v3), some (.int s4.1), some (.int (s4.2 + 1))]) dX0_isDryAmongWet_110 rfl rfl (Nat.le_of_ble_eq_true rfl) rfl rfl ?_
        refine x_goto (pc := 113) (tgt := 36) dX0_isDryAmongWet_113 (by decide) ?_
        have hz := hkk5 (s4.1, (s4.2 + 1))
        try dsimp only at hz
        exact hz
      · refine x_aload_n (pc := 62) dX0_isDryAmongWet_62 rfl ?_
        refine m_getI (pc := 63) xC7 1 fl_X0_94 (xPl (xinb_lt hb1)) (by decide) rfl (by decide) rfl dX0_isDryAmongWet_63 ?_
        refine x_aload_n (pc := 66) dX0_isDryAmongWet_66 rfl ?_
        refine m_getI (pc := 67) xC7 2 fl_X0_97 (xPl (xinb_lt hb1)) (by decide) rfl (by decide) rfl dX0_isDryAmongWet_67 ?_
        refine x_aload_n (pc := 70) dX0_isDryAmongWet_70 rfl ?_
        refine m_getR (pc := 71) (t := 1) xC0 0 fl_X0_29 rfl (by decide) rfl (by decide) rfl dX0_isDryAmongWet_71 ?_
        refine m_getR (pc := 74) (t := 2) xC6 0 fl_X0_60 rfl (by decide) rfl (by decide) rfl dX0_isDryAmongWet_74 ?_
        refine x_iload (pc := 77) dX0_isDryAmongWet_77 rfl ?_
        refine m_aald (pc := 79) (t0 := 3) rfl (by decide) rfl (fun _ => rfl) rfl (xE_pl _) dX0_isDryAmongWet_79 (fun hb12 => ?_)
        refine cSN_I (pc := 80) (As := [(.int (M.1 (8 + 4 * p1.toNatClampNeg) 1)), (.int (M.1 (8 + 4 * p1.toNatClampNeg) 2)), (.ref (8 + 4 * s4.2.toNatClampNeg))]) (rest := []) (ct_X9_squaredDistance (M.1 (8 + 4 * p1.toNatClampNeg) 1) (M.1 (8 + 4 * p1.toNatClampNeg) 2) s4.2.toNatClampNeg M (xinb_lt hb12)) rfl ml_X0_100 meX9_squaredDistance rfl ⟨prX9_squaredDistance, (Nat.le_of_ble_eq_true rfl), (Nat.le_of_ble_eq_true rfl), rfl, rfl⟩ (Nat.le_of_ble_eq_true rfl) dX0_isDryAmongWet_80 (fun v13 => ?_)
        refine x_iload (pc := 83) dX0_isDryAmongWet_83 rfl ?_
        refine x_icmp_le (pc := 85) (tgt := 91) dX0_isDryAmongWet_85 (by decide) (fun h14 => ?_) (fun h14 => ?_)
        · refine x_aload_n (pc := 91) dX0_isDryAmongWet_91 rfl ?_
          refine m_getR (pc := 92) (t := 73) xC0 1 fl_X0_11 rfl (by decide) rfl (by decide) rfl dX0_isDryAmongWet_92 ?_
          refine x_iload (pc := 95) dX0_isDryAmongWet_95 rfl ?_
          refine m_aald (pc := 97) (t0 := 5) rfl (by decide) rfl (fun _ => rfl) rfl (xE_bk xbk73 _) dX0_isDryAmongWet_97 (fun hb15 => ?_)
          refine x_iload_n (pc := 98) dX0_isDryAmongWet_98 rfl ?_
          refine m_iald (pc := 99) (xBk_T xbk73 (xinb_lt hb15)) (xBk_N xbk73 (xinb_lt hb15)) dX0_isDryAmongWet_99 (fun hb16 => ?_)
          refine x_iload (pc := 100) dX0_isDryAmongWet_100 rfl ?_
          refine x_icmp_ge (pc := 102) (tgt := 107) dX0_isDryAmongWet_102 (by decide) (fun h17 => ?_) (fun h17 => ?_)
          · refine x_iinc (pc := 107) (b := (s4.1 + 1)) (L' := [some (.ref 72), some (.int p1), some (.int p2), some (.ref (8 + 4 * p1.toNatClampNeg)), some (.int v2), some (.int v3), some (.int (s4.1 + 1)), some (.int s4.2)]) dX0_isDryAmongWet_107 rfl rfl (Nat.le_of_ble_eq_true rfl) rfl rfl ?_
            refine x_iinc (pc := 110) (b := (s4.2 + 1)) (L' := [some (.ref 72), some (.int p1), some (.int p2), some (.ref (8 + 4 * p1.toNatClampNeg)), some (.int v2), some (.int v3), some (.int (s4.1 + 1)), some (.int (s4.2 + 1))]) dX0_isDryAmongWet_110 rfl rfl (Nat.le_of_ble_eq_true rfl) rfl rfl ?_
            refine x_goto (pc := 113) (tgt := 36) dX0_isDryAmongWet_113 (by decide) ?_
            have hz := hkk5 ((s4.1 + 1), (s4.2 + 1))
            try dsimp only at hz
            exact hz
          · refine x_iconst (pc := 105) (a := 0) dX0_isDryAmongWet_105 (by decide) ?_
            exact x_zret (pc := 106) rfl (by decide) rfl dX0_isDryAmongWet_106 (Nat.zero_le _) (Nat.zero_le _)
        · refine x_goto (pc := 88) (tgt := 110) dX0_isDryAmongWet_88 (by decide) ?_
          refine x_iinc (pc := 110) (b := (s4.2 + 1)) (L' := [some (.ref 72), some (.int p1), some (.int p2), some (.ref (8 + 4 * p1.toNatClampNeg)), some (.int v2), some (.int v3), some (.int s4.1), some (.int (s4.2 + 1))]) dX0_isDryAmongWet_110 rfl rfl (Nat.le_of_ble_eq_true rfl) rfl rfl ?_
          refine x_goto (pc := 113) (tgt := 36) dX0_isDryAmongWet_113 (by decide) ?_
          have hz := hkk5 (s4.1, (s4.2 + 1))
          try dsimp only at hz
          exact hz

set_option maxRecDepth 100000 in
set_option maxHeartbeats 4000000 in
theorem ct_X7_isUnlike (k : Nat) (p1 : Int32) (p2 : Int32) (M : xM) (hk : k < 16) : Ct iX7_isUnlike (rI M) [(.ref (8 + 4 * k)), (.int p1), (.int p2)] (xwd M) (fX7_isUnlike k p1 p2 M) := by
  refine Ct.of' (L := [some (.ref (8 + 4 * k)), some (.int p1), some (.int p2), none]) 1 rfl (by decide +kernel) (Nat.le_of_ble_eq_true rfl) rfl ?_
  unfold fX7_isUnlike
  refine x_iload_n (pc := 0) dX7_isUnlike_0 rfl ?_
  refine cSN_I (pc := 1) (As := [(.int p1)]) (rest := []) (ct_X9_isDay p1 M) rfl ml_X7_46 meX9_isDay rfl ⟨prX9_isDay, (Nat.le_of_ble_eq_true rfl), (Nat.le_of_ble_eq_true rfl), rfl, rfl⟩ (Nat.le_of_ble_eq_true rfl) dX7_isUnlike_1 (fun v1 => ?_)
  refine x_if_eq (pc := 4) (tgt := 25) dX7_isUnlike_4 (by decide) (fun h2 => ?_) (fun h2 => ?_)
  · refine x_iconst (pc := 25) (a := 0) dX7_isUnlike_25 (by decide) ?_
    exact x_zret (pc := 26) rfl (by decide) rfl dX7_isUnlike_26 (Nat.zero_le _) (Nat.zero_le _)
  · refine x_aload_n (pc := 7) dX7_isUnlike_7 rfl ?_
    refine m_getI (pc := 8) xC7 0 fl_X7_9 (xPl hk) (by decide) rfl (by decide) rfl dX7_isUnlike_8 ?_
    refine x_iconst (pc := 11) (a := 4) dX7_isUnlike_11 (by decide) ?_
    refine x_icmp_ne (pc := 12) (tgt := 25) dX7_isUnlike_12 (by decide) (fun h3 => ?_) (fun h3 => ?_)
    · refine x_iconst (pc := 25) (a := 0) dX7_isUnlike_25 (by decide) ?_
      exact x_zret (pc := 26) rfl (by decide) rfl dX7_isUnlike_26 (Nat.zero_le _) (Nat.zero_le _)
    · refine x_aload_n (pc := 15) dX7_isUnlike_15 rfl ?_
      refine m_getR (pc := 16) (t := (8 + 4 * k + 3)) xC7 8 fl_X7_22 (xPl hk) (by decide) rfl (by decide) rfl dX7_isUnlike_16 ?_
      refine x_iload_n (pc := 19) dX7_isUnlike_19 rfl ?_
      refine m_iald (pc := 20) (xPlA hk (Or.inr (Or.inr rfl))) (xPlN hk (Or.inr (Or.inr rfl))) dX7_isUnlike_20 (fun hb4 => ?_)
      refine x_iconst (pc := 21) (a := -1) dX7_isUnlike_21 (by decide) ?_
      refine x_icmp_eq (pc := 22) (tgt := 27) dX7_isUnlike_22 (by decide) (fun h5 => ?_) (fun h5 => ?_)
      · refine x_aload_n (pc := 27) dX7_isUnlike_27 rfl ?_
        refine m_getR (pc := 28) (t := (8 + 4 * k + 1)) xC7 6 fl_X7_15 (xPl hk) (by decide) rfl (by decide) rfl dX7_isUnlike_28 ?_
        refine x_iload_n (pc := 31) dX7_isUnlike_31 rfl ?_
        refine m_iald (pc := 32) (xPlA hk (Or.inl rfl)) (xPlN hk (Or.inl rfl)) dX7_isUnlike_32 (fun hb6 => ?_)
        refine x_aload_n (pc := 33) dX7_isUnlike_33 rfl ?_
        refine m_getR (pc := 34) (t := (8 + 4 * k + 2)) xC7 7 fl_X7_19 (xPl hk) (by decide) rfl (by decide) rfl dX7_isUnlike_34 ?_
        refine x_iload_n (pc := 37) dX7_isUnlike_37 rfl ?_
        refine m_iald (pc := 38) (xPlA hk (Or.inr (Or.inl rfl))) (xPlN hk (Or.inr (Or.inl rfl))) dX7_isUnlike_38 (fun hb7 => ?_)
        refine x_mmax (pc := 39) (xword 387 (by decide +kernel) rfl) (xword 388 (by decide +kernel) rfl) (xword 60 (by decide +kernel) rfl) (xword 389 (by decide +kernel) rfl) (Nat.le_of_ble_eq_true rfl) (Nat.le_of_ble_eq_true rfl) (Nat.zero_le _) (Nat.zero_le _) dX7_isUnlike_39 ?_
        refine SP.bdi (fun x8 e9 => ?_)
        refine x_istore_n (pc := 42) (L' := [some (.ref (8 + 4 * k)), some (.int p1), some (.int p2), some (.int x8)]) dX7_isUnlike_42 (Nat.le_of_ble_eq_true rfl) rfl rfl ?_
        refine x_aload_n (pc := 43) dX7_isUnlike_43 rfl ?_
        refine m_getR (pc := 44) (t := (8 + 4 * k + 1)) xC7 6 fl_X7_15 (xPl hk) (by decide) rfl (by decide) rfl dX7_isUnlike_44 ?_
        refine x_iload_n (pc := 47) dX7_isUnlike_47 rfl ?_
        refine m_iald (pc := 48) (xPlA hk (Or.inl rfl)) (xPlN hk (Or.inl rfl)) dX7_isUnlike_48 (fun hb10 => ?_)
        refine x_aload_n (pc := 49) dX7_isUnlike_49 rfl ?_
        refine m_getR (pc := 50) (t := (8 + 4 * k + 2)) xC7 7 fl_X7_19 (xPl hk) (by decide) rfl (by decide) rfl dX7_isUnlike_50 ?_
        refine x_iload_n (pc := 53) dX7_isUnlike_53 rfl ?_
        refine m_iald (pc := 54) (xPlA hk (Or.inr (Or.inl rfl))) (xPlN hk (Or.inr (Or.inl rfl))) dX7_isUnlike_54 (fun hb11 => ?_)
        refine x_isub (pc := 55) dX7_isUnlike_55 ?_
        refine x_mabs (pc := 56) (xword 499 (by decide +kernel) rfl) (xword 500 (by decide +kernel) rfl) (xword 60 (by decide +kernel) rfl) (xword 501 (by decide +kernel) rfl) (Nat.le_of_ble_eq_true rfl) (Nat.le_of_ble_eq_true rfl) (Nat.zero_le _) (Nat.zero_le _) dX7_isUnlike_56 ?_
        refine x_bipush (pc := 59) (a := 100) dX7_isUnlike_59 (by decide) ?_
        refine x_imul (pc := 61) dX7_isUnlike_61 ?_
        refine x_iload_n (pc := 62) dX7_isUnlike_62 rfl ?_
        refine x_iload_n (pc := 63) dX7_isUnlike_63 rfl ?_
        refine x_imul (pc := 64) dX7_isUnlike_64 ?_
        refine x_icmp_le (pc := 65) (tgt := 72) dX7_isUnlike_65 (by decide) (fun h12 => ?_) (fun h12 => ?_)
        · refine x_iconst (pc := 72) (a := 0) dX7_isUnlike_72 (by decide) ?_
          exact x_zret (pc := 73) rfl (by decide) rfl dX7_isUnlike_73 (Nat.zero_le _) (Nat.zero_le _)
        · refine x_iconst (pc := 68) (a := 1) dX7_isUnlike_68 (by decide) ?_
          refine x_goto (pc := 69) (tgt := 73) dX7_isUnlike_69 (by decide) ?_
          exact x_zret (pc := 73) rfl (by decide) rfl dX7_isUnlike_73 (Nat.zero_le _) (Nat.zero_le _)
      · refine x_iconst (pc := 25) (a := 0) dX7_isUnlike_25 (by decide) ?_
        exact x_zret (pc := 26) rfl (by decide) rfl dX7_isUnlike_26 (Nat.zero_le _) (Nat.zero_le _)

set_option maxRecDepth 100000 in
set_option maxHeartbeats 4000000 in
theorem ct_X0_doubtingRule (p1 : Int32) (p2 : Int32) (M : xM)  : Ct iX0_doubtingRule (rI M) [(.ref 72), (.int p1), (.int p2)] (xwd M) (fX0_doubtingRule p1 p2 M) := by
  refine Ct.of' (L := [some (.ref 72), some (.int p1), some (.int p2), none]) 1 rfl (by decide +kernel) (Nat.le_of_ble_eq_true rfl) rfl ?_
  unfold fX0_doubtingRule
  refine x_aload_n (pc := 0) dX0_doubtingRule_0 rfl ?_
  refine m_getR (pc := 1) (t := 73) xC0 1 fl_X0_11 rfl (by decide) rfl (by decide) rfl dX0_doubtingRule_1 ?_
  refine x_iload_n (pc := 4) dX0_doubtingRule_4 rfl ?_
  refine m_aald (pc := 5) (t0 := 5) rfl (by decide) rfl (fun _ => rfl) rfl (xE_bk xbk73 _) dX0_doubtingRule_5 (fun hb1 => ?_)
  refine x_iload_n (pc := 6) dX0_doubtingRule_6 rfl ?_
  refine m_iald (pc := 7) (xBk_T xbk73 (xinb_lt hb1)) (xBk_N xbk73 (xinb_lt hb1)) dX0_doubtingRule_7 (fun hb2 => ?_)
  refine SP.bdi (fun x3 e4 => ?_)
  refine x_istore_n (pc := 8) (L' := [some (.ref 72), some (.int p1), some (.int p2), some (.int x3)]) dX0_doubtingRule_8 (Nat.le_of_ble_eq_true rfl) rfl rfl ?_
  refine x_iload_n (pc := 9) dX0_doubtingRule_9 rfl ?_
  refine x_iconst (pc := 10) (a := -1) dX0_doubtingRule_10 (by decide) ?_
  refine x_icmp_ne (pc := 11) (tgt := 16) dX0_doubtingRule_11 (by decide) (fun h5 => ?_) (fun h5 => ?_)
  · refine x_iload_n (pc := 16) dX0_doubtingRule_16 rfl ?_
    refine x_aload_n (pc := 17) dX0_doubtingRule_17 rfl ?_
    refine m_getR (pc := 18) (t := 1) xC0 0 fl_X0_29 rfl (by decide) rfl (by decide) rfl dX0_doubtingRule_18 ?_
    refine x_iconst (pc := 21) (a := 0) dX0_doubtingRule_21 (by decide) ?_
    refine cV_I (pc := 22) (As := [(.int (0:Int32))]) (rest := [(.int x3)]) (ct_X6_rule (0:Int32) M) rfl xC6 rfl (by decide) ml_X0_83 meX6_rule rfl ⟨prX6_rule, (Nat.le_of_ble_eq_true rfl), (Nat.le_of_ble_eq_true rfl), rfl, rfl⟩ (Nat.le_of_ble_eq_true rfl) dX0_doubtingRule_22 (fun v6 => ?_)
    refine x_icmp_le (pc := 25) (tgt := 30) dX0_doubtingRule_25 (by decide) (fun h7 => ?_) (fun h7 => ?_)
    · refine x_iload_n (pc := 30) dX0_doubtingRule_30 rfl ?_
      refine SP.jn 45 (fun (s9 : Unit) => [some (.ref 72), some (.int p1), some (.int p2), none]) (fun (s9 : Unit) => []) (fun (s9 : Unit) => xwd M) (fun kk8 hkk8 => ?_) (fun s9 => ?_)
      · try dsimp only
        refine x_if_ne (pc := 31) (tgt := 45) dX0_doubtingRule_31 (by decide) (fun h10 => ?_) (fun h10 => ?_)
        · refine SP.mask (pc := 45) [true, true, true, false] (L' := [some (.ref 72), some (.int p1), some (.int p2), none]) rfl ?_
          have hz := hkk8 ()
          try dsimp only at hz
          exact hz
        · refine x_aload_n (pc := 34) dX0_doubtingRule_34 rfl ?_
          refine x_iload_n (pc := 35) dX0_doubtingRule_35 rfl ?_
          refine x_iload_n (pc := 36) dX0_doubtingRule_36 rfl ?_
          refine cV_I (pc := 37) (As := [(.int p1), (.int p2)]) (rest := []) (ct_X0_isDryAmongWet p1 p2 M) rfl xC0 rfl (by decide) ml_X0_87 meX0_isDryAmongWet rfl ⟨prX0_isDryAmongWet, (Nat.le_of_ble_eq_true rfl), (Nat.le_of_ble_eq_true rfl), rfl, rfl⟩ (Nat.le_of_ble_eq_true rfl) dX0_doubtingRule_37 (fun v11 => ?_)
          refine x_if_eq (pc := 40) (tgt := 45) dX0_doubtingRule_40 (by decide) (fun h12 => ?_) (fun h12 => ?_)
          · refine SP.mask (pc := 45) [true, true, true, false] (L' := [some (.ref 72), some (.int p1), some (.int p2), none]) rfl ?_
            have hz := hkk8 ()
            try dsimp only at hz
            exact hz
          · refine x_iconst (pc := 43) (a := 2) dX0_doubtingRule_43 (by decide) ?_
            exact x_iret (pc := 44) rfl rfl dX0_doubtingRule_44 (Nat.zero_le _) (Nat.zero_le _)
      · try dsimp only
        refine x_aload_n (pc := 45) dX0_doubtingRule_45 rfl ?_
        refine m_getR (pc := 46) (t := 1) xC0 0 fl_X0_29 rfl (by decide) rfl (by decide) rfl dX0_doubtingRule_46 ?_
        refine m_getR (pc := 49) (t := 2) xC6 0 fl_X0_60 rfl (by decide) rfl (by decide) rfl dX0_doubtingRule_49 ?_
        refine x_iload_n (pc := 52) dX0_doubtingRule_52 rfl ?_
        refine m_aald (pc := 53) (t0 := 3) rfl (by decide) rfl (fun _ => rfl) rfl (xE_pl _) dX0_doubtingRule_53 (fun hb13 => ?_)
        refine x_iload_n (pc := 54) dX0_doubtingRule_54 rfl ?_
        refine x_aload_n (pc := 55) dX0_doubtingRule_55 rfl ?_
        refine m_getR (pc := 56) (t := 1) xC0 0 fl_X0_29 rfl (by decide) rfl (by decide) rfl dX0_doubtingRule_56 ?_
        refine x_iconst (pc := 59) (a := 3) dX0_doubtingRule_59 (by decide) ?_
        refine cV_I (pc := 60) (As := [(.int (3:Int32))]) (rest := [(.int p2), (.ref (8 + 4 * p1.toNatClampNeg))]) (ct_X6_rule (3:Int32) M) rfl xC6 rfl (by decide) ml_X0_83 meX6_rule rfl ⟨prX6_rule, (Nat.le_of_ble_eq_true rfl), (Nat.le_of_ble_eq_true rfl), rfl, rfl⟩ (Nat.le_of_ble_eq_true rfl) dX0_doubtingRule_60 (fun v14 => ?_)
        refine cV_I (pc := 63) (As := [(.int p2), (.int v14)]) (rest := []) (ct_X7_isUnlike p1.toNatClampNeg p2 v14 M (xinb_lt hb13)) rfl xC7 (xPl (xinb_lt hb13)) (by decide) ml_X0_91 meX7_isUnlike rfl ⟨prX7_isUnlike, (Nat.le_of_ble_eq_true rfl), (Nat.le_of_ble_eq_true rfl), rfl, rfl⟩ (Nat.le_of_ble_eq_true rfl) dX0_doubtingRule_63 (fun v15 => ?_)
        refine x_if_eq (pc := 66) (tgt := 73) dX0_doubtingRule_66 (by decide) (fun h16 => ?_) (fun h16 => ?_)
        · refine x_iconst (pc := 73) (a := 0) dX0_doubtingRule_73 (by decide) ?_
          exact x_iret (pc := 74) rfl rfl dX0_doubtingRule_74 (Nat.zero_le _) (Nat.zero_le _)
        · refine x_iconst (pc := 69) (a := 3) dX0_doubtingRule_69 (by decide) ?_
          refine x_goto (pc := 70) (tgt := 74) dX0_doubtingRule_70 (by decide) ?_
          exact x_iret (pc := 74) rfl rfl dX0_doubtingRule_74 (Nat.zero_le _) (Nat.zero_le _)
    · refine x_iconst (pc := 28) (a := 1) dX0_doubtingRule_28 (by decide) ?_
      exact x_iret (pc := 29) rfl rfl dX0_doubtingRule_29 (Nat.zero_le _) (Nat.zero_le _)
  · refine x_iconst (pc := 14) (a := 0) dX0_doubtingRule_14 (by decide) ?_
    exact x_iret (pc := 15) rfl rfl dX0_doubtingRule_15 (Nat.zero_le _) (Nat.zero_le _)

set_option maxRecDepth 100000 in
set_option maxHeartbeats 4000000 in
theorem ct_X0_writeTrust (p1 : Int32) (p2 : Int32) (M : xM)  : Ct iX0_writeTrust rM [(.ref 72), (.int p1), (.int p2)] (xwd M) (fX0_writeTrust p1 p2 M) := by
  refine Ct.of' (L := [some (.ref 72), some (.int p1), some (.int p2), none, none]) 2 rfl (by decide +kernel) (Nat.le_of_ble_eq_true rfl) rfl ?_
  unfold fX0_writeTrust
  refine x_aload_n (pc := 0) dX0_writeTrust_0 rfl ?_
  refine x_iload_n (pc := 1) dX0_writeTrust_1 rfl ?_
  refine x_iload_n (pc := 2) dX0_writeTrust_2 rfl ?_
  refine cV_I (pc := 3) (As := [(.int p1), (.int p2)]) (rest := []) (ct_X0_doubtingRule p1 p2 M) rfl xC0 rfl (by decide) ml_X0_79 meX0_doubtingRule rfl ⟨prX0_doubtingRule, (Nat.le_of_ble_eq_true rfl), (Nat.le_of_ble_eq_true rfl), rfl, rfl⟩ (Nat.le_of_ble_eq_true rfl) dX0_writeTrust_3 (fun v1 => ?_)
  refine x_istore_n (pc := 6) (L' := [some (.ref 72), some (.int p1), some (.int p2), some (.int v1), none]) dX0_writeTrust_6 (Nat.le_of_ble_eq_true rfl) rfl rfl ?_
  refine x_iload_n (pc := 7) dX0_writeTrust_7 rfl ?_
  refine SP.jn 23 (fun (s3 : Int32) => [some (.ref 72), some (.int p1), some (.int p2), some (.int v1), none]) (fun (s3 : Int32) => [(.int s3)]) (fun (s3 : Int32) => xwd M) (fun kk2 hkk2 => ?_) (fun s3 => ?_)
  · try dsimp only
    refine x_if_ne (pc := 8) (tgt := 22) dX0_writeTrust_8 (by decide) (fun h4 => ?_) (fun h4 => ?_)
    · refine x_iconst (pc := 22) (a := -1) dX0_writeTrust_22 (by decide) ?_
      have hz := hkk2 (-1:Int32)
      try dsimp only at hz
      exact hz
    · refine x_aload_n (pc := 11) dX0_writeTrust_11 rfl ?_
      refine m_getR (pc := 12) (t := 73) xC0 1 fl_X0_11 rfl (by decide) rfl (by decide) rfl dX0_writeTrust_12 ?_
      refine x_iload_n (pc := 15) dX0_writeTrust_15 rfl ?_
      refine m_aald (pc := 16) (t0 := 5) rfl (by decide) rfl (fun _ => rfl) rfl (xE_bk xbk73 _) dX0_writeTrust_16 (fun hb5 => ?_)
      refine x_iload_n (pc := 17) dX0_writeTrust_17 rfl ?_
      refine m_iald (pc := 18) (xBk_T xbk73 (xinb_lt hb5)) (xBk_N xbk73 (xinb_lt hb5)) dX0_writeTrust_18 (fun hb6 => ?_)
      refine x_goto (pc := 19) (tgt := 23) dX0_writeTrust_19 (by decide) ?_
      have hz := hkk2 (M.1 (73 + 1 + p1.toNatClampNeg) p2.toNatClampNeg)
      try dsimp only at hz
      exact hz
  · try dsimp only
    refine x_istore (pc := 23) (L' := [some (.ref 72), some (.int p1), some (.int p2), some (.int v1), some (.int s3)]) dX0_writeTrust_23 (Nat.le_of_ble_eq_true rfl) rfl rfl ?_
    refine x_aload_n (pc := 25) dX0_writeTrust_25 rfl ?_
    refine m_getR (pc := 26) (t := 90) xC0 2 fl_X0_16 rfl (by decide) rfl (by decide) rfl dX0_writeTrust_26 ?_
    refine x_iload_n (pc := 29) dX0_writeTrust_29 rfl ?_
    refine m_aald (pc := 30) (t0 := 5) rfl (by decide) rfl (fun _ => rfl) rfl (xE_bk xbk90 _) dX0_writeTrust_30 (fun hb7 => ?_)
    refine x_iload_n (pc := 31) dX0_writeTrust_31 rfl ?_
    refine x_iload_n (pc := 32) dX0_writeTrust_32 rfl ?_
    refine m_iast (pc := 33) (xBk_T xbk90 (xinb_lt hb7)) (xBk_N xbk90 (xinb_lt hb7)) dX0_writeTrust_33 (fun hb8 => ?_)
    refine SP.bdm (fun m9 e10 => ?_)
    refine x_aload_n (pc := 34) dX0_writeTrust_34 rfl ?_
    refine m_getR (pc := 35) (t := 107) xC0 3 fl_X0_19 rfl (by decide) rfl (by decide) rfl dX0_writeTrust_35 ?_
    refine x_iload_n (pc := 38) dX0_writeTrust_38 rfl ?_
    refine m_aald (pc := 39) (t0 := 5) rfl (by decide) rfl (fun _ => rfl) rfl (xE_bk xbk107 _) dX0_writeTrust_39 (fun hb11 => ?_)
    refine x_iload_n (pc := 40) dX0_writeTrust_40 rfl ?_
    refine x_iload (pc := 41) dX0_writeTrust_41 rfl ?_
    refine m_iast (pc := 43) (xBk_T xbk107 (xinb_lt hb11)) (xBk_N xbk107 (xinb_lt hb11)) dX0_writeTrust_43 (fun hb12 => ?_)
    refine SP.bdm (fun m13 e14 => ?_)
    refine x_aload_n (pc := 44) dX0_writeTrust_44 rfl ?_
    refine m_getR (pc := 45) (t := 124) xC0 4 fl_X0_22 rfl (by decide) rfl (by decide) rfl dX0_writeTrust_45 ?_
    refine x_iload_n (pc := 48) dX0_writeTrust_48 rfl ?_
    refine m_aald (pc := 49) (t0 := 5) rfl (by decide) rfl (fun _ => rfl) rfl (xE_bk xbk124 _) dX0_writeTrust_49 (fun hb15 => ?_)
    refine x_iload_n (pc := 50) dX0_writeTrust_50 rfl ?_
    refine x_iload (pc := 51) dX0_writeTrust_51 rfl ?_
    refine m_iast (pc := 53) (xBk_T xbk124 (xinb_lt hb15)) (xBk_N xbk124 (xinb_lt hb15)) dX0_writeTrust_53 (fun hb16 => ?_)
    refine SP.bdm (fun m17 e18 => ?_)
    exact x_vret (pc := 54) rfl rfl dX0_writeTrust_54 (Nat.zero_le _) (Nat.zero_le _)

set_option maxRecDepth 100000 in
set_option maxHeartbeats 4000000 in
theorem ct_X6_daysBegun  (M : xM)  : Ct iX6_daysBegun (rI M) [(.ref 1)] (xwd M) (fX6_daysBegun M) := by
  refine Ct.of' (L := [some (.ref 1)]) 0 rfl (by decide +kernel) (Nat.le_of_ble_eq_true rfl) rfl ?_
  unfold fX6_daysBegun
  refine x_aload_n (pc := 0) dX6_daysBegun_0 rfl ?_
  refine m_getI (pc := 1) xC6 3 fl_X6_37 rfl (by decide) rfl (by decide) rfl dX6_daysBegun_1 ?_
  refine x_iconst (pc := 4) (a := 1) dX6_daysBegun_4 (by decide) ?_
  refine x_iadd (pc := 5) dX6_daysBegun_5 ?_
  refine x_bipush (pc := 6) (a := 56) dX6_daysBegun_6 (by decide) ?_
  refine x_mmin (pc := 8) (xword 472 (by decide +kernel) rfl) (xword 473 (by decide +kernel) rfl) (xword 60 (by decide +kernel) rfl) (xword 474 (by decide +kernel) rfl) (Nat.le_of_ble_eq_true rfl) (Nat.le_of_ble_eq_true rfl) (Nat.zero_le _) (Nat.zero_le _) dX6_daysBegun_8 ?_
  exact x_iret (pc := 11) rfl rfl dX6_daysBegun_11 (Nat.zero_le _) (Nat.zero_le _)

set_option maxRecDepth 100000 in
set_option maxHeartbeats 4000000 in
theorem ct_X3_latestUntil (p1 : Int32) (p2 : Int32) (M : xM)  : Ct iX3_latestUntil (rI M) [(.ref 3), (.int p1), (.int p2)] (xwd M) (fX3_latestUntil p1 p2 M) := by
  refine Ct.of' (L := [some (.ref 3), some (.int p1), some (.int p2), none, none]) 2 rfl (by decide +kernel) (Nat.le_of_ble_eq_true rfl) rfl ?_
  unfold fX3_latestUntil
  refine x_iload_n (pc := 0) dX3_latestUntil_0 rfl ?_
  refine x_istore_n (pc := 1) (L' := [some (.ref 3), some (.int p1), some (.int p2), some (.int p1), none]) dX3_latestUntil_1 (Nat.le_of_ble_eq_true rfl) rfl rfl ?_
  refine x_iconst (pc := 2) (a := 0) dX3_latestUntil_2 (by decide) ?_
  refine x_istore (pc := 3) (L' := [some (.ref 3), some (.int p1), some (.int p2), some (.int p1), some (.int (0:Int32))]) dX3_latestUntil_3 (Nat.le_of_ble_eq_true rfl) rfl rfl ?_
  refine SP.mask (pc := 5) [true, false, true, true, true] (L' := [some (.ref 3), none, some (.int p2), some (.int p1), some (.int (0:Int32))]) rfl ?_
  refine SP.lp (pc := 5) (fun (s1 : (Int32 × Int32)) => [some (.ref 3), none, some (.int p2), some (.int s1.1), some (.int s1.2)]) (fun (s1 : (Int32 × Int32)) => xwd M) (fun s1 kk2 hkk2 => ?_) xfu (p1, (0:Int32))
  try dsimp only
  refine x_iload (pc := 5) dX3_latestUntil_5 rfl ?_
  refine x_bipush (pc := 7) (a := 100) dX3_latestUntil_7 (by decide) ?_
  refine x_icmp_ge (pc := 9) (tgt := 49) dX3_latestUntil_9 (by decide) (fun h3 => ?_) (fun h3 => ?_)
  · refine x_iconst (pc := 49) (a := -1) dX3_latestUntil_49 (by decide) ?_
    exact x_iret (pc := 50) rfl rfl dX3_latestUntil_50 (Nat.zero_le _) (Nat.zero_le _)
  · refine x_iload_n (pc := 12) dX3_latestUntil_12 rfl ?_
    refine x_if_lt (pc := 13) (tgt := 22) dX3_latestUntil_13 (by decide) (fun h4 => ?_) (fun h4 => ?_)
    · refine x_iconst (pc := 22) (a := -1) dX3_latestUntil_22 (by decide) ?_
      exact x_iret (pc := 23) rfl rfl dX3_latestUntil_23 (Nat.zero_le _) (Nat.zero_le _)
    · refine x_iload_n (pc := 16) dX3_latestUntil_16 rfl ?_
      refine x_bipush (pc := 17) (a := 100) dX3_latestUntil_17 (by decide) ?_
      refine x_icmp_lt (pc := 19) (tgt := 24) dX3_latestUntil_19 (by decide) (fun h5 => ?_) (fun h5 => ?_)
      · refine x_aload_n (pc := 24) dX3_latestUntil_24 rfl ?_
        refine m_getR (pc := 25) (t := 5) xC3 1 fl_X3_15 rfl (by decide) rfl (by decide) rfl dX3_latestUntil_25 ?_
        refine x_iload_n (pc := 28) dX3_latestUntil_28 rfl ?_
        refine m_iald (pc := 29) rfl rfl dX3_latestUntil_29 (fun hb6 => ?_)
        refine x_iload_n (pc := 30) dX3_latestUntil_30 rfl ?_
        refine x_icmp_gt (pc := 31) (tgt := 36) dX3_latestUntil_31 (by decide) (fun h7 => ?_) (fun h7 => ?_)
        · refine x_aload_n (pc := 36) dX3_latestUntil_36 rfl ?_
          refine m_getR (pc := 37) (t := 6) xC3 2 fl_X3_18 rfl (by decide) rfl (by decide) rfl dX3_latestUntil_37 ?_
          refine x_iload_n (pc := 40) dX3_latestUntil_40 rfl ?_
          refine m_iald (pc := 41) rfl rfl dX3_latestUntil_41 (fun hb8 => ?_)
          refine SP.bdi (fun x9 e10 => ?_)
          refine x_istore_n (pc := 42) (L' := [some (.ref 3), none, some (.int p2), some (.int x9), some (.int s1.2)]) dX3_latestUntil_42 (Nat.le_of_ble_eq_true rfl) rfl rfl ?_
          refine x_iinc (pc := 43) (b := (s1.2 + 1)) (L' := [some (.ref 3), none, some (.int p2), some (.int x9), some (.int (s1.2 + 1))]) dX3_latestUntil_43 rfl rfl (Nat.le_of_ble_eq_true rfl) rfl rfl ?_
          refine x_goto (pc := 46) (tgt := 5) dX3_latestUntil_46 (by decide) ?_
          have hz := hkk2 (x9, (s1.2 + 1))
          try dsimp only at hz
          exact hz
        · refine x_iload_n (pc := 34) dX3_latestUntil_34 rfl ?_
          exact x_iret (pc := 35) rfl rfl dX3_latestUntil_35 (Nat.zero_le _) (Nat.zero_le _)
      · refine x_iconst (pc := 22) (a := -1) dX3_latestUntil_22 (by decide) ?_
        exact x_iret (pc := 23) rfl rfl dX3_latestUntil_23 (Nat.zero_le _) (Nat.zero_le _)

set_option maxRecDepth 100000 in
set_option maxHeartbeats 4000000 in
theorem ct_X7_numberTipped (k : Nat) (p1 : Int32) (M : xM) (hk : k < 16) : Ct iX7_numberTipped (rI M) [(.ref (8 + 4 * k)), (.int p1)] (xwd M) (fX7_numberTipped k p1 M) := by
  refine Ct.of' (L := [some (.ref (8 + 4 * k)), some (.int p1), none]) 1 rfl (by decide +kernel) (Nat.le_of_ble_eq_true rfl) rfl ?_
  unfold fX7_numberTipped
  refine x_iload_n (pc := 0) dX7_numberTipped_0 rfl ?_
  refine cSN_I (pc := 1) (As := [(.int p1)]) (rest := []) (ct_X9_isDay p1 M) rfl ml_X7_46 meX9_isDay rfl ⟨prX9_isDay, (Nat.le_of_ble_eq_true rfl), (Nat.le_of_ble_eq_true rfl), rfl, rfl⟩ (Nat.le_of_ble_eq_true rfl) dX7_numberTipped_1 (fun v1 => ?_)
  refine x_if_eq (pc := 4) (tgt := 17) dX7_numberTipped_4 (by decide) (fun h2 => ?_) (fun h2 => ?_)
  · refine x_iconst (pc := 17) (a := -1) dX7_numberTipped_17 (by decide) ?_
    exact x_iret (pc := 18) rfl rfl dX7_numberTipped_18 (Nat.zero_le _) (Nat.zero_le _)
  · refine x_aload_n (pc := 7) dX7_numberTipped_7 rfl ?_
    refine m_getR (pc := 8) (t := (8 + 4 * k + 1)) xC7 6 fl_X7_15 (xPl hk) (by decide) rfl (by decide) rfl dX7_numberTipped_8 ?_
    refine x_iload_n (pc := 11) dX7_numberTipped_11 rfl ?_
    refine m_iald (pc := 12) (xPlA hk (Or.inl rfl)) (xPlN hk (Or.inl rfl)) dX7_numberTipped_12 (fun hb3 => ?_)
    refine x_iconst (pc := 13) (a := -1) dX7_numberTipped_13 (by decide) ?_
    refine x_icmp_ne (pc := 14) (tgt := 19) dX7_numberTipped_14 (by decide) (fun h4 => ?_) (fun h4 => ?_)
    · refine x_aload_n (pc := 19) dX7_numberTipped_19 rfl ?_
      refine m_getR (pc := 20) (t := (8 + 4 * k + 1)) xC7 6 fl_X7_15 (xPl hk) (by decide) rfl (by decide) rfl dX7_numberTipped_20 ?_
      refine x_iload_n (pc := 23) dX7_numberTipped_23 rfl ?_
      refine m_iald (pc := 24) (xPlA hk (Or.inl rfl)) (xPlN hk (Or.inl rfl)) dX7_numberTipped_24 (fun hb5 => ?_)
      refine x_aload_n (pc := 25) dX7_numberTipped_25 rfl ?_
      refine m_getI (pc := 26) xC7 3 fl_X7_37 (xPl hk) (by decide) rfl (by decide) rfl dX7_numberTipped_26 ?_
      refine x_imul (pc := 29) dX7_numberTipped_29 ?_
      refine SP.bdi (fun x6 e7 => ?_)
      refine x_istore_n (pc := 30) (L' := [some (.ref (8 + 4 * k)), some (.int p1), some (.int x6)]) dX7_numberTipped_30 (Nat.le_of_ble_eq_true rfl) rfl rfl ?_
      refine x_iload_n (pc := 31) dX7_numberTipped_31 rfl ?_
      refine SP.jn 83 (fun (s9 : Int32) => [none, none, some (.int s9)]) (fun (s9 : Int32) => []) (fun (s9 : Int32) => xwd M) (fun kk8 hkk8 => ?_) (fun s9 => ?_)
      · try dsimp only
        refine x_if_le (pc := 32) (tgt := 83) dX7_numberTipped_32 (by decide) (fun h10 => ?_) (fun h10 => ?_)
        · refine SP.mask (pc := 83) [false, false, true] (L' := [none, none, some (.int x6)]) rfl ?_
          have hz := hkk8 x6
          try dsimp only at hz
          exact hz
        · refine x_aload_n (pc := 35) dX7_numberTipped_35 rfl ?_
          refine m_getR (pc := 36) (t := (8 + 4 * k + 2)) xC7 7 fl_X7_19 (xPl hk) (by decide) rfl (by decide) rfl dX7_numberTipped_36 ?_
          refine x_iload_n (pc := 39) dX7_numberTipped_39 rfl ?_
          refine m_iald (pc := 40) (xPlA hk (Or.inr (Or.inl rfl))) (xPlN hk (Or.inr (Or.inl rfl))) dX7_numberTipped_40 (fun hb11 => ?_)
          refine x_iconst (pc := 41) (a := -1) dX7_numberTipped_41 (by decide) ?_
          refine x_icmp_eq (pc := 42) (tgt := 83) dX7_numberTipped_42 (by decide) (fun h12 => ?_) (fun h12 => ?_)
          · refine SP.mask (pc := 83) [false, false, true] (L' := [none, none, some (.int x6)]) rfl ?_
            have hz := hkk8 x6
            try dsimp only at hz
            exact hz
          · refine x_aload_n (pc := 45) dX7_numberTipped_45 rfl ?_
            refine m_getR (pc := 46) (t := (8 + 4 * k + 2)) xC7 7 fl_X7_19 (xPl hk) (by decide) rfl (by decide) rfl dX7_numberTipped_46 ?_
            refine x_iload_n (pc := 49) dX7_numberTipped_49 rfl ?_
            refine x_iconst (pc := 50) (a := 1) dX7_numberTipped_50 (by decide) ?_
            refine x_isub (pc := 51) dX7_numberTipped_51 ?_
            refine m_iald (pc := 52) (xPlA hk (Or.inr (Or.inl rfl))) (xPlN hk (Or.inr (Or.inl rfl))) dX7_numberTipped_52 (fun hb13 => ?_)
            refine x_iconst (pc := 53) (a := -1) dX7_numberTipped_53 (by decide) ?_
            refine x_icmp_eq (pc := 54) (tgt := 83) dX7_numberTipped_54 (by decide) (fun h14 => ?_) (fun h14 => ?_)
            · refine SP.mask (pc := 83) [false, false, true] (L' := [none, none, some (.int x6)]) rfl ?_
              have hz := hkk8 x6
              try dsimp only at hz
              exact hz
            · refine x_iload_n (pc := 57) dX7_numberTipped_57 rfl ?_
              refine x_aload_n (pc := 58) dX7_numberTipped_58 rfl ?_
              refine m_getI (pc := 59) xC7 3 fl_X7_37 (xPl hk) (by decide) rfl (by decide) rfl dX7_numberTipped_59 ?_
              refine x_aload_n (pc := 62) dX7_numberTipped_62 rfl ?_
              refine m_getR (pc := 63) (t := (8 + 4 * k + 2)) xC7 7 fl_X7_19 (xPl hk) (by decide) rfl (by decide) rfl dX7_numberTipped_63 ?_
              refine x_iload_n (pc := 66) dX7_numberTipped_66 rfl ?_
              refine m_iald (pc := 67) (xPlA hk (Or.inr (Or.inl rfl))) (xPlN hk (Or.inr (Or.inl rfl))) dX7_numberTipped_67 (fun hb15 => ?_)
              refine x_aload_n (pc := 68) dX7_numberTipped_68 rfl ?_
              refine m_getR (pc := 69) (t := (8 + 4 * k + 2)) xC7 7 fl_X7_19 (xPl hk) (by decide) rfl (by decide) rfl dX7_numberTipped_69 ?_
              refine x_iload_n (pc := 72) dX7_numberTipped_72 rfl ?_
              refine x_iconst (pc := 73) (a := 1) dX7_numberTipped_73 (by decide) ?_
              refine x_isub (pc := 74) dX7_numberTipped_74 ?_
              refine m_iald (pc := 75) (xPlA hk (Or.inr (Or.inl rfl))) (xPlN hk (Or.inr (Or.inl rfl))) dX7_numberTipped_75 (fun hb16 => ?_)
              refine x_isub (pc := 76) dX7_numberTipped_76 ?_
              refine x_imul (pc := 77) dX7_numberTipped_77 ?_
              refine x_bipush (pc := 78) (a := 8) dX7_numberTipped_78 (by decide) ?_
              refine x_idiv (pc := 80) dX7_numberTipped_80 (fun hb17 => ?_)
              refine x_iadd (pc := 81) dX7_numberTipped_81 ?_
              refine SP.bdi (fun x18 e19 => ?_)
              refine x_istore_n (pc := 82) (L' := [some (.ref (8 + 4 * k)), some (.int p1), some (.int x18)]) dX7_numberTipped_82 (Nat.le_of_ble_eq_true rfl) rfl rfl ?_
              refine SP.mask (pc := 83) [false, false, true] (L' := [none, none, some (.int x18)]) rfl ?_
              have hz := hkk8 x18
              try dsimp only at hz
              exact hz
      · try dsimp only
        refine x_iconst (pc := 83) (a := 0) dX7_numberTipped_83 (by decide) ?_
        refine x_iload_n (pc := 84) dX7_numberTipped_84 rfl ?_
        refine x_mmax (pc := 85) (xword 387 (by decide +kernel) rfl) (xword 388 (by decide +kernel) rfl) (xword 60 (by decide +kernel) rfl) (xword 389 (by decide +kernel) rfl) (Nat.le_of_ble_eq_true rfl) (Nat.le_of_ble_eq_true rfl) (Nat.zero_le _) (Nat.zero_le _) dX7_numberTipped_85 ?_
        exact x_iret (pc := 88) rfl rfl dX7_numberTipped_88 (Nat.zero_le _) (Nat.zero_le _)
    · refine x_iconst (pc := 17) (a := -1) dX7_numberTipped_17 (by decide) ?_
      exact x_iret (pc := 18) rfl rfl dX7_numberTipped_18 (Nat.zero_le _) (Nat.zero_le _)

set_option maxRecDepth 100000 in
set_option maxHeartbeats 4000000 in
theorem ct_X7_numberTwinned (k : Nat) (p1 : Int32) (M : xM) (hk : k < 16) : Ct iX7_numberTwinned (rI M) [(.ref (8 + 4 * k)), (.int p1)] (xwd M) (fX7_numberTwinned k p1 M) := by
  refine Ct.of' (L := [some (.ref (8 + 4 * k)), some (.int p1)]) 0 rfl (by decide +kernel) (Nat.le_of_ble_eq_true rfl) rfl ?_
  unfold fX7_numberTwinned
  refine x_iload_n (pc := 0) dX7_numberTwinned_0 rfl ?_
  refine cSN_I (pc := 1) (As := [(.int p1)]) (rest := []) (ct_X9_isDay p1 M) rfl ml_X7_46 meX9_isDay rfl ⟨prX9_isDay, (Nat.le_of_ble_eq_true rfl), (Nat.le_of_ble_eq_true rfl), rfl, rfl⟩ (Nat.le_of_ble_eq_true rfl) dX7_numberTwinned_1 (fun v1 => ?_)
  refine x_if_eq (pc := 4) (tgt := 27) dX7_numberTwinned_4 (by decide) (fun h2 => ?_) (fun h2 => ?_)
  · refine x_iconst (pc := 27) (a := -1) dX7_numberTwinned_27 (by decide) ?_
    exact x_iret (pc := 28) rfl rfl dX7_numberTwinned_28 (Nat.zero_le _) (Nat.zero_le _)
  · refine x_aload_n (pc := 7) dX7_numberTwinned_7 rfl ?_
    refine m_getR (pc := 8) (t := (8 + 4 * k + 1)) xC7 6 fl_X7_15 (xPl hk) (by decide) rfl (by decide) rfl dX7_numberTwinned_8 ?_
    refine x_iload_n (pc := 11) dX7_numberTwinned_11 rfl ?_
    refine m_iald (pc := 12) (xPlA hk (Or.inl rfl)) (xPlN hk (Or.inl rfl)) dX7_numberTwinned_12 (fun hb3 => ?_)
    refine x_iconst (pc := 13) (a := -1) dX7_numberTwinned_13 (by decide) ?_
    refine x_icmp_eq (pc := 14) (tgt := 27) dX7_numberTwinned_14 (by decide) (fun h4 => ?_) (fun h4 => ?_)
    · refine x_iconst (pc := 27) (a := -1) dX7_numberTwinned_27 (by decide) ?_
      exact x_iret (pc := 28) rfl rfl dX7_numberTwinned_28 (Nat.zero_le _) (Nat.zero_le _)
    · refine x_aload_n (pc := 17) dX7_numberTwinned_17 rfl ?_
      refine m_getR (pc := 18) (t := (8 + 4 * k + 2)) xC7 7 fl_X7_19 (xPl hk) (by decide) rfl (by decide) rfl dX7_numberTwinned_18 ?_
      refine x_iload_n (pc := 21) dX7_numberTwinned_21 rfl ?_
      refine m_iald (pc := 22) (xPlA hk (Or.inr (Or.inl rfl))) (xPlN hk (Or.inr (Or.inl rfl))) dX7_numberTwinned_22 (fun hb5 => ?_)
      refine x_iconst (pc := 23) (a := -1) dX7_numberTwinned_23 (by decide) ?_
      refine x_icmp_ne (pc := 24) (tgt := 29) dX7_numberTwinned_24 (by decide) (fun h6 => ?_) (fun h6 => ?_)
      · refine x_aload_n (pc := 29) dX7_numberTwinned_29 rfl ?_
        refine m_getR (pc := 30) (t := (8 + 4 * k + 1)) xC7 6 fl_X7_15 (xPl hk) (by decide) rfl (by decide) rfl dX7_numberTwinned_30 ?_
        refine x_iload_n (pc := 33) dX7_numberTwinned_33 rfl ?_
        refine m_iald (pc := 34) (xPlA hk (Or.inl rfl)) (xPlN hk (Or.inl rfl)) dX7_numberTwinned_34 (fun hb7 => ?_)
        refine x_aload_n (pc := 35) dX7_numberTwinned_35 rfl ?_
        refine m_getR (pc := 36) (t := (8 + 4 * k + 2)) xC7 7 fl_X7_19 (xPl hk) (by decide) rfl (by decide) rfl dX7_numberTwinned_36 ?_
        refine x_iload_n (pc := 39) dX7_numberTwinned_39 rfl ?_
        refine m_iald (pc := 40) (xPlA hk (Or.inr (Or.inl rfl))) (xPlN hk (Or.inr (Or.inl rfl))) dX7_numberTwinned_40 (fun hb8 => ?_)
        refine x_iadd (pc := 41) dX7_numberTwinned_41 ?_
        refine x_aload_n (pc := 42) dX7_numberTwinned_42 rfl ?_
        refine m_getI (pc := 43) xC7 3 fl_X7_37 (xPl hk) (by decide) rfl (by decide) rfl dX7_numberTwinned_43 ?_
        refine x_imul (pc := 46) dX7_numberTwinned_46 ?_
        refine x_iconst (pc := 47) (a := 2) dX7_numberTwinned_47 (by decide) ?_
        refine x_idiv (pc := 48) dX7_numberTwinned_48 (fun hb9 => ?_)
        exact x_iret (pc := 49) rfl rfl dX7_numberTwinned_49 (Nat.zero_le _) (Nat.zero_le _)
      · refine x_iconst (pc := 27) (a := -1) dX7_numberTwinned_27 (by decide) ?_
        exact x_iret (pc := 28) rfl rfl dX7_numberTwinned_28 (Nat.zero_le _) (Nat.zero_le _)

set_option maxRecDepth 100000 in
set_option maxHeartbeats 4000000 in
theorem ct_X7_numberRead (k : Nat) (p1 : Int32) (M : xM) (hk : k < 16) : Ct iX7_numberRead (rI M) [(.ref (8 + 4 * k)), (.int p1)] (xwd M) (fX7_numberRead k p1 M) := by
  refine Ct.of' (L := [some (.ref (8 + 4 * k)), some (.int p1)]) 0 rfl (by decide +kernel) (Nat.le_of_ble_eq_true rfl) rfl ?_
  unfold fX7_numberRead
  refine x_iload_n (pc := 0) dX7_numberRead_0 rfl ?_
  refine cSN_I (pc := 1) (As := [(.int p1)]) (rest := []) (ct_X9_isDay p1 M) rfl ml_X7_46 meX9_isDay rfl ⟨prX9_isDay, (Nat.le_of_ble_eq_true rfl), (Nat.le_of_ble_eq_true rfl), rfl, rfl⟩ (Nat.le_of_ble_eq_true rfl) dX7_numberRead_1 (fun v1 => ?_)
  refine x_if_ne (pc := 4) (tgt := 9) dX7_numberRead_4 (by decide) (fun h2 => ?_) (fun h2 => ?_)
  · refine x_aload_n (pc := 9) dX7_numberRead_9 rfl ?_
    refine m_getI (pc := 10) xC7 0 fl_X7_9 (xPl hk) (by decide) rfl (by decide) rfl dX7_numberRead_10 ?_
    refine SP.bdi (fun x3 e4 => ?_)
    refine SP.ite (fun h5 => ?_) (fun h5 => ?_)
    · refine x_tsw_in (pc := 13) (tgt := 48) (off := 35) dX7_numberRead_13 (by rw [h5]; decide) (by rw [h5]; decide) (by rw [h5]; rfl) (by decide) ?_
      refine x_aload_n (pc := 48) dX7_numberRead_48 rfl ?_
      refine m_getR (pc := 49) (t := (8 + 4 * k + 1)) xC7 6 fl_X7_15 (xPl hk) (by decide) rfl (by decide) rfl dX7_numberRead_49 ?_
      refine x_iload_n (pc := 52) dX7_numberRead_52 rfl ?_
      refine m_iald (pc := 53) (xPlA hk (Or.inl rfl)) (xPlN hk (Or.inl rfl)) dX7_numberRead_53 (fun hb6 => ?_)
      exact x_iret (pc := 54) rfl rfl dX7_numberRead_54 (Nat.zero_le _) (Nat.zero_le _)
    refine SP.ite (fun h7 => ?_) (fun h7 => ?_)
    · refine x_tsw_in (pc := 13) (tgt := 55) (off := 42) dX7_numberRead_13 (by rw [h7]; decide) (by rw [h7]; decide) (by rw [h7]; rfl) (by decide) ?_
      refine x_aload_n (pc := 55) dX7_numberRead_55 rfl ?_
      refine x_iload_n (pc := 56) dX7_numberRead_56 rfl ?_
      refine cV_I (pc := 57) (As := [(.int p1)]) (rest := []) (ct_X7_numberTipped k p1 M hk) rfl xC7 (xPl hk) (by decide) ml_X7_56 meX7_numberTipped rfl ⟨prX7_numberTipped, (Nat.le_of_ble_eq_true rfl), (Nat.le_of_ble_eq_true rfl), rfl, rfl⟩ (Nat.le_of_ble_eq_true rfl) dX7_numberRead_57 (fun v8 => ?_)
      exact x_iret (pc := 60) rfl rfl dX7_numberRead_60 (Nat.zero_le _) (Nat.zero_le _)
    refine SP.ite (fun h9 => ?_) (fun h9 => ?_)
    · refine x_tsw_in (pc := 13) (tgt := 61) (off := 48) dX7_numberRead_13 (by rw [h9]; decide) (by rw [h9]; decide) (by rw [h9]; rfl) (by decide) ?_
      refine x_aload_n (pc := 61) dX7_numberRead_61 rfl ?_
      refine m_getR (pc := 62) (t := (8 + 4 * k + 2)) xC7 7 fl_X7_19 (xPl hk) (by decide) rfl (by decide) rfl dX7_numberRead_62 ?_
      refine x_iload_n (pc := 65) dX7_numberRead_65 rfl ?_
      refine m_iald (pc := 66) (xPlA hk (Or.inr (Or.inl rfl))) (xPlN hk (Or.inr (Or.inl rfl))) dX7_numberRead_66 (fun hb10 => ?_)
      refine x_iconst (pc := 67) (a := -1) dX7_numberRead_67 (by decide) ?_
      refine x_icmp_ne (pc := 68) (tgt := 85) dX7_numberRead_68 (by decide) (fun h11 => ?_) (fun h11 => ?_)
      · refine x_aload_n (pc := 85) dX7_numberRead_85 rfl ?_
        refine m_getR (pc := 86) (t := (8 + 4 * k + 2)) xC7 7 fl_X7_19 (xPl hk) (by decide) rfl (by decide) rfl dX7_numberRead_86 ?_
        refine x_iload_n (pc := 89) dX7_numberRead_89 rfl ?_
        refine m_iald (pc := 90) (xPlA hk (Or.inr (Or.inl rfl))) (xPlN hk (Or.inr (Or.inl rfl))) dX7_numberRead_90 (fun hb12 => ?_)
        exact x_iret (pc := 91) rfl rfl dX7_numberRead_91 (Nat.zero_le _) (Nat.zero_le _)
      · refine x_aload_n (pc := 71) dX7_numberRead_71 rfl ?_
        refine m_getR (pc := 72) (t := (8 + 4 * k + 1)) xC7 6 fl_X7_15 (xPl hk) (by decide) rfl (by decide) rfl dX7_numberRead_72 ?_
        refine x_iload_n (pc := 75) dX7_numberRead_75 rfl ?_
        refine m_iald (pc := 76) (xPlA hk (Or.inl rfl)) (xPlN hk (Or.inl rfl)) dX7_numberRead_76 (fun hb13 => ?_)
        refine x_iconst (pc := 77) (a := -1) dX7_numberRead_77 (by decide) ?_
        refine x_icmp_eq (pc := 78) (tgt := 85) dX7_numberRead_78 (by decide) (fun h14 => ?_) (fun h14 => ?_)
        · refine x_aload_n (pc := 85) dX7_numberRead_85 rfl ?_
          refine m_getR (pc := 86) (t := (8 + 4 * k + 2)) xC7 7 fl_X7_19 (xPl hk) (by decide) rfl (by decide) rfl dX7_numberRead_86 ?_
          refine x_iload_n (pc := 89) dX7_numberRead_89 rfl ?_
          refine m_iald (pc := 90) (xPlA hk (Or.inr (Or.inl rfl))) (xPlN hk (Or.inr (Or.inl rfl))) dX7_numberRead_90 (fun hb15 => ?_)
          exact x_iret (pc := 91) rfl rfl dX7_numberRead_91 (Nat.zero_le _) (Nat.zero_le _)
        · refine x_iconst (pc := 81) (a := 0) dX7_numberRead_81 (by decide) ?_
          refine x_goto (pc := 82) (tgt := 91) dX7_numberRead_82 (by decide) ?_
          exact x_iret (pc := 91) rfl rfl dX7_numberRead_91 (Nat.zero_le _) (Nat.zero_le _)
    refine SP.ite (fun h16 => ?_) (fun h16 => ?_)
    · refine x_tsw_in (pc := 13) (tgt := 98) (off := 85) dX7_numberRead_13 (by rw [h16]; decide) (by rw [h16]; decide) (by rw [h16]; rfl) (by decide) ?_
      refine x_iconst (pc := 98) (a := -1) dX7_numberRead_98 (by decide) ?_
      exact x_iret (pc := 99) rfl rfl dX7_numberRead_99 (Nat.zero_le _) (Nat.zero_le _)
    refine SP.ite (fun h17 => ?_) (fun h17 => ?_)
    · refine x_tsw_in (pc := 13) (tgt := 92) (off := 79) dX7_numberRead_13 (by rw [h17]; decide) (by rw [h17]; decide) (by rw [h17]; rfl) (by decide) ?_
      refine x_aload_n (pc := 92) dX7_numberRead_92 rfl ?_
      refine x_iload_n (pc := 93) dX7_numberRead_93 rfl ?_
      refine cV_I (pc := 94) (As := [(.int p1)]) (rest := []) (ct_X7_numberTwinned k p1 M hk) rfl xC7 (xPl hk) (by decide) ml_X7_60 meX7_numberTwinned rfl ⟨prX7_numberTwinned, (Nat.le_of_ble_eq_true rfl), (Nat.le_of_ble_eq_true rfl), rfl, rfl⟩ (Nat.le_of_ble_eq_true rfl) dX7_numberRead_94 (fun v18 => ?_)
      exact x_iret (pc := 97) rfl rfl dX7_numberRead_97 (Nat.zero_le _) (Nat.zero_le _)
    refine x_tsw_out (pc := 13) (tgt := 98) dX7_numberRead_13 (by have a0 := lv_neT h5 (a := 0) rfl; have a1 := lv_neT h7 (a := 1) rfl; have a2 := lv_neT h9 (a := 2) rfl; have a3 := lv_neT h16 (a := 3) rfl; have a4 := lv_neT h17 (a := 4) rfl; omega) (by decide) ?_
    refine x_iconst (pc := 98) (a := -1) dX7_numberRead_98 (by decide) ?_
    exact x_iret (pc := 99) rfl rfl dX7_numberRead_99 (Nat.zero_le _) (Nat.zero_le _)
  · refine x_iconst (pc := 7) (a := -1) dX7_numberRead_7 (by decide) ?_
    exact x_iret (pc := 8) rfl rfl dX7_numberRead_8 (Nat.zero_le _) (Nat.zero_le _)

set_option maxRecDepth 100000 in
set_option maxHeartbeats 4000000 in
theorem ct_X6_numberKnown (p1 : Int32) (p2 : Int32) (p3 : Int32) (M : xM)  : Ct iX6_numberKnown (rI M) [(.ref 1), (.int p1), (.int p2), (.int p3)] (xwd M) (fX6_numberKnown p1 p2 p3 M) := by
  refine Ct.of' (L := [some (.ref 1), some (.int p1), some (.int p2), some (.int p3), none, none]) 2 rfl (by decide +kernel) (Nat.le_of_ble_eq_true rfl) rfl ?_
  unfold fX6_numberKnown
  refine x_iload_n (pc := 0) dX6_numberKnown_0 rfl ?_
  refine cSN_I (pc := 1) (As := [(.int p1)]) (rest := []) (ct_X9_isPlace p1 M) rfl ml_X6_47 meX9_isPlace rfl ⟨prX9_isPlace, (Nat.le_of_ble_eq_true rfl), (Nat.le_of_ble_eq_true rfl), rfl, rfl⟩ (Nat.le_of_ble_eq_true rfl) dX6_numberKnown_1 (fun v1 => ?_)
  refine x_if_eq (pc := 4) (tgt := 14) dX6_numberKnown_4 (by decide) (fun h2 => ?_) (fun h2 => ?_)
  · refine x_iconst (pc := 14) (a := -1) dX6_numberKnown_14 (by decide) ?_
    exact x_iret (pc := 15) rfl rfl dX6_numberKnown_15 (Nat.zero_le _) (Nat.zero_le _)
  · refine x_iload_n (pc := 7) dX6_numberKnown_7 rfl ?_
    refine cSN_I (pc := 8) (As := [(.int p2)]) (rest := []) (ct_X9_isDay p2 M) rfl ml_X6_51 meX9_isDay rfl ⟨prX9_isDay, (Nat.le_of_ble_eq_true rfl), (Nat.le_of_ble_eq_true rfl), rfl, rfl⟩ (Nat.le_of_ble_eq_true rfl) dX6_numberKnown_8 (fun v3 => ?_)
    refine x_if_ne (pc := 11) (tgt := 16) dX6_numberKnown_11 (by decide) (fun h4 => ?_) (fun h4 => ?_)
    · refine x_aload_n (pc := 16) dX6_numberKnown_16 rfl ?_
      refine m_getR (pc := 17) (t := 2) xC6 0 fl_X6_11 rfl (by decide) rfl (by decide) rfl dX6_numberKnown_17 ?_
      refine x_iload_n (pc := 20) dX6_numberKnown_20 rfl ?_
      refine m_aald (pc := 21) (t0 := 3) rfl (by decide) rfl (fun _ => rfl) rfl (xE_pl _) dX6_numberKnown_21 (fun hb5 => ?_)
      refine x_astore (pc := 22) (L' := [some (.ref 1), some (.int p1), some (.int p2), some (.int p3), some (.ref (8 + 4 * p1.toNatClampNeg)), none]) dX6_numberKnown_22 (Nat.le_of_ble_eq_true rfl) rfl rfl ?_
      refine x_aload_n (pc := 24) dX6_numberKnown_24 rfl ?_
      refine m_getR (pc := 25) (t := 3) xC6 1 fl_X6_20 rfl (by decide) rfl (by decide) rfl dX6_numberKnown_25 ?_
      refine x_aload (pc := 28) dX6_numberKnown_28 rfl ?_
      refine m_getR (pc := 30) (t := (8 + 4 * p1.toNatClampNeg + 3)) xC7 8 fl_X6_54 (xPl (xinb_lt hb5)) (by decide) rfl (by decide) rfl dX6_numberKnown_30 ?_
      refine x_iload_n (pc := 33) dX6_numberKnown_33 rfl ?_
      refine m_iald (pc := 34) (xPlA (xinb_lt hb5) (Or.inr (Or.inr rfl))) (xPlN (xinb_lt hb5) (Or.inr (Or.inr rfl))) dX6_numberKnown_34 (fun hb6 => ?_)
      refine x_iload_n (pc := 35) dX6_numberKnown_35 rfl ?_
      refine cV_I (pc := 36) (As := [(.int (M.1 (8 + 4 * p1.toNatClampNeg + 3) p2.toNatClampNeg)), (.int p3)]) (rest := []) (ct_X3_latestUntil (M.1 (8 + 4 * p1.toNatClampNeg + 3) p2.toNatClampNeg) p3 M) rfl xC3 rfl (by decide) ml_X6_57 meX3_latestUntil rfl ⟨prX3_latestUntil, (Nat.le_of_ble_eq_true rfl), (Nat.le_of_ble_eq_true rfl), rfl, rfl⟩ (Nat.le_of_ble_eq_true rfl) dX6_numberKnown_36 (fun v7 => ?_)
      refine x_istore (pc := 39) (L' := [some (.ref 1), some (.int p1), some (.int p2), some (.int p3), some (.ref (8 + 4 * p1.toNatClampNeg)), some (.int v7)]) dX6_numberKnown_39 (Nat.le_of_ble_eq_true rfl) rfl rfl ?_
      refine x_iload (pc := 41) dX6_numberKnown_41 rfl ?_
      refine SP.jn 64 (fun (s9 : Unit) => [none, none, some (.int p2), some (.int p3), some (.ref (8 + 4 * p1.toNatClampNeg)), none]) (fun (s9 : Unit) => []) (fun (s9 : Unit) => xwd M) (fun kk8 hkk8 => ?_) (fun s9 => ?_)
      · try dsimp only
        refine x_if_lt (pc := 43) (tgt := 64) dX6_numberKnown_43 (by decide) (fun h10 => ?_) (fun h10 => ?_)
        · refine SP.mask (pc := 64) [false, false, true, true, true, false] (L' := [none, none, some (.int p2), some (.int p3), some (.ref (8 + 4 * p1.toNatClampNeg)), none]) rfl ?_
          have hz := hkk8 ()
          try dsimp only at hz
          exact hz
        · refine x_iload (pc := 46) dX6_numberKnown_46 rfl ?_
          refine x_bipush (pc := 48) (a := 100) dX6_numberKnown_48 (by decide) ?_
          refine x_icmp_ge (pc := 50) (tgt := 64) dX6_numberKnown_50 (by decide) (fun h11 => ?_) (fun h11 => ?_)
          · refine SP.mask (pc := 64) [false, false, true, true, true, false] (L' := [none, none, some (.int p2), some (.int p3), some (.ref (8 + 4 * p1.toNatClampNeg)), none]) rfl ?_
            have hz := hkk8 ()
            try dsimp only at hz
            exact hz
          · refine x_aload_n (pc := 53) dX6_numberKnown_53 rfl ?_
            refine m_getR (pc := 54) (t := 3) xC6 1 fl_X6_20 rfl (by decide) rfl (by decide) rfl dX6_numberKnown_54 ?_
            refine m_getR (pc := 57) (t := 4) xC3 0 fl_X6_60 rfl (by decide) rfl (by decide) rfl dX6_numberKnown_57 ?_
            refine x_iload (pc := 60) dX6_numberKnown_60 rfl ?_
            refine m_iald (pc := 62) rfl rfl dX6_numberKnown_62 (fun hb12 => ?_)
            exact x_iret (pc := 63) rfl rfl dX6_numberKnown_63 (Nat.zero_le _) (Nat.zero_le _)
      · try dsimp only
        refine x_iload_n (pc := 64) dX6_numberKnown_64 rfl ?_
        refine x_iload_n (pc := 65) dX6_numberKnown_65 rfl ?_
        refine x_icmp_gt (pc := 66) (tgt := 78) dX6_numberKnown_66 (by decide) (fun h13 => ?_) (fun h13 => ?_)
        · refine x_iconst (pc := 78) (a := -1) dX6_numberKnown_78 (by decide) ?_
          exact x_iret (pc := 79) rfl rfl dX6_numberKnown_79 (Nat.zero_le _) (Nat.zero_le _)
        · refine x_aload (pc := 69) dX6_numberKnown_69 rfl ?_
          refine x_iload_n (pc := 71) dX6_numberKnown_71 rfl ?_
          refine cV_I (pc := 72) (As := [(.int p2)]) (rest := []) (ct_X7_numberRead p1.toNatClampNeg p2 M (xinb_lt hb5)) rfl xC7 (xPl (xinb_lt hb5)) (by decide) ml_X6_63 meX7_numberRead rfl ⟨prX7_numberRead, (Nat.le_of_ble_eq_true rfl), (Nat.le_of_ble_eq_true rfl), rfl, rfl⟩ (Nat.le_of_ble_eq_true rfl) dX6_numberKnown_72 (fun v14 => ?_)
          refine x_goto (pc := 75) (tgt := 79) dX6_numberKnown_75 (by decide) ?_
          exact x_iret (pc := 79) rfl rfl dX6_numberKnown_79 (Nat.zero_le _) (Nat.zero_le _)
    · refine x_iconst (pc := 14) (a := -1) dX6_numberKnown_14 (by decide) ?_
      exact x_iret (pc := 15) rfl rfl dX6_numberKnown_15 (Nat.zero_le _) (Nat.zero_le _)

set_option maxRecDepth 100000 in
set_option maxHeartbeats 4000000 in
theorem ct_X0_rewrite  (M : xM)  : Ct iX0_rewrite rM [(.ref 72)] (xwd M) (fX0_rewrite M) := by
  refine Ct.of' (L := [some (.ref 72), none, none, none]) 3 rfl (by decide +kernel) (Nat.le_of_ble_eq_true rfl) rfl ?_
  unfold fX0_rewrite
  refine x_aload_n (pc := 0) dX0_rewrite_0 rfl ?_
  refine m_getR (pc := 1) (t := 1) xC0 0 fl_X0_29 rfl (by decide) rfl (by decide) rfl dX0_rewrite_1 ?_
  refine cV_I (pc := 4) (As := []) (rest := []) (ct_X6_daysBegun M) rfl xC6 rfl (by decide) ml_X0_46 meX6_daysBegun rfl ⟨prX6_daysBegun, (Nat.le_of_ble_eq_true rfl), (Nat.le_of_ble_eq_true rfl), rfl, rfl⟩ (Nat.le_of_ble_eq_true rfl) dX0_rewrite_4 (fun v1 => ?_)
  refine x_istore_n (pc := 7) (L' := [some (.ref 72), some (.int v1), none, none]) dX0_rewrite_7 (Nat.le_of_ble_eq_true rfl) rfl rfl ?_
  refine x_iconst (pc := 8) (a := 0) dX0_rewrite_8 (by decide) ?_
  refine x_istore_n (pc := 9) (L' := [some (.ref 72), some (.int v1), some (.int (0:Int32)), none]) dX0_rewrite_9 (Nat.le_of_ble_eq_true rfl) rfl rfl ?_
  refine SP.mask (pc := 10) [true, true, true, false] (L' := [some (.ref 72), some (.int v1), some (.int (0:Int32)), none]) rfl ?_
  refine SP.lp (pc := 10) (fun (s2 : (Int32 × xM)) => [some (.ref 72), some (.int v1), some (.int s2.1), none]) (fun (s2 : (Int32 × xM)) => xwd s2.2) (fun s2 kk3 hkk3 => ?_) xfu ((0:Int32), M)
  try dsimp only
  refine x_iload_n (pc := 10) dX0_rewrite_10 rfl ?_
  refine x_bipush (pc := 11) (a := 16) dX0_rewrite_11 (by decide) ?_
  refine x_icmp_ge (pc := 13) (tgt := 54) dX0_rewrite_13 (by decide) (fun h4 => ?_) (fun h4 => ?_)
  · refine x_iconst (pc := 54) (a := 0) dX0_rewrite_54 (by decide) ?_
    refine x_istore_n (pc := 55) (L' := [some (.ref 72), some (.int v1), some (.int (0:Int32)), none]) dX0_rewrite_55 (Nat.le_of_ble_eq_true rfl) rfl rfl ?_
    refine SP.mask (pc := 56) [true, true, true, false] (L' := [some (.ref 72), some (.int v1), some (.int (0:Int32)), none]) rfl ?_
    refine SP.lp (pc := 56) (fun (s5 : (Int32 × xM)) => [some (.ref 72), some (.int v1), some (.int s5.1), none]) (fun (s5 : (Int32 × xM)) => xwd s5.2) (fun s5 kk6 hkk6 => ?_) xfu ((0:Int32), s2.2)
    try dsimp only
    refine x_iload_n (pc := 56) dX0_rewrite_56 rfl ?_
    refine x_bipush (pc := 57) (a := 16) dX0_rewrite_57 (by decide) ?_
    refine x_icmp_ge (pc := 59) (tgt := 87) dX0_rewrite_59 (by decide) (fun h7 => ?_) (fun h7 => ?_)
    · refine x_iconst (pc := 87) (a := 0) dX0_rewrite_87 (by decide) ?_
      refine x_istore_n (pc := 88) (L' := [some (.ref 72), some (.int v1), some (.int (0:Int32)), none]) dX0_rewrite_88 (Nat.le_of_ble_eq_true rfl) rfl rfl ?_
      refine SP.mask (pc := 89) [true, true, true, false] (L' := [some (.ref 72), some (.int v1), some (.int (0:Int32)), none]) rfl ?_
      refine SP.lp (pc := 89) (fun (s8 : (Int32 × xM)) => [some (.ref 72), some (.int v1), some (.int s8.1), none]) (fun (s8 : (Int32 × xM)) => xwd s8.2) (fun s8 kk9 hkk9 => ?_) xfu ((0:Int32), s5.2)
      try dsimp only
      refine x_iload_n (pc := 89) dX0_rewrite_89 rfl ?_
      refine x_bipush (pc := 90) (a := 16) dX0_rewrite_90 (by decide) ?_
      refine x_icmp_ge (pc := 92) (tgt := 123) dX0_rewrite_92 (by decide) (fun h10 => ?_) (fun h10 => ?_)
      · refine x_aload_n (pc := 123) dX0_rewrite_123 rfl ?_
        refine x_aload_n (pc := 124) dX0_rewrite_124 rfl ?_
        refine m_getR (pc := 125) (t := 1) xC0 0 fl_X0_29 rfl (by decide) rfl (by decide) rfl dX0_rewrite_125 ?_
        refine m_getI (pc := 128) xC6 4 fl_X0_73 rfl (by decide) rfl (by decide) rfl dX0_rewrite_128 ?_
        refine m_putI (pc := 131) xC0 6 fl_X0_76 rfl (by decide) rfl (by decide) rfl rfl rfl dX0_rewrite_131 ?_
        refine SP.bdm (fun m11 e12 => ?_)
        exact x_vret (pc := 134) rfl rfl dX0_rewrite_134 (Nat.zero_le _) (Nat.zero_le _)
      · refine x_aload_n (pc := 95) dX0_rewrite_95 rfl ?_
        refine m_getR (pc := 96) (t := 1) xC0 0 fl_X0_29 rfl (by decide) rfl (by decide) rfl dX0_rewrite_96 ?_
        refine m_getR (pc := 99) (t := 2) xC6 0 fl_X0_60 rfl (by decide) rfl (by decide) rfl dX0_rewrite_99 ?_
        refine x_iload_n (pc := 102) dX0_rewrite_102 rfl ?_
        refine m_aald (pc := 103) (t0 := 3) rfl (by decide) rfl (fun _ => rfl) rfl (xE_pl _) dX0_rewrite_103 (fun hb13 => ?_)
        refine m_getI (pc := 104) xC7 0 fl_X0_64 (xPl (xinb_lt hb13)) (by decide) rfl (by decide) rfl dX0_rewrite_104 ?_
        refine x_iconst (pc := 107) (a := 3) dX0_rewrite_107 (by decide) ?_
        refine x_icmp_ne (pc := 108) (tgt := 117) dX0_rewrite_108 (by decide) (fun h14 => ?_) (fun h14 => ?_)
        · refine x_iinc (pc := 117) (b := (s8.1 + 1)) (L' := [some (.ref 72), some (.int v1), some (.int (s8.1 + 1)), none]) dX0_rewrite_117 rfl rfl (Nat.le_of_ble_eq_true rfl) rfl rfl ?_
          refine x_goto (pc := 120) (tgt := 89) dX0_rewrite_120 (by decide) ?_
          have hz := hkk9 ((s8.1 + 1), s8.2)
          try dsimp only at hz
          exact hz
        · refine x_aload_n (pc := 111) dX0_rewrite_111 rfl ?_
          refine x_iload_n (pc := 112) dX0_rewrite_112 rfl ?_
          refine x_iload_n (pc := 113) dX0_rewrite_113 rfl ?_
          refine cV_M (pc := 114) (As := [(.int s8.1), (.int v1)]) (rest := []) (ct_X0_writeSpread s8.1 v1 s8.2) rfl xC0 rfl (by decide) ml_X0_70 meX0_writeSpread rfl ⟨prX0_writeSpread, (Nat.le_of_ble_eq_true rfl), (Nat.le_of_ble_eq_true rfl), rfl, rfl⟩ (Nat.le_of_ble_eq_true rfl) dX0_rewrite_114 (fun q15 => ?_)
          refine x_iinc (pc := 117) (b := (s8.1 + 1)) (L' := [some (.ref 72), some (.int v1), some (.int (s8.1 + 1)), none]) dX0_rewrite_117 rfl rfl (Nat.le_of_ble_eq_true rfl) rfl rfl ?_
          refine x_goto (pc := 120) (tgt := 89) dX0_rewrite_120 (by decide) ?_
          have hz := hkk9 ((s8.1 + 1), q15)
          try dsimp only at hz
          exact hz
    · refine x_iconst (pc := 62) (a := 0) dX0_rewrite_62 (by decide) ?_
      refine x_istore_n (pc := 63) (L' := [some (.ref 72), some (.int v1), some (.int s5.1), some (.int (0:Int32))]) dX0_rewrite_63 (Nat.le_of_ble_eq_true rfl) rfl rfl ?_
      refine SP.mask (pc := 64) [true, true, true, true] (L' := [some (.ref 72), some (.int v1), some (.int s5.1), some (.int (0:Int32))]) rfl ?_
      refine SP.lp (pc := 64) (fun (s16 : (Int32 × xM)) => [some (.ref 72), some (.int v1), some (.int s5.1), some (.int s16.1)]) (fun (s16 : (Int32 × xM)) => xwd s16.2) (fun s16 kk17 hkk17 => ?_) xfu ((0:Int32), s5.2)
      try dsimp only
      refine x_iload_n (pc := 64) dX0_rewrite_64 rfl ?_
      refine x_iload_n (pc := 65) dX0_rewrite_65 rfl ?_
      refine x_icmp_ge (pc := 66) (tgt := 81) dX0_rewrite_66 (by decide) (fun h18 => ?_) (fun h18 => ?_)
      · refine x_iinc (pc := 81) (b := (s5.1 + 1)) (L' := [some (.ref 72), some (.int v1), some (.int (s5.1 + 1)), some (.int s16.1)]) dX0_rewrite_81 rfl rfl (Nat.le_of_ble_eq_true rfl) rfl rfl ?_
        refine x_goto (pc := 84) (tgt := 56) dX0_rewrite_84 (by decide) ?_
        refine SP.mask (pc := 56) [true, true, true, false] (L' := [some (.ref 72), some (.int v1), some (.int (s5.1 + 1)), none]) rfl ?_
        have hz := hkk6 ((s5.1 + 1), s16.2)
        try dsimp only at hz
        exact hz
      · refine x_aload_n (pc := 69) dX0_rewrite_69 rfl ?_
        refine x_iload_n (pc := 70) dX0_rewrite_70 rfl ?_
        refine x_iload_n (pc := 71) dX0_rewrite_71 rfl ?_
        refine cV_M (pc := 72) (As := [(.int s5.1), (.int s16.1)]) (rest := []) (ct_X0_writeTrust s5.1 s16.1 s16.2) rfl xC0 rfl (by decide) ml_X0_56 meX0_writeTrust rfl ⟨prX0_writeTrust, (Nat.le_of_ble_eq_true rfl), (Nat.le_of_ble_eq_true rfl), rfl, rfl⟩ (Nat.le_of_ble_eq_true rfl) dX0_rewrite_72 (fun q19 => ?_)
        refine x_iinc (pc := 75) (b := (s16.1 + 1)) (L' := [some (.ref 72), some (.int v1), some (.int s5.1), some (.int (s16.1 + 1))]) dX0_rewrite_75 rfl rfl (Nat.le_of_ble_eq_true rfl) rfl rfl ?_
        refine x_goto (pc := 78) (tgt := 64) dX0_rewrite_78 (by decide) ?_
        have hz := hkk17 ((s16.1 + 1), q19)
        try dsimp only at hz
        exact hz
  · refine x_iconst (pc := 16) (a := 0) dX0_rewrite_16 (by decide) ?_
    refine x_istore_n (pc := 17) (L' := [some (.ref 72), some (.int v1), some (.int s2.1), some (.int (0:Int32))]) dX0_rewrite_17 (Nat.le_of_ble_eq_true rfl) rfl rfl ?_
    refine SP.mask (pc := 18) [true, true, true, true] (L' := [some (.ref 72), some (.int v1), some (.int s2.1), some (.int (0:Int32))]) rfl ?_
    refine SP.lp (pc := 18) (fun (s20 : (Int32 × xM)) => [some (.ref 72), some (.int v1), some (.int s2.1), some (.int s20.1)]) (fun (s20 : (Int32 × xM)) => xwd s20.2) (fun s20 kk21 hkk21 => ?_) xfu ((0:Int32), s2.2)
    try dsimp only
    refine x_iload_n (pc := 18) dX0_rewrite_18 rfl ?_
    refine x_iload_n (pc := 19) dX0_rewrite_19 rfl ?_
    refine x_icmp_ge (pc := 20) (tgt := 48) dX0_rewrite_20 (by decide) (fun h22 => ?_) (fun h22 => ?_)
    · refine x_iinc (pc := 48) (b := (s2.1 + 1)) (L' := [some (.ref 72), some (.int v1), some (.int (s2.1 + 1)), some (.int s20.1)]) dX0_rewrite_48 rfl rfl (Nat.le_of_ble_eq_true rfl) rfl rfl ?_
      refine x_goto (pc := 51) (tgt := 10) dX0_rewrite_51 (by decide) ?_
      refine SP.mask (pc := 10) [true, true, true, false] (L' := [some (.ref 72), some (.int v1), some (.int (s2.1 + 1)), none]) rfl ?_
      have hz := hkk3 ((s2.1 + 1), s20.2)
      try dsimp only at hz
      exact hz
    · refine x_aload_n (pc := 23) dX0_rewrite_23 rfl ?_
      refine m_getR (pc := 24) (t := 73) xC0 1 fl_X0_11 rfl (by decide) rfl (by decide) rfl dX0_rewrite_24 ?_
      refine x_iload_n (pc := 27) dX0_rewrite_27 rfl ?_
      refine m_aald (pc := 28) (t0 := 5) rfl (by decide) rfl (fun _ => rfl) rfl (xE_bk xbk73 _) dX0_rewrite_28 (fun hb23 => ?_)
      refine x_iload_n (pc := 29) dX0_rewrite_29 rfl ?_
      refine x_aload_n (pc := 30) dX0_rewrite_30 rfl ?_
      refine m_getR (pc := 31) (t := 1) xC0 0 fl_X0_29 rfl (by decide) rfl (by decide) rfl dX0_rewrite_31 ?_
      refine x_iload_n (pc := 34) dX0_rewrite_34 rfl ?_
      refine x_iload_n (pc := 35) dX0_rewrite_35 rfl ?_
      refine x_bipush (pc := 36) (a := 56) dX0_rewrite_36 (by decide) ?_
      refine cV_I (pc := 38) (As := [(.int s2.1), (.int s20.1), (.int (56:Int32))]) (rest := [(.int s20.1), (.ref (73 + 1 + s2.1.toNatClampNeg))]) (ct_X6_numberKnown s2.1 s20.1 (56:Int32) s20.2) rfl xC6 rfl (by decide) ml_X0_52 meX6_numberKnown rfl ⟨prX6_numberKnown, (Nat.le_of_ble_eq_true rfl), (Nat.le_of_ble_eq_true rfl), rfl, rfl⟩ (Nat.le_of_ble_eq_true rfl) dX0_rewrite_38 (fun v24 => ?_)
      refine m_iast (pc := 41) (xBk_T xbk73 (xinb_lt hb23)) (xBk_N xbk73 (xinb_lt hb23)) dX0_rewrite_41 (fun hb25 => ?_)
      refine SP.bdm (fun m26 e27 => ?_)
      refine x_iinc (pc := 42) (b := (s20.1 + 1)) (L' := [some (.ref 72), some (.int v1), some (.int s2.1), some (.int (s20.1 + 1))]) dX0_rewrite_42 rfl rfl (Nat.le_of_ble_eq_true rfl) rfl rfl ?_
      refine x_goto (pc := 45) (tgt := 18) dX0_rewrite_45 (by decide) ?_
      have hz := hkk21 ((s20.1 + 1), m26)
      try dsimp only at hz
      exact hz

set_option maxRecDepth 100000 in
set_option maxHeartbeats 4000000 in
theorem ct_X2_offer (c : Nat) (p1 : Int32) (p2 : Int32) (M : xM) (hc : xCi c) : Ct iX2_offer rM [(.ref c), (.int p1), (.int p2)] (xwd M) (fX2_offer c p1 p2 M) := by
  refine Ct.of' (L := [some (.ref c), some (.int p1), some (.int p2), none, none]) 2 rfl (by decide +kernel) (Nat.le_of_ble_eq_true rfl) rfl ?_
  unfold fX2_offer
  refine x_aload_n (pc := 0) dX2_offer_0 rfl ?_
  refine m_getI (pc := 1) xC2 2 fl_X2_18 (xCi_T hc) (by decide) rfl (by decide) rfl dX2_offer_1 ?_
  refine SP.bdi (fun x1 e2 => ?_)
  refine x_istore_n (pc := 4) (L' := [some (.ref c), some (.int p1), some (.int p2), some (.int x1), none]) dX2_offer_4 (Nat.le_of_ble_eq_true rfl) rfl rfl ?_
  refine SP.mask (pc := 5) [true, true, true, true, false] (L' := [some (.ref c), some (.int p1), some (.int p2), some (.int x1), none]) rfl ?_
  refine SP.lp (pc := 5) (fun (s3 : Int32) => [some (.ref c), some (.int p1), some (.int p2), some (.int s3), none]) (fun (s3 : Int32) => xwd M) (fun s3 kk4 hkk4 => ?_) xfu x1
  try dsimp only
  refine x_iload_n (pc := 5) dX2_offer_5 rfl ?_
  refine SP.jn 27 (fun (s6 : Unit) => [some (.ref c), some (.int p1), some (.int p2), some (.int s3), none]) (fun (s6 : Unit) => []) (fun (s6 : Unit) => xwd M) (fun kk5 hkk5 => ?_) (fun s6 => ?_)
  · try dsimp only
    refine x_if_le (pc := 6) (tgt := 27) dX2_offer_6 (by decide) (fun h7 => ?_) (fun h7 => ?_)
    · have hz := hkk5 ()
      try dsimp only at hz
      exact hz
    · refine x_aload_n (pc := 9) dX2_offer_9 rfl ?_
      refine m_getR (pc := 10) (t := (c + 2)) xC2 1 fl_X2_15 (xCi_T hc) (by decide) rfl (by decide) rfl dX2_offer_10 ?_
      refine x_iload_n (pc := 13) dX2_offer_13 rfl ?_
      refine x_iconst (pc := 14) (a := 1) dX2_offer_14 (by decide) ?_
      refine x_isub (pc := 15) dX2_offer_15 ?_
      refine m_iald (pc := 16) (xCi_T2 hc) (xCi_N2 hc) dX2_offer_16 (fun hb8 => ?_)
      refine x_iload_n (pc := 17) dX2_offer_17 rfl ?_
      refine x_icmp_le (pc := 18) (tgt := 27) dX2_offer_18 (by decide) (fun h9 => ?_) (fun h9 => ?_)
      · have hz := hkk5 ()
        try dsimp only at hz
        exact hz
      · refine x_iinc (pc := 21) (b := (s3 + (-1))) (L' := [some (.ref c), some (.int p1), some (.int p2), some (.int (s3 + (-1))), none]) dX2_offer_21 rfl rfl (Nat.le_of_ble_eq_true rfl) rfl rfl ?_
        refine x_goto (pc := 24) (tgt := 5) dX2_offer_24 (by decide) ?_
        have hz := hkk4 (s3 + (-1))
        try dsimp only at hz
        exact hz
  · try dsimp only
    refine x_iload_n (pc := 27) dX2_offer_27 rfl ?_
    refine x_iconst (pc := 28) (a := 4) dX2_offer_28 (by decide) ?_
    refine x_icmp_lt (pc := 29) (tgt := 33) dX2_offer_29 (by decide) (fun h10 => ?_) (fun h10 => ?_)
    · refine x_aload_n (pc := 33) dX2_offer_33 rfl ?_
      refine x_aload_n (pc := 34) dX2_offer_34 rfl ?_
      refine m_getI (pc := 35) xC2 2 fl_X2_18 (xCi_T hc) (by decide) rfl (by decide) rfl dX2_offer_35 ?_
      refine x_iconst (pc := 38) (a := 1) dX2_offer_38 (by decide) ?_
      refine x_iadd (pc := 39) dX2_offer_39 ?_
      refine x_iconst (pc := 40) (a := 4) dX2_offer_40 (by decide) ?_
      refine x_mmin (pc := 41) (xword 558 (by decide +kernel) rfl) (xword 473 (by decide +kernel) rfl) (xword 60 (by decide +kernel) rfl) (xword 474 (by decide +kernel) rfl) (Nat.le_of_ble_eq_true rfl) (Nat.le_of_ble_eq_true rfl) (Nat.zero_le _) (Nat.zero_le _) dX2_offer_41 ?_
      refine m_putI (pc := 44) xC2 2 fl_X2_18 (xCi_T hc) (by decide) rfl (by decide) rfl rfl rfl dX2_offer_44 ?_
      refine SP.bdm (fun m11 e12 => ?_)
      refine x_aload_n (pc := 47) dX2_offer_47 rfl ?_
      refine m_getI (pc := 48) xC2 2 fl_X2_18 (xCi_T hc) (by decide) rfl (by decide) rfl dX2_offer_48 ?_
      refine x_iconst (pc := 51) (a := 1) dX2_offer_51 (by decide) ?_
      refine x_isub (pc := 52) dX2_offer_52 ?_
      refine SP.bdi (fun x13 e14 => ?_)
      refine x_istore (pc := 53) (L' := [some (.ref c), some (.int p1), some (.int p2), some (.int s3), some (.int x13)]) dX2_offer_53 (Nat.le_of_ble_eq_true rfl) rfl rfl ?_
      refine SP.mask (pc := 55) [true, true, true, true, true] (L' := [some (.ref c), some (.int p1), some (.int p2), some (.int s3), some (.int x13)]) rfl ?_
      refine SP.lp (pc := 55) (fun (s15 : (Int32 × xM)) => [some (.ref c), some (.int p1), some (.int p2), some (.int s3), some (.int s15.1)]) (fun (s15 : (Int32 × xM)) => xwd s15.2) (fun s15 kk16 hkk16 => ?_) xfu (x13, m11)
      try dsimp only
      refine x_iload (pc := 55) dX2_offer_55 rfl ?_
      refine x_iload_n (pc := 57) dX2_offer_57 rfl ?_
      refine x_icmp_le (pc := 58) (tgt := 99) dX2_offer_58 (by decide) (fun h17 => ?_) (fun h17 => ?_)
      · refine x_aload_n (pc := 99) dX2_offer_99 rfl ?_
        refine m_getR (pc := 100) (t := (c + 1)) xC2 0 fl_X2_9 (xCi_T hc) (by decide) rfl (by decide) rfl dX2_offer_100 ?_
        refine x_iload_n (pc := 103) dX2_offer_103 rfl ?_
        refine x_iload_n (pc := 104) dX2_offer_104 rfl ?_
        refine m_iast (pc := 105) (xCi_T1 hc) (xCi_N1 hc) dX2_offer_105 (fun hb18 => ?_)
        refine SP.bdm (fun m19 e20 => ?_)
        refine x_aload_n (pc := 106) dX2_offer_106 rfl ?_
        refine m_getR (pc := 107) (t := (c + 2)) xC2 1 fl_X2_15 (xCi_T hc) (by decide) rfl (by decide) rfl dX2_offer_107 ?_
        refine x_iload_n (pc := 110) dX2_offer_110 rfl ?_
        refine x_iload_n (pc := 111) dX2_offer_111 rfl ?_
        refine m_iast (pc := 112) (xCi_T2 hc) (xCi_N2 hc) dX2_offer_112 (fun hb21 => ?_)
        refine SP.bdm (fun m22 e23 => ?_)
        exact x_vret (pc := 113) rfl rfl dX2_offer_113 (Nat.zero_le _) (Nat.zero_le _)
      · refine x_aload_n (pc := 61) dX2_offer_61 rfl ?_
        refine m_getR (pc := 62) (t := (c + 1)) xC2 0 fl_X2_9 (xCi_T hc) (by decide) rfl (by decide) rfl dX2_offer_62 ?_
        refine x_iload (pc := 65) dX2_offer_65 rfl ?_
        refine x_aload_n (pc := 67) dX2_offer_67 rfl ?_
        refine m_getR (pc := 68) (t := (c + 1)) xC2 0 fl_X2_9 (xCi_T hc) (by decide) rfl (by decide) rfl dX2_offer_68 ?_
        refine x_iload (pc := 71) dX2_offer_71 rfl ?_
        refine x_iconst (pc := 73) (a := 1) dX2_offer_73 (by decide) ?_
        refine x_isub (pc := 74) dX2_offer_74 ?_
        refine m_iald (pc := 75) (xCi_T1 hc) (xCi_N1 hc) dX2_offer_75 (fun hb24 => ?_)
        refine m_iast (pc := 76) (xCi_T1 hc) (xCi_N1 hc) dX2_offer_76 (fun hb25 => ?_)
        refine SP.bdm (fun m26 e27 => ?_)
        refine x_aload_n (pc := 77) dX2_offer_77 rfl ?_
        refine m_getR (pc := 78) (t := (c + 2)) xC2 1 fl_X2_15 (xCi_T hc) (by decide) rfl (by decide) rfl dX2_offer_78 ?_
        refine x_iload (pc := 81) dX2_offer_81 rfl ?_
        refine x_aload_n (pc := 83) dX2_offer_83 rfl ?_
        refine m_getR (pc := 84) (t := (c + 2)) xC2 1 fl_X2_15 (xCi_T hc) (by decide) rfl (by decide) rfl dX2_offer_84 ?_
        refine x_iload (pc := 87) dX2_offer_87 rfl ?_
        refine x_iconst (pc := 89) (a := 1) dX2_offer_89 (by decide) ?_
        refine x_isub (pc := 90) dX2_offer_90 ?_
        refine m_iald (pc := 91) (xCi_T2 hc) (xCi_N2 hc) dX2_offer_91 (fun hb28 => ?_)
        refine m_iast (pc := 92) (xCi_T2 hc) (xCi_N2 hc) dX2_offer_92 (fun hb29 => ?_)
        refine SP.bdm (fun m30 e31 => ?_)
        refine x_iinc (pc := 93) (b := (s15.1 + (-1))) (L' := [some (.ref c), some (.int p1), some (.int p2), some (.int s3), some (.int (s15.1 + (-1)))]) dX2_offer_93 rfl rfl (Nat.le_of_ble_eq_true rfl) rfl rfl ?_
        refine x_goto (pc := 96) (tgt := 55) dX2_offer_96 (by decide) ?_
        have hz := hkk16 ((s15.1 + (-1)), m30)
        try dsimp only at hz
        exact hz
    · exact x_vret (pc := 32) rfl rfl dX2_offer_32 (Nat.zero_le _) (Nat.zero_le _)

