def fJ7_fill_53178 (a0 : Nat) (n0 : Nat) (p1 : Int32) (M : xM) : Option xM :=
  bd (Int32.ofNat n0) fun x1 =>
  lp (fun (s3 : (Int32 × xM)) (kk4 : (Int32 × xM) → Option xM) =>
    if x1 ≤ s3.1 then
      some s3.2
    else
      if xinb s3.1 n0 then
        bd (xw s3.2 a0 s3.1.toNatClampNeg p1) fun m7 =>
        kk4 ((s3.1 + 1), m7)
      else none) xfu ((0:Int32), M)

def fX9_isDay (p0 : Int32) (M : xM) : Option Int32 :=
  if p0 < 0 then
    some (0:Int32)
  else
    if (56:Int32) ≤ p0 then
      some (0:Int32)
    else
      some (1:Int32)

def fX9_isPlace (p0 : Int32) (M : xM) : Option Int32 :=
  if p0 < 0 then
    some (0:Int32)
  else
    if (16:Int32) ≤ p0 then
      some (0:Int32)
    else
      some (1:Int32)

def fX0_doubtOf (p1 : Int32) (p2 : Int32) (M : xM) : Option Int32 :=
  (fX9_isPlace p1 M).bind fun v1 =>
  if v1 = 0 then
    some (0:Int32)
  else
    (fX9_isDay p2 M).bind fun v3 =>
    if v3 = 0 then
      some (0:Int32)
    else
      if xinb p1 16 then
        if xinb p2 56 then
          some (M.1 (90 + 1 + p1.toNatClampNeg) p2.toNatClampNeg)
        else none
      else none

def fX0_trustedOf (p1 : Int32) (p2 : Int32) (M : xM) : Option Int32 :=
  (fX9_isPlace p1 M).bind fun v1 =>
  if v1 = 0 then
    some (-1:Int32)
  else
    (fX9_isDay p2 M).bind fun v3 =>
    if v3 = 0 then
      some (-1:Int32)
    else
      if xinb p1 16 then
        if xinb p2 56 then
          some (M.1 (107 + 1 + p1.toNatClampNeg) p2.toNatClampNeg)
        else none
      else none

def fX0_toldOf (p1 : Int32) (p2 : Int32) (M : xM) : Option Int32 :=
  (fX9_isPlace p1 M).bind fun v1 =>
  if v1 = 0 then
    some (-1:Int32)
  else
    (fX9_isDay p2 M).bind fun v3 =>
    if v3 = 0 then
      some (-1:Int32)
    else
      if xinb p1 16 then
        if xinb p2 56 then
          some (M.1 (124 + 1 + p1.toNatClampNeg) p2.toNatClampNeg)
        else none
      else none

def fX0_isTrustedThrough (p1 : Int32) (p2 : Int32) (p3 : Int32) (M : xM) : Option Int32 :=
  lp (fun (s1 : Int32) (kk2 : Int32 → Option Int32) =>
    if p3 < s1 then
      some (1:Int32)
    else
      if xinb p1 16 then
        if xinb s1 56 then
          if (M.1 (107 + 1 + p1.toNatClampNeg) s1.toNatClampNeg) = (-1:Int32) then
            some (0:Int32)
          else
            kk2 (s1 + 1)
        else none
      else none) xfu p2

def fX9_squaredDistance (p0 : Int32) (p1 : Int32) (k2 : Nat) (M : xM) : Option Int32 :=
  some (((p0 - (M.1 (8 + 4 * k2) 1)) * (p0 - (M.1 (8 + 4 * k2) 1))) + ((p1 - (M.1 (8 + 4 * k2) 2)) * (p1 - (M.1 (8 + 4 * k2) 2))))

def fX0_nearestTrusted (p1 : Int32) (p2 : Int32) (p3 : Int32) (M : xM) : Option Int32 :=
  if xinb p1 16 then
    lp (fun (s2 : (Int32 × Int32 × Int32)) (kk3 : (Int32 × Int32 × Int32) → Option Int32) =>
      if (16:Int32) ≤ s2.2.2 then
        some s2.1
      else
        if xinb s2.2.2 16 then
          (fX9_squaredDistance (M.1 (8 + 4 * p1.toNatClampNeg) 1) (M.1 (8 + 4 * p1.toNatClampNeg) 2) s2.2.2.toNatClampNeg M).bind fun v6 =>
          jn (fun (s8 : Unit) =>
            (fX0_isTrustedThrough s2.2.2 p2 p3 M).bind fun v11 =>
            if v11 = 0 then
              kk3 (s2.1, s2.2.1, (s2.2.2 + 1))
            else
              kk3 (s2.2.2, v6, (s2.2.2 + 1)))
          (fun (kk7 : Unit → Option Int32) =>
            if s2.1 = (-1:Int32) then
              kk7 ()
            else
              if s2.2.1 ≤ v6 then
                kk3 (s2.1, s2.2.1, (s2.2.2 + 1))
              else
                kk7 ())
        else none) xfu ((-1:Int32), (0:Int32), (0:Int32))
  else none

def fX0_spreadRest (p1 : Int32) (p2 : Int32) (p3 : Int32) (p4 : Int32) (M : xM) : Option xM :=
  lp (fun (s1 : (Int32 × xM)) (kk2 : (Int32 × xM) → Option xM) =>
    if p4 ≤ s1.1 then
      some s1.2
    else
      bd (p2 + (1:Int32)) fun x4 =>
      lp (fun (s6 : (Int32 × Int32)) (kk7 : (Int32 × Int32) → Option xM) =>
        if p3 < s6.2 then
          if xinb p1 16 then
            if xinb s6.1 56 then
              if xinb s6.1 56 then
                bd (xw s1.2 (124 + 1 + p1.toNatClampNeg) s6.1.toNatClampNeg ((s1.2.1 (124 + 1 + p1.toNatClampNeg) s6.1.toNatClampNeg) + (1:Int32))) fun m12 =>
                if xinb s6.1 56 then
                  bd (xw m12 141 s6.1.toNatClampNeg (-1:Int32)) fun m15 =>
                  kk2 ((s1.1 + 1), m15)
                else none
              else none
            else none
          else none
        else
          if xinb s6.2 56 then
            if xinb s6.1 56 then
              if (s1.2.1 141 s6.2.toNatClampNeg) ≤ (s1.2.1 141 s6.1.toNatClampNeg) then
                kk7 (s6.1, (s6.2 + 1))
              else
                kk7 (s6.2, (s6.2 + 1))
            else none
          else none) xfu (p2, x4)) xfu ((0:Int32), M)

def fX0_sumTrusted (p1 : Int32) (p2 : Int32) (p3 : Int32) (M : xM) : Option Int32 :=
  lp (fun (s1 : (Int32 × Int32)) (kk2 : (Int32 × Int32) → Option Int32) =>
    if p3 < s1.2 then
      some s1.1
    else
      if xinb p1 16 then
        if xinb s1.2 56 then
          bd (s1.1 + (M.1 (107 + 1 + p1.toNatClampNeg) s1.2.toNatClampNeg)) fun x6 =>
          kk2 (x6, (s1.2 + 1))
        else none
      else none) xfu ((0:Int32), p2)

def fX0_spread (p1 : Int32) (p2 : Int32) (p3 : Int32) (M : xM) : Option xM :=
  if xinb p1 16 then
    if xinb p3 56 then
      bd (M.1 (8 + 4 * p1.toNatClampNeg + 1) p3.toNatClampNeg) fun x3 =>
      (fX0_nearestTrusted p1 p2 p3 M).bind fun v5 =>
      jn (fun (s7 : Int32) =>
        jn (fun (s11 : Unit) =>
          lp (fun (s35 : (Int32 × xM)) (kk36 : (Int32 × xM) → Option xM) =>
            if p3 < s35.1 then
              some s35.2
            else
              if xinb p1 16 then
                jn (fun (s40 : Int32) =>
                  if xinb s35.1 56 then
                    bd (xw s35.2 (124 + 1 + p1.toNatClampNeg) s35.1.toNatClampNeg s40) fun m43 =>
                    kk36 ((s35.1 + 1), m43)
                  else none)
                (fun (kk39 : Int32 → Option xM) =>
                  if s35.1 = p3 then
                    kk39 x3
                  else
                    kk39 (0:Int32))
              else none) xfu (p2, M))
        (fun (kk10 : Unit → Option xM) =>
          if v5 = (-1:Int32) then
            kk10 ()
          else
            if 0 < s7 then
              lp (fun (s14 : (Int32 × Int32 × xM)) (kk15 : (Int32 × Int32 × xM) → Option xM) =>
                if p3 < s14.2.1 then
                  (fX0_spreadRest p1 p2 p3 s14.1 s14.2.2).bind fun q17 =>
                  some q17
                else
                  if xinb p1 16 then
                    if xinb v5 16 then
                      if xinb s14.2.1 56 then
                        if s7 = 0 then none else
                        if xinb s14.2.1 56 then
                          bd (xw s14.2.2 (124 + 1 + p1.toNatClampNeg) s14.2.1.toNatClampNeg ((x3 * (s14.2.2.1 (107 + 1 + v5.toNatClampNeg) s14.2.1.toNatClampNeg)) / s7)) fun m23 =>
                          if xinb v5 16 then
                            if xinb s14.2.1 56 then
                              if s7 = 0 then none else
                              if xinb s14.2.1 56 then
                                bd (xw m23 141 s14.2.1.toNatClampNeg ((x3 * (m23.1 (107 + 1 + v5.toNatClampNeg) s14.2.1.toNatClampNeg)) - (x3 * (m23.1 (107 + 1 + v5.toNatClampNeg) s14.2.1.toNatClampNeg)) / s7 * s7)) fun m29 =>
                                if xinb p1 16 then
                                  if xinb s14.2.1 56 then
                                    bd (s14.1 - (m29.1 (124 + 1 + p1.toNatClampNeg) s14.2.1.toNatClampNeg)) fun x33 =>
                                    kk15 (x33, (s14.2.1 + 1), m29)
                                  else none
                                else none
                              else none
                            else none
                          else none
                        else none
                      else none
                    else none
                  else none) xfu (x3, p2, M)
            else
              kk10 ()))
      (fun (kk6 : Int32 → Option xM) =>
        if v5 = (-1:Int32) then
          kk6 (0:Int32)
        else
          (fX0_sumTrusted v5 p2 p3 M).bind fun v9 =>
          kk6 v9)
    else none
  else none

def fX0_writeSpread (p1 : Int32) (p2 : Int32) (M : xM) : Option xM :=
  if xinb p1 16 then
    bd (M.1 (8 + 4 * p1.toNatClampNeg) 4) fun x2 =>
    bd (M.1 (8 + 4 * p1.toNatClampNeg) 4) fun x4 =>
    lp (fun (s6 : (Int32 × Int32 × xM)) (kk7 : (Int32 × Int32 × xM) → Option xM) =>
      if s6.2.1 < 0 then
        some s6.2.2
      else
        if p2 ≤ s6.2.1 then
          some s6.2.2
        else
          if xinb s6.2.1 56 then
            if (s6.2.2.1 (8 + 4 * p1.toNatClampNeg + 1) s6.2.1.toNatClampNeg) = (-1:Int32) then
              kk7 (s6.1, (s6.2.1 + 1), s6.2.2)
            else
              (fX0_spread p1 s6.1 s6.2.1 s6.2.2).bind fun q12 =>
              bd (s6.2.1 + (1:Int32)) fun x13 =>
              kk7 (x13, (s6.2.1 + 1), q12)
          else none) xfu (x2, x4, M)
  else none

def fX6_rule (p1 : Int32) (M : xM) : Option Int32 :=
  if p1 < 0 then
    some (0:Int32)
  else
    if (12:Int32) ≤ p1 then
      some (0:Int32)
    else
      if xinb p1 12 then
        some (M.1 7 p1.toNatClampNeg)
      else none

def fX0_isDryAmongWet (p1 : Int32) (p2 : Int32) (M : xM) : Option Int32 :=
  if xinb p1 16 then
    (fX6_rule (1:Int32) M).bind fun v2 =>
    (fX6_rule (2:Int32) M).bind fun v3 =>
    lp (fun (s4 : (Int32 × Int32)) (kk5 : (Int32 × Int32) → Option Int32) =>
      if (16:Int32) ≤ s4.2 then
        if s4.1 < (2:Int32) then
          some (0:Int32)
        else
          some (1:Int32)
      else
        if s4.2 = p1 then
          kk5 (s4.1, (s4.2 + 1))
        else
          if xinb s4.2 16 then
            if xinb p2 56 then
              if (M.1 (73 + 1 + s4.2.toNatClampNeg) p2.toNatClampNeg) = (-1:Int32) then
                kk5 (s4.1, (s4.2 + 1))
              else
                if xinb s4.2 16 then
                  (fX9_squaredDistance (M.1 (8 + 4 * p1.toNatClampNeg) 1) (M.1 (8 + 4 * p1.toNatClampNeg) 2) s4.2.toNatClampNeg M).bind fun v13 =>
                  if v13 ≤ v2 then
                    if xinb s4.2 16 then
                      if xinb p2 56 then
                        if v3 ≤ (M.1 (73 + 1 + s4.2.toNatClampNeg) p2.toNatClampNeg) then
                          kk5 ((s4.1 + 1), (s4.2 + 1))
                        else
                          some (0:Int32)
                      else none
                    else none
                  else
                    kk5 (s4.1, (s4.2 + 1))
                else none
            else none
          else none) xfu ((0:Int32), (0:Int32))
  else none

def fX7_isUnlike (k : Nat) (p1 : Int32) (p2 : Int32) (M : xM) : Option Int32 :=
  (fX9_isDay p1 M).bind fun v1 =>
  if v1 = 0 then
    some (0:Int32)
  else
    if (M.1 (8 + 4 * k) 0) = (4:Int32) then
      if xinb p1 56 then
        if (M.1 (8 + 4 * k + 3) p1.toNatClampNeg) = (-1:Int32) then
          if xinb p1 56 then
            if xinb p1 56 then
              bd (if (M.1 (8 + 4 * k + 1) p1.toNatClampNeg) < (M.1 (8 + 4 * k + 2) p1.toNatClampNeg) then (M.1 (8 + 4 * k + 2) p1.toNatClampNeg) else (M.1 (8 + 4 * k + 1) p1.toNatClampNeg)) fun x8 =>
              if xinb p1 56 then
                if xinb p1 56 then
                  if ((if 0 ≤ ((M.1 (8 + 4 * k + 1) p1.toNatClampNeg) - (M.1 (8 + 4 * k + 2) p1.toNatClampNeg)) then ((M.1 (8 + 4 * k + 1) p1.toNatClampNeg) - (M.1 (8 + 4 * k + 2) p1.toNatClampNeg)) else 0 - ((M.1 (8 + 4 * k + 1) p1.toNatClampNeg) - (M.1 (8 + 4 * k + 2) p1.toNatClampNeg))) * (100:Int32)) ≤ (p2 * x8) then
                    some (0:Int32)
                  else
                    some (1:Int32)
                else none
              else none
            else none
          else none
        else
          some (0:Int32)
      else none
    else
      some (0:Int32)

def fX0_doubtingRule (p1 : Int32) (p2 : Int32) (M : xM) : Option Int32 :=
  if xinb p1 16 then
    if xinb p2 56 then
      bd (M.1 (73 + 1 + p1.toNatClampNeg) p2.toNatClampNeg) fun x3 =>
      if x3 = (-1:Int32) then
        some (0:Int32)
      else
        (fX6_rule (0:Int32) M).bind fun v6 =>
        if x3 ≤ v6 then
          jn (fun (s9 : Unit) =>
            if xinb p1 16 then
              (fX6_rule (3:Int32) M).bind fun v14 =>
              (fX7_isUnlike p1.toNatClampNeg p2 v14 M).bind fun v15 =>
              if v15 = 0 then
                some (0:Int32)
              else
                some (3:Int32)
            else none)
          (fun (kk8 : Unit → Option Int32) =>
            if x3 = 0 then
              (fX0_isDryAmongWet p1 p2 M).bind fun v11 =>
              if v11 = 0 then
                kk8 ()
              else
                some (2:Int32)
            else
              kk8 ())
        else
          some (1:Int32)
    else none
  else none

def fX0_writeTrust (p1 : Int32) (p2 : Int32) (M : xM) : Option xM :=
  (fX0_doubtingRule p1 p2 M).bind fun v1 =>
  jn (fun (s3 : Int32) =>
    if xinb p1 16 then
      if xinb p2 56 then
        bd (xw M (90 + 1 + p1.toNatClampNeg) p2.toNatClampNeg v1) fun m9 =>
        if xinb p1 16 then
          if xinb p2 56 then
            bd (xw m9 (107 + 1 + p1.toNatClampNeg) p2.toNatClampNeg s3) fun m13 =>
            if xinb p1 16 then
              if xinb p2 56 then
                bd (xw m13 (124 + 1 + p1.toNatClampNeg) p2.toNatClampNeg s3) fun m17 =>
                some m17
              else none
            else none
          else none
        else none
      else none
    else none)
  (fun (kk2 : Int32 → Option xM) =>
    if v1 = 0 then
      if xinb p1 16 then
        if xinb p2 56 then
          kk2 (M.1 (73 + 1 + p1.toNatClampNeg) p2.toNatClampNeg)
        else none
      else none
    else
      kk2 (-1:Int32))

def fX6_daysBegun  (M : xM) : Option Int32 :=
  some (if (56:Int32) < ((M.1 1 3) + (1:Int32)) then (56:Int32) else ((M.1 1 3) + (1:Int32)))

def fX3_latestUntil (p1 : Int32) (p2 : Int32) (M : xM) : Option Int32 :=
  lp (fun (s1 : (Int32 × Int32)) (kk2 : (Int32 × Int32) → Option Int32) =>
    if (100:Int32) ≤ s1.2 then
      some (-1:Int32)
    else
      if s1.1 < 0 then
        some (-1:Int32)
      else
        if s1.1 < (100:Int32) then
          if xinb s1.1 100 then
            if p2 < (M.1 5 s1.1.toNatClampNeg) then
              if xinb s1.1 100 then
                bd (M.1 6 s1.1.toNatClampNeg) fun x9 =>
                kk2 (x9, (s1.2 + 1))
              else none
            else
              some s1.1
          else none
        else
          some (-1:Int32)) xfu (p1, (0:Int32))

def fX7_numberTipped (k : Nat) (p1 : Int32) (M : xM) : Option Int32 :=
  (fX9_isDay p1 M).bind fun v1 =>
  if v1 = 0 then
    some (-1:Int32)
  else
    if xinb p1 56 then
      if (M.1 (8 + 4 * k + 1) p1.toNatClampNeg) = (-1:Int32) then
        some (-1:Int32)
      else
        if xinb p1 56 then
          bd ((M.1 (8 + 4 * k + 1) p1.toNatClampNeg) * (M.1 (8 + 4 * k) 3)) fun x6 =>
          jn (fun (s9 : Int32) =>
            some (if (0:Int32) < s9 then s9 else (0:Int32)))
          (fun (kk8 : Int32 → Option Int32) =>
            if p1 ≤ 0 then
              kk8 x6
            else
              if xinb p1 56 then
                if (M.1 (8 + 4 * k + 2) p1.toNatClampNeg) = (-1:Int32) then
                  kk8 x6
                else
                  if xinb (p1 - (1:Int32)) 56 then
                    if (M.1 (8 + 4 * k + 2) (p1 - (1:Int32)).toNatClampNeg) = (-1:Int32) then
                      kk8 x6
                    else
                      if xinb p1 56 then
                        if xinb (p1 - (1:Int32)) 56 then
                          if (8:Int32) = 0 then none else
                          bd (x6 + (((M.1 (8 + 4 * k) 3) * ((M.1 (8 + 4 * k + 2) p1.toNatClampNeg) - (M.1 (8 + 4 * k + 2) (p1 - (1:Int32)).toNatClampNeg))) / (8:Int32))) fun x18 =>
                          kk8 x18
                        else none
                      else none
                  else none
              else none)
        else none
    else none

def fX7_numberTwinned (k : Nat) (p1 : Int32) (M : xM) : Option Int32 :=
  (fX9_isDay p1 M).bind fun v1 =>
  if v1 = 0 then
    some (-1:Int32)
  else
    if xinb p1 56 then
      if (M.1 (8 + 4 * k + 1) p1.toNatClampNeg) = (-1:Int32) then
        some (-1:Int32)
      else
        if xinb p1 56 then
          if (M.1 (8 + 4 * k + 2) p1.toNatClampNeg) = (-1:Int32) then
            some (-1:Int32)
          else
            if xinb p1 56 then
              if xinb p1 56 then
                if (2:Int32) = 0 then none else
                some ((((M.1 (8 + 4 * k + 1) p1.toNatClampNeg) + (M.1 (8 + 4 * k + 2) p1.toNatClampNeg)) * (M.1 (8 + 4 * k) 3)) / (2:Int32))
              else none
            else none
        else none
    else none

def fX7_numberRead (k : Nat) (p1 : Int32) (M : xM) : Option Int32 :=
  (fX9_isDay p1 M).bind fun v1 =>
  if v1 = 0 then
    some (-1:Int32)
  else
    bd (M.1 (8 + 4 * k) 0) fun x3 =>
    if x3 = 0 then
      if xinb p1 56 then
        some (M.1 (8 + 4 * k + 1) p1.toNatClampNeg)
      else none
    else
    if x3 = 1 then
      (fX7_numberTipped k p1 M).bind fun v8 =>
      some v8
    else
    if x3 = 2 then
      if xinb p1 56 then
        if (M.1 (8 + 4 * k + 2) p1.toNatClampNeg) = (-1:Int32) then
          if xinb p1 56 then
            if (M.1 (8 + 4 * k + 1) p1.toNatClampNeg) = (-1:Int32) then
              if xinb p1 56 then
                some (M.1 (8 + 4 * k + 2) p1.toNatClampNeg)
              else none
            else
              some (0:Int32)
          else none
        else
          if xinb p1 56 then
            some (M.1 (8 + 4 * k + 2) p1.toNatClampNeg)
          else none
      else none
    else
    if x3 = 3 then
      some (-1:Int32)
    else
    if x3 = 4 then
      (fX7_numberTwinned k p1 M).bind fun v18 =>
      some v18
    else
    some (-1:Int32)

def fX6_numberKnown (p1 : Int32) (p2 : Int32) (p3 : Int32) (M : xM) : Option Int32 :=
  (fX9_isPlace p1 M).bind fun v1 =>
  if v1 = 0 then
    some (-1:Int32)
  else
    (fX9_isDay p2 M).bind fun v3 =>
    if v3 = 0 then
      some (-1:Int32)
    else
      if xinb p1 16 then
        if xinb p2 56 then
          (fX3_latestUntil (M.1 (8 + 4 * p1.toNatClampNeg + 3) p2.toNatClampNeg) p3 M).bind fun v7 =>
          jn (fun (s9 : Unit) =>
            if p3 < p2 then
              some (-1:Int32)
            else
              (fX7_numberRead p1.toNatClampNeg p2 M).bind fun v14 =>
              some v14)
          (fun (kk8 : Unit → Option Int32) =>
            if v7 < 0 then
              kk8 ()
            else
              if (100:Int32) ≤ v7 then
                kk8 ()
              else
                if xinb v7 100 then
                  some (M.1 4 v7.toNatClampNeg)
                else none)
        else none
      else none

def fX0_rewrite  (M : xM) : Option xM :=
  (fX6_daysBegun M).bind fun v1 =>
  lp (fun (s2 : (Int32 × xM)) (kk3 : (Int32 × xM) → Option xM) =>
    if (16:Int32) ≤ s2.1 then
      lp (fun (s5 : (Int32 × xM)) (kk6 : (Int32 × xM) → Option xM) =>
        if (16:Int32) ≤ s5.1 then
          lp (fun (s8 : (Int32 × xM)) (kk9 : (Int32 × xM) → Option xM) =>
            if (16:Int32) ≤ s8.1 then
              bd (xw s8.2 72 6 (s8.2.1 1 4)) fun m11 =>
              some m11
            else
              if xinb s8.1 16 then
                if (s8.2.1 (8 + 4 * s8.1.toNatClampNeg) 0) = (3:Int32) then
                  (fX0_writeSpread s8.1 v1 s8.2).bind fun q15 =>
                  kk9 ((s8.1 + 1), q15)
                else
                  kk9 ((s8.1 + 1), s8.2)
              else none) xfu ((0:Int32), s5.2)
        else
          lp (fun (s16 : (Int32 × xM)) (kk17 : (Int32 × xM) → Option xM) =>
            if v1 ≤ s16.1 then
              kk6 ((s5.1 + 1), s16.2)
            else
              (fX0_writeTrust s5.1 s16.1 s16.2).bind fun q19 =>
              kk17 ((s16.1 + 1), q19)) xfu ((0:Int32), s5.2)) xfu ((0:Int32), s2.2)
    else
      lp (fun (s20 : (Int32 × xM)) (kk21 : (Int32 × xM) → Option xM) =>
        if v1 ≤ s20.1 then
          kk3 ((s2.1 + 1), s20.2)
        else
          if xinb s2.1 16 then
            (fX6_numberKnown s2.1 s20.1 (56:Int32) s20.2).bind fun v24 =>
            if xinb s20.1 56 then
              bd (xw s20.2 (73 + 1 + s2.1.toNatClampNeg) s20.1.toNatClampNeg v24) fun m26 =>
              kk21 ((s20.1 + 1), m26)
            else none
          else none) xfu ((0:Int32), s2.2)) xfu ((0:Int32), M)

def fX2_offer (c : Nat) (p1 : Int32) (p2 : Int32) (M : xM) : Option xM :=
  bd (M.1 c 2) fun x1 =>
  lp (fun (s3 : Int32) (kk4 : Int32 → Option xM) =>
    jn (fun (s6 : Unit) =>
      if s3 < (4:Int32) then
        bd (xw M c 2 (if (4:Int32) < ((M.1 c 2) + (1:Int32)) then (4:Int32) else ((M.1 c 2) + (1:Int32)))) fun m11 =>
        bd ((m11.1 c 2) - (1:Int32)) fun x13 =>
        lp (fun (s15 : (Int32 × xM)) (kk16 : (Int32 × xM) → Option xM) =>
          if s15.1 ≤ s3 then
            if xinb s3 4 then
              bd (xw s15.2 (c + 1) s3.toNatClampNeg p1) fun m19 =>
              if xinb s3 4 then
                bd (xw m19 (c + 2) s3.toNatClampNeg p2) fun m22 =>
                some m22
              else none
            else none
          else
            if xinb (s15.1 - (1:Int32)) 4 then
              if xinb s15.1 4 then
                bd (xw s15.2 (c + 1) s15.1.toNatClampNeg (s15.2.1 (c + 1) (s15.1 - (1:Int32)).toNatClampNeg)) fun m26 =>
                if xinb (s15.1 - (1:Int32)) 4 then
                  if xinb s15.1 4 then
                    bd (xw m26 (c + 2) s15.1.toNatClampNeg (m26.1 (c + 2) (s15.1 - (1:Int32)).toNatClampNeg)) fun m30 =>
                    kk16 ((s15.1 + (-1)), m30)
                  else none
                else none
              else none
            else none) xfu (x13, m11)
      else
        some M)
    (fun (kk5 : Unit → Option xM) =>
      if s3 ≤ 0 then
        kk5 ()
      else
        if xinb (s3 - (1:Int32)) 4 then
          if (M.1 (c + 2) (s3 - (1:Int32)).toNatClampNeg) ≤ p2 then
            kk5 ()
          else
            kk4 (s3 + (-1))
        else none)) xfu x1

def fX7_isDailyGauge (k : Nat) (M : xM) : Option Int32 :=
  if (M.1 (8 + 4 * k) 0) = (-1:Int32) then
    some (0:Int32)
  else
    if (M.1 (8 + 4 * k) 0) = (5:Int32) then
      some (0:Int32)
    else
      if (M.1 (8 + 4 * k) 0) = (3:Int32) then
        some (0:Int32)
      else
        some (1:Int32)

def fX1_gatherNeighbours (p1 : Int32) (M : xM) : Option xM :=
  bd (xw M 165 2 (0:Int32)) fun m1 =>
  (fX9_isPlace p1 m1).bind fun v3 =>
  if v3 = 0 then
    some m1
  else
    if xinb p1 16 then
      lp (fun (s6 : (Int32 × xM)) (kk7 : (Int32 × xM) → Option xM) =>
        if (16:Int32) ≤ s6.1 then
          some s6.2
        else
          if s6.1 = p1 then
            kk7 ((s6.1 + 1), s6.2)
          else
            if xinb s6.1 16 then
              (fX7_isDailyGauge s6.1.toNatClampNeg s6.2).bind fun v11 =>
              if v11 = 0 then
                kk7 ((s6.1 + 1), s6.2)
              else
                if xinb s6.1 16 then
                  (fX9_squaredDistance (s6.2.1 (8 + 4 * p1.toNatClampNeg) 1) (s6.2.1 (8 + 4 * p1.toNatClampNeg) 2) s6.1.toNatClampNeg s6.2).bind fun v14 =>
                  (fX2_offer 165 s6.1 v14 s6.2).bind fun q15 =>
                  kk7 ((s6.1 + 1), q15)
                else none
            else none) xfu ((0:Int32), m1)
    else none

def fX2_placeAt (c : Nat) (p1 : Int32) (M : xM) : Option Int32 :=
  if p1 < 0 then
    some (-1:Int32)
  else
    if (M.1 c 2) ≤ p1 then
      some (-1:Int32)
    else
      if xinb p1 4 then
        some (M.1 (c + 1) p1.toNatClampNeg)
      else none

def fX1_sumOfNeighbours (p2 : Int32) (M : xM) : Option Int32 :=
  lp (fun (s1 : (Int32 × Int32)) (kk2 : (Int32 × Int32) → Option Int32) =>
    if (M.1 165 2) ≤ s1.2 then
      some s1.1
    else
      (fX2_placeAt 165 s1.2 M).bind fun v4 =>
      (fX0_trustedOf v4 p2 M).bind fun v5 =>
      if v5 = (-1:Int32) then
        some (-1:Int32)
      else
        bd (s1.1 + v5) fun x7 =>
        kk2 (x7, (s1.2 + 1))) xfu ((0:Int32), (0:Int32))

def fX1_sumWeeks (p2 : Int32) (M : xM) : Option xM :=
  (fX1_gatherNeighbours p2 M).bind fun q1 =>
  (fJ7_fill_53178 168 8 (0:Int32) q1).bind fun q2 =>
  (fJ7_fill_53178 169 8 (0:Int32) q2).bind fun q3 =>
  lp (fun (s4 : (Int32 × xM)) (kk5 : (Int32 × xM) → Option xM) =>
    if (56:Int32) ≤ s4.1 then
      some s4.2
    else
      (fX0_trustedOf p2 s4.1 s4.2).bind fun v7 =>
      (fX1_sumOfNeighbours s4.1 s4.2).bind fun v8 =>
      if v7 = (-1:Int32) then
        kk5 ((s4.1 + 1), s4.2)
      else
        if v8 = (-1:Int32) then
          kk5 ((s4.1 + 1), s4.2)
        else
          if (7:Int32) = 0 then none else
          if xinb (s4.1 / (7:Int32)) 8 then
            if xinb (s4.1 / (7:Int32)) 8 then
              bd (xw s4.2 168 (s4.1 / (7:Int32)).toNatClampNeg ((s4.2.1 168 (s4.1 / (7:Int32)).toNatClampNeg) + v7)) fun m14 =>
              if (7:Int32) = 0 then none else
              if xinb (s4.1 / (7:Int32)) 8 then
                if xinb (s4.1 / (7:Int32)) 8 then
                  bd (xw m14 169 (s4.1 / (7:Int32)).toNatClampNeg ((m14.1 169 (s4.1 / (7:Int32)).toNatClampNeg) + v8)) fun m19 =>
                  kk5 ((s4.1 + 1), m19)
                else none
              else none
            else none
          else none) xfu ((0:Int32), q3)

def fX1_missesOfPart (p1 : Int32) (p2 : Int32) (M : xM) : Option Int64 :=
  bd (if (0:Int32) < p1 then p1 else (0:Int32)) fun x1 =>
  lp (fun (s3 : (Int64 × Int64 × Int32)) (kk4 : (Int64 × Int64 × Int32) → Option Int64) =>
    jn (fun (s6 : Unit) =>
      if 0 < (lg_cmp s3.2.1 (0:Int64)) then
        bd (if (0:Int32) < p1 then p1 else (0:Int32)) fun x16 =>
        lp (fun (s18 : (Int64 × Int32)) (kk19 : (Int64 × Int32) → Option Int64) =>
          if p2 < s18.2 then
            if s3.2.1 = 0 then none else
            some ((s18.1 * (1000:Int64)) / s3.2.1)
          else
            if (8:Int32) ≤ s18.2 then
              if s3.2.1 = 0 then none else
              some ((s18.1 * (1000:Int64)) / s3.2.1)
            else
              if xinb s18.2 8 then
                if xinb s18.2 8 then
                  bd (s18.1 + (if 0 < (((M.1 168 s18.2.toNatClampNeg).toInt64 * s3.2.1) - ((M.1 169 s18.2.toNatClampNeg).toInt64 * s3.1)) then (((M.1 168 s18.2.toNatClampNeg).toInt64 * s3.2.1) - ((M.1 169 s18.2.toNatClampNeg).toInt64 * s3.1)) else -(((M.1 168 s18.2.toNatClampNeg).toInt64 * s3.2.1) - ((M.1 169 s18.2.toNatClampNeg).toInt64 * s3.1)))) fun x26 =>
                  kk19 (x26, (s18.2 + 1))
                else none
              else none) xfu ((0:Int64), x16)
      else
        some (s3.1 * (1000:Int64)))
    (fun (kk5 : Unit → Option Int64) =>
      if p2 < s3.2.2 then
        kk5 ()
      else
        if (8:Int32) ≤ s3.2.2 then
          kk5 ()
        else
          if xinb s3.2.2 8 then
            bd (s3.1 + (M.1 168 s3.2.2.toNatClampNeg).toInt64) fun x10 =>
            if xinb s3.2.2 8 then
              bd (s3.2.1 + (M.1 169 s3.2.2.toNatClampNeg).toInt64) fun x13 =>
              kk4 (x10, x13, (s3.2.2 + 1))
            else none
          else none)) xfu ((0:Int64), (0:Int64), x1)

def fX1_missesAt (p1 : Int32) (p2 : Int32) (M : xM) : Option Int64 :=
  (fX1_missesOfPart (0:Int32) (p1 - (1:Int32)) M).bind fun v1 =>
  (fX1_missesOfPart p1 p2 M).bind fun v2 =>
  some (v1 + v2)

def fX1_leastBreak (p1 : Int32) (M : xM) : Option Int32 :=
  lp (fun (s1 : (Int32 × Int64 × Int32)) (kk2 : (Int32 × Int64 × Int32) → Option Int32) =>
    if p1 < s1.2.2 then
      some s1.1
    else
      if (8:Int32) ≤ s1.2.2 then
        some s1.1
      else
        (fX1_missesAt s1.2.2 p1 M).bind fun v5 =>
        if s1.1 = (-1:Int32) then
          kk2 (s1.2.2, v5, (s1.2.2 + 1))
        else
          if 0 ≤ (lg_cmp v5 s1.2.1) then
            kk2 (s1.1, s1.2.1, (s1.2.2 + 1))
          else
            kk2 (s1.2.2, v5, (s1.2.2 + 1))) xfu ((-1:Int32), (0:Int64), (1:Int32))

def fX3_append (p1 : Int32) (p2 : Int32) (p3 : Int32) (M : xM) : Option (Int32 × xM) :=
  if (M.1 3 3) < (100:Int32) then
    if xinb (M.1 3 3) 100 then
      bd (xw M 4 (M.1 3 3).toNatClampNeg p1) fun m3 =>
      if xinb (m3.1 3 3) 100 then
        bd (xw m3 5 (m3.1 3 3).toNatClampNeg p2) fun m6 =>
        if xinb (m6.1 3 3) 100 then
          bd (xw m6 6 (m6.1 3 3).toNatClampNeg p3) fun m9 =>
          bd (xw m9 3 3 ((m9.1 3 3) + (1:Int32))) fun m11 =>
          some (((m11.1 3 3) - (1:Int32)), m11)
        else none
      else none
    else none
  else
    some ((-1:Int32), M)

def fX4_ownerOf (p2 : Int32) (p3 : Int32) (p4 : Int32) (M : xM) : Option Int32 :=
  lp (fun (s1 : (Int32 × Int32 × Int32)) (kk2 : (Int32 × Int32 × Int32) → Option Int32) =>
    if (16:Int32) ≤ s1.2.2 then
      some s1.1
    else
      (fX0_toldOf s1.2.2 p4 M).bind fun v4 =>
      if v4 = (-1:Int32) then
        kk2 (s1.1, s1.2.1, (s1.2.2 + 1))
      else
        if xinb s1.2.2 16 then
          (fX9_squaredDistance p2 p3 s1.2.2.toNatClampNeg M).bind fun v7 =>
          if s1.1 = (-1:Int32) then
            kk2 (s1.2.2, v7, (s1.2.2 + 1))
          else
            if s1.2.1 ≤ v7 then
              kk2 (s1.1, s1.2.1, (s1.2.2 + 1))
            else
              kk2 (s1.2.2, v7, (s1.2.2 + 1))
        else none) xfu ((-1:Int32), (0:Int32), (0:Int32))

def fX4_countOwned (p2 : Int32) (p3 : Int32) (M : xM) : Option Int32 :=
  (fX0_toldOf p2 p3 M).bind fun v1 =>
  if v1 = (-1:Int32) then
    some (0:Int32)
  else
    lp (fun (s3 : (Int32 × Int32)) (kk4 : (Int32 × Int32) → Option Int32) =>
      if (100:Int32) ≤ s3.2 then
        some s3.1
      else
        if (10:Int32) = 0 then none else
        if (10:Int32) = 0 then none else
        (fX4_ownerOf (s3.2 - s3.2 / (10:Int32) * (10:Int32)) (s3.2 / (10:Int32)) p3 M).bind fun v8 =>
        if v8 = p2 then
          kk4 ((s3.1 + 1), (s3.2 + 1))
        else
          kk4 (s3.1, (s3.2 + 1))) xfu ((0:Int32), (0:Int32))

def fX4_rainOf (k2 : Nat) (p3 : Int32) (M : xM) : Option Int32 :=
  if (M.1 (148 + 2 * k2) 1) = 0 then
    some (-1:Int32)
  else
    lp (fun (s2 : (Int32 × Int32)) (kk3 : (Int32 × Int32) → Option Int32) =>
      if (100:Int32) ≤ s2.2 then
        some s2.1
      else
        if xinb s2.2 100 then
          if (M.1 (148 + 2 * k2 + 1) s2.2.toNatClampNeg) = 0 then
            kk3 (s2.1, (s2.2 + 1))
          else
            if (10:Int32) = 0 then none else
            if (10:Int32) = 0 then none else
            (fX4_ownerOf (s2.2 - s2.2 / (10:Int32) * (10:Int32)) (s2.2 / (10:Int32)) p3 M).bind fun v9 =>
            if v9 = (-1:Int32) then
              some (-1:Int32)
            else
              (fX0_toldOf v9 p3 M).bind fun v11 =>
              bd (s2.1 + v11) fun x12 =>
              kk3 (x12, (s2.2 + 1))
        else none) xfu ((0:Int32), (0:Int32))

def fX4_flowOf (k2 : Nat) (p3 : Int32) (M : xM) : Option Int64 :=
  lp (fun (s1 : (Int64 × Int32)) (kk2 : (Int64 × Int32) → Option Int64) =>
    if (8:Int32) ≤ s1.2 then
      some s1.1
    else
      (fX6_rule ((4:Int32) + s1.2) M).bind fun v4 =>
      if (lg_cmp v4.toInt64 (0:Int64)) = 0 then
        kk2 (s1.1, (s1.2 + 1))
      else
        (fX4_rainOf k2 (p3 - s1.2) M).bind fun v6 =>
        bd (s1.1 + (v4.toInt64 * (if (0:Int32) < v6 then v6 else (0:Int32)).toInt64)) fun x7 =>
        kk2 (x7, (s1.2 + 1))) xfu ((0:Int64), (0:Int32))

def fX5_gather (p2 : Int32) (p3 : Int32) (M : xM) : Option (Int32 × xM) :=
  bd (xw M 143 2 (0:Int32)) fun m1 =>
  (fX9_isPlace p2 m1).bind fun v3 =>
  if v3 = 0 then
    some ((0:Int32), m1)
  else
    if xinb p2 16 then
      (fX7_isDailyGauge p2.toNatClampNeg m1).bind fun v6 =>
      if v6 = 0 then
        some ((0:Int32), m1)
      else
        if xinb p2 16 then
          if (m1.1 (8 + 4 * p2.toNatClampNeg) 4) ≤ p3 then
            if xinb p2 16 then
              lp (fun (s11 : (Int32 × xM)) (kk12 : (Int32 × xM) → Option (Int32 × xM)) =>
                if (16:Int32) ≤ s11.1 then
                  some ((s11.2.1 143 2), s11.2)
                else
                  if s11.1 = p2 then
                    kk12 ((s11.1 + 1), s11.2)
                  else
                    (fX0_trustedOf s11.1 p3 s11.2).bind fun v15 =>
                    if v15 = (-1:Int32) then
                      kk12 ((s11.1 + 1), s11.2)
                    else
                      if xinb s11.1 16 then
                        (fX9_squaredDistance (s11.2.1 (8 + 4 * p2.toNatClampNeg) 1) (s11.2.1 (8 + 4 * p2.toNatClampNeg) 2) s11.1.toNatClampNeg s11.2).bind fun v18 =>
                        (fX2_offer 143 s11.1 v18 s11.2).bind fun q19 =>
                        kk12 ((s11.1 + 1), q19)
                      else none) xfu ((0:Int32), m1)
            else none
          else
            some ((0:Int32), m1)
        else none
    else none

def fX5_nearness (p0 : Int32) (M : xM) : Option Int32 :=
  if 0 < p0 then
    if p0 = 0 then none else
    some (if (1:Int32) < ((144:Int32) / p0) then ((144:Int32) / p0) else (1:Int32))
  else
    some (288:Int32)

def fX5_thousandthsBy (p2 : Int32) (p3 : Int32) (p4 : Int32) (M : xM) : Option Int64 :=
  lp (fun (s1 : (Int64 × Int64 × Int32)) (kk2 : (Int64 × Int64 × Int32) → Option Int64) =>
    jn (fun (s4 : Unit) =>
      (fX0_trustedOf p3 p4 M).bind fun v15 =>
      bd ((1000:Int64) * v15.toInt64) fun x16 =>
      if 0 < (lg_cmp s1.2.1 (0:Int64)) then
        if s1.2.1 = 0 then none else
        some ((x16 * s1.1) / s1.2.1)
      else
        some x16)
    (fun (kk3 : Unit → Option Int64) =>
      if (M.1 1 3) ≤ s1.2.2 then
        kk3 ()
      else
        if (56:Int32) ≤ s1.2.2 then
          kk3 ()
        else
          (fX0_trustedOf p2 s1.2.2 M).bind fun v7 =>
          (fX0_trustedOf p3 s1.2.2 M).bind fun v8 =>
          if v7 = (-1:Int32) then
            kk2 (s1.1, s1.2.1, (s1.2.2 + 1))
          else
            if v8 = (-1:Int32) then
              kk2 (s1.1, s1.2.1, (s1.2.2 + 1))
            else
              bd (s1.1 + v7.toInt64) fun x11 =>
              bd (s1.2.1 + v8.toInt64) fun x13 =>
              kk2 (x11, x13, (s1.2.2 + 1)))) xfu ((0:Int64), (0:Int64), (0:Int32))

def fX5_mend (p2 : Int32) (p3 : Int32) (M : xM) : Option (Int32 × xM) :=
  (fX5_gather p2 p3 M).bind fun q1 =>
  lp (fun (s2 : (Int64 × Int64 × Int32)) (kk3 : (Int64 × Int64 × Int32) → Option (Int32 × xM)) =>
    jn (fun (s5 : Unit) =>
      if 0 < (lg_cmp s2.2.1 (0:Int64)) then
        if (s2.2.1 * (1000:Int64)) = 0 then none else
        some ((s2.1 / (s2.2.1 * (1000:Int64))).toInt32, q1.2)
      else
        some ((-1:Int32), q1.2))
    (fun (kk4 : Unit → Option (Int32 × xM)) =>
      if q1.1 ≤ s2.2.2 then
        kk4 ()
      else
        if (4:Int32) ≤ s2.2.2 then
          kk4 ()
        else
          if xinb s2.2.2 4 then
            (fX5_nearness (q1.2.1 (143 + 2) s2.2.2.toNatClampNeg) q1.2).bind fun v9 =>
            if xinb s2.2.2 4 then
              (fX5_thousandthsBy p2 (q1.2.1 (143 + 1) s2.2.2.toNatClampNeg) p3 q1.2).bind fun v11 =>
              bd (s2.1 + (v9.toInt64 * v11)) fun x12 =>
              bd (s2.2.1 + v9.toInt64) fun x14 =>
              kk3 (x12, x14, (s2.2.2 + 1))
            else none
          else none)) xfu ((0:Int64), (0:Int64), (0:Int32))

def fX6_lastWholeWeek  (M : xM) : Option Int32 :=
  if (7:Int32) = 0 then none else
  some (((M.1 1 3) / (7:Int32)) - (1:Int32))

def fX7_bring (k : Nat) (p1 : Int32) (p2 : Int32) (p3 : Int32) (p4 : Int32) (p5 : Int32) (M : xM) : Option xM :=
  bd (xw M (8 + 4 * k) 0 p1) fun m1 =>
  bd (xw m1 (8 + 4 * k) 1 p2) fun m3 =>
  bd (xw m3 (8 + 4 * k) 2 p3) fun m5 =>
  bd (xw m5 (8 + 4 * k) 3 p4) fun m7 =>
  bd (xw m7 (8 + 4 * k) 4 p5) fun m9 =>
  some m9

def fX7_clear (k : Nat) (M : xM) : Option xM :=
  bd (xw M (8 + 4 * k) 0 (-1:Int32)) fun m1 =>
  bd (xw m1 (8 + 4 * k) 5 (0:Int32)) fun m3 =>
  (fJ7_fill_53178 (8 + 4 * k + 1) 56 (-1:Int32) m3).bind fun q5 =>
  (fJ7_fill_53178 (8 + 4 * k + 2) 56 (-1:Int32) q5).bind fun q6 =>
  (fJ7_fill_53178 (8 + 4 * k + 3) 56 (-1:Int32) q6).bind fun q7 =>
  some q7

def fX7_meltAway (k : Nat) (p1 : Int32) (p2 : Int32) (M : xM) : Option (Int32 × xM) :=
  (fX9_isDay p1 M).bind fun v1 =>
  if v1 = 0 then
    some ((-1:Int32), M)
  else
    if xinb p1 56 then
      bd ((if (0:Int32) < (M.1 (8 + 4 * k + 2) p1.toNatClampNeg) then (M.1 (8 + 4 * k + 2) p1.toNatClampNeg) else (0:Int32)) + p2) fun x4 =>
      if (M.1 (8 + 4 * k) 5) < p2 then
        some ((-1:Int32), M)
      else
        if x4 ≤ (5000:Int32) then
          bd (xw M (8 + 4 * k) 5 ((M.1 (8 + 4 * k) 5) - p2)) fun m8 =>
          if xinb p1 56 then
            bd (xw m8 (8 + 4 * k + 2) p1.toNatClampNeg x4) fun m11 =>
            some ((m11.1 (8 + 4 * k) 5), m11)
          else none
        else
          some ((-1:Int32), M)
    else none

def fX8_change (k : Nat) (p1 : Int32) (p2 : Int32) (M : xM) : Option (Int32 × xM) :=
  if p1 < 0 then
    some ((M.1 (148 + 2 * k) 1), M)
  else
    if (100:Int32) ≤ p1 then
      some ((M.1 (148 + 2 * k) 1), M)
    else
      if xinb p1 100 then
        if (M.1 (148 + 2 * k + 1) p1.toNatClampNeg) = p2 then
          some ((M.1 (148 + 2 * k) 1), M)
        else
          if xinb p1 100 then
            bd (xw M (148 + 2 * k + 1) p1.toNatClampNeg (vp_nar .boolean p2)) fun m6 =>
            jn (fun (s9 : Int32) =>
              bd (xw m6 (148 + 2 * k) 1 ((m6.1 (148 + 2 * k) 1) + s9)) fun m11 =>
              some ((m11.1 (148 + 2 * k) 1), m11))
            (fun (kk8 : Int32 → Option (Int32 × xM)) =>
              if p2 = 0 then
                kk8 (-1:Int32)
              else
                kk8 (1:Int32))
          else none
      else none

def fX9_hasSize (p0 : Int32) (M : xM) : Option Int32 :=
  if p0 = (1:Int32) then
    some (1:Int32)
  else
    if p0 = (4:Int32) then
      some (1:Int32)
    else
      some (0:Int32)

def fX9_isSquare (p0 : Int32) (p1 : Int32) (M : xM) : Option Int32 :=
  if p0 < 0 then
    some (0:Int32)
  else
    if (10:Int32) ≤ p0 then
      some (0:Int32)
    else
      if p1 < 0 then
        some (0:Int32)
      else
        if (10:Int32) ≤ p1 then
          some (0:Int32)
        else
          some (1:Int32)

def fX9_put (p1 : Int32) (p2 : Int32) (p3 : Int32) (p4 : Int32) (p5 : Int32) (M : xM) : Option (Int32 × xM) :=
  (fX9_isPlace p1 M).bind fun v1 =>
  if v1 = 0 then
    some ((-1:Int32), M)
  else
    if p2 < 0 then
      some ((-1:Int32), M)
    else
      if (5:Int32) < p2 then
        some ((-1:Int32), M)
      else
        (fX9_isSquare p3 p4 M).bind fun v5 =>
        if v5 = 0 then
          some ((-1:Int32), M)
        else
          (fX9_hasSize p2 M).bind fun v7 =>
          jn (fun (s9 : Unit) =>
            if xinb p1 16 then
              if (M.1 (8 + 4 * p1.toNatClampNeg) 0) = (-1:Int32) then
                (fX9_hasSize p2 M).bind fun v15 =>
                jn (fun (s17 : Int32) =>
                  jn (fun (s20 : Int32) =>
                    (fX7_bring p1.toNatClampNeg p2 p3 p4 s17 s20 M).bind fun q22 =>
                    bd (xw q22 1 4 ((q22.1 1 4) + (1:Int32))) fun m23 =>
                    some (p1, m23))
                  (fun (kk19 : Int32 → Option (Int32 × xM)) =>
                    if p2 = (5:Int32) then
                      kk19 (0:Int32)
                    else
                      kk19 (M.1 1 3)))
                (fun (kk16 : Int32 → Option (Int32 × xM)) =>
                  if v15 = 0 then
                    kk16 (0:Int32)
                  else
                    kk16 p5)
              else
                some ((-1:Int32), M)
            else none)
          (fun (kk8 : Unit → Option (Int32 × xM)) =>
            if v7 = 0 then
              kk8 ()
            else
              if p5 < (1:Int32) then
                some ((-1:Int32), M)
              else
                if p5 ≤ (20:Int32) then
                  kk8 ()
                else
                  some ((-1:Int32), M))

def fX9_lift (p1 : Int32) (M : xM) : Option (Int32 × xM) :=
  (fX9_isPlace p1 M).bind fun v1 =>
  if v1 = 0 then
    some ((-1:Int32), M)
  else
    if xinb p1 16 then
      if (M.1 (8 + 4 * p1.toNatClampNeg) 0) = (-1:Int32) then
        some ((-1:Int32), M)
      else
        if xinb p1 16 then
          bd (M.1 (8 + 4 * p1.toNatClampNeg) 0) fun x6 =>
          if xinb p1 16 then
            (fX7_clear p1.toNatClampNeg M).bind fun q9 =>
            bd (xw q9 1 4 ((q9.1 1 4) + (1:Int32))) fun m10 =>
            some (x6, m10)
          else none
        else none
    else none

def fX9_look (p1 : Int32) (p2 : Int32) (M : xM) : Option Int32 :=
  (fX9_isPlace p1 M).bind fun v1 =>
  if v1 = 0 then
    some (-1:Int32)
  else
    if xinb p1 16 then
      if (M.1 (8 + 4 * p1.toNatClampNeg) 0) = (-1:Int32) then
        some (-1:Int32)
      else
        if xinb p1 16 then
          if p2 = 0 then
            some (M.1 (8 + 4 * p1.toNatClampNeg) 0)
          else
          if p2 = 1 then
            some (M.1 (8 + 4 * p1.toNatClampNeg) 1)
          else
          if p2 = 2 then
            some (M.1 (8 + 4 * p1.toNatClampNeg) 2)
          else
          if p2 = 3 then
            some (M.1 (8 + 4 * p1.toNatClampNeg) 3)
          else
          if p2 = 4 then
            some (M.1 (8 + 4 * p1.toNatClampNeg) 4)
          else
          if p2 = 5 then
            some (M.1 (8 + 4 * p1.toNatClampNeg) 5)
          else
          some (-1:Int32)
        else none
    else none

def fX9_gaugeFault (p1 : Int32) (M : xM) : Option Int32 :=
  (fX9_isPlace p1 M).bind fun v1 =>
  if v1 = 0 then
    some (-1:Int32)
  else
    if xinb p1 16 then
      if (M.1 (8 + 4 * p1.toNatClampNeg) 0) = (-1:Int32) then
        some (-1:Int32)
      else
        if xinb p1 16 then
          if (M.1 (8 + 4 * p1.toNatClampNeg) 0) = (5:Int32) then
            some (-2:Int32)
          else
            some (0:Int32)
        else none
    else none

def fX9_read (p1 : Int32) (p2 : Int32) (M : xM) : Option (Int32 × xM) :=
  (fX9_gaugeFault p1 M).bind fun v1 =>
  if v1 = 0 then
    if xinb p1 16 then
      (fX9_hasSize (M.1 (8 + 4 * p1.toNatClampNeg) 0) M).bind fun v4 =>
      jn (fun (s6 : Int32) =>
        if p2 < 0 then
          some ((-1:Int32), M)
        else
          if s6 < p2 then
            some ((-1:Int32), M)
          else
            (fX9_isDay (M.1 1 3) M).bind fun v10 =>
            if v10 = 0 then
              some ((-1:Int32), M)
            else
              if xinb (M.1 1 3) 56 then
                bd (xw M (8 + 4 * p1.toNatClampNeg + 1) (M.1 1 3).toNatClampNeg p2) fun m13 =>
                jn (fun (s16 : xM) =>
                  bd (xw s16 1 4 ((s16.1 1 4) + (1:Int32))) fun m20 =>
                  some ((1:Int32), m20))
                (fun (kk15 : xM → Option (Int32 × xM)) =>
                  if (m13.1 (8 + 4 * p1.toNatClampNeg) 0) = (2:Int32) then
                    bd (xw m13 (8 + 4 * p1.toNatClampNeg) 5 ((m13.1 (8 + 4 * p1.toNatClampNeg) 5) + p2)) fun m18 =>
                    kk15 m18
                  else
                    kk15 m13)
              else none)
      (fun (kk5 : Int32 → Option (Int32 × xM)) =>
        if v4 = 0 then
          kk5 (5000:Int32)
        else
          kk5 (250:Int32))
    else none
  else
    some (v1, M)

def fX9_kindFault (p1 : Int32) (p2 : Int32) (M : xM) : Option Int32 :=
  (fX9_gaugeFault p1 M).bind fun v1 =>
  if v1 = 0 then
    if xinb p1 16 then
      if (M.1 (8 + 4 * p1.toNatClampNeg) 0) = p2 then
        some v1
      else
        some (-2:Int32)
    else none
  else
    some v1

def fX9_noteSecond (p1 : Int32) (p2 : Int32) (p3 : Int32) (M : xM) : Option (Int32 × xM) :=
  if p2 < 0 then
    some ((-1:Int32), M)
  else
    if p3 < p2 then
      some ((-1:Int32), M)
    else
      (fX9_isDay (M.1 1 3) M).bind fun v3 =>
      if v3 = 0 then
        some ((-1:Int32), M)
      else
        if xinb p1 16 then
          if xinb (M.1 1 3) 56 then
            bd (xw M (8 + 4 * p1.toNatClampNeg + 2) (M.1 1 3).toNatClampNeg p2) fun m7 =>
            bd (xw m7 1 4 ((m7.1 1 4) + (1:Int32))) fun m9 =>
            some ((1:Int32), m9)
          else none
        else none

def fX9_full (p1 : Int32) (p2 : Int32) (M : xM) : Option (Int32 × xM) :=
  (fX9_kindFault p1 (1:Int32) M).bind fun v1 =>
  if v1 = 0 then
    (fX9_noteSecond p1 p2 (7:Int32) M).bind fun q3 =>
    some (q3.1, q3.2)
  else
    some (v1, M)

def fX9_melt (p1 : Int32) (p2 : Int32) (M : xM) : Option (Int32 × xM) :=
  (fX9_kindFault p1 (2:Int32) M).bind fun v1 =>
  if v1 = 0 then
    if p2 < (1:Int32) then
      some ((-1:Int32), M)
    else
      if p2 ≤ (5000:Int32) then
        if xinb p1 16 then
          (fX7_meltAway p1.toNatClampNeg (M.1 1 3) p2 M).bind fun q6 =>
          if q6.1 = (-1:Int32) then
            some (q6.1, q6.2)
          else
            bd (xw q6.2 1 4 ((q6.2.1 1 4) + (1:Int32))) fun m8 =>
            some (q6.1, m8)
        else none
      else
        some ((-1:Int32), M)
  else
    some (v1, M)

def fX9_other (p1 : Int32) (p2 : Int32) (M : xM) : Option (Int32 × xM) :=
  (fX9_kindFault p1 (4:Int32) M).bind fun v1 =>
  if v1 = 0 then
    (fX9_noteSecond p1 p2 (250:Int32) M).bind fun q3 =>
    some (q3.1, q3.2)
  else
    some (v1, M)

def fX9_dailyGaugeFault (p1 : Int32) (M : xM) : Option Int32 :=
  (fX9_gaugeFault p1 M).bind fun v1 =>
  if v1 = 0 then
    if xinb p1 16 then
      if (M.1 (8 + 4 * p1.toNatClampNeg) 0) = (3:Int32) then
        some (-2:Int32)
      else
        some v1
    else none
  else
    some v1

def fX9_hand (p1 : Int32) (p2 : Int32) (p3 : Int32) (M : xM) : Option (Int32 × xM) :=
  (fX9_dailyGaugeFault p1 M).bind fun v1 =>
  if v1 = 0 then
    if xinb p1 16 then
      if p3 < (-1:Int32) then
        some ((-1:Int32), M)
      else
        if (5000:Int32) < p3 then
          some ((-1:Int32), M)
        else
          (fX9_isDay p2 M).bind fun v6 =>
          if v6 = 0 then
            some ((-1:Int32), M)
          else
            if p2 < (M.1 (8 + 4 * p1.toNatClampNeg) 4) then
              some ((-1:Int32), M)
            else
              if p2 ≤ (M.1 1 3) then
                if xinb p2 56 then
                  (fX3_append p3 (M.1 1 3) (M.1 (8 + 4 * p1.toNatClampNeg + 3) p2.toNatClampNeg) M).bind fun q11 =>
                  if q11.1 = (-1:Int32) then
                    some ((-1:Int32), q11.2)
                  else
                    if xinb p2 56 then
                      bd (xw q11.2 (8 + 4 * p1.toNatClampNeg + 3) p2.toNatClampNeg q11.1) fun m14 =>
                      bd (xw m14 1 4 ((m14.1 1 4) + (1:Int32))) fun m16 =>
                      some ((q11.1 + (1:Int32)), m16)
                    else none
                else none
              else
                some ((-1:Int32), M)
    else none
  else
    some (v1, M)

def fX9_close  (M : xM) : Option (Int32 × xM) :=
  if (M.1 1 3) < (56:Int32) then
    bd (xw M 1 3 ((M.1 1 3) + (1:Int32))) fun m2 =>
    some ((m2.1 1 3), m2)
  else
    some ((-1:Int32), M)

def fX9_today  (M : xM) : Option Int32 :=
  some (M.1 1 3)

def fX9_set (p1 : Int32) (p2 : Int32) (M : xM) : Option (Int32 × xM) :=
  if p1 < 0 then
    some ((0:Int32), M)
  else
    if (12:Int32) ≤ p1 then
      some ((0:Int32), M)
    else
      if xinb p1 12 then
        if p2 < (xRL p1.toNatClampNeg) then
          some ((0:Int32), M)
        else
          if xinb p1 12 then
            if p2 ≤ (xRM p1.toNatClampNeg) then
              if xinb p1 12 then
                bd (xw M 7 p1.toNatClampNeg p2) fun m8 =>
                bd (xw m8 1 4 ((m8.1 1 4) + (1:Int32))) fun m10 =>
                some ((1:Int32), m10)
              else none
            else
              some ((0:Int32), M)
          else none
      else none

def fX9_gaugeDayFault (p1 : Int32) (p2 : Int32) (M : xM) : Option Int32 :=
  (fX9_gaugeFault p1 M).bind fun v1 =>
  if v1 = 0 then
    (fX9_isDay p2 M).bind fun v3 =>
    if v3 = 0 then
      some (-1:Int32)
    else
      some v1
  else
    some v1

def fX9_raw (p1 : Int32) (p2 : Int32) (M : xM) : Option Int32 :=
  (fX9_gaugeDayFault p1 p2 M).bind fun v1 =>
  if v1 = 0 then
    (fX6_numberKnown p1 p2 (56:Int32) M).bind fun v3 =>
    some v3
  else
    some v1

def fX9_known (p1 : Int32) (p2 : Int32) (p3 : Int32) (M : xM) : Option Int32 :=
  (fX9_gaugeDayFault p1 p2 M).bind fun v1 =>
  if v1 = 0 then
    (fX6_numberKnown p1 p2 p3 M).bind fun v3 =>
    some v3
  else
    some v1

def fX9_openBooks  (M : xM) : Option xM :=
  if (M.1 72 6) = (M.1 1 4) then
    some M
  else
    (fX0_rewrite M).bind fun q2 =>
    some q2

def fX9_why (p1 : Int32) (p2 : Int32) (M : xM) : Option (Int32 × xM) :=
  (fX9_gaugeDayFault p1 p2 M).bind fun v1 =>
  if v1 = 0 then
    (fX9_openBooks M).bind fun q3 =>
    (fX0_doubtOf p1 p2 q3).bind fun v4 =>
    some (v4, q3)
  else
    some (v1, M)

def fX9_state (p1 : Int32) (p2 : Int32) (M : xM) : Option (Int32 × xM) :=
  (fX9_gaugeDayFault p1 p2 M).bind fun v1 =>
  if v1 = 0 then
    (fX9_openBooks M).bind fun q3 =>
    (fX0_toldOf p1 p2 q3).bind fun v4 =>
    if v4 = (-1:Int32) then
      (fX5_gather p1 p2 q3).bind fun q6 =>
      if q6.1 ≤ 0 then
        (fX0_doubtOf p1 p2 q6.2).bind fun v8 =>
        if v8 = 0 then
          some ((0:Int32), q6.2)
        else
          some ((2:Int32), q6.2)
      else
        some ((3:Int32), q6.2)
    else
      if xinb p1 16 then
        if (q3.1 (8 + 4 * p1.toNatClampNeg) 0) = (3:Int32) then
          some ((4:Int32), q3)
        else
          some ((1:Int32), q3)
      else none
  else
    some (v1, M)

def fX9_number (p1 : Int32) (p2 : Int32) (M : xM) : Option (Int32 × xM) :=
  (fX9_gaugeDayFault p1 p2 M).bind fun v1 =>
  if v1 = 0 then
    (fX9_openBooks M).bind fun q3 =>
    (fX0_toldOf p1 p2 q3).bind fun v4 =>
    if v4 = (-1:Int32) then
      (fX5_mend p1 p2 q3).bind fun q6 =>
      if q6.1 = (-1:Int32) then
        (fX6_numberKnown p1 p2 (56:Int32) q6.2).bind fun v8 =>
        some (v8, q6.2)
      else
        some (q6.1, q6.2)
    else
      some (v4, q3)
  else
    some (v1, M)

def fX9_from (p1 : Int32) (p2 : Int32) (p3 : Int32) (M : xM) : Option (Int32 × xM) :=
  (fX9_dailyGaugeFault p1 M).bind fun v1 =>
  if v1 = 0 then
    (fX9_openBooks M).bind fun q3 =>
    (fX5_gather p1 p2 q3).bind fun q4 =>
    (fX2_placeAt 143 p3 q4.2).bind fun v5 =>
    some (v5, q4.2)
  else
    some (v1, M)

def fX9_part (p1 : Int32) (p2 : Int32) (p3 : Int32) (M : xM) : Option (Int32 × xM) :=
  (fX9_isSquare p1 p2 M).bind fun v1 =>
  if v1 = 0 then
    some ((-1:Int32), M)
  else
    (fX9_openBooks M).bind fun q3 =>
    (fX4_ownerOf p1 p2 p3 q3).bind fun v4 =>
    some (v4, q3)

def fX9_squares (p1 : Int32) (p2 : Int32) (M : xM) : Option (Int32 × xM) :=
  (fX9_gaugeDayFault p1 p2 M).bind fun v1 =>
  if v1 = 0 then
    (fX9_openBooks M).bind fun q3 =>
    (fX4_countOwned p1 p2 q3).bind fun v4 =>
    some (v4, q3)
  else
    some (v1, M)

def fX9_isValley (p0 : Int32) (M : xM) : Option Int32 :=
  if p0 < 0 then
    some (0:Int32)
  else
    if (8:Int32) ≤ p0 then
      some (0:Int32)
    else
      some (1:Int32)

def fX9_valley (p1 : Int32) (p2 : Int32) (p3 : Int32) (p4 : Int32) (M : xM) : Option (Int32 × xM) :=
  (fX9_isValley p1 M).bind fun v1 =>
  if v1 = 0 then
    some ((-1:Int32), M)
  else
    (fX9_isSquare p2 p3 M).bind fun v3 =>
    if v3 = 0 then
      some ((-1:Int32), M)
    else
      if xinb p1 8 then
        (fX8_change p1.toNatClampNeg (p2 + (p3 * (10:Int32))) p4 M).bind fun q6 =>
        some (q6.1, q6.2)
      else none

def fX9_rain (p1 : Int32) (p2 : Int32) (M : xM) : Option (Int32 × xM) :=
  (fX9_isValley p1 M).bind fun v1 =>
  if v1 = 0 then
    some ((-1:Int32), M)
  else
    (fX9_openBooks M).bind fun q3 =>
    if xinb p1 8 then
      (fX4_rainOf p1.toNatClampNeg p2 q3).bind fun v5 =>
      some (v5, q3)
    else none

def fX9_mean (p1 : Int32) (p2 : Int32) (M : xM) : Option (Int32 × xM) :=
  (fX9_isValley p1 M).bind fun v1 =>
  if v1 = 0 then
    some ((-1:Int32), M)
  else
    if xinb p1 8 then
      (fX9_openBooks M).bind fun q4 =>
      (fX4_rainOf p1.toNatClampNeg p2 q4).bind fun v5 =>
      if v5 = (-1:Int32) then
        some ((-1:Int32), q4)
      else
        if (1:Int32) ≤ (q4.1 (148 + 2 * p1.toNatClampNeg) 1) then
          if (q4.1 (148 + 2 * p1.toNatClampNeg) 1) = 0 then none else
          some (((v5 * (1000:Int32)) / (q4.1 (148 + 2 * p1.toNatClampNeg) 1)), q4)
        else
          some ((-1:Int32), q4)
    else none

def fX9_flow (p1 : Int32) (p2 : Int32) (M : xM) : Option (Int64 × xM) :=
  (fX9_isValley p1 M).bind fun v1 =>
  if v1 = 0 then
    some ((-1:Int64), M)
  else
    if p2 < 0 then
      some ((-1:Int64), M)
    else
      if p2 < (64:Int32) then
        (fX9_openBooks M).bind fun q5 =>
        if xinb p1 8 then
          (fX4_flowOf p1.toNatClampNeg p2 q5).bind fun v7 =>
          some (v7, q5)
        else none
      else
        some ((-1:Int64), M)

def fX9_ahead (p1 : Int32) (p2 : Int64) (M : xM) : Option (Int32 × xM) :=
  (fX9_isValley p1 M).bind fun v1 =>
  if v1 = 0 then
    some ((-1:Int32), M)
  else
    (fX9_openBooks M).bind fun q3 =>
    bd (q3.1 1 3) fun x4 =>
    lp (fun (s6 : Int32) (kk7 : Int32 → Option (Int32 × xM)) =>
      if (64:Int32) ≤ s6 then
        some ((-1:Int32), q3)
      else
        if xinb p1 8 then
          (fX4_flowOf p1.toNatClampNeg s6 q3).bind fun v10 =>
          if (lg_cmp v10 p2) ≤ 0 then
            kk7 (s6 + 1)
          else
            some (s6, q3)
        else none) xfu x4

def fX9_week (p1 : Int32) (p2 : Int32) (p3 : Int32) (M : xM) : Option (Int32 × xM) :=
  (fX9_dailyGaugeFault p1 M).bind fun v1 =>
  if v1 = 0 then
    if p2 < 0 then
      some ((-1:Int32), M)
    else
      if (8:Int32) ≤ p2 then
        some ((-1:Int32), M)
      else
        if p3 < 0 then
          some ((-1:Int32), M)
        else
          if p3 ≤ (1:Int32) then
            (fX9_openBooks M).bind fun q7 =>
            (fX1_sumWeeks p1 q7).bind fun q8 =>
            if p3 = 0 then
              if xinb p2 8 then
                some ((q8.1 168 p2.toNatClampNeg), q8)
              else none
            else
              if xinb p2 8 then
                some ((q8.1 169 p2.toNatClampNeg), q8)
              else none
          else
            some ((-1:Int32), M)
  else
    some (v1, M)

def fX9_cleft (p1 : Int32) (M : xM) : Option (Int32 × xM) :=
  (fX9_dailyGaugeFault p1 M).bind fun v1 =>
  if v1 = 0 then
    (fX9_openBooks M).bind fun q3 =>
    (fX1_sumWeeks p1 q3).bind fun q4 =>
    (fX6_lastWholeWeek q4).bind fun v5 =>
    (fX1_leastBreak v5 q4).bind fun v6 =>
    some (v6, q4)
  else
    some (v1, M)

def fX9_misses (p1 : Int32) (p2 : Int32) (M : xM) : Option (Int64 × xM) :=
  (fX9_dailyGaugeFault p1 M).bind fun v1 =>
  if v1 = 0 then
    if p2 < (1:Int32) then
      some ((-1:Int64), M)
    else
      (fX6_lastWholeWeek M).bind fun v4 =>
      if p2 ≤ v4 then
        (fX9_openBooks M).bind fun q6 =>
        (fX1_sumWeeks p1 q6).bind fun q7 =>
        (fX6_lastWholeWeek q7).bind fun v8 =>
        (fX1_missesAt p2 v8 q7).bind fun v9 =>
        some (v9, q7)
      else
        some ((-1:Int64), M)
  else
    some (v1.toInt64, M)

def fX10_isIn (p0 : Int32) (p1 : Int32) (p2 : Int32) (M : xM) : Option Int32 :=
  if p0 < p1 then
    some (0:Int32)
  else
    if p2 < p0 then
      some (0:Int32)
    else
      some (1:Int32)

def fX10_at (p0 : Int32) (p1 : Int32) (M : xM) : Option Int32 :=
  some (((56:Int32) * p0) + p1)

def fX10_isGauge (p1 : Int32) (M : xM) : Option Int32 :=
  if xinb p1 16 then
    if (M.1 171 p1.toNatClampNeg) = (-1:Int32) then
      some (0:Int32)
    else
      if xinb p1 16 then
        if (M.1 171 p1.toNatClampNeg) = (5:Int32) then
          some (0:Int32)
        else
          some (1:Int32)
      else none
  else none

def fX10_fails (p1 : Int32) (p2 : Int32) (p3 : Int32) (M : xM) : Option Int32 :=
  (fX10_isIn p1 (0:Int32) (15:Int32) M).bind fun v1 =>
  if v1 = 0 then
    some (-1:Int32)
  else
    if xinb p1 16 then
      if (M.1 171 p1.toNatClampNeg) = (-1:Int32) then
        some (-1:Int32)
      else
        if xinb p1 16 then
          (fX10_isIn (M.1 171 p1.toNatClampNeg) p2 p3 M).bind fun v6 =>
          if v6 = 0 then
            some (-2:Int32)
          else
            some (0:Int32)
        else none
    else none

def fX10_put (p1 : Int32) (p2 : Int32) (p3 : Int32) (p4 : Int32) (p5 : Int32) (M : xM) : Option (Int32 × xM) :=
  jn (fun (s2 : Int32) =>
    (fX10_isIn p1 (0:Int32) (15:Int32) M).bind fun v7 =>
    if v7 = 0 then
      some ((-1:Int32), M)
    else
      if xinb p1 16 then
        if (M.1 171 p1.toNatClampNeg) = (-1:Int32) then
          (fX10_isIn p2 (0:Int32) (5:Int32) M).bind fun v11 =>
          if v11 = 0 then
            some ((-1:Int32), M)
          else
            (fX10_isIn p3 (0:Int32) (9:Int32) M).bind fun v13 =>
            if v13 = 0 then
              some ((-1:Int32), M)
            else
              (fX10_isIn p4 (0:Int32) (9:Int32) M).bind fun v15 =>
              if v15 = 0 then
                some ((-1:Int32), M)
              else
                jn (fun (s18 : Unit) =>
                  if xinb p1 16 then
                    bd (xw M 171 p1.toNatClampNeg p2) fun m23 =>
                    if xinb p1 16 then
                      bd (xw m23 172 p1.toNatClampNeg p3) fun m26 =>
                      if xinb p1 16 then
                        bd (xw m26 173 p1.toNatClampNeg p4) fun m29 =>
                        jn (fun (s32 : Int32) =>
                          if xinb p1 16 then
                            bd (xw m29 174 p1.toNatClampNeg s32) fun m35 =>
                            jn (fun (s38 : Int32) =>
                              if xinb p1 16 then
                                bd (xw m35 175 p1.toNatClampNeg s38) fun m41 =>
                                if xinb p1 16 then
                                  bd (xw m41 176 p1.toNatClampNeg (0:Int32)) fun m44 =>
                                  lp (fun (s46 : (Int32 × xM)) (kk47 : (Int32 × xM) → Option (Int32 × xM)) =>
                                    if (56:Int32) ≤ s46.1 then
                                      some (p1, s46.2)
                                    else
                                      (fX10_at p1 s46.1 s46.2).bind fun v49 =>
                                      if xinb v49 896 then
                                        bd (xw s46.2 177 v49.toNatClampNeg (-1:Int32)) fun m51 =>
                                        (fX10_at p1 s46.1 m51).bind fun v53 =>
                                        if xinb v53 896 then
                                          bd (xw m51 178 v53.toNatClampNeg (-1:Int32)) fun m55 =>
                                          (fX10_at p1 s46.1 m55).bind fun v57 =>
                                          if xinb v57 896 then
                                            bd (xw m55 179 v57.toNatClampNeg (-1:Int32)) fun m59 =>
                                            (fX10_at p1 s46.1 m59).bind fun v61 =>
                                            if xinb v61 896 then
                                              bd (xw m59 180 v61.toNatClampNeg (-1:Int32)) fun m63 =>
                                              kk47 ((s46.1 + 1), m63)
                                            else none
                                          else none
                                        else none
                                      else none) xfu ((0:Int32), m44)
                                else none
                              else none)
                            (fun (kk37 : Int32 → Option (Int32 × xM)) =>
                              if p2 = (5:Int32) then
                                kk37 (0:Int32)
                              else
                                kk37 (m35.1 170 15))
                          else none)
                        (fun (kk31 : Int32 → Option (Int32 × xM)) =>
                          if s2 = 0 then
                            kk31 (0:Int32)
                          else
                            kk31 p5)
                      else none
                    else none
                  else none)
                (fun (kk17 : Unit → Option (Int32 × xM)) =>
                  if s2 = 0 then
                    kk17 ()
                  else
                    (fX10_isIn p5 (1:Int32) (20:Int32) M).bind fun v20 =>
                    if v20 = 0 then
                      some ((-1:Int32), M)
                    else
                      kk17 ())
        else
          some ((-1:Int32), M)
      else none)
  (fun (kk1 : Int32 → Option (Int32 × xM)) =>
    jn (fun (s4 : Unit) =>
      kk1 (1:Int32))
    (fun (kk3 : Unit → Option (Int32 × xM)) =>
      if p2 = (1:Int32) then
        kk3 ()
      else
        if p2 = (4:Int32) then
          kk3 ()
        else
          kk1 (0:Int32)))

def fX10_lift (p1 : Int32) (M : xM) : Option (Int32 × xM) :=
  (fX10_fails p1 (0:Int32) (5:Int32) M).bind fun v1 =>
  if v1 = 0 then
    if xinb p1 16 then
      bd (M.1 171 p1.toNatClampNeg) fun x4 =>
      if xinb p1 16 then
        bd (xw M 171 p1.toNatClampNeg (-1:Int32)) fun m7 =>
        lp (fun (s9 : (Int32 × xM)) (kk10 : (Int32 × xM) → Option (Int32 × xM)) =>
          if (s9.2.1 170 14) ≤ s9.1 then
            some (x4, s9.2)
          else
            if xinb s9.1 100 then
              if (s9.2.1 181 s9.1.toNatClampNeg) = p1 then
                if xinb s9.1 100 then
                  bd (xw s9.2 181 s9.1.toNatClampNeg (-1:Int32)) fun m15 =>
                  kk10 ((s9.1 + 1), m15)
                else none
              else
                kk10 ((s9.1 + 1), s9.2)
            else none) xfu ((0:Int32), m7)
      else none
    else none
  else
    some ((-1:Int32), M)

def fX10_look (p1 : Int32) (p2 : Int32) (M : xM) : Option Int32 :=
  (fX10_fails p1 (0:Int32) (5:Int32) M).bind fun v1 =>
  if v1 = 0 then
    if p2 = 0 then
      if xinb p1 16 then
        some (M.1 171 p1.toNatClampNeg)
      else none
    else
    if p2 = 1 then
      if xinb p1 16 then
        some (M.1 172 p1.toNatClampNeg)
      else none
    else
    if p2 = 2 then
      if xinb p1 16 then
        some (M.1 173 p1.toNatClampNeg)
      else none
    else
    if p2 = 3 then
      if xinb p1 16 then
        some (M.1 174 p1.toNatClampNeg)
      else none
    else
    if p2 = 4 then
      if xinb p1 16 then
        some (M.1 175 p1.toNatClampNeg)
      else none
    else
    if p2 = 5 then
      if xinb p1 16 then
        some (M.1 176 p1.toNatClampNeg)
      else none
    else
    some (-1:Int32)
  else
    some (-1:Int32)

def fX10_read (p1 : Int32) (p2 : Int32) (M : xM) : Option (Int32 × xM) :=
  (fX10_fails p1 (0:Int32) (4:Int32) M).bind fun v1 =>
  if v1 = 0 then
    if xinb p1 16 then
      jn (fun (s5 : Int32) =>
        if (M.1 170 15) = (56:Int32) then
          some ((-1:Int32), M)
        else
          jn (fun (s13 : Int32) =>
            (fX10_isIn p2 (0:Int32) s13 M).bind fun v15 =>
            if v15 = 0 then
              some ((-1:Int32), M)
            else
              (fX10_at p1 (M.1 170 15) M).bind fun v17 =>
              if xinb v17 896 then
                bd (xw M 177 v17.toNatClampNeg p2) fun m19 =>
                if xinb p1 16 then
                  if (m19.1 171 p1.toNatClampNeg) = (2:Int32) then
                    if xinb p1 16 then
                      if xinb p1 16 then
                        bd (xw m19 176 p1.toNatClampNeg ((m19.1 176 p1.toNatClampNeg) + p2)) fun m25 =>
                        some ((1:Int32), m25)
                      else none
                    else none
                  else
                    some ((1:Int32), m19)
                else none
              else none)
          (fun (kk12 : Int32 → Option (Int32 × xM)) =>
            if s5 = 0 then
              kk12 (5000:Int32)
            else
              kk12 (250:Int32)))
      (fun (kk4 : Int32 → Option (Int32 × xM)) =>
        jn (fun (s7 : Unit) =>
          kk4 (1:Int32))
        (fun (kk6 : Unit → Option (Int32 × xM)) =>
          if (M.1 171 p1.toNatClampNeg) = (1:Int32) then
            kk6 ()
          else
            if xinb p1 16 then
              if (M.1 171 p1.toNatClampNeg) = (4:Int32) then
                kk6 ()
              else
                kk4 (0:Int32)
            else none))
    else none
  else
    some (v1, M)

def fX10_full (p1 : Int32) (p2 : Int32) (M : xM) : Option (Int32 × xM) :=
  (fX10_fails p1 (1:Int32) (1:Int32) M).bind fun v1 =>
  if v1 = 0 then
    if (M.1 170 15) = (56:Int32) then
      some ((-1:Int32), M)
    else
      (fX10_isIn p2 (0:Int32) (7:Int32) M).bind fun v4 =>
      if v4 = 0 then
        some ((-1:Int32), M)
      else
        (fX10_at p1 (M.1 170 15) M).bind fun v6 =>
        if xinb v6 896 then
          bd (xw M 178 v6.toNatClampNeg p2) fun m8 =>
          some ((1:Int32), m8)
        else none
  else
    some (v1, M)

def fX10_melt (p1 : Int32) (p2 : Int32) (M : xM) : Option (Int32 × xM) :=
  (fX10_fails p1 (2:Int32) (2:Int32) M).bind fun v1 =>
  if v1 = 0 then
    if (M.1 170 15) = (56:Int32) then
      some ((-1:Int32), M)
    else
      (fX10_isIn p2 (1:Int32) (5000:Int32) M).bind fun v4 =>
      if v4 = 0 then
        some ((-1:Int32), M)
      else
        if xinb p1 16 then
          if p2 ≤ (M.1 176 p1.toNatClampNeg) then
            (fX10_at p1 (M.1 170 15) M).bind fun v8 =>
            if xinb v8 896 then
              jn (fun (s11 : Int32) =>
                if (s11 + p2) ≤ (5000:Int32) then
                  if xinb p1 16 then
                    if xinb p1 16 then
                      bd (xw M 176 p1.toNatClampNeg ((M.1 176 p1.toNatClampNeg) - p2)) fun m18 =>
                      (fX10_at p1 (m18.1 170 15) m18).bind fun v20 =>
                      if xinb v20 896 then
                        bd (xw m18 179 v20.toNatClampNeg (s11 + p2)) fun m22 =>
                        if xinb p1 16 then
                          some ((m22.1 176 p1.toNatClampNeg), m22)
                        else none
                      else none
                    else none
                  else none
                else
                  some ((-1:Int32), M))
              (fun (kk10 : Int32 → Option (Int32 × xM)) =>
                if (M.1 179 v8.toNatClampNeg) = (-1:Int32) then
                  kk10 (0:Int32)
                else
                  (fX10_at p1 (M.1 170 15) M).bind fun v13 =>
                  if xinb v13 896 then
                    kk10 (M.1 179 v13.toNatClampNeg)
                  else none)
            else none
          else
            some ((-1:Int32), M)
        else none
  else
    some (v1, M)

def fX10_other (p1 : Int32) (p2 : Int32) (M : xM) : Option (Int32 × xM) :=
  (fX10_fails p1 (4:Int32) (4:Int32) M).bind fun v1 =>
  if v1 = 0 then
    if (M.1 170 15) = (56:Int32) then
      some ((-1:Int32), M)
    else
      (fX10_isIn p2 (0:Int32) (250:Int32) M).bind fun v4 =>
      if v4 = 0 then
        some ((-1:Int32), M)
      else
        (fX10_at p1 (M.1 170 15) M).bind fun v6 =>
        if xinb v6 896 then
          bd (xw M 180 v6.toNatClampNeg p2) fun m8 =>
          some ((1:Int32), m8)
        else none
  else
    some (v1, M)

def fX10_hand (p1 : Int32) (p2 : Int32) (p3 : Int32) (M : xM) : Option (Int32 × xM) :=
  (fX10_fails p1 (0:Int32) (5:Int32) M).bind fun v1 =>
  jn (fun (s3 : Int32) =>
    if s3 = 0 then
      if xinb p1 16 then
        jn (fun (s14 : Int32) =>
          (fX10_isIn p2 (M.1 175 p1.toNatClampNeg) s14 M).bind fun v16 =>
          if v16 = 0 then
            some ((-1:Int32), M)
          else
            (fX10_isIn p3 (-1:Int32) (5000:Int32) M).bind fun v18 =>
            if v18 = 0 then
              some ((-1:Int32), M)
            else
              if (M.1 170 14) = (100:Int32) then
                some ((-1:Int32), M)
              else
                if xinb (M.1 170 14) 100 then
                  bd (xw M 181 (M.1 170 14).toNatClampNeg p1) fun m22 =>
                  if xinb (m22.1 170 14) 100 then
                    bd (xw m22 182 (m22.1 170 14).toNatClampNeg p2) fun m25 =>
                    if xinb (m25.1 170 14) 100 then
                      bd (xw m25 183 (m25.1 170 14).toNatClampNeg p3) fun m28 =>
                      if xinb (m28.1 170 14) 100 then
                        bd (xw m28 184 (m28.1 170 14).toNatClampNeg (m28.1 170 15)) fun m31 =>
                        bd (xw m31 170 14 ((m31.1 170 14) + (1:Int32))) fun m33 =>
                        some ((m33.1 170 14), m33)
                      else none
                    else none
                  else none
                else none)
        (fun (kk13 : Int32 → Option (Int32 × xM)) =>
          if (55:Int32) ≤ (M.1 170 15) then
            kk13 (55:Int32)
          else
            kk13 (M.1 170 15))
      else none
    else
      some (s3, M))
  (fun (kk2 : Int32 → Option (Int32 × xM)) =>
    if v1 = 0 then
      if xinb p1 16 then
        jn (fun (s7 : Unit) =>
          kk2 (-2:Int32))
        (fun (kk6 : Unit → Option (Int32 × xM)) =>
          if (M.1 171 p1.toNatClampNeg) = (3:Int32) then
            kk6 ()
          else
            if xinb p1 16 then
              if (M.1 171 p1.toNatClampNeg) = (5:Int32) then
                kk6 ()
              else
                kk2 v1
            else none)
      else none
    else
      kk2 v1)

def fX10_close  (M : xM) : Option (Int32 × xM) :=
  if (M.1 170 15) = (56:Int32) then
    some ((-1:Int32), M)
  else
    bd (xw M 170 15 ((M.1 170 15) + (1:Int32))) fun m2 =>
    some ((m2.1 170 15), m2)

def fX10_today  (M : xM) : Option Int32 :=
  some (M.1 170 15)

def fX10_set (p1 : Int32) (p2 : Int32) (M : xM) : Option (Int32 × xM) :=
  jn (fun (s2 : Unit) =>
    jn (fun (s9 : Unit) =>
      jn (fun (s16 : Unit) =>
        jn (fun (s23 : Unit) =>
          (fX10_isIn p1 (4:Int32) (11:Int32) M).bind fun v29 =>
          if v29 = 0 then
            some ((0:Int32), M)
          else
            (fX10_isIn p2 (0:Int32) (1000:Int32) M).bind fun v31 =>
            if v31 = 0 then
              some ((0:Int32), M)
            else
              if xinb (p1 - (4:Int32)) 8 then
                bd (xw M 185 (p1 - (4:Int32)).toNatClampNeg p2) fun m34 =>
                some ((1:Int32), m34)
              else none)
        (fun (kk22 : Unit → Option (Int32 × xM)) =>
          if p1 = (3:Int32) then
            (fX10_isIn p2 (0:Int32) (100:Int32) M).bind fun v25 =>
            if v25 = 0 then
              kk22 ()
            else
              bd (xw M 170 19 p2) fun m27 =>
              some ((1:Int32), m27)
          else
            kk22 ()))
      (fun (kk15 : Unit → Option (Int32 × xM)) =>
        if p1 = (2:Int32) then
          (fX10_isIn p2 (1:Int32) (5000:Int32) M).bind fun v18 =>
          if v18 = 0 then
            kk15 ()
          else
            bd (xw M 170 18 p2) fun m20 =>
            some ((1:Int32), m20)
        else
          kk15 ()))
    (fun (kk8 : Unit → Option (Int32 × xM)) =>
      if p1 = (1:Int32) then
        (fX10_isIn p2 (0:Int32) (200:Int32) M).bind fun v11 =>
        if v11 = 0 then
          kk8 ()
        else
          bd (xw M 170 17 p2) fun m13 =>
          some ((1:Int32), m13)
      else
        kk8 ()))
  (fun (kk1 : Unit → Option (Int32 × xM)) =>
    if p1 = 0 then
      (fX10_isIn p2 (0:Int32) (5000:Int32) M).bind fun v4 =>
      if v4 = 0 then
        kk1 ()
      else
        bd (xw M 170 16 p2) fun m6 =>
        some ((1:Int32), m6)
    else
      kk1 ())

def fX10_byHand (p1 : Int32) (p2 : Int32) (p3 : Int32) (M : xM) : Option Int32 :=
  lp (fun (s1 : (Int32 × Int32)) (kk2 : (Int32 × Int32) → Option Int32) =>
    if (M.1 170 14) ≤ s1.2 then
      some s1.1
    else
      if xinb s1.2 100 then
        if (M.1 181 s1.2.toNatClampNeg) = p1 then
          if xinb s1.2 100 then
            if (M.1 182 s1.2.toNatClampNeg) = p2 then
              if xinb s1.2 100 then
                if p3 < (M.1 184 s1.2.toNatClampNeg) then
                  kk2 (s1.1, (s1.2 + 1))
                else
                  kk2 (s1.2, (s1.2 + 1))
              else none
            else
              kk2 (s1.1, (s1.2 + 1))
          else none
        else
          kk2 (s1.1, (s1.2 + 1))
      else none) xfu ((-1:Int32), (0:Int32))

def fX10_tipped (p1 : Int32) (p2 : Int32) (M : xM) : Option Int32 :=
  (fX10_at p1 p2 M).bind fun v1 =>
  if xinb v1 896 then
    if xinb p1 16 then
      bd ((M.1 177 v1.toNatClampNeg) * (M.1 174 p1.toNatClampNeg)) fun x4 =>
      jn (fun (s7 : Int32) =>
        if 0 ≤ s7 then
          some s7
        else
          some (0:Int32))
      (fun (kk6 : Int32 → Option Int32) =>
        if p2 ≤ 0 then
          kk6 x4
        else
          (fX10_at p1 p2 M).bind fun v9 =>
          if xinb v9 896 then
            if (M.1 178 v9.toNatClampNeg) = (-1:Int32) then
              kk6 x4
            else
              (fX10_at p1 (p2 - (1:Int32)) M).bind fun v12 =>
              if xinb v12 896 then
                if (M.1 178 v12.toNatClampNeg) = (-1:Int32) then
                  kk6 x4
                else
                  if xinb p1 16 then
                    (fX10_at p1 p2 M).bind fun v16 =>
                    if xinb v16 896 then
                      (fX10_at p1 (p2 - (1:Int32)) M).bind fun v18 =>
                      if xinb v18 896 then
                        if (8:Int32) = 0 then none else
                        bd (x4 + (((M.1 174 p1.toNatClampNeg) * ((M.1 178 v16.toNatClampNeg) - (M.1 178 v18.toNatClampNeg))) / (8:Int32))) fun x21 =>
                        kk6 x21
                      else none
                    else none
                  else none
              else none
          else none)
    else none
  else none

def fX10_rawAt (p1 : Int32) (p2 : Int32) (p3 : Int32) (M : xM) : Option Int32 :=
  (fX10_isGauge p1 M).bind fun v1 =>
  if v1 = 0 then
    some (-1:Int32)
  else
    if xinb p1 16 then
      if (M.1 171 p1.toNatClampNeg) = (3:Int32) then
        some (-1:Int32)
      else
        if xinb p1 16 then
          (fX10_isIn p2 (M.1 175 p1.toNatClampNeg) (55:Int32) M).bind fun v6 =>
          if v6 = 0 then
            some (-1:Int32)
          else
            if p3 < p2 then
              some (-1:Int32)
            else
              if p2 ≤ (M.1 170 15) then
                (fX10_byHand p1 p2 p3 M).bind fun v10 =>
                if v10 = (-1:Int32) then
                  (fX10_at p1 p2 M).bind fun v12 =>
                  if xinb v12 896 then
                    bd (M.1 177 v12.toNatClampNeg) fun x14 =>
                    if xinb p1 16 then
                      bd (M.1 171 p1.toNatClampNeg) fun x17 =>
                      if x17 = 0 then
                        some x14
                      else
                      if x17 = 1 then
                        if x14 = (-1:Int32) then
                          some (-1:Int32)
                        else
                          (fX10_tipped p1 p2 M).bind fun v22 =>
                          some v22
                      else
                      if x17 = 2 then
                        jn (fun (s25 : Unit) =>
                          if xinb v12 896 then
                            if (M.1 179 v12.toNatClampNeg) = (-1:Int32) then
                              some (0:Int32)
                            else
                              if xinb v12 896 then
                                some (M.1 179 v12.toNatClampNeg)
                              else none
                          else none)
                        (fun (kk24 : Unit → Option Int32) =>
                          if x14 = (-1:Int32) then
                            if xinb v12 896 then
                              if (M.1 179 v12.toNatClampNeg) = (-1:Int32) then
                                some (-1:Int32)
                              else
                                kk24 ()
                            else none
                          else
                            kk24 ())
                      else
                      if x14 = (-1:Int32) then
                        some (-1:Int32)
                      else
                        if xinb v12 896 then
                          if (M.1 180 v12.toNatClampNeg) = (-1:Int32) then
                            some (-1:Int32)
                          else
                            if xinb v12 896 then
                              if xinb p1 16 then
                                if (2:Int32) = 0 then none else
                                some (((x14 + (M.1 180 v12.toNatClampNeg)) * (M.1 174 p1.toNatClampNeg)) / (2:Int32))
                              else none
                            else none
                        else none
                    else none
                  else none
                else
                  if xinb v10 100 then
                    some (M.1 183 v10.toNatClampNeg)
                  else none
              else
                some (-1:Int32)
        else none
    else none

def fX10_raw0 (p1 : Int32) (p2 : Int32) (M : xM) : Option Int32 :=
  (fX10_rawAt p1 p2 (99:Int32) M).bind fun v1 =>
  some v1

def fX10_raw (p1 : Int32) (p2 : Int32) (M : xM) : Option Int32 :=
  (fX10_fails p1 (0:Int32) (4:Int32) M).bind fun v1 =>
  if v1 = 0 then
    (fX10_raw0 p1 p2 M).bind fun v3 =>
    some v3
  else
    some v1

def fX10_known (p1 : Int32) (p2 : Int32) (p3 : Int32) (M : xM) : Option Int32 :=
  (fX10_fails p1 (0:Int32) (4:Int32) M).bind fun v1 =>
  if v1 = 0 then
    if 0 ≤ p3 then
      jn (fun (s5 : Int32) =>
        (fX10_rawAt p1 p2 s5 M).bind fun v7 =>
        some v7)
      (fun (kk4 : Int32 → Option Int32) =>
        if p3 < (M.1 170 15) then
          kk4 p3
        else
          kk4 (99:Int32))
    else
      some (-1:Int32)
  else
    some v1

def fX10_far (p1 : Int32) (p2 : Int32) (p3 : Int32) (M : xM) : Option Int32 :=
  if xinb p1 16 then
    if xinb p1 16 then
      if xinb p1 16 then
        if xinb p1 16 then
          some ((((M.1 172 p1.toNatClampNeg) - p2) * ((M.1 172 p1.toNatClampNeg) - p2)) + (((M.1 173 p1.toNatClampNeg) - p3) * ((M.1 173 p1.toNatClampNeg) - p3)))
        else none
      else none
    else none
  else none

def fX10_doubt (p1 : Int32) (p2 : Int32) (M : xM) : Option Int32 :=
  (fX10_raw0 p1 p2 M).bind fun v1 =>
  if v1 = (-1:Int32) then
    some (0:Int32)
  else
    if v1 ≤ (M.1 170 16) then
      lp (fun (s4 : (Int32 × Int32 × Int32)) (kk5 : (Int32 × Int32 × Int32) → Option Int32) =>
        if (16:Int32) ≤ s4.2.2 then
          jn (fun (s8 : Unit) =>
            if xinb p1 16 then
              if (M.1 171 p1.toNatClampNeg) = (4:Int32) then
                (fX10_byHand p1 p2 (99:Int32) M).bind fun v14 =>
                if v14 = (-1:Int32) then
                  (fX10_at p1 p2 M).bind fun v16 =>
                  if xinb v16 896 then
                    bd (M.1 177 v16.toNatClampNeg) fun x18 =>
                    (fX10_at p1 p2 M).bind fun v20 =>
                    if xinb v20 896 then
                      bd (M.1 180 v20.toNatClampNeg) fun x22 =>
                      jn (fun (s25 : Int32) =>
                        jn (fun (s28 : Int32) =>
                          if ((100:Int32) * (s25 - s28)) ≤ ((M.1 170 19) * s25) then
                            some (0:Int32)
                          else
                            some (3:Int32))
                        (fun (kk27 : Int32 → Option Int32) =>
                          if x18 ≤ x22 then
                            kk27 x18
                          else
                            kk27 x22))
                      (fun (kk24 : Int32 → Option Int32) =>
                        if x18 ≤ x22 then
                          kk24 x22
                        else
                          kk24 x18)
                    else none
                  else none
                else
                  some (0:Int32)
              else
                some (0:Int32)
            else none)
          (fun (kk7 : Unit → Option Int32) =>
            if v1 = 0 then
              if s4.1 ≤ (1:Int32) then
                kk7 ()
              else
                if s4.2.1 = 0 then
                  kk7 ()
                else
                  some (2:Int32)
            else
              kk7 ())
        else
          if s4.2.2 = p1 then
            kk5 (s4.1, s4.2.1, (s4.2.2 + 1))
          else
            (fX10_isGauge s4.2.2 M).bind fun v32 =>
            if v32 = 0 then
              kk5 (s4.1, s4.2.1, (s4.2.2 + 1))
            else
              if xinb p1 16 then
                if xinb p1 16 then
                  (fX10_far s4.2.2 (M.1 172 p1.toNatClampNeg) (M.1 173 p1.toNatClampNeg) M).bind fun v36 =>
                  if (M.1 170 17) < v36 then
                    kk5 (s4.1, s4.2.1, (s4.2.2 + 1))
                  else
                    (fX10_raw0 s4.2.2 p2 M).bind fun v38 =>
                    if v38 = (-1:Int32) then
                      kk5 (s4.1, s4.2.1, (s4.2.2 + 1))
                    else
                      if s4.2.1 = 0 then
                        kk5 ((s4.1 + 1), (0:Int32), (s4.2.2 + 1))
                      else
                        (fX10_raw0 s4.2.2 p2 M).bind fun v41 =>
                        if v41 < (M.1 170 18) then
                          kk5 ((s4.1 + 1), (0:Int32), (s4.2.2 + 1))
                        else
                          kk5 ((s4.1 + 1), (1:Int32), (s4.2.2 + 1))
                else none
              else none) xfu ((0:Int32), (1:Int32), (0:Int32))
    else
      some (1:Int32)

def fX10_trusted (p1 : Int32) (p2 : Int32) (M : xM) : Option Int32 :=
  (fX10_raw0 p1 p2 M).bind fun v1 =>
  if v1 = (-1:Int32) then
    some (-1:Int32)
  else
    (fX10_doubt p1 p2 M).bind fun v3 =>
    if v3 = 0 then
      (fX10_raw0 p1 p2 M).bind fun v5 =>
      some v5
    else
      some (-1:Int32)

def fX10_why (p1 : Int32) (p2 : Int32) (M : xM) : Option Int32 :=
  (fX10_fails p1 (0:Int32) (4:Int32) M).bind fun v1 =>
  if v1 = 0 then
    (fX10_isIn p2 (0:Int32) (55:Int32) M).bind fun v3 =>
    if v3 = 0 then
      some (-1:Int32)
    else
      (fX10_doubt p1 p2 M).bind fun v5 =>
      some v5
  else
    some v1

def fX10_rows (p1 : Int32) (M : xM) : Option (Int32 × xM) :=
  lp (fun (s1 : (Int32 × Int32 × xM)) (kk2 : (Int32 × Int32 × xM) → Option (Int32 × xM)) =>
    if (16:Int32) ≤ s1.2.1 then
      some (s1.1, s1.2.2)
    else
      if s1.2.1 = p1 then
        kk2 (s1.1, (s1.2.1 + 1), s1.2.2)
      else
        (fX10_isGauge s1.2.1 s1.2.2).bind fun v5 =>
        if v5 = 0 then
          kk2 (s1.1, (s1.2.1 + 1), s1.2.2)
        else
          lp (fun (s7 : (Int32 × xM)) (kk8 : (Int32 × xM) → Option (Int32 × xM)) =>
            jn (fun (s10 : Unit) =>
              if xinb s7.1 16 then
                bd (xw s7.2 187 s7.1.toNatClampNeg s1.2.1) fun m25 =>
                kk2 ((s1.1 + 1), (s1.2.1 + 1), m25)
              else none)
            (fun (kk9 : Unit → Option (Int32 × xM)) =>
              if s7.1 ≤ 0 then
                kk9 ()
              else
                if xinb (s7.1 - (1:Int32)) 16 then
                  if xinb p1 16 then
                    if xinb p1 16 then
                      (fX10_far (s7.2.1 187 (s7.1 - (1:Int32)).toNatClampNeg) (s7.2.1 172 p1.toNatClampNeg) (s7.2.1 173 p1.toNatClampNeg) s7.2).bind fun v15 =>
                      if xinb p1 16 then
                        if xinb p1 16 then
                          (fX10_far s1.2.1 (s7.2.1 172 p1.toNatClampNeg) (s7.2.1 173 p1.toNatClampNeg) s7.2).bind fun v18 =>
                          if v15 ≤ v18 then
                            kk9 ()
                          else
                            if xinb (s7.1 - (1:Int32)) 16 then
                              if xinb s7.1 16 then
                                bd (xw s7.2 187 s7.1.toNatClampNeg (s7.2.1 187 (s7.1 - (1:Int32)).toNatClampNeg)) fun m22 =>
                                kk8 ((s7.1 + (-1)), m22)
                              else none
                            else none
                        else none
                      else none
                    else none
                  else none
                else none)) xfu (s1.1, s1.2.2)) xfu ((0:Int32), (0:Int32), M)

def fX10_bys (p1 : Int32) (p2 : Int32) (M : xM) : Option (Int32 × xM) :=
  (fX10_rows p1 M).bind fun q1 =>
  lp (fun (s2 : (Int32 × Int32 × xM)) (kk3 : (Int32 × Int32 × xM) → Option (Int32 × xM)) =>
    if q1.1 ≤ s2.2.1 then
      some (s2.1, s2.2.2)
    else
      if (4:Int32) ≤ s2.1 then
        some (s2.1, s2.2.2)
      else
        if xinb s2.2.1 16 then
          (fX10_trusted (s2.2.2.1 187 s2.2.1.toNatClampNeg) p2 s2.2.2).bind fun v7 =>
          if v7 = (-1:Int32) then
            kk3 (s2.1, (s2.2.1 + 1), s2.2.2)
          else
            if xinb s2.2.1 16 then
              if xinb s2.1 4 then
                bd (xw s2.2.2 188 s2.1.toNatClampNeg (s2.2.2.1 187 s2.2.1.toNatClampNeg)) fun m11 =>
                kk3 ((s2.1 + 1), (s2.2.1 + 1), m11)
              else none
            else none
        else none) xfu ((0:Int32), (0:Int32), q1.2)

def fX10_mayMend (p1 : Int32) (p2 : Int32) (M : xM) : Option Int32 :=
  if xinb p1 16 then
    if (M.1 171 p1.toNatClampNeg) = (3:Int32) then
      some (0:Int32)
    else
      if xinb p1 16 then
        (fX10_isIn p2 (M.1 175 p1.toNatClampNeg) (55:Int32) M).bind fun v4 =>
        if v4 = 0 then
          some (0:Int32)
        else
          if (M.1 170 15) < p2 then
            some (0:Int32)
          else
            (fX10_trusted p1 p2 M).bind fun v7 =>
            if v7 = (-1:Int32) then
              some (1:Int32)
            else
              some (0:Int32)
      else none
  else none

def fX10_mended (p1 : Int32) (p2 : Int32) (M : xM) : Option (Int32 × xM) :=
  (fX10_mayMend p1 p2 M).bind fun v1 =>
  if v1 = 0 then
    some ((-1:Int32), M)
  else
    (fX10_bys p1 p2 M).bind fun q3 =>
    if q3.1 = 0 then
      some ((-1:Int32), q3.2)
    else
      lp (fun (s5 : (Int64 × Int64 × Int32)) (kk6 : (Int64 × Int64 × Int32) → Option (Int32 × xM)) =>
        if q3.1 ≤ s5.2.2 then
          if (s5.2.1 * (1000:Int64)) = 0 then none else
          some ((s5.1 / (s5.2.1 * (1000:Int64))).toInt32, q3.2)
        else
          if xinb s5.2.2 4 then
            bd (q3.2.1 188 s5.2.2.toNatClampNeg) fun x10 =>
            lp (fun (s12 : (Int64 × Int64 × Int32)) (kk13 : (Int64 × Int64 × Int32) → Option (Int32 × xM)) =>
              jn (fun (s15 : Unit) =>
                jn (fun (s37 : (Int64 × Int64)) =>
                  if xinb p1 16 then
                    if xinb p1 16 then
                      (fX10_far x10 (q3.2.1 172 p1.toNatClampNeg) (q3.2.1 173 p1.toNatClampNeg) q3.2).bind fun v41 =>
                      jn (fun (s43 : Int32) =>
                        (fX10_trusted x10 p2 q3.2).bind fun v48 =>
                        if s37.2 = 0 then none else
                        bd (s5.1 + ((((v48.toInt64 * s37.1) * (1000:Int64)) / s37.2) * s43.toInt64)) fun x50 =>
                        bd (s5.2.1 + s43.toInt64) fun x52 =>
                        kk6 (x50, x52, (s5.2.2 + 1)))
                      (fun (kk42 : Int32 → Option (Int32 × xM)) =>
                        if v41 = 0 then
                          kk42 (288:Int32)
                        else
                          if v41 = 0 then none else
                          if (1:Int32) ≤ ((144:Int32) / v41) then
                            if v41 = 0 then none else
                            kk42 ((144:Int32) / v41)
                          else
                            kk42 (1:Int32))
                    else none
                  else none)
                (fun (kk36 : (Int64 × Int64) → Option (Int32 × xM)) =>
                  if (lg_cmp s12.2.1 (0:Int64)) = 0 then
                    kk36 ((1:Int64), (1:Int64))
                  else
                    kk36 (s12.1, s12.2.1)))
              (fun (kk14 : Unit → Option (Int32 × xM)) =>
                if (q3.2.1 170 15) ≤ s12.2.2 then
                  kk14 ()
                else
                  if (56:Int32) ≤ s12.2.2 then
                    kk14 ()
                  else
                    (fX10_trusted p1 s12.2.2 q3.2).bind fun v18 =>
                    (fX10_trusted x10 s12.2.2 q3.2).bind fun v19 =>
                    jn (fun (s21 : Int64) =>
                      bd (s12.1 + s21) fun x26 =>
                      if v18 = (-1:Int32) then
                        bd (s12.2.1 + (0:Int64)) fun x29 =>
                        kk13 (x26, x29, (s12.2.2 + 1))
                      else
                        if v19 = (-1:Int32) then
                          bd (s12.2.1 + (0:Int64)) fun x34 =>
                          kk13 (x26, x34, (s12.2.2 + 1))
                        else
                          bd (s12.2.1 + v19.toInt64) fun x32 =>
                          kk13 (x26, x32, (s12.2.2 + 1)))
                    (fun (kk20 : Int64 → Option (Int32 × xM)) =>
                      jn (fun (s23 : Unit) =>
                        kk20 (0:Int64))
                      (fun (kk22 : Unit → Option (Int32 × xM)) =>
                        if v18 = (-1:Int32) then
                          kk22 ()
                        else
                          if v19 = (-1:Int32) then
                            kk22 ()
                          else
                            kk20 v18.toInt64)))) xfu ((0:Int64), (0:Int64), (0:Int32))
          else none) xfu ((0:Int64), (0:Int64), (0:Int32))

def fX10_from (p1 : Int32) (p2 : Int32) (p3 : Int32) (M : xM) : Option (Int32 × xM) :=
  (fX10_fails p1 (0:Int32) (4:Int32) M).bind fun v1 =>
  jn (fun (s3 : Int32) =>
    if s3 = 0 then
      if xinb p1 16 then
        (fX10_isIn p2 (M.1 175 p1.toNatClampNeg) (55:Int32) M).bind fun v9 =>
        if v9 = 0 then
          some ((-1:Int32), M)
        else
          if p2 ≤ (M.1 170 15) then
            (fX10_bys p1 p2 M).bind fun q12 =>
            (fX10_isIn p3 (0:Int32) (q12.1 - (1:Int32)) q12.2).bind fun v13 =>
            if v13 = 0 then
              some ((-1:Int32), q12.2)
            else
              if xinb p3 4 then
                some ((q12.2.1 188 p3.toNatClampNeg), q12.2)
              else none
          else
            some ((-1:Int32), M)
      else none
    else
      some (s3, M))
  (fun (kk2 : Int32 → Option (Int32 × xM)) =>
    if v1 = 0 then
      if xinb p1 16 then
        if (M.1 171 p1.toNatClampNeg) = (3:Int32) then
          kk2 (-2:Int32)
        else
          kk2 v1
      else none
    else
      kk2 v1)

def fX10_readOn (p1 : Int32) (p2 : Int32) (M : xM) : Option Int32 :=
  if xinb p1 16 then
    if (M.1 171 p1.toNatClampNeg) = (3:Int32) then
      if xinb p1 16 then
        (fX10_isIn p2 (M.1 175 p1.toNatClampNeg) (55:Int32) M).bind fun v4 =>
        if v4 = 0 then
          some (-1:Int32)
        else
          lp (fun (s6 : Int32) (kk7 : Int32 → Option Int32) =>
            if (56:Int32) ≤ s6 then
              some (-1:Int32)
            else
              (fX10_at p1 s6 M).bind fun v9 =>
              if xinb v9 896 then
                if (M.1 177 v9.toNatClampNeg) = (-1:Int32) then
                  kk7 (s6 + 1)
                else
                  some s6
              else none) xfu p2
      else none
    else
      some (-1:Int32)
  else none

def fX10_spread (p1 : Int32) (p2 : Int32) (M : xM) : Option (Int32 × xM) :=
  (fX10_readOn p1 p2 M).bind fun v1 =>
  if v1 = (-1:Int32) then
    some ((-1:Int32), M)
  else
    if xinb p1 16 then
      bd (M.1 175 p1.toNatClampNeg) fun x4 =>
      if xinb p1 16 then
        bd (M.1 175 p1.toNatClampNeg) fun x7 =>
        lp (fun (s9 : (Int32 × Int32)) (kk10 : (Int32 × Int32) → Option (Int32 × xM)) =>
          if v1 ≤ s9.2 then
            (fX10_at p1 v1 M).bind fun v12 =>
            if xinb v12 896 then
              bd (M.1 177 v12.toNatClampNeg) fun x14 =>
              (fX10_rows p1 M).bind fun q16 =>
              bd (q16.1 - (1:Int32)) fun x17 =>
              lp (fun (s19 : (Int32 × Int32)) (kk20 : (Int32 × Int32) → Option (Int32 × xM)) =>
                if s19.2 < 0 then
                  lp (fun (s22 : (Int32 × Int32)) (kk23 : (Int32 × Int32) → Option (Int32 × xM)) =>
                    jn (fun (s25 : Unit) =>
                      if s22.1 = 0 then
                        if p2 = v1 then
                          some (x14, q16.2)
                        else
                          some ((0:Int32), q16.2)
                      else
                        lp (fun (s32 : (Int32 × Int32)) (kk33 : (Int32 × Int32) → Option (Int32 × xM)) =>
                          if v1 < s32.2 then
                            (fX10_trusted s19.1 p2 q16.2).bind fun v35 =>
                            if s22.1 = 0 then none else
                            bd ((x14 * v35) - (x14 * v35) / s22.1 * s22.1) fun x37 =>
                            lp (fun (s39 : (Int32 × Int32)) (kk40 : (Int32 × Int32) → Option (Int32 × xM)) =>
                              if v1 < s39.2 then
                                (fX10_trusted s19.1 p2 q16.2).bind fun v42 =>
                                if s22.1 = 0 then none else
                                if s32.1 ≤ s39.1 then
                                  some ((((x14 * v42) / s22.1) + (0:Int32)), q16.2)
                                else
                                  some ((((x14 * v42) / s22.1) + (1:Int32)), q16.2)
                              else
                                (fX10_trusted s19.1 s39.2 q16.2).bind fun v45 =>
                                if s22.1 = 0 then none else
                                bd ((x14 * v45) - (x14 * v45) / s22.1 * s22.1) fun x47 =>
                                if x37 < x47 then
                                  bd (s39.1 + (1:Int32)) fun x50 =>
                                  kk40 (x50, (s39.2 + 1))
                                else
                                  if x47 = x37 then
                                    if p2 ≤ s39.2 then
                                      bd (s39.1 + (0:Int32)) fun x56 =>
                                      kk40 (x56, (s39.2 + 1))
                                    else
                                      bd (s39.1 + (1:Int32)) fun x58 =>
                                      kk40 (x58, (s39.2 + 1))
                                  else
                                    bd (s39.1 + (0:Int32)) fun x53 =>
                                    kk40 (x53, (s39.2 + 1))) xfu ((0:Int32), s9.1)
                          else
                            (fX10_trusted s19.1 s32.2 q16.2).bind fun v60 =>
                            if s22.1 = 0 then none else
                            bd (s32.1 - ((x14 * v60) / s22.1)) fun x62 =>
                            kk33 (x62, (s32.2 + 1))) xfu (x14, s9.1))
                    (fun (kk24 : Unit → Option (Int32 × xM)) =>
                      if v1 < s22.2 then
                        kk24 ()
                      else
                        if s19.1 = (-1:Int32) then
                          kk24 ()
                        else
                          (fX10_trusted s19.1 s22.2 q16.2).bind fun v28 =>
                          bd (s22.1 + v28) fun x29 =>
                          kk23 (x29, (s22.2 + 1)))) xfu ((0:Int32), s9.1)
                else
                  lp (fun (s65 : (Int32 × Int32)) (kk66 : (Int32 × Int32) → Option (Int32 × xM)) =>
                    jn (fun (s68 : Unit) =>
                      if s65.1 = 0 then
                        kk20 (s19.1, (s19.2 + (-1)))
                      else
                        if xinb s19.2 16 then
                          bd (q16.2.1 187 s19.2.toNatClampNeg) fun x76 =>
                          kk20 (x76, (s19.2 + (-1)))
                        else none)
                    (fun (kk67 : Unit → Option (Int32 × xM)) =>
                      if v1 < s65.2 then
                        kk67 ()
                      else
                        if s65.1 = 0 then
                          kk67 ()
                        else
                          if xinb s19.2 16 then
                            (fX10_trusted (q16.2.1 187 s19.2.toNatClampNeg) s65.2 q16.2).bind fun v72 =>
                            if v72 = (-1:Int32) then
                              kk66 ((0:Int32), (s65.2 + 1))
                            else
                              kk66 ((1:Int32), (s65.2 + 1))
                          else none)) xfu ((1:Int32), s9.1)) xfu ((-1:Int32), x17)
            else none
          else
            (fX10_at p1 s9.2 M).bind fun v78 =>
            if xinb v78 896 then
              if (M.1 177 v78.toNatClampNeg) = (-1:Int32) then
                kk10 (s9.1, (s9.2 + 1))
              else
                bd (s9.2 + (1:Int32)) fun x81 =>
                kk10 (x81, (s9.2 + 1))
            else none) xfu (x4, x7)
      else none
    else none

def fX10_tells (p1 : Int32) (p2 : Int32) (M : xM) : Option Int32 :=
  (fX10_isGauge p1 M).bind fun v1 =>
  if v1 = 0 then
    some (0:Int32)
  else
    if xinb p1 16 then
      if (M.1 171 p1.toNatClampNeg) = (3:Int32) then
        (fX10_readOn p1 p2 M).bind fun v7 =>
        if v7 = (-1:Int32) then
          some (0:Int32)
        else
          some (1:Int32)
      else
        (fX10_trusted p1 p2 M).bind fun v5 =>
        if v5 = (-1:Int32) then
          some (0:Int32)
        else
          some (1:Int32)
    else none

def fX10_state (p1 : Int32) (p2 : Int32) (M : xM) : Option (Int32 × xM) :=
  (fX10_fails p1 (0:Int32) (4:Int32) M).bind fun v1 =>
  if v1 = 0 then
    (fX10_isIn p2 (0:Int32) (55:Int32) M).bind fun v3 =>
    if v3 = 0 then
      some ((-1:Int32), M)
    else
      if xinb p1 16 then
        if (M.1 171 p1.toNatClampNeg) = (3:Int32) then
          (fX10_readOn p1 p2 M).bind fun v13 =>
          if v13 = (-1:Int32) then
            some ((0:Int32), M)
          else
            some ((4:Int32), M)
        else
          (fX10_trusted p1 p2 M).bind fun v7 =>
          if v7 = (-1:Int32) then
            (fX10_mended p1 p2 M).bind fun q9 =>
            if q9.1 = (-1:Int32) then
              (fX10_raw0 p1 p2 q9.2).bind fun v11 =>
              if v11 = (-1:Int32) then
                some ((0:Int32), q9.2)
              else
                some ((2:Int32), q9.2)
            else
              some ((3:Int32), q9.2)
          else
            some ((1:Int32), M)
      else none
  else
    some (v1, M)

def fX10_number0 (p1 : Int32) (p2 : Int32) (M : xM) : Option (Int32 × xM) :=
  if xinb p1 16 then
    if (M.1 171 p1.toNatClampNeg) = (3:Int32) then
      (fX10_spread p1 p2 M).bind fun q8 =>
      some (q8.1, q8.2)
    else
      (fX10_trusted p1 p2 M).bind fun v3 =>
      if v3 = (-1:Int32) then
        (fX10_mended p1 p2 M).bind fun q5 =>
        if q5.1 = (-1:Int32) then
          (fX10_raw0 p1 p2 q5.2).bind fun v7 =>
          some (v7, q5.2)
        else
          some (q5.1, q5.2)
      else
        some (v3, M)
  else none

def fX10_number (p1 : Int32) (p2 : Int32) (M : xM) : Option (Int32 × xM) :=
  (fX10_fails p1 (0:Int32) (4:Int32) M).bind fun v1 =>
  if v1 = 0 then
    (fX10_isIn p2 (0:Int32) (55:Int32) M).bind fun v3 =>
    if v3 = 0 then
      some ((-1:Int32), M)
    else
      (fX10_number0 p1 p2 M).bind fun q5 =>
      some (q5.1, q5.2)
  else
    some (v1, M)

def fX10_owner (p1 : Int32) (p2 : Int32) (p3 : Int32) (M : xM) : Option Int32 :=
  lp (fun (s1 : (Int32 × Int32)) (kk2 : (Int32 × Int32) → Option Int32) =>
    if (16:Int32) ≤ s1.2 then
      some s1.1
    else
      (fX10_tells s1.2 p3 M).bind fun v4 =>
      if v4 = 0 then
        kk2 (s1.1, (s1.2 + 1))
      else
        if s1.1 = (-1:Int32) then
          kk2 (s1.2, (s1.2 + 1))
        else
          (fX10_far s1.2 p1 p2 M).bind fun v7 =>
          (fX10_far s1.1 p1 p2 M).bind fun v8 =>
          if v8 ≤ v7 then
            kk2 (s1.1, (s1.2 + 1))
          else
            kk2 (s1.2, (s1.2 + 1))) xfu ((-1:Int32), (0:Int32))

def fX10_part (p1 : Int32) (p2 : Int32) (p3 : Int32) (M : xM) : Option Int32 :=
  (fX10_isIn p1 (0:Int32) (9:Int32) M).bind fun v1 =>
  if v1 = 0 then
    some (-1:Int32)
  else
    (fX10_isIn p2 (0:Int32) (9:Int32) M).bind fun v3 =>
    if v3 = 0 then
      some (-1:Int32)
    else
      (fX10_isIn p3 (0:Int32) (55:Int32) M).bind fun v5 =>
      if v5 = 0 then
        some (-1:Int32)
      else
        (fX10_owner p1 p2 p3 M).bind fun v7 =>
        some v7

def fX10_squares (p1 : Int32) (p2 : Int32) (M : xM) : Option Int32 :=
  (fX10_fails p1 (0:Int32) (4:Int32) M).bind fun v1 =>
  if v1 = 0 then
    (fX10_isIn p2 (0:Int32) (55:Int32) M).bind fun v3 =>
    if v3 = 0 then
      some (-1:Int32)
    else
      lp (fun (s5 : (Int32 × Int32)) (kk6 : (Int32 × Int32) → Option Int32) =>
        if (100:Int32) ≤ s5.2 then
          some s5.1
        else
          if (10:Int32) = 0 then none else
          if (10:Int32) = 0 then none else
          (fX10_owner (s5.2 / (10:Int32)) (s5.2 - s5.2 / (10:Int32) * (10:Int32)) p2 M).bind fun v10 =>
          if v10 = p1 then
            bd (s5.1 + (1:Int32)) fun x14 =>
            kk6 (x14, (s5.2 + 1))
          else
            bd (s5.1 + (0:Int32)) fun x12 =>
            kk6 (x12, (s5.2 + 1))) xfu ((0:Int32), (0:Int32))
  else
    some v1

def fX10_many (p1 : Int32) (M : xM) : Option Int32 :=
  lp (fun (s1 : (Int32 × Int32)) (kk2 : (Int32 × Int32) → Option Int32) =>
    if (100:Int32) ≤ s1.2 then
      some s1.1
    else
      if xinb (((100:Int32) * p1) + s1.2) 800 then
        if (M.1 186 (((100:Int32) * p1) + s1.2).toNatClampNeg) = 0 then
          bd (s1.1 + (0:Int32)) fun x6 =>
          kk2 (x6, (s1.2 + 1))
        else
          bd (s1.1 + (1:Int32)) fun x8 =>
          kk2 (x8, (s1.2 + 1))
      else none) xfu ((0:Int32), (0:Int32))

def fX10_valley (p1 : Int32) (p2 : Int32) (p3 : Int32) (p4 : Int32) (M : xM) : Option (Int32 × xM) :=
  (fX10_isIn p1 (0:Int32) (7:Int32) M).bind fun v1 =>
  if v1 = 0 then
    some ((-1:Int32), M)
  else
    (fX10_isIn p2 (0:Int32) (9:Int32) M).bind fun v3 =>
    if v3 = 0 then
      some ((-1:Int32), M)
    else
      (fX10_isIn p3 (0:Int32) (9:Int32) M).bind fun v5 =>
      if v5 = 0 then
        some ((-1:Int32), M)
      else
        if xinb ((((100:Int32) * p1) + ((10:Int32) * p2)) + p3) 800 then
          bd (xw M 186 ((((100:Int32) * p1) + ((10:Int32) * p2)) + p3).toNatClampNeg (vp_nar .boolean p4)) fun m8 =>
          (fX10_many p1 m8).bind fun v10 =>
          some (v10, m8)
        else none

def fX10_isTold (p1 : Int32) (M : xM) : Option Int32 :=
  lp (fun (s1 : (Int32 × Int32)) (kk2 : (Int32 × Int32) → Option Int32) =>
    if (16:Int32) ≤ s1.2 then
      if xbo s1.1 then some s1.1 else none
    else
      if s1.1 = 0 then
        (fX10_tells s1.2 p1 M).bind fun v5 =>
        if v5 = 0 then
          kk2 ((0:Int32), (s1.2 + 1))
        else
          kk2 ((1:Int32), (s1.2 + 1))
      else
        kk2 ((1:Int32), (s1.2 + 1))) xfu ((0:Int32), (0:Int32))

def fX10_rain0 (p1 : Int32) (p2 : Int32) (M : xM) : Option (Int32 × xM) :=
  (fX10_isIn p2 (0:Int32) (55:Int32) M).bind fun v1 =>
  if v1 = 0 then
    some ((-1:Int32), M)
  else
    (fX10_many p1 M).bind fun v3 =>
    if v3 = 0 then
      some ((-1:Int32), M)
    else
      (fX10_isTold p2 M).bind fun v5 =>
      if v5 = 0 then
        some ((-1:Int32), M)
      else
        lp (fun (s7 : (Int32 × Int32 × xM)) (kk8 : (Int32 × Int32 × xM) → Option (Int32 × xM)) =>
          if (100:Int32) ≤ s7.2.1 then
            some (s7.1, s7.2.2)
          else
            if xinb (((100:Int32) * p1) + s7.2.1) 800 then
              if (s7.2.2.1 186 (((100:Int32) * p1) + s7.2.1).toNatClampNeg) = 0 then
                kk8 (s7.1, (s7.2.1 + 1), s7.2.2)
              else
                if (10:Int32) = 0 then none else
                if (10:Int32) = 0 then none else
                (fX10_owner (s7.2.1 / (10:Int32)) (s7.2.1 - s7.2.1 / (10:Int32) * (10:Int32)) p2 s7.2.2).bind fun v14 =>
                (fX10_number0 v14 p2 s7.2.2).bind fun q15 =>
                bd (s7.1 + q15.1) fun x16 =>
                kk8 (x16, (s7.2.1 + 1), q15.2)
            else none) xfu ((0:Int32), (0:Int32), M)

def fX10_rain (p1 : Int32) (p2 : Int32) (M : xM) : Option (Int32 × xM) :=
  (fX10_isIn p1 (0:Int32) (7:Int32) M).bind fun v1 =>
  if v1 = 0 then
    some ((-1:Int32), M)
  else
    (fX10_rain0 p1 p2 M).bind fun q3 =>
    some (q3.1, q3.2)

def fX10_mean (p1 : Int32) (p2 : Int32) (M : xM) : Option (Int32 × xM) :=
  (fX10_isIn p1 (0:Int32) (7:Int32) M).bind fun v1 =>
  if v1 = 0 then
    some ((-1:Int32), M)
  else
    (fX10_rain0 p1 p2 M).bind fun q3 =>
    if q3.1 = (-1:Int32) then
      some ((-1:Int32), q3.2)
    else
      (fX10_rain0 p1 p2 q3.2).bind fun q5 =>
      (fX10_many p1 q5.2).bind fun v6 =>
      if v6.toInt64 = 0 then none else
      some (((q5.1.toInt64 * (1000:Int64)) / v6.toInt64).toInt32, q5.2)

def fX10_flow0 (p1 : Int32) (p2 : Int32) (M : xM) : Option (Int64 × xM) :=
  lp (fun (s1 : (Int64 × Int32 × xM)) (kk2 : (Int64 × Int32 × xM) → Option (Int64 × xM)) =>
    if (8:Int32) ≤ s1.2.1 then
      some (s1.1, s1.2.2)
    else
      if xinb s1.2.1 8 then
        jn (fun (s6 : (Int32 × xM)) =>
          if s6.1 = (-1:Int32) then
            bd (s1.1 + (0:Int64)) fun x13 =>
            kk2 (x13, (s1.2.1 + 1), s6.2)
          else
            if xinb s1.2.1 8 then
              bd (s1.1 + (s6.1.toInt64 * (s6.2.1 185 s1.2.1.toNatClampNeg).toInt64)) fun x11 =>
              kk2 (x11, (s1.2.1 + 1), s6.2)
            else none)
        (fun (kk5 : (Int32 × xM) → Option (Int64 × xM)) =>
          if (s1.2.2.1 185 s1.2.1.toNatClampNeg) = 0 then
            kk5 ((-1:Int32), s1.2.2)
          else
            (fX10_rain0 p1 (p2 - s1.2.1) s1.2.2).bind fun q8 =>
            kk5 (q8.1, q8.2))
      else none) xfu ((0:Int64), (0:Int32), M)

def fX10_flow (p1 : Int32) (p2 : Int32) (M : xM) : Option (Int64 × xM) :=
  (fX10_isIn p1 (0:Int32) (7:Int32) M).bind fun v1 =>
  if v1 = 0 then
    some ((-1:Int64), M)
  else
    (fX10_isIn p2 (0:Int32) (63:Int32) M).bind fun v3 =>
    if v3 = 0 then
      some ((-1:Int64), M)
    else
      (fX10_flow0 p1 p2 M).bind fun q5 =>
      some (q5.1, q5.2)

def fX10_ahead (p1 : Int32) (p2 : Int64) (M : xM) : Option (Int32 × xM) :=
  (fX10_isIn p1 (0:Int32) (7:Int32) M).bind fun v1 =>
  if v1 = 0 then
    some ((-1:Int32), M)
  else
    bd (M.1 170 15) fun x3 =>
    lp (fun (s5 : (Int32 × xM)) (kk6 : (Int32 × xM) → Option (Int32 × xM)) =>
      if (64:Int32) ≤ s5.1 then
        some ((-1:Int32), s5.2)
      else
        (fX10_flow0 p1 s5.1 s5.2).bind fun q8 =>
        if (lg_cmp q8.1 p2) ≤ 0 then
          kk6 ((s5.1 + 1), q8.2)
        else
          some (s5.1, q8.2)) xfu (x3, M)

def fX10_weekOf (p1 : Int32) (p2 : Int32) (p3 : Int32) (M : xM) : Option (Int64 × xM) :=
  bd ((7:Int32) * p2) fun x1 =>
  lp (fun (s3 : (Int64 × Int32 × xM)) (kk4 : (Int64 × Int32 × xM) → Option (Int64 × xM)) =>
    if (((7:Int32) * p2) + (7:Int32)) ≤ s3.2.1 then
      some (s3.1, s3.2.2)
    else
      (fX10_rows p1 s3.2.2).bind fun q6 =>
      (fX10_trusted p1 s3.2.1 q6.2).bind fun v7 =>
      jn (fun (s9 : Int32) =>
        lp (fun (s11 : (Int32 × Int32 × Int64 × Int32)) (kk12 : (Int32 × Int32 × Int64 × Int32) → Option (Int64 × xM)) =>
          jn (fun (s14 : Unit) =>
            if s11.2.1 = 0 then
              kk4 (s3.1, (s3.2.1 + 1), q6.2)
            else
              if p3 = 0 then
                bd (s3.1 + s11.2.2.1) fun x32 =>
                kk4 (x32, (s3.2.1 + 1), q6.2)
              else
                (fX10_trusted p1 s3.2.1 q6.2).bind fun v34 =>
                bd (s3.1 + v34.toInt64) fun x35 =>
                kk4 (x35, (s3.2.1 + 1), q6.2))
          (fun (kk13 : Unit → Option (Int64 × xM)) =>
            if q6.1 ≤ s11.2.2.2 then
              kk13 ()
            else
              if (4:Int32) ≤ s11.1 then
                kk13 ()
              else
                if xinb s11.2.2.2 16 then
                  if xinb (q6.2.1 187 s11.2.2.2.toNatClampNeg) 16 then
                    if (q6.2.1 171 (q6.2.1 187 s11.2.2.2.toNatClampNeg).toNatClampNeg) = (3:Int32) then
                      kk12 (s11.1, s11.2.1, s11.2.2.1, (s11.2.2.2 + 1))
                    else
                      if xinb s11.2.2.2 16 then
                        (fX10_trusted (q6.2.1 187 s11.2.2.2.toNatClampNeg) s3.2.1 q6.2).bind fun v21 =>
                        jn (fun (s23 : Int32) =>
                          bd (s11.2.2.1 + v21.toInt64) fun x28 =>
                          kk12 ((s11.1 + 1), s23, x28, (s11.2.2.2 + 1)))
                        (fun (kk22 : Int32 → Option (Int64 × xM)) =>
                          jn (fun (s25 : Unit) =>
                            kk22 (0:Int32))
                          (fun (kk24 : Unit → Option (Int64 × xM)) =>
                            if s11.2.1 = 0 then
                              kk24 ()
                            else
                              if v21 = (-1:Int32) then
                                kk24 ()
                              else
                                kk22 (1:Int32)))
                      else none
                  else none
                else none)) xfu ((0:Int32), s9, (0:Int64), (0:Int32)))
      (fun (kk8 : Int32 → Option (Int64 × xM)) =>
        if v7 = (-1:Int32) then
          kk8 (0:Int32)
        else
          kk8 (1:Int32))) xfu ((0:Int64), x1, M)

def fX10_failsStore (p1 : Int32) (M : xM) : Option Int32 :=
  (fX10_fails p1 (0:Int32) (4:Int32) M).bind fun v1 =>
  if v1 = 0 then
    if xinb p1 16 then
      if (M.1 171 p1.toNatClampNeg) = (3:Int32) then
        some (-2:Int32)
      else
        some v1
    else none
  else
    some v1

def fX10_week (p1 : Int32) (p2 : Int32) (p3 : Int32) (M : xM) : Option (Int32 × xM) :=
  (fX10_failsStore p1 M).bind fun v1 =>
  if v1 = 0 then
    (fX10_isIn p2 (0:Int32) (7:Int32) M).bind fun v3 =>
    if v3 = 0 then
      some ((-1:Int32), M)
    else
      (fX10_isIn p3 (0:Int32) (1:Int32) M).bind fun v5 =>
      if v5 = 0 then
        some ((-1:Int32), M)
      else
        jn (fun (s8 : Int32) =>
          (fX10_weekOf p1 p2 s8 M).bind fun q10 =>
          some (q10.1.toInt32, q10.2))
        (fun (kk7 : Int32 → Option (Int32 × xM)) =>
          if p3 = 0 then
            kk7 (1:Int32)
          else
            kk7 (0:Int32))
  else
    some (v1, M)

def fX10_apart (p1 : Int32) (p2 : Int32) (M : xM) : Option Int64 :=
  lp (fun (s1 : (Int64 × Int64 × Int32)) (kk2 : (Int64 × Int64 × Int32) → Option Int64) =>
    if p2 ≤ s1.2.2 then
      lp (fun (s4 : (Int64 × Int32)) (kk5 : (Int64 × Int32) → Option Int64) =>
        if p2 ≤ s4.2 then
          if (lg_cmp s1.2.1 (0:Int64)) = 0 then
            some (s4.1 * (1000:Int64))
          else
            if s1.2.1 = 0 then none else
            some ((s4.1 * (1000:Int64)) / s1.2.1)
        else
          jn (fun (s10 : Int64) =>
            if 0 ≤ (lg_cmp s10 (0:Int64)) then
              bd (s4.1 + s10) fun x16 =>
              kk5 (x16, (s4.2 + 1))
            else
              bd (s4.1 + (-s10)) fun x18 =>
              kk5 (x18, (s4.2 + 1)))
          (fun (kk9 : Int64 → Option Int64) =>
            if (lg_cmp s1.2.1 (0:Int64)) = 0 then
              if xinb s4.2 8 then
                kk9 (M.2 189 s4.2.toNatClampNeg)
              else none
            else
              if xinb s4.2 8 then
                if xinb s4.2 8 then
                  kk9 (((M.2 189 s4.2.toNatClampNeg) * s1.2.1) - ((M.2 190 s4.2.toNatClampNeg) * s1.1))
                else none
              else none)) xfu ((0:Int64), p1)
    else
      if xinb s1.2.2 8 then
        bd (s1.1 + (M.2 189 s1.2.2.toNatClampNeg)) fun x21 =>
        if xinb s1.2.2 8 then
          bd (s1.2.1 + (M.2 190 s1.2.2.toNatClampNeg)) fun x24 =>
          kk2 (x21, x24, (s1.2.2 + 1))
        else none
      else none) xfu ((0:Int64), (0:Int64), p1)

def fX10_weeks (p1 : Int32) (M : xM) : Option xM :=
  lp (fun (s1 : (Int32 × xM)) (kk2 : (Int32 × xM) → Option xM) =>
    if (8:Int32) ≤ s1.1 then
      some s1.2
    else
      (fX10_weekOf p1 s1.1 (1:Int32) s1.2).bind fun q4 =>
      if xinb s1.1 8 then
        bd (xwl q4.2 189 s1.1.toNatClampNeg q4.1) fun m6 =>
        (fX10_weekOf p1 s1.1 (0:Int32) m6).bind fun q8 =>
        if xinb s1.1 8 then
          bd (xwl q8.2 190 s1.1.toNatClampNeg q8.1) fun m10 =>
          kk2 ((s1.1 + 1), m10)
        else none
      else none) xfu ((0:Int32), M)

def fX10_cleft (p1 : Int32) (M : xM) : Option (Int32 × xM) :=
  (fX10_failsStore p1 M).bind fun v1 =>
  if v1 = 0 then
    (fX10_weeks p1 M).bind fun q3 =>
    if (7:Int32) = 0 then none else
    bd ((q3.1 170 15) / (7:Int32)) fun x5 =>
    bd (x5 - (1:Int32)) fun x7 =>
    lp (fun (s9 : (Int32 × Int32)) (kk10 : (Int32 × Int32) → Option (Int32 × xM)) =>
      if s9.2 < (1:Int32) then
        some (s9.1, q3)
      else
        if s9.1 = (-1:Int32) then
          kk10 (s9.2, (s9.2 + (-1)))
        else
          (fX10_apart (0:Int32) s9.2 q3).bind fun v13 =>
          (fX10_apart s9.2 x5 q3).bind fun v14 =>
          (fX10_apart (0:Int32) s9.1 q3).bind fun v15 =>
          (fX10_apart s9.1 x5 q3).bind fun v16 =>
          if 0 < (lg_cmp (v13 + v14) (v15 + v16)) then
            kk10 (s9.1, (s9.2 + (-1)))
          else
            kk10 (s9.2, (s9.2 + (-1)))) xfu ((-1:Int32), x7)
  else
    some (v1, M)

def fX10_misses (p1 : Int32) (p2 : Int32) (M : xM) : Option (Int64 × xM) :=
  (fX10_failsStore p1 M).bind fun v1 =>
  if v1 = 0 then
    if (7:Int32) = 0 then none else
    (fX10_isIn p2 (1:Int32) (((M.1 170 15) / (7:Int32)) - (1:Int32)) M).bind fun v4 =>
    if v4 = 0 then
      some ((-1:Int64), M)
    else
      (fX10_weeks p1 M).bind fun q6 =>
      (fX10_apart (0:Int32) p2 q6).bind fun v7 =>
      if (7:Int32) = 0 then none else
      (fX10_apart p2 ((q6.1 170 15) / (7:Int32)) q6).bind fun v9 =>
      some ((v7 + v9), q6)
  else
    some (v1.toInt64, M)

