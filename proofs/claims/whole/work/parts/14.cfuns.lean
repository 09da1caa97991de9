theorem ml_X1_11 : Cond.methodLinkNest RX1 11 yX2_init "RainOffice" ∈ xnt := xnest 294 (by decide +kernel) rfl
theorem ml_X4_21 : Cond.methodLinkNest RX4 21 yX8_init "RainOffice" ∈ xnt := xnest 264 (by decide +kernel) rfl
theorem ml_X5_11 : Cond.methodLinkNest RX5 11 yX2_init "RainOffice" ∈ xnt := xnest 229 (by decide +kernel) rfl
theorem ml_X6_19 : Cond.methodLinkNest RX6 19 yX3_init "RainOffice" ∈ xnt := xnest 79 (by decide +kernel) rfl
theorem ml_X6_36 : Cond.methodLink RX6 36 yX7_init ∈ xtb := xword 108 (by decide +kernel) rfl
theorem ml_X9_18 : Cond.methodLink RX9 18 yX0_init ∈ xtb := xword 191 (by decide +kernel) rfl
theorem ml_X9_27 : Cond.methodLink RX9 27 yX5_init ∈ xtb := xword 223 (by decide +kernel) rfl
theorem ml_X9_34 : Cond.methodLink RX9 34 yX4_init ∈ xtb := xword 257 (by decide +kernel) rfl
theorem ml_X9_41 : Cond.methodLink RX9 41 yX1_init ∈ xtb := xword 289 (by decide +kernel) rfl
theorem ml_X9_9 : Cond.methodLink RX9 9 yX6_init ∈ xtb := xword 71 (by decide +kernel) rfl
theorem ml_X0_33 : Cond.methodLink RX0 33 yJ7_fill_53178 ∈ xtb := xword 197 (by decide +kernel) rfl
theorem fl_X4_11 : xFl RX4 11 RX4 TX4 1 := Or.inl (xword 280 (by decide +kernel) rfl)
abbrev iX3_init : xI := (yX3_init, cX3_init, 1, none, { frames := 1, cells := 3, slots := 300, locals := 40 }, none)
theorem miX3_init : xMeI iX3_init := ⟨⟨xword 81 (by decide +kernel) rfl, xword 50 (by decide +kernel) rfl, by decide +kernel, by decide +kernel⟩, xword 80 (by decide +kernel) rfl, rfl, rfl⟩
theorem prX3_init : (parseMethodDescriptor yX3_init.desc).map (fun d => d.parameters.length) = some 0 := by decide +kernel
abbrev iX7_init : xI := (yX7_init, cX7_init, 1, none, { frames := 1, cells := 3, slots := 168, locals := 40 }, none)
theorem miX7_init : xMeI iX7_init := ⟨⟨xword 110 (by decide +kernel) rfl, xword 51 (by decide +kernel) rfl, by decide +kernel, by decide +kernel⟩, xword 109 (by decide +kernel) rfl, rfl, rfl⟩
theorem prX7_init : (parseMethodDescriptor yX7_init.desc).map (fun d => d.parameters.length) = some 0 := by decide +kernel
abbrev iX6_init : xI := (yX6_init, cX6_init, 2, none, { frames := 2, cells := 70, slots := 3164, locals := 60 }, none)
theorem miX6_init : xMeI iX6_init := ⟨⟨xword 73 (by decide +kernel) rfl, xword 49 (by decide +kernel) rfl, by decide +kernel, by decide +kernel⟩, xword 72 (by decide +kernel) rfl, rfl, rfl⟩
theorem prX6_init : (parseMethodDescriptor yX6_init.desc).map (fun d => d.parameters.length) = some 0 := by decide +kernel
abbrev iX0_init : xI := (yX0_init, cX0_init, 3, none, { frames := 1, cells := 69, slots := 3704, locals := 40 }, none)
theorem miX0_init : xMeI iX0_init := ⟨⟨xword 193 (by decide +kernel) rfl, xword 53 (by decide +kernel) rfl, by decide +kernel, by decide +kernel⟩, xword 192 (by decide +kernel) rfl, rfl, rfl⟩
theorem prX0_init : (parseMethodDescriptor yX0_init.desc).map (fun d => d.parameters.length) = some 1 := by decide +kernel
abbrev iX2_init : xI := (yX2_init, cX2_init, 1, none, { frames := 1, cells := 2, slots := 8, locals := 40 }, none)
theorem miX2_init : xMeI iX2_init := ⟨⟨xword 231 (by decide +kernel) rfl, xword 55 (by decide +kernel) rfl, by decide +kernel, by decide +kernel⟩, xword 230 (by decide +kernel) rfl, rfl, rfl⟩
theorem prX2_init : (parseMethodDescriptor yX2_init.desc).map (fun d => d.parameters.length) = some 0 := by decide +kernel
abbrev iX5_init : xI := (yX5_init, cX5_init, 2, none, { frames := 2, cells := 3, slots := 11, locals := 60 }, none)
theorem miX5_init : xMeI iX5_init := ⟨⟨xword 225 (by decide +kernel) rfl, xword 54 (by decide +kernel) rfl, by decide +kernel, by decide +kernel⟩, xword 224 (by decide +kernel) rfl, rfl, rfl⟩
theorem prX5_init : (parseMethodDescriptor yX5_init.desc).map (fun d => d.parameters.length) = some 1 := by decide +kernel
abbrev iX8_init : xI := (yX8_init, cX8_init, 1, none, { frames := 1, cells := 1, slots := 100, locals := 40 }, none)
theorem miX8_init : xMeI iX8_init := ⟨⟨xword 266 (by decide +kernel) rfl, xword 57 (by decide +kernel) rfl, by decide +kernel, by decide +kernel⟩, xword 265 (by decide +kernel) rfl, rfl, rfl⟩
theorem prX8_init : (parseMethodDescriptor yX8_init.desc).map (fun d => d.parameters.length) = some 0 := by decide +kernel
abbrev iX4_init : xI := (yX4_init, cX4_init, 3, none, { frames := 2, cells := 17, slots := 824, locals := 60 }, none)
theorem miX4_init : xMeI iX4_init := ⟨⟨xword 259 (by decide +kernel) rfl, xword 56 (by decide +kernel) rfl, by decide +kernel, by decide +kernel⟩, xword 258 (by decide +kernel) rfl, rfl, rfl⟩
theorem prX4_init : (parseMethodDescriptor yX4_init.desc).map (fun d => d.parameters.length) = some 1 := by decide +kernel
abbrev iX1_init : xI := (yX1_init, cX1_init, 2, none, { frames := 2, cells := 5, slots := 27, locals := 60 }, none)
theorem miX1_init : xMeI iX1_init := ⟨⟨xword 291 (by decide +kernel) rfl, xword 58 (by decide +kernel) rfl, by decide +kernel, by decide +kernel⟩, xword 290 (by decide +kernel) rfl, rfl, rfl⟩
theorem prX1_init : (parseMethodDescriptor yX1_init.desc).map (fun d => d.parameters.length) = some 1 := by decide +kernel
abbrev iX9_init : xI := (yX9_init, cX9_init, 1, none, { frames := 3, cells := 169, slots := 7750, locals := 82 }, none)
theorem miX9_init : xMeI iX9_init := ⟨⟨xword 65 (by decide +kernel) rfl, xword 48 (by decide +kernel) rfl, by decide +kernel, by decide +kernel⟩, xword 64 (by decide +kernel) rfl, rfl, rfl⟩
theorem prX9_init : (parseMethodDescriptor yX9_init.desc).map (fun d => d.parameters.length) = some 0 := by decide +kernel
abbrev iX10_init : xI := (yX10_init, cX10_init, 1, none, { frames := 1, cells := 20, slots := 4924, locals := 40 }, none)
theorem miX10_init : xMeI iX10_init := ⟨⟨xword 700 (by decide +kernel) rfl, xword 59 (by decide +kernel) rfl, by decide +kernel, by decide +kernel⟩, xword 699 (by decide +kernel) rfl, rfl, rfl⟩
theorem prX10_init : (parseMethodDescriptor yX10_init.desc).map (fun d => d.parameters.length) = some 0 := by decide +kernel
set_option maxRecDepth 100000 in
def fX3_init  (C : xPw) : Option xPw :=
  if C.1 = 4 then
    bd (cnew C) fun m1 =>
    if 3 < m1.1 then
      bd (cput m1 3 0) fun m3 =>
      if m3.1 = 5 then
        bd (cnew m3) fun m5 =>
        if 3 < m5.1 then
          bd (cput m5 3 1) fun m7 =>
          if m7.1 = 6 then
            bd (cnew m7) fun m9 =>
            if 3 < m9.1 then
              bd (cput m9 3 2) fun m11 =>
              some m11
            else none
          else none
        else none
      else none
    else none
  else none

set_option maxRecDepth 100000 in
def fX7_init (k : Nat) (C : xPw) : Option xPw :=
  if (8 + 4 * k) < C.1 then
    bd (cwr C (8 + 4 * k) 0 (-1:Int32)) fun m1 =>
    if m1.1 = (8 + 4 * k + 1) then
      bd (cnew m1) fun m3 =>
      if (8 + 4 * k) < m3.1 then
        bd (cput m3 (8 + 4 * k) 6) fun m5 =>
        if m5.1 = (8 + 4 * k + 2) then
          bd (cnew m5) fun m7 =>
          if (8 + 4 * k) < m7.1 then
            bd (cput m7 (8 + 4 * k) 7) fun m9 =>
            if m9.1 = (8 + 4 * k + 3) then
              bd (cnew m9) fun m11 =>
              if (8 + 4 * k) < m11.1 then
                bd (cput m11 (8 + 4 * k) 8) fun m13 =>
                if (8 + 4 * k) < m13.1 ∧ m13.2.2 (8 + 4 * k) 6 = false then
                  (cfl m13 (8 + 4 * k + 1) 56 (-1:Int32)).bind fun q15 =>
                  if (8 + 4 * k) < q15.1 ∧ q15.2.2 (8 + 4 * k) 7 = false then
                    (cfl q15 (8 + 4 * k + 2) 56 (-1:Int32)).bind fun q16 =>
                    if (8 + 4 * k) < q16.1 ∧ q16.2.2 (8 + 4 * k) 8 = false then
                      (cfl q16 (8 + 4 * k + 3) 56 (-1:Int32)).bind fun q17 =>
                      some q17
                    else none
                  else none
                else none
              else none
            else none
          else none
        else none
      else none
    else none
  else none

set_option maxRecDepth 100000 in
def fX6_init  (C : xPw) : Option xPw :=
  if C.1 = 2 then
    bd (cnew C) fun m1 =>
    if 1 < m1.1 then
      bd (cput m1 1 0) fun m3 =>
      if m3.1 = 3 then
        bd (cnew m3) fun m5 =>
        (fX3_init m5).bind fun q7 =>
        if 1 < q7.1 then
          bd (cput q7 1 1) fun m8 =>
          if m8.1 = 7 then
            bd (ccl m8 xRF) fun m10 =>
            if 7 < m10.1 then
              if 1 < m10.1 then
                bd (cput m10 1 2) fun m12 =>
                if (16:Int32) ≤ (0:Int32) then none else
                if 1 < m12.1 ∧ m12.2.2 1 0 = false then
                  if m12.1 = 8 then
                    bd (cnew m12) fun m15 =>
                    (fX7_init 0 m15).bind fun q17 =>
                    if 2 < q17.1 ∧ 8 < q17.1 ∧ xinb (0:Int32) 16 = true then
                      bd (cput q17 2 (0:Int32).toNatClampNeg) fun m18 =>
                      if (16:Int32) ≤ (1:Int32) then none else
                      if 1 < m18.1 ∧ m18.2.2 1 0 = false then
                        if m18.1 = 12 then
                          bd (cnew m18) fun m21 =>
                          (fX7_init 1 m21).bind fun q23 =>
                          if 2 < q23.1 ∧ 12 < q23.1 ∧ xinb (1:Int32) 16 = true then
                            bd (cput q23 2 (1:Int32).toNatClampNeg) fun m24 =>
                            if (16:Int32) ≤ (2:Int32) then none else
                            if 1 < m24.1 ∧ m24.2.2 1 0 = false then
                              if m24.1 = 16 then
                                bd (cnew m24) fun m27 =>
                                (fX7_init 2 m27).bind fun q29 =>
                                if 2 < q29.1 ∧ 16 < q29.1 ∧ xinb (2:Int32) 16 = true then
                                  bd (cput q29 2 (2:Int32).toNatClampNeg) fun m30 =>
                                  if (16:Int32) ≤ (3:Int32) then none else
                                  if 1 < m30.1 ∧ m30.2.2 1 0 = false then
                                    if m30.1 = 20 then
                                      bd (cnew m30) fun m33 =>
                                      (fX7_init 3 m33).bind fun q35 =>
                                      if 2 < q35.1 ∧ 20 < q35.1 ∧ xinb (3:Int32) 16 = true then
                                        bd (cput q35 2 (3:Int32).toNatClampNeg) fun m36 =>
                                        if (16:Int32) ≤ (4:Int32) then none else
                                        if 1 < m36.1 ∧ m36.2.2 1 0 = false then
                                          if m36.1 = 24 then
                                            bd (cnew m36) fun m39 =>
                                            (fX7_init 4 m39).bind fun q41 =>
                                            if 2 < q41.1 ∧ 24 < q41.1 ∧ xinb (4:Int32) 16 = true then
                                              bd (cput q41 2 (4:Int32).toNatClampNeg) fun m42 =>
                                              if (16:Int32) ≤ (5:Int32) then none else
                                              if 1 < m42.1 ∧ m42.2.2 1 0 = false then
                                                if m42.1 = 28 then
                                                  bd (cnew m42) fun m45 =>
                                                  (fX7_init 5 m45).bind fun q47 =>
                                                  if 2 < q47.1 ∧ 28 < q47.1 ∧ xinb (5:Int32) 16 = true then
                                                    bd (cput q47 2 (5:Int32).toNatClampNeg) fun m48 =>
                                                    if (16:Int32) ≤ (6:Int32) then none else
                                                    if 1 < m48.1 ∧ m48.2.2 1 0 = false then
                                                      if m48.1 = 32 then
                                                        bd (cnew m48) fun m51 =>
                                                        (fX7_init 6 m51).bind fun q53 =>
                                                        if 2 < q53.1 ∧ 32 < q53.1 ∧ xinb (6:Int32) 16 = true then
                                                          bd (cput q53 2 (6:Int32).toNatClampNeg) fun m54 =>
                                                          if (16:Int32) ≤ (7:Int32) then none else
                                                          if 1 < m54.1 ∧ m54.2.2 1 0 = false then
                                                            if m54.1 = 36 then
                                                              bd (cnew m54) fun m57 =>
                                                              (fX7_init 7 m57).bind fun q59 =>
                                                              if 2 < q59.1 ∧ 36 < q59.1 ∧ xinb (7:Int32) 16 = true then
                                                                bd (cput q59 2 (7:Int32).toNatClampNeg) fun m60 =>
                                                                if (16:Int32) ≤ (8:Int32) then none else
                                                                if 1 < m60.1 ∧ m60.2.2 1 0 = false then
                                                                  if m60.1 = 40 then
                                                                    bd (cnew m60) fun m63 =>
                                                                    (fX7_init 8 m63).bind fun q65 =>
                                                                    if 2 < q65.1 ∧ 40 < q65.1 ∧ xinb (8:Int32) 16 = true then
                                                                      bd (cput q65 2 (8:Int32).toNatClampNeg) fun m66 =>
                                                                      if (16:Int32) ≤ (9:Int32) then none else
                                                                      if 1 < m66.1 ∧ m66.2.2 1 0 = false then
                                                                        if m66.1 = 44 then
                                                                          bd (cnew m66) fun m69 =>
                                                                          (fX7_init 9 m69).bind fun q71 =>
                                                                          if 2 < q71.1 ∧ 44 < q71.1 ∧ xinb (9:Int32) 16 = true then
                                                                            bd (cput q71 2 (9:Int32).toNatClampNeg) fun m72 =>
                                                                            if (16:Int32) ≤ (10:Int32) then none else
                                                                            if 1 < m72.1 ∧ m72.2.2 1 0 = false then
                                                                              if m72.1 = 48 then
                                                                                bd (cnew m72) fun m75 =>
                                                                                (fX7_init 10 m75).bind fun q77 =>
                                                                                if 2 < q77.1 ∧ 48 < q77.1 ∧ xinb (10:Int32) 16 = true then
                                                                                  bd (cput q77 2 (10:Int32).toNatClampNeg) fun m78 =>
                                                                                  if (16:Int32) ≤ (11:Int32) then none else
                                                                                  if 1 < m78.1 ∧ m78.2.2 1 0 = false then
                                                                                    if m78.1 = 52 then
                                                                                      bd (cnew m78) fun m81 =>
                                                                                      (fX7_init 11 m81).bind fun q83 =>
                                                                                      if 2 < q83.1 ∧ 52 < q83.1 ∧ xinb (11:Int32) 16 = true then
                                                                                        bd (cput q83 2 (11:Int32).toNatClampNeg) fun m84 =>
                                                                                        if (16:Int32) ≤ (12:Int32) then none else
                                                                                        if 1 < m84.1 ∧ m84.2.2 1 0 = false then
                                                                                          if m84.1 = 56 then
                                                                                            bd (cnew m84) fun m87 =>
                                                                                            (fX7_init 12 m87).bind fun q89 =>
                                                                                            if 2 < q89.1 ∧ 56 < q89.1 ∧ xinb (12:Int32) 16 = true then
                                                                                              bd (cput q89 2 (12:Int32).toNatClampNeg) fun m90 =>
                                                                                              if (16:Int32) ≤ (13:Int32) then none else
                                                                                              if 1 < m90.1 ∧ m90.2.2 1 0 = false then
                                                                                                if m90.1 = 60 then
                                                                                                  bd (cnew m90) fun m93 =>
                                                                                                  (fX7_init 13 m93).bind fun q95 =>
                                                                                                  if 2 < q95.1 ∧ 60 < q95.1 ∧ xinb (13:Int32) 16 = true then
                                                                                                    bd (cput q95 2 (13:Int32).toNatClampNeg) fun m96 =>
                                                                                                    if (16:Int32) ≤ (14:Int32) then none else
                                                                                                    if 1 < m96.1 ∧ m96.2.2 1 0 = false then
                                                                                                      if m96.1 = 64 then
                                                                                                        bd (cnew m96) fun m99 =>
                                                                                                        (fX7_init 14 m99).bind fun q101 =>
                                                                                                        if 2 < q101.1 ∧ 64 < q101.1 ∧ xinb (14:Int32) 16 = true then
                                                                                                          bd (cput q101 2 (14:Int32).toNatClampNeg) fun m102 =>
                                                                                                          if (16:Int32) ≤ (15:Int32) then none else
                                                                                                          if 1 < m102.1 ∧ m102.2.2 1 0 = false then
                                                                                                            if m102.1 = 68 then
                                                                                                              bd (cnew m102) fun m105 =>
                                                                                                              (fX7_init 15 m105).bind fun q107 =>
                                                                                                              if 2 < q107.1 ∧ 68 < q107.1 ∧ xinb (15:Int32) 16 = true then
                                                                                                                bd (cput q107 2 (15:Int32).toNatClampNeg) fun m108 =>
                                                                                                                if (16:Int32) ≤ (16:Int32) then
                                                                                                                  some m108
                                                                                                                else none
                                                                                                              else none
                                                                                                            else none
                                                                                                          else none
                                                                                                        else none
                                                                                                      else none
                                                                                                    else none
                                                                                                  else none
                                                                                                else none
                                                                                              else none
                                                                                            else none
                                                                                          else none
                                                                                        else none
                                                                                      else none
                                                                                    else none
                                                                                  else none
                                                                                else none
                                                                              else none
                                                                            else none
                                                                          else none
                                                                        else none
                                                                      else none
                                                                    else none
                                                                  else none
                                                                else none
                                                              else none
                                                            else none
                                                          else none
                                                        else none
                                                      else none
                                                    else none
                                                  else none
                                                else none
                                              else none
                                            else none
                                          else none
                                        else none
                                      else none
                                    else none
                                  else none
                                else none
                              else none
                            else none
                          else none
                        else none
                      else none
                    else none
                  else none
                else none
              else none
            else none
          else none
        else none
      else none
    else none
  else none

set_option maxRecDepth 100000 in
def fX0_init  (C : xPw) : Option xPw :=
  if C.1 = 73 then
    bd (cmna C 16) fun m1 =>
    if 72 < m1.1 then
      bd (cput m1 72 1) fun m3 =>
      if m3.1 = 90 then
        bd (cmna m3 16) fun m5 =>
        if 72 < m5.1 then
          bd (cput m5 72 2) fun m7 =>
          if m7.1 = 107 then
            bd (cmna m7 16) fun m9 =>
            if 72 < m9.1 then
              bd (cput m9 72 3) fun m11 =>
              if m11.1 = 124 then
                bd (cmna m11 16) fun m13 =>
                if 72 < m13.1 then
                  bd (cput m13 72 4) fun m15 =>
                  if m15.1 = 141 then
                    bd (cnew m15) fun m17 =>
                    if 72 < m17.1 then
                      bd (cput m17 72 5) fun m19 =>
                      if 72 < m19.1 then
                        bd (cput m19 72 0) fun m21 =>
                        if (16:Int32) ≤ (0:Int32) then none else
                        if 72 < m21.1 ∧ m21.2.2 72 1 = false then
                          if 73 < m21.1 ∧ m21.2.2 73 (0:Int32).toNatClampNeg = false then
                            if xinb (0:Int32) 16 then
                              (cfl m21 74 56 (-1:Int32)).bind fun q24 =>
                              if 72 < q24.1 ∧ q24.2.2 72 3 = false then
                                if 107 < q24.1 ∧ q24.2.2 107 (0:Int32).toNatClampNeg = false then
                                  if xinb (0:Int32) 16 then
                                    (cfl q24 108 56 (-1:Int32)).bind fun q25 =>
                                    if 72 < q25.1 ∧ q25.2.2 72 4 = false then
                                      if 124 < q25.1 ∧ q25.2.2 124 (0:Int32).toNatClampNeg = false then
                                        if xinb (0:Int32) 16 then
                                          (cfl q25 125 56 (-1:Int32)).bind fun q26 =>
                                          if (16:Int32) ≤ (1:Int32) then none else
                                          if 72 < q26.1 ∧ q26.2.2 72 1 = false then
                                            if 73 < q26.1 ∧ q26.2.2 73 (1:Int32).toNatClampNeg = false then
                                              if xinb (1:Int32) 16 then
                                                (cfl q26 75 56 (-1:Int32)).bind fun q28 =>
                                                if 72 < q28.1 ∧ q28.2.2 72 3 = false then
                                                  if 107 < q28.1 ∧ q28.2.2 107 (1:Int32).toNatClampNeg = false then
                                                    if xinb (1:Int32) 16 then
                                                      (cfl q28 109 56 (-1:Int32)).bind fun q29 =>
                                                      if 72 < q29.1 ∧ q29.2.2 72 4 = false then
                                                        if 124 < q29.1 ∧ q29.2.2 124 (1:Int32).toNatClampNeg = false then
                                                          if xinb (1:Int32) 16 then
                                                            (cfl q29 126 56 (-1:Int32)).bind fun q30 =>
                                                            if (16:Int32) ≤ (2:Int32) then none else
                                                            if 72 < q30.1 ∧ q30.2.2 72 1 = false then
                                                              if 73 < q30.1 ∧ q30.2.2 73 (2:Int32).toNatClampNeg = false then
                                                                if xinb (2:Int32) 16 then
                                                                  (cfl q30 76 56 (-1:Int32)).bind fun q32 =>
                                                                  if 72 < q32.1 ∧ q32.2.2 72 3 = false then
                                                                    if 107 < q32.1 ∧ q32.2.2 107 (2:Int32).toNatClampNeg = false then
                                                                      if xinb (2:Int32) 16 then
                                                                        (cfl q32 110 56 (-1:Int32)).bind fun q33 =>
                                                                        if 72 < q33.1 ∧ q33.2.2 72 4 = false then
                                                                          if 124 < q33.1 ∧ q33.2.2 124 (2:Int32).toNatClampNeg = false then
                                                                            if xinb (2:Int32) 16 then
                                                                              (cfl q33 127 56 (-1:Int32)).bind fun q34 =>
                                                                              if (16:Int32) ≤ (3:Int32) then none else
                                                                              if 72 < q34.1 ∧ q34.2.2 72 1 = false then
                                                                                if 73 < q34.1 ∧ q34.2.2 73 (3:Int32).toNatClampNeg = false then
                                                                                  if xinb (3:Int32) 16 then
                                                                                    (cfl q34 77 56 (-1:Int32)).bind fun q36 =>
                                                                                    if 72 < q36.1 ∧ q36.2.2 72 3 = false then
                                                                                      if 107 < q36.1 ∧ q36.2.2 107 (3:Int32).toNatClampNeg = false then
                                                                                        if xinb (3:Int32) 16 then
                                                                                          (cfl q36 111 56 (-1:Int32)).bind fun q37 =>
                                                                                          if 72 < q37.1 ∧ q37.2.2 72 4 = false then
                                                                                            if 124 < q37.1 ∧ q37.2.2 124 (3:Int32).toNatClampNeg = false then
                                                                                              if xinb (3:Int32) 16 then
                                                                                                (cfl q37 128 56 (-1:Int32)).bind fun q38 =>
                                                                                                if (16:Int32) ≤ (4:Int32) then none else
                                                                                                if 72 < q38.1 ∧ q38.2.2 72 1 = false then
                                                                                                  if 73 < q38.1 ∧ q38.2.2 73 (4:Int32).toNatClampNeg = false then
                                                                                                    if xinb (4:Int32) 16 then
                                                                                                      (cfl q38 78 56 (-1:Int32)).bind fun q40 =>
                                                                                                      if 72 < q40.1 ∧ q40.2.2 72 3 = false then
                                                                                                        if 107 < q40.1 ∧ q40.2.2 107 (4:Int32).toNatClampNeg = false then
                                                                                                          if xinb (4:Int32) 16 then
                                                                                                            (cfl q40 112 56 (-1:Int32)).bind fun q41 =>
                                                                                                            if 72 < q41.1 ∧ q41.2.2 72 4 = false then
                                                                                                              if 124 < q41.1 ∧ q41.2.2 124 (4:Int32).toNatClampNeg = false then
                                                                                                                if xinb (4:Int32) 16 then
                                                                                                                  (cfl q41 129 56 (-1:Int32)).bind fun q42 =>
                                                                                                                  if (16:Int32) ≤ (5:Int32) then none else
                                                                                                                  if 72 < q42.1 ∧ q42.2.2 72 1 = false then
                                                                                                                    if 73 < q42.1 ∧ q42.2.2 73 (5:Int32).toNatClampNeg = false then
                                                                                                                      if xinb (5:Int32) 16 then
                                                                                                                        (cfl q42 79 56 (-1:Int32)).bind fun q44 =>
                                                                                                                        if 72 < q44.1 ∧ q44.2.2 72 3 = false then
                                                                                                                          if 107 < q44.1 ∧ q44.2.2 107 (5:Int32).toNatClampNeg = false then
                                                                                                                            if xinb (5:Int32) 16 then
                                                                                                                              (cfl q44 113 56 (-1:Int32)).bind fun q45 =>
                                                                                                                              if 72 < q45.1 ∧ q45.2.2 72 4 = false then
                                                                                                                                if 124 < q45.1 ∧ q45.2.2 124 (5:Int32).toNatClampNeg = false then
                                                                                                                                  if xinb (5:Int32) 16 then
                                                                                                                                    (cfl q45 130 56 (-1:Int32)).bind fun q46 =>
                                                                                                                                    if (16:Int32) ≤ (6:Int32) then none else
                                                                                                                                    if 72 < q46.1 ∧ q46.2.2 72 1 = false then
                                                                                                                                      if 73 < q46.1 ∧ q46.2.2 73 (6:Int32).toNatClampNeg = false then
                                                                                                                                        if xinb (6:Int32) 16 then
                                                                                                                                          (cfl q46 80 56 (-1:Int32)).bind fun q48 =>
                                                                                                                                          if 72 < q48.1 ∧ q48.2.2 72 3 = false then
                                                                                                                                            if 107 < q48.1 ∧ q48.2.2 107 (6:Int32).toNatClampNeg = false then
                                                                                                                                              if xinb (6:Int32) 16 then
                                                                                                                                                (cfl q48 114 56 (-1:Int32)).bind fun q49 =>
                                                                                                                                                if 72 < q49.1 ∧ q49.2.2 72 4 = false then
                                                                                                                                                  if 124 < q49.1 ∧ q49.2.2 124 (6:Int32).toNatClampNeg = false then
                                                                                                                                                    if xinb (6:Int32) 16 then
                                                                                                                                                      (cfl q49 131 56 (-1:Int32)).bind fun q50 =>
                                                                                                                                                      if (16:Int32) ≤ (7:Int32) then none else
                                                                                                                                                      if 72 < q50.1 ∧ q50.2.2 72 1 = false then
                                                                                                                                                        if 73 < q50.1 ∧ q50.2.2 73 (7:Int32).toNatClampNeg = false then
                                                                                                                                                          if xinb (7:Int32) 16 then
                                                                                                                                                            (cfl q50 81 56 (-1:Int32)).bind fun q52 =>
                                                                                                                                                            if 72 < q52.1 ∧ q52.2.2 72 3 = false then
                                                                                                                                                              if 107 < q52.1 ∧ q52.2.2 107 (7:Int32).toNatClampNeg = false then
                                                                                                                                                                if xinb (7:Int32) 16 then
                                                                                                                                                                  (cfl q52 115 56 (-1:Int32)).bind fun q53 =>
                                                                                                                                                                  if 72 < q53.1 ∧ q53.2.2 72 4 = false then
                                                                                                                                                                    if 124 < q53.1 ∧ q53.2.2 124 (7:Int32).toNatClampNeg = false then
                                                                                                                                                                      if xinb (7:Int32) 16 then
                                                                                                                                                                        (cfl q53 132 56 (-1:Int32)).bind fun q54 =>
                                                                                                                                                                        if (16:Int32) ≤ (8:Int32) then none else
                                                                                                                                                                        if 72 < q54.1 ∧ q54.2.2 72 1 = false then
                                                                                                                                                                          if 73 < q54.1 ∧ q54.2.2 73 (8:Int32).toNatClampNeg = false then
                                                                                                                                                                            if xinb (8:Int32) 16 then
                                                                                                                                                                              (cfl q54 82 56 (-1:Int32)).bind fun q56 =>
                                                                                                                                                                              if 72 < q56.1 ∧ q56.2.2 72 3 = false then
                                                                                                                                                                                if 107 < q56.1 ∧ q56.2.2 107 (8:Int32).toNatClampNeg = false then
                                                                                                                                                                                  if xinb (8:Int32) 16 then
                                                                                                                                                                                    (cfl q56 116 56 (-1:Int32)).bind fun q57 =>
                                                                                                                                                                                    if 72 < q57.1 ∧ q57.2.2 72 4 = false then
                                                                                                                                                                                      if 124 < q57.1 ∧ q57.2.2 124 (8:Int32).toNatClampNeg = false then
                                                                                                                                                                                        if xinb (8:Int32) 16 then
                                                                                                                                                                                          (cfl q57 133 56 (-1:Int32)).bind fun q58 =>
                                                                                                                                                                                          if (16:Int32) ≤ (9:Int32) then none else
                                                                                                                                                                                          if 72 < q58.1 ∧ q58.2.2 72 1 = false then
                                                                                                                                                                                            if 73 < q58.1 ∧ q58.2.2 73 (9:Int32).toNatClampNeg = false then
                                                                                                                                                                                              if xinb (9:Int32) 16 then
                                                                                                                                                                                                (cfl q58 83 56 (-1:Int32)).bind fun q60 =>
                                                                                                                                                                                                if 72 < q60.1 ∧ q60.2.2 72 3 = false then
                                                                                                                                                                                                  if 107 < q60.1 ∧ q60.2.2 107 (9:Int32).toNatClampNeg = false then
                                                                                                                                                                                                    if xinb (9:Int32) 16 then
                                                                                                                                                                                                      (cfl q60 117 56 (-1:Int32)).bind fun q61 =>
                                                                                                                                                                                                      if 72 < q61.1 ∧ q61.2.2 72 4 = false then
                                                                                                                                                                                                        if 124 < q61.1 ∧ q61.2.2 124 (9:Int32).toNatClampNeg = false then
                                                                                                                                                                                                          if xinb (9:Int32) 16 then
                                                                                                                                                                                                            (cfl q61 134 56 (-1:Int32)).bind fun q62 =>
                                                                                                                                                                                                            if (16:Int32) ≤ (10:Int32) then none else
                                                                                                                                                                                                            if 72 < q62.1 ∧ q62.2.2 72 1 = false then
                                                                                                                                                                                                              if 73 < q62.1 ∧ q62.2.2 73 (10:Int32).toNatClampNeg = false then
                                                                                                                                                                                                                if xinb (10:Int32) 16 then
                                                                                                                                                                                                                  (cfl q62 84 56 (-1:Int32)).bind fun q64 =>
                                                                                                                                                                                                                  if 72 < q64.1 ∧ q64.2.2 72 3 = false then
                                                                                                                                                                                                                    if 107 < q64.1 ∧ q64.2.2 107 (10:Int32).toNatClampNeg = false then
                                                                                                                                                                                                                      if xinb (10:Int32) 16 then
                                                                                                                                                                                                                        (cfl q64 118 56 (-1:Int32)).bind fun q65 =>
                                                                                                                                                                                                                        if 72 < q65.1 ∧ q65.2.2 72 4 = false then
                                                                                                                                                                                                                          if 124 < q65.1 ∧ q65.2.2 124 (10:Int32).toNatClampNeg = false then
                                                                                                                                                                                                                            if xinb (10:Int32) 16 then
                                                                                                                                                                                                                              (cfl q65 135 56 (-1:Int32)).bind fun q66 =>
                                                                                                                                                                                                                              if (16:Int32) ≤ (11:Int32) then none else
                                                                                                                                                                                                                              if 72 < q66.1 ∧ q66.2.2 72 1 = false then
                                                                                                                                                                                                                                if 73 < q66.1 ∧ q66.2.2 73 (11:Int32).toNatClampNeg = false then
                                                                                                                                                                                                                                  if xinb (11:Int32) 16 then
                                                                                                                                                                                                                                    (cfl q66 85 56 (-1:Int32)).bind fun q68 =>
                                                                                                                                                                                                                                    if 72 < q68.1 ∧ q68.2.2 72 3 = false then
                                                                                                                                                                                                                                      if 107 < q68.1 ∧ q68.2.2 107 (11:Int32).toNatClampNeg = false then
                                                                                                                                                                                                                                        if xinb (11:Int32) 16 then
                                                                                                                                                                                                                                          (cfl q68 119 56 (-1:Int32)).bind fun q69 =>
                                                                                                                                                                                                                                          if 72 < q69.1 ∧ q69.2.2 72 4 = false then
                                                                                                                                                                                                                                            if 124 < q69.1 ∧ q69.2.2 124 (11:Int32).toNatClampNeg = false then
                                                                                                                                                                                                                                              if xinb (11:Int32) 16 then
                                                                                                                                                                                                                                                (cfl q69 136 56 (-1:Int32)).bind fun q70 =>
                                                                                                                                                                                                                                                if (16:Int32) ≤ (12:Int32) then none else
                                                                                                                                                                                                                                                if 72 < q70.1 ∧ q70.2.2 72 1 = false then
                                                                                                                                                                                                                                                  if 73 < q70.1 ∧ q70.2.2 73 (12:Int32).toNatClampNeg = false then
                                                                                                                                                                                                                                                    if xinb (12:Int32) 16 then
                                                                                                                                                                                                                                                      (cfl q70 86 56 (-1:Int32)).bind fun q72 =>
                                                                                                                                                                                                                                                      if 72 < q72.1 ∧ q72.2.2 72 3 = false then
                                                                                                                                                                                                                                                        if 107 < q72.1 ∧ q72.2.2 107 (12:Int32).toNatClampNeg = false then
                                                                                                                                                                                                                                                          if xinb (12:Int32) 16 then
                                                                                                                                                                                                                                                            (cfl q72 120 56 (-1:Int32)).bind fun q73 =>
                                                                                                                                                                                                                                                            if 72 < q73.1 ∧ q73.2.2 72 4 = false then
                                                                                                                                                                                                                                                              if 124 < q73.1 ∧ q73.2.2 124 (12:Int32).toNatClampNeg = false then
                                                                                                                                                                                                                                                                if xinb (12:Int32) 16 then
                                                                                                                                                                                                                                                                  (cfl q73 137 56 (-1:Int32)).bind fun q74 =>
                                                                                                                                                                                                                                                                  if (16:Int32) ≤ (13:Int32) then none else
                                                                                                                                                                                                                                                                  if 72 < q74.1 ∧ q74.2.2 72 1 = false then
                                                                                                                                                                                                                                                                    if 73 < q74.1 ∧ q74.2.2 73 (13:Int32).toNatClampNeg = false then
                                                                                                                                                                                                                                                                      if xinb (13:Int32) 16 then
                                                                                                                                                                                                                                                                        (cfl q74 87 56 (-1:Int32)).bind fun q76 =>
                                                                                                                                                                                                                                                                        if 72 < q76.1 ∧ q76.2.2 72 3 = false then
                                                                                                                                                                                                                                                                          if 107 < q76.1 ∧ q76.2.2 107 (13:Int32).toNatClampNeg = false then
                                                                                                                                                                                                                                                                            if xinb (13:Int32) 16 then
                                                                                                                                                                                                                                                                              (cfl q76 121 56 (-1:Int32)).bind fun q77 =>
                                                                                                                                                                                                                                                                              if 72 < q77.1 ∧ q77.2.2 72 4 = false then
                                                                                                                                                                                                                                                                                if 124 < q77.1 ∧ q77.2.2 124 (13:Int32).toNatClampNeg = false then
                                                                                                                                                                                                                                                                                  if xinb (13:Int32) 16 then
                                                                                                                                                                                                                                                                                    (cfl q77 138 56 (-1:Int32)).bind fun q78 =>
                                                                                                                                                                                                                                                                                    if (16:Int32) ≤ (14:Int32) then none else
                                                                                                                                                                                                                                                                                    if 72 < q78.1 ∧ q78.2.2 72 1 = false then
                                                                                                                                                                                                                                                                                      if 73 < q78.1 ∧ q78.2.2 73 (14:Int32).toNatClampNeg = false then
                                                                                                                                                                                                                                                                                        if xinb (14:Int32) 16 then
                                                                                                                                                                                                                                                                                          (cfl q78 88 56 (-1:Int32)).bind fun q80 =>
                                                                                                                                                                                                                                                                                          if 72 < q80.1 ∧ q80.2.2 72 3 = false then
                                                                                                                                                                                                                                                                                            if 107 < q80.1 ∧ q80.2.2 107 (14:Int32).toNatClampNeg = false then
                                                                                                                                                                                                                                                                                              if xinb (14:Int32) 16 then
                                                                                                                                                                                                                                                                                                (cfl q80 122 56 (-1:Int32)).bind fun q81 =>
                                                                                                                                                                                                                                                                                                if 72 < q81.1 ∧ q81.2.2 72 4 = false then
                                                                                                                                                                                                                                                                                                  if 124 < q81.1 ∧ q81.2.2 124 (14:Int32).toNatClampNeg = false then
                                                                                                                                                                                                                                                                                                    if xinb (14:Int32) 16 then
                                                                                                                                                                                                                                                                                                      (cfl q81 139 56 (-1:Int32)).bind fun q82 =>
                                                                                                                                                                                                                                                                                                      if (16:Int32) ≤ (15:Int32) then none else
                                                                                                                                                                                                                                                                                                      if 72 < q82.1 ∧ q82.2.2 72 1 = false then
                                                                                                                                                                                                                                                                                                        if 73 < q82.1 ∧ q82.2.2 73 (15:Int32).toNatClampNeg = false then
                                                                                                                                                                                                                                                                                                          if xinb (15:Int32) 16 then
                                                                                                                                                                                                                                                                                                            (cfl q82 89 56 (-1:Int32)).bind fun q84 =>
                                                                                                                                                                                                                                                                                                            if 72 < q84.1 ∧ q84.2.2 72 3 = false then
                                                                                                                                                                                                                                                                                                              if 107 < q84.1 ∧ q84.2.2 107 (15:Int32).toNatClampNeg = false then
                                                                                                                                                                                                                                                                                                                if xinb (15:Int32) 16 then
                                                                                                                                                                                                                                                                                                                  (cfl q84 123 56 (-1:Int32)).bind fun q85 =>
                                                                                                                                                                                                                                                                                                                  if 72 < q85.1 ∧ q85.2.2 72 4 = false then
                                                                                                                                                                                                                                                                                                                    if 124 < q85.1 ∧ q85.2.2 124 (15:Int32).toNatClampNeg = false then
                                                                                                                                                                                                                                                                                                                      if xinb (15:Int32) 16 then
                                                                                                                                                                                                                                                                                                                        (cfl q85 140 56 (-1:Int32)).bind fun q86 =>
                                                                                                                                                                                                                                                                                                                        if (16:Int32) ≤ (16:Int32) then
                                                                                                                                                                                                                                                                                                                          some q86
                                                                                                                                                                                                                                                                                                                        else none
                                                                                                                                                                                                                                                                                                                      else none
                                                                                                                                                                                                                                                                                                                    else none
                                                                                                                                                                                                                                                                                                                  else none
                                                                                                                                                                                                                                                                                                                else none
                                                                                                                                                                                                                                                                                                              else none
                                                                                                                                                                                                                                                                                                            else none
                                                                                                                                                                                                                                                                                                          else none
                                                                                                                                                                                                                                                                                                        else none
                                                                                                                                                                                                                                                                                                      else none
                                                                                                                                                                                                                                                                                                    else none
                                                                                                                                                                                                                                                                                                  else none
                                                                                                                                                                                                                                                                                                else none
                                                                                                                                                                                                                                                                                              else none
                                                                                                                                                                                                                                                                                            else none
                                                                                                                                                                                                                                                                                          else none
                                                                                                                                                                                                                                                                                        else none
                                                                                                                                                                                                                                                                                      else none
                                                                                                                                                                                                                                                                                    else none
                                                                                                                                                                                                                                                                                  else none
                                                                                                                                                                                                                                                                                else none
                                                                                                                                                                                                                                                                              else none
                                                                                                                                                                                                                                                                            else none
                                                                                                                                                                                                                                                                          else none
                                                                                                                                                                                                                                                                        else none
                                                                                                                                                                                                                                                                      else none
                                                                                                                                                                                                                                                                    else none
                                                                                                                                                                                                                                                                  else none
                                                                                                                                                                                                                                                                else none
                                                                                                                                                                                                                                                              else none
                                                                                                                                                                                                                                                            else none
                                                                                                                                                                                                                                                          else none
                                                                                                                                                                                                                                                        else none
                                                                                                                                                                                                                                                      else none
                                                                                                                                                                                                                                                    else none
                                                                                                                                                                                                                                                  else none
                                                                                                                                                                                                                                                else none
                                                                                                                                                                                                                                              else none
                                                                                                                                                                                                                                            else none
                                                                                                                                                                                                                                          else none
                                                                                                                                                                                                                                        else none
                                                                                                                                                                                                                                      else none
                                                                                                                                                                                                                                    else none
                                                                                                                                                                                                                                  else none
                                                                                                                                                                                                                                else none
                                                                                                                                                                                                                              else none
                                                                                                                                                                                                                            else none
                                                                                                                                                                                                                          else none
                                                                                                                                                                                                                        else none
                                                                                                                                                                                                                      else none
                                                                                                                                                                                                                    else none
                                                                                                                                                                                                                  else none
                                                                                                                                                                                                                else none
                                                                                                                                                                                                              else none
                                                                                                                                                                                                            else none
                                                                                                                                                                                                          else none
                                                                                                                                                                                                        else none
                                                                                                                                                                                                      else none
                                                                                                                                                                                                    else none
                                                                                                                                                                                                  else none
                                                                                                                                                                                                else none
                                                                                                                                                                                              else none
                                                                                                                                                                                            else none
                                                                                                                                                                                          else none
                                                                                                                                                                                        else none
                                                                                                                                                                                      else none
                                                                                                                                                                                    else none
                                                                                                                                                                                  else none
                                                                                                                                                                                else none
                                                                                                                                                                              else none
                                                                                                                                                                            else none
                                                                                                                                                                          else none
                                                                                                                                                                        else none
                                                                                                                                                                      else none
                                                                                                                                                                    else none
                                                                                                                                                                  else none
                                                                                                                                                                else none
                                                                                                                                                              else none
                                                                                                                                                            else none
                                                                                                                                                          else none
                                                                                                                                                        else none
                                                                                                                                                      else none
                                                                                                                                                    else none
                                                                                                                                                  else none
                                                                                                                                                else none
                                                                                                                                              else none
                                                                                                                                            else none
                                                                                                                                          else none
                                                                                                                                        else none
                                                                                                                                      else none
                                                                                                                                    else none
                                                                                                                                  else none
                                                                                                                                else none
                                                                                                                              else none
                                                                                                                            else none
                                                                                                                          else none
                                                                                                                        else none
                                                                                                                      else none
                                                                                                                    else none
                                                                                                                  else none
                                                                                                                else none
                                                                                                              else none
                                                                                                            else none
                                                                                                          else none
                                                                                                        else none
                                                                                                      else none
                                                                                                    else none
                                                                                                  else none
                                                                                                else none
                                                                                              else none
                                                                                            else none
                                                                                          else none
                                                                                        else none
                                                                                      else none
                                                                                    else none
                                                                                  else none
                                                                                else none
                                                                              else none
                                                                            else none
                                                                          else none
                                                                        else none
                                                                      else none
                                                                    else none
                                                                  else none
                                                                else none
                                                              else none
                                                            else none
                                                          else none
                                                        else none
                                                      else none
                                                    else none
                                                  else none
                                                else none
                                              else none
                                            else none
                                          else none
                                        else none
                                      else none
                                    else none
                                  else none
                                else none
                              else none
                            else none
                          else none
                        else none
                      else none
                    else none
                  else none
                else none
              else none
            else none
          else none
        else none
      else none
    else none
  else none

set_option maxRecDepth 100000 in
def fX2_init (c : Nat) (C : xPw) : Option xPw :=
  if C.1 = (c + 1) then
    bd (cnew C) fun m1 =>
    if c < m1.1 then
      bd (cput m1 c 0) fun m3 =>
      if m3.1 = (c + 2) then
        bd (cnew m3) fun m5 =>
        if c < m5.1 then
          bd (cput m5 c 1) fun m7 =>
          some m7
        else none
      else none
    else none
  else none

set_option maxRecDepth 100000 in
def fX5_init  (C : xPw) : Option xPw :=
  if C.1 = 143 then
    bd (cnew C) fun m1 =>
    (fX2_init 143 m1).bind fun q3 =>
    if 142 < q3.1 then
      bd (cput q3 142 1) fun m4 =>
      if 142 < m4.1 then
        bd (cput m4 142 0) fun m6 =>
        some m6
      else none
    else none
  else none

set_option maxRecDepth 100000 in
def fX8_init (k : Nat) (C : xPw) : Option xPw :=
  if C.1 = (148 + 2 * k + 1) then
    bd (cnew C) fun m1 =>
    if (148 + 2 * k) < m1.1 then
      bd (cput m1 (148 + 2 * k) 0) fun m3 =>
      some m3
    else none
  else none

set_option maxRecDepth 100000 in
def fX4_init  (C : xPw) : Option xPw :=
  if C.1 = 147 then
    bd (cnew C) fun m1 =>
    if 146 < m1.1 then
      bd (cput m1 146 1) fun m3 =>
      if 146 < m3.1 then
        bd (cput m3 146 0) fun m5 =>
        if (8:Int32) ≤ (0:Int32) then none else
        if 146 < m5.1 ∧ m5.2.2 146 1 = false then
          if m5.1 = 148 then
            bd (cnew m5) fun m8 =>
            (fX8_init 0 m8).bind fun q10 =>
            if 147 < q10.1 ∧ 148 < q10.1 ∧ xinb (0:Int32) 8 = true then
              bd (cput q10 147 (0:Int32).toNatClampNeg) fun m11 =>
              if (8:Int32) ≤ (1:Int32) then none else
              if 146 < m11.1 ∧ m11.2.2 146 1 = false then
                if m11.1 = 150 then
                  bd (cnew m11) fun m14 =>
                  (fX8_init 1 m14).bind fun q16 =>
                  if 147 < q16.1 ∧ 150 < q16.1 ∧ xinb (1:Int32) 8 = true then
                    bd (cput q16 147 (1:Int32).toNatClampNeg) fun m17 =>
                    if (8:Int32) ≤ (2:Int32) then none else
                    if 146 < m17.1 ∧ m17.2.2 146 1 = false then
                      if m17.1 = 152 then
                        bd (cnew m17) fun m20 =>
                        (fX8_init 2 m20).bind fun q22 =>
                        if 147 < q22.1 ∧ 152 < q22.1 ∧ xinb (2:Int32) 8 = true then
                          bd (cput q22 147 (2:Int32).toNatClampNeg) fun m23 =>
                          if (8:Int32) ≤ (3:Int32) then none else
                          if 146 < m23.1 ∧ m23.2.2 146 1 = false then
                            if m23.1 = 154 then
                              bd (cnew m23) fun m26 =>
                              (fX8_init 3 m26).bind fun q28 =>
                              if 147 < q28.1 ∧ 154 < q28.1 ∧ xinb (3:Int32) 8 = true then
                                bd (cput q28 147 (3:Int32).toNatClampNeg) fun m29 =>
                                if (8:Int32) ≤ (4:Int32) then none else
                                if 146 < m29.1 ∧ m29.2.2 146 1 = false then
                                  if m29.1 = 156 then
                                    bd (cnew m29) fun m32 =>
                                    (fX8_init 4 m32).bind fun q34 =>
                                    if 147 < q34.1 ∧ 156 < q34.1 ∧ xinb (4:Int32) 8 = true then
                                      bd (cput q34 147 (4:Int32).toNatClampNeg) fun m35 =>
                                      if (8:Int32) ≤ (5:Int32) then none else
                                      if 146 < m35.1 ∧ m35.2.2 146 1 = false then
                                        if m35.1 = 158 then
                                          bd (cnew m35) fun m38 =>
                                          (fX8_init 5 m38).bind fun q40 =>
                                          if 147 < q40.1 ∧ 158 < q40.1 ∧ xinb (5:Int32) 8 = true then
                                            bd (cput q40 147 (5:Int32).toNatClampNeg) fun m41 =>
                                            if (8:Int32) ≤ (6:Int32) then none else
                                            if 146 < m41.1 ∧ m41.2.2 146 1 = false then
                                              if m41.1 = 160 then
                                                bd (cnew m41) fun m44 =>
                                                (fX8_init 6 m44).bind fun q46 =>
                                                if 147 < q46.1 ∧ 160 < q46.1 ∧ xinb (6:Int32) 8 = true then
                                                  bd (cput q46 147 (6:Int32).toNatClampNeg) fun m47 =>
                                                  if (8:Int32) ≤ (7:Int32) then none else
                                                  if 146 < m47.1 ∧ m47.2.2 146 1 = false then
                                                    if m47.1 = 162 then
                                                      bd (cnew m47) fun m50 =>
                                                      (fX8_init 7 m50).bind fun q52 =>
                                                      if 147 < q52.1 ∧ 162 < q52.1 ∧ xinb (7:Int32) 8 = true then
                                                        bd (cput q52 147 (7:Int32).toNatClampNeg) fun m53 =>
                                                        if (8:Int32) ≤ (8:Int32) then
                                                          some m53
                                                        else none
                                                      else none
                                                    else none
                                                  else none
                                                else none
                                              else none
                                            else none
                                          else none
                                        else none
                                      else none
                                    else none
                                  else none
                                else none
                              else none
                            else none
                          else none
                        else none
                      else none
                    else none
                  else none
                else none
              else none
            else none
          else none
        else none
      else none
    else none
  else none

set_option maxRecDepth 100000 in
def fX1_init  (C : xPw) : Option xPw :=
  if C.1 = 165 then
    bd (cnew C) fun m1 =>
    (fX2_init 165 m1).bind fun q3 =>
    if 164 < q3.1 then
      bd (cput q3 164 1) fun m4 =>
      if m4.1 = 168 then
        bd (cnew m4) fun m6 =>
        if 164 < m6.1 then
          bd (cput m6 164 2) fun m8 =>
          if m8.1 = 169 then
            bd (cnew m8) fun m10 =>
            if 164 < m10.1 then
              bd (cput m10 164 3) fun m12 =>
              if 164 < m12.1 then
                bd (cput m12 164 0) fun m14 =>
                some m14
              else none
            else none
          else none
        else none
      else none
    else none
  else none

set_option maxRecDepth 100000 in
def fX9_init  (C : xPw) : Option xPw :=
  if C.1 = 1 then
    bd (cnew C) fun m1 =>
    (fX6_init m1).bind fun q3 =>
    if 0 < q3.1 then
      bd (cput q3 0 0) fun m4 =>
      if m4.1 = 72 then
        bd (cnew m4) fun m6 =>
        if 0 < m6.1 ∧ m6.2.2 0 0 = false then
          (fX0_init m6).bind fun q8 =>
          if 0 < q8.1 then
            bd (cput q8 0 1) fun m9 =>
            if m9.1 = 142 then
              bd (cnew m9) fun m11 =>
              if 0 < m11.1 ∧ m11.2.2 0 0 = false then
                (fX5_init m11).bind fun q13 =>
                if 0 < q13.1 then
                  bd (cput q13 0 2) fun m14 =>
                  if m14.1 = 146 then
                    bd (cnew m14) fun m16 =>
                    if 0 < m16.1 ∧ m16.2.2 0 0 = false then
                      (fX4_init m16).bind fun q18 =>
                      if 0 < q18.1 then
                        bd (cput q18 0 3) fun m19 =>
                        if m19.1 = 164 then
                          bd (cnew m19) fun m21 =>
                          if 0 < m21.1 ∧ m21.2.2 0 0 = false then
                            (fX1_init m21).bind fun q23 =>
                            if 0 < q23.1 then
                              bd (cput q23 0 4) fun m24 =>
                              some m24
                            else none
                          else none
                        else none
                      else none
                    else none
                  else none
                else none
              else none
            else none
          else none
        else none
      else none
    else none
  else none

set_option maxRecDepth 100000 in
def fX10_init  (C : xPw) : Option xPw :=
  if C.1 = 171 then
    bd (cnew C) fun m1 =>
    if 171 < m1.1 then
      if xinb (0:Int32) 16 then
        bd (cwr m1 171 (0:Int32).toNatClampNeg (-1:Int32)) fun m3 =>
        if 171 < m3.1 then
          if xinb (1:Int32) 16 then
            bd (cwr m3 171 (1:Int32).toNatClampNeg (-1:Int32)) fun m5 =>
            if 171 < m5.1 then
              if xinb (2:Int32) 16 then
                bd (cwr m5 171 (2:Int32).toNatClampNeg (-1:Int32)) fun m7 =>
                if 171 < m7.1 then
                  if xinb (3:Int32) 16 then
                    bd (cwr m7 171 (3:Int32).toNatClampNeg (-1:Int32)) fun m9 =>
                    if 171 < m9.1 then
                      if xinb (4:Int32) 16 then
                        bd (cwr m9 171 (4:Int32).toNatClampNeg (-1:Int32)) fun m11 =>
                        if 171 < m11.1 then
                          if xinb (5:Int32) 16 then
                            bd (cwr m11 171 (5:Int32).toNatClampNeg (-1:Int32)) fun m13 =>
                            if 171 < m13.1 then
                              if xinb (6:Int32) 16 then
                                bd (cwr m13 171 (6:Int32).toNatClampNeg (-1:Int32)) fun m15 =>
                                if 171 < m15.1 then
                                  if xinb (7:Int32) 16 then
                                    bd (cwr m15 171 (7:Int32).toNatClampNeg (-1:Int32)) fun m17 =>
                                    if 171 < m17.1 then
                                      if xinb (8:Int32) 16 then
                                        bd (cwr m17 171 (8:Int32).toNatClampNeg (-1:Int32)) fun m19 =>
                                        if 171 < m19.1 then
                                          if xinb (9:Int32) 16 then
                                            bd (cwr m19 171 (9:Int32).toNatClampNeg (-1:Int32)) fun m21 =>
                                            if 171 < m21.1 then
                                              if xinb (10:Int32) 16 then
                                                bd (cwr m21 171 (10:Int32).toNatClampNeg (-1:Int32)) fun m23 =>
                                                if 171 < m23.1 then
                                                  if xinb (11:Int32) 16 then
                                                    bd (cwr m23 171 (11:Int32).toNatClampNeg (-1:Int32)) fun m25 =>
                                                    if 171 < m25.1 then
                                                      if xinb (12:Int32) 16 then
                                                        bd (cwr m25 171 (12:Int32).toNatClampNeg (-1:Int32)) fun m27 =>
                                                        if 171 < m27.1 then
                                                          if xinb (13:Int32) 16 then
                                                            bd (cwr m27 171 (13:Int32).toNatClampNeg (-1:Int32)) fun m29 =>
                                                            if 171 < m29.1 then
                                                              if xinb (14:Int32) 16 then
                                                                bd (cwr m29 171 (14:Int32).toNatClampNeg (-1:Int32)) fun m31 =>
                                                                if 171 < m31.1 then
                                                                  if xinb (15:Int32) 16 then
                                                                    bd (cwr m31 171 (15:Int32).toNatClampNeg (-1:Int32)) fun m33 =>
                                                                    if 170 < m33.1 then
                                                                      bd (cput m33 170 0) fun m35 =>
                                                                      if m35.1 = 172 then
                                                                        bd (cnew m35) fun m37 =>
                                                                        if 170 < m37.1 then
                                                                          bd (cput m37 170 1) fun m39 =>
                                                                          if m39.1 = 173 then
                                                                            bd (cnew m39) fun m41 =>
                                                                            if 170 < m41.1 then
                                                                              bd (cput m41 170 2) fun m43 =>
                                                                              if m43.1 = 174 then
                                                                                bd (cnew m43) fun m45 =>
                                                                                if 170 < m45.1 then
                                                                                  bd (cput m45 170 3) fun m47 =>
                                                                                  if m47.1 = 175 then
                                                                                    bd (cnew m47) fun m49 =>
                                                                                    if 170 < m49.1 then
                                                                                      bd (cput m49 170 4) fun m51 =>
                                                                                      if m51.1 = 176 then
                                                                                        bd (cnew m51) fun m53 =>
                                                                                        if 170 < m53.1 then
                                                                                          bd (cput m53 170 5) fun m55 =>
                                                                                          if m55.1 = 177 then
                                                                                            bd (cnew m55) fun m57 =>
                                                                                            if 170 < m57.1 then
                                                                                              bd (cput m57 170 6) fun m59 =>
                                                                                              if m59.1 = 178 then
                                                                                                bd (cnew m59) fun m61 =>
                                                                                                if 170 < m61.1 then
                                                                                                  bd (cput m61 170 7) fun m63 =>
                                                                                                  if m63.1 = 179 then
                                                                                                    bd (cnew m63) fun m65 =>
                                                                                                    if 170 < m65.1 then
                                                                                                      bd (cput m65 170 8) fun m67 =>
                                                                                                      if m67.1 = 180 then
                                                                                                        bd (cnew m67) fun m69 =>
                                                                                                        if 170 < m69.1 then
                                                                                                          bd (cput m69 170 9) fun m71 =>
                                                                                                          if m71.1 = 181 then
                                                                                                            bd (cnew m71) fun m73 =>
                                                                                                            if 170 < m73.1 then
                                                                                                              bd (cput m73 170 10) fun m75 =>
                                                                                                              if m75.1 = 182 then
                                                                                                                bd (cnew m75) fun m77 =>
                                                                                                                if 170 < m77.1 then
                                                                                                                  bd (cput m77 170 11) fun m79 =>
                                                                                                                  if m79.1 = 183 then
                                                                                                                    bd (cnew m79) fun m81 =>
                                                                                                                    if 170 < m81.1 then
                                                                                                                      bd (cput m81 170 12) fun m83 =>
                                                                                                                      if m83.1 = 184 then
                                                                                                                        bd (cnew m83) fun m85 =>
                                                                                                                        if 170 < m85.1 then
                                                                                                                          bd (cput m85 170 13) fun m87 =>
                                                                                                                          if 170 < m87.1 then
                                                                                                                            bd (cwr m87 170 16 (2000:Int32)) fun m89 =>
                                                                                                                            if 170 < m89.1 then
                                                                                                                              bd (cwr m89 170 17 (4:Int32)) fun m91 =>
                                                                                                                              if 170 < m91.1 then
                                                                                                                                bd (cwr m91 170 18 (10:Int32)) fun m93 =>
                                                                                                                                if 170 < m93.1 then
                                                                                                                                  bd (cwr m93 170 19 (20:Int32)) fun m95 =>
                                                                                                                                  if m95.1 = 185 then
                                                                                                                                    bd (cnew m95) fun m97 =>
                                                                                                                                    if 185 < m97.1 then
                                                                                                                                      if xinb (0:Int32) 8 then
                                                                                                                                        bd (cwr m97 185 (0:Int32).toNatClampNeg (1:Int32)) fun m99 =>
                                                                                                                                        if 185 < m99.1 then
                                                                                                                                          if xinb (1:Int32) 8 then
                                                                                                                                            bd (cwr m99 185 (1:Int32).toNatClampNeg (0:Int32)) fun m101 =>
                                                                                                                                            if 185 < m101.1 then
                                                                                                                                              if xinb (2:Int32) 8 then
                                                                                                                                                bd (cwr m101 185 (2:Int32).toNatClampNeg (0:Int32)) fun m103 =>
                                                                                                                                                if 185 < m103.1 then
                                                                                                                                                  if xinb (3:Int32) 8 then
                                                                                                                                                    bd (cwr m103 185 (3:Int32).toNatClampNeg (0:Int32)) fun m105 =>
                                                                                                                                                    if 185 < m105.1 then
                                                                                                                                                      if xinb (4:Int32) 8 then
                                                                                                                                                        bd (cwr m105 185 (4:Int32).toNatClampNeg (0:Int32)) fun m107 =>
                                                                                                                                                        if 185 < m107.1 then
                                                                                                                                                          if xinb (5:Int32) 8 then
                                                                                                                                                            bd (cwr m107 185 (5:Int32).toNatClampNeg (0:Int32)) fun m109 =>
                                                                                                                                                            if 185 < m109.1 then
                                                                                                                                                              if xinb (6:Int32) 8 then
                                                                                                                                                                bd (cwr m109 185 (6:Int32).toNatClampNeg (0:Int32)) fun m111 =>
                                                                                                                                                                if 185 < m111.1 then
                                                                                                                                                                  if xinb (7:Int32) 8 then
                                                                                                                                                                    bd (cwr m111 185 (7:Int32).toNatClampNeg (0:Int32)) fun m113 =>
                                                                                                                                                                    if 170 < m113.1 then
                                                                                                                                                                      bd (cput m113 170 20) fun m115 =>
                                                                                                                                                                      if m115.1 = 186 then
                                                                                                                                                                        bd (cnew m115) fun m117 =>
                                                                                                                                                                        if 170 < m117.1 then
                                                                                                                                                                          bd (cput m117 170 21) fun m119 =>
                                                                                                                                                                          if m119.1 = 187 then
                                                                                                                                                                            bd (cnew m119) fun m121 =>
                                                                                                                                                                            if 170 < m121.1 then
                                                                                                                                                                              bd (cput m121 170 22) fun m123 =>
                                                                                                                                                                              if m123.1 = 188 then
                                                                                                                                                                                bd (cnew m123) fun m125 =>
                                                                                                                                                                                if 170 < m125.1 then
                                                                                                                                                                                  bd (cput m125 170 23) fun m127 =>
                                                                                                                                                                                  if m127.1 = 189 then
                                                                                                                                                                                    bd (cnew m127) fun m129 =>
                                                                                                                                                                                    if 170 < m129.1 then
                                                                                                                                                                                      bd (cput m129 170 24) fun m131 =>
                                                                                                                                                                                      if m131.1 = 190 then
                                                                                                                                                                                        bd (cnew m131) fun m133 =>
                                                                                                                                                                                        if 170 < m133.1 then
                                                                                                                                                                                          bd (cput m133 170 25) fun m135 =>
                                                                                                                                                                                          some m135
                                                                                                                                                                                        else none
                                                                                                                                                                                      else none
                                                                                                                                                                                    else none
                                                                                                                                                                                  else none
                                                                                                                                                                                else none
                                                                                                                                                                              else none
                                                                                                                                                                            else none
                                                                                                                                                                          else none
                                                                                                                                                                        else none
                                                                                                                                                                      else none
                                                                                                                                                                    else none
                                                                                                                                                                  else none
                                                                                                                                                                else none
                                                                                                                                                              else none
                                                                                                                                                            else none
                                                                                                                                                          else none
                                                                                                                                                        else none
                                                                                                                                                      else none
                                                                                                                                                    else none
                                                                                                                                                  else none
                                                                                                                                                else none
                                                                                                                                              else none
                                                                                                                                            else none
                                                                                                                                          else none
                                                                                                                                        else none
                                                                                                                                      else none
                                                                                                                                    else none
                                                                                                                                  else none
                                                                                                                                else none
                                                                                                                              else none
                                                                                                                            else none
                                                                                                                          else none
                                                                                                                        else none
                                                                                                                      else none
                                                                                                                    else none
                                                                                                                  else none
                                                                                                                else none
                                                                                                              else none
                                                                                                            else none
                                                                                                          else none
                                                                                                        else none
                                                                                                      else none
                                                                                                    else none
                                                                                                  else none
                                                                                                else none
                                                                                              else none
                                                                                            else none
                                                                                          else none
                                                                                        else none
                                                                                      else none
                                                                                    else none
                                                                                  else none
                                                                                else none
                                                                              else none
                                                                            else none
                                                                          else none
                                                                        else none
                                                                      else none
                                                                    else none
                                                                  else none
                                                                else none
                                                              else none
                                                            else none
                                                          else none
                                                        else none
                                                      else none
                                                    else none
                                                  else none
                                                else none
                                              else none
                                            else none
                                          else none
                                        else none
                                      else none
                                    else none
                                  else none
                                else none
                              else none
                            else none
                          else none
                        else none
                      else none
                    else none
                  else none
                else none
              else none
            else none
          else none
        else none
      else none
    else none
  else none

