-- ===== PART A: goes FIRST, ahead of the names: the tables' words, and 'selects' of the private methods out of them =====
/-- a private method of a class that the tables say can be made, by its rows of tables_1 -/
def lw_okq (q : MethodName × Nat) : Prop := (q.1.cls ≠ "java/lang/invoke/MethodHandle" ∧ q.1.cls ≠ "java/lang/invoke/VarHandle") ∧ Cond.instantiable q.1.cls q.2 ∈ tables_1 ∧ Cond.privateMethod q.1 ∈ tables_1 ∧ Cond.instanceMethod q.1 ∈ tables_1
theorem lw_p0 : lw_okq (⟨"RainOffice", "gaugeFault", "(I)I"⟩, 5) := ⟨⟨by decide +kernel, by decide +kernel⟩, List.mem_of_getElem? (i := 15) (by decide +kernel), List.mem_of_getElem? (i := 313) (by decide +kernel), List.mem_of_getElem? (i := 314) (by decide +kernel)⟩
theorem lw_p1 : lw_okq (⟨"RainOffice", "kindFault", "(II)I"⟩, 5) := ⟨⟨by decide +kernel, by decide +kernel⟩, List.mem_of_getElem? (i := 15) (by decide +kernel), List.mem_of_getElem? (i := 324) (by decide +kernel), List.mem_of_getElem? (i := 325) (by decide +kernel)⟩
theorem lw_p2 : lw_okq (⟨"RainOffice", "noteSecond", "(III)I"⟩, 5) := ⟨⟨by decide +kernel, by decide +kernel⟩, List.mem_of_getElem? (i := 15) (by decide +kernel), List.mem_of_getElem? (i := 328) (by decide +kernel), List.mem_of_getElem? (i := 329) (by decide +kernel)⟩
theorem lw_p3 : lw_okq (⟨"RainOffice", "dailyGaugeFault", "(I)I"⟩, 5) := ⟨⟨by decide +kernel, by decide +kernel⟩, List.mem_of_getElem? (i := 15) (by decide +kernel), List.mem_of_getElem? (i := 352) (by decide +kernel), List.mem_of_getElem? (i := 353) (by decide +kernel)⟩
theorem lw_p4 : lw_okq (⟨"RainOffice", "gaugeDayFault", "(II)I"⟩, 5) := ⟨⟨by decide +kernel, by decide +kernel⟩, List.mem_of_getElem? (i := 15) (by decide +kernel), List.mem_of_getElem? (i := 380) (by decide +kernel), List.mem_of_getElem? (i := 381) (by decide +kernel)⟩
theorem lw_p5 : lw_okq (⟨"RainOffice$Place", "numberTipped", "(I)I"⟩, 9) := ⟨⟨by decide +kernel, by decide +kernel⟩, List.mem_of_getElem? (i := 60) (by decide +kernel), List.mem_of_getElem? (i := 398) (by decide +kernel), List.mem_of_getElem? (i := 399) (by decide +kernel)⟩
theorem lw_p6 : lw_okq (⟨"RainOffice$Place", "numberTwinned", "(I)I"⟩, 9) := ⟨⟨by decide +kernel, by decide +kernel⟩, List.mem_of_getElem? (i := 60) (by decide +kernel), List.mem_of_getElem? (i := 402) (by decide +kernel), List.mem_of_getElem? (i := 403) (by decide +kernel)⟩
theorem lw_p7 : lw_okq (⟨"RainOffice", "openBooks", "()LRainOffice$Books;"⟩, 5) := ⟨⟨by decide +kernel, by decide +kernel⟩, List.mem_of_getElem? (i := 15) (by decide +kernel), List.mem_of_getElem? (i := 414) (by decide +kernel), List.mem_of_getElem? (i := 415) (by decide +kernel)⟩
theorem lw_p8 : lw_okq (⟨"RainOffice$Books", "writeTrust", "(II)V"⟩, 7) := ⟨⟨by decide +kernel, by decide +kernel⟩, List.mem_of_getElem? (i := 143) (by decide +kernel), List.mem_of_getElem? (i := 430) (by decide +kernel), List.mem_of_getElem? (i := 431) (by decide +kernel)⟩
theorem lw_p9 : lw_okq (⟨"RainOffice$Books", "doubtingRule", "(II)I"⟩, 7) := ⟨⟨by decide +kernel, by decide +kernel⟩, List.mem_of_getElem? (i := 143) (by decide +kernel), List.mem_of_getElem? (i := 434) (by decide +kernel), List.mem_of_getElem? (i := 435) (by decide +kernel)⟩
theorem lw_p10 : lw_okq (⟨"RainOffice$Books", "isDryAmongWet", "(II)Z"⟩, 7) := ⟨⟨by decide +kernel, by decide +kernel⟩, List.mem_of_getElem? (i := 143) (by decide +kernel), List.mem_of_getElem? (i := 442) (by decide +kernel), List.mem_of_getElem? (i := 443) (by decide +kernel)⟩
theorem lw_p11 : lw_okq (⟨"RainOffice$Books", "writeSpread", "(II)V"⟩, 7) := ⟨⟨by decide +kernel, by decide +kernel⟩, List.mem_of_getElem? (i := 143) (by decide +kernel), List.mem_of_getElem? (i := 456) (by decide +kernel), List.mem_of_getElem? (i := 457) (by decide +kernel)⟩
theorem lw_p12 : lw_okq (⟨"RainOffice$Books", "spread", "(III)V"⟩, 7) := ⟨⟨by decide +kernel, by decide +kernel⟩, List.mem_of_getElem? (i := 143) (by decide +kernel), List.mem_of_getElem? (i := 460) (by decide +kernel), List.mem_of_getElem? (i := 461) (by decide +kernel)⟩
theorem lw_p13 : lw_okq (⟨"RainOffice$Books", "nearestTrusted", "(III)I"⟩, 7) := ⟨⟨by decide +kernel, by decide +kernel⟩, List.mem_of_getElem? (i := 143) (by decide +kernel), List.mem_of_getElem? (i := 464) (by decide +kernel), List.mem_of_getElem? (i := 465) (by decide +kernel)⟩
theorem lw_p14 : lw_okq (⟨"RainOffice$Books", "isTrustedThrough", "(III)Z"⟩, 7) := ⟨⟨by decide +kernel, by decide +kernel⟩, List.mem_of_getElem? (i := 143) (by decide +kernel), List.mem_of_getElem? (i := 468) (by decide +kernel), List.mem_of_getElem? (i := 469) (by decide +kernel)⟩
theorem lw_p15 : lw_okq (⟨"RainOffice$Books", "sumTrusted", "(III)I"⟩, 7) := ⟨⟨by decide +kernel, by decide +kernel⟩, List.mem_of_getElem? (i := 143) (by decide +kernel), List.mem_of_getElem? (i := 472) (by decide +kernel), List.mem_of_getElem? (i := 473) (by decide +kernel)⟩
def lw_privs_1 : List (MethodName × Nat) := [(⟨"RainOffice", "gaugeFault", "(I)I"⟩, 5), (⟨"RainOffice", "kindFault", "(II)I"⟩, 5), (⟨"RainOffice", "noteSecond", "(III)I"⟩, 5), (⟨"RainOffice", "dailyGaugeFault", "(I)I"⟩, 5), (⟨"RainOffice", "gaugeDayFault", "(II)I"⟩, 5), (⟨"RainOffice$Place", "numberTipped", "(I)I"⟩, 9), (⟨"RainOffice$Place", "numberTwinned", "(I)I"⟩, 9), (⟨"RainOffice", "openBooks", "()LRainOffice$Books;"⟩, 5), (⟨"RainOffice$Books", "writeTrust", "(II)V"⟩, 7), (⟨"RainOffice$Books", "doubtingRule", "(II)I"⟩, 7), (⟨"RainOffice$Books", "isDryAmongWet", "(II)Z"⟩, 7), (⟨"RainOffice$Books", "writeSpread", "(II)V"⟩, 7), (⟨"RainOffice$Books", "spread", "(III)V"⟩, 7), (⟨"RainOffice$Books", "nearestTrusted", "(III)I"⟩, 7), (⟨"RainOffice$Books", "isTrustedThrough", "(III)Z"⟩, 7), (⟨"RainOffice$Books", "sumTrusted", "(III)I"⟩, 7)]
theorem lw_r1 : ∀ q ∈ lw_privs_1, lw_okq q := List.forall_mem_cons.mpr ⟨lw_p0, List.forall_mem_cons.mpr ⟨lw_p1, List.forall_mem_cons.mpr ⟨lw_p2, List.forall_mem_cons.mpr ⟨lw_p3, List.forall_mem_cons.mpr ⟨lw_p4, List.forall_mem_cons.mpr ⟨lw_p5, List.forall_mem_cons.mpr ⟨lw_p6, List.forall_mem_cons.mpr ⟨lw_p7, List.forall_mem_cons.mpr ⟨lw_p8, List.forall_mem_cons.mpr ⟨lw_p9, List.forall_mem_cons.mpr ⟨lw_p10, List.forall_mem_cons.mpr ⟨lw_p11, List.forall_mem_cons.mpr ⟨lw_p12, List.forall_mem_cons.mpr ⟨lw_p13, List.forall_mem_cons.mpr ⟨lw_p14, List.forall_mem_cons.mpr ⟨lw_p15, fun _ h => absurd h List.not_mem_nil⟩⟩⟩⟩⟩⟩⟩⟩⟩⟩⟩⟩⟩⟩⟩⟩
theorem lw_p16 : lw_okq (⟨"RainOffice$Books", "spreadRest", "(IIII)V"⟩, 7) := ⟨⟨by decide +kernel, by decide +kernel⟩, List.mem_of_getElem? (i := 143) (by decide +kernel), List.mem_of_getElem? (i := 476) (by decide +kernel), List.mem_of_getElem? (i := 477) (by decide +kernel)⟩
theorem lw_p17 : lw_okq (⟨"RainOffice$Mender", "thousandthsBy", "(LRainOffice$Books;III)J"⟩, 2) := ⟨⟨by decide +kernel, by decide +kernel⟩, List.mem_of_getElem? (i := 175) (by decide +kernel), List.mem_of_getElem? (i := 526) (by decide +kernel), List.mem_of_getElem? (i := 527) (by decide +kernel)⟩
theorem lw_p18 : lw_okq (⟨"RainOffice$Breaks", "gatherNeighbours", "(I)V"⟩, 4) := ⟨⟨by decide +kernel, by decide +kernel⟩, List.mem_of_getElem? (i := 241) (by decide +kernel), List.mem_of_getElem? (i := 605) (by decide +kernel), List.mem_of_getElem? (i := 606) (by decide +kernel)⟩
theorem lw_p19 : lw_okq (⟨"RainOffice$Breaks", "sumOfNeighbours", "(LRainOffice$Books;I)I"⟩, 4) := ⟨⟨by decide +kernel, by decide +kernel⟩, List.mem_of_getElem? (i := 241) (by decide +kernel), List.mem_of_getElem? (i := 615) (by decide +kernel), List.mem_of_getElem? (i := 616) (by decide +kernel)⟩
theorem lw_p20 : lw_okq (⟨"RainOffice$Breaks", "missesOfPart", "(II)J"⟩, 4) := ⟨⟨by decide +kernel, by decide +kernel⟩, List.mem_of_getElem? (i := 241) (by decide +kernel), List.mem_of_getElem? (i := 636) (by decide +kernel), List.mem_of_getElem? (i := 637) (by decide +kernel)⟩
theorem lw_p21 : lw_okq (⟨"RainOfficeModel", "fails", "(III)I"⟩, 26) := ⟨⟨by decide +kernel, by decide +kernel⟩, List.mem_of_getElem? (i := 650) (by decide +kernel), List.mem_of_getElem? (i := 750) (by decide +kernel), List.mem_of_getElem? (i := 751) (by decide +kernel)⟩
theorem lw_p22 : lw_okq (⟨"RainOfficeModel", "raw0", "(II)I"⟩, 26) := ⟨⟨by decide +kernel, by decide +kernel⟩, List.mem_of_getElem? (i := 650) (by decide +kernel), List.mem_of_getElem? (i := 794) (by decide +kernel), List.mem_of_getElem? (i := 795) (by decide +kernel)⟩
theorem lw_p23 : lw_okq (⟨"RainOfficeModel", "rawAt", "(III)I"⟩, 26) := ⟨⟨by decide +kernel, by decide +kernel⟩, List.mem_of_getElem? (i := 650) (by decide +kernel), List.mem_of_getElem? (i := 798) (by decide +kernel), List.mem_of_getElem? (i := 799) (by decide +kernel)⟩
theorem lw_p24 : lw_okq (⟨"RainOfficeModel", "isGauge", "(I)Z"⟩, 26) := ⟨⟨by decide +kernel, by decide +kernel⟩, List.mem_of_getElem? (i := 650) (by decide +kernel), List.mem_of_getElem? (i := 802) (by decide +kernel), List.mem_of_getElem? (i := 803) (by decide +kernel)⟩
theorem lw_p25 : lw_okq (⟨"RainOfficeModel", "byHand", "(III)I"⟩, 26) := ⟨⟨by decide +kernel, by decide +kernel⟩, List.mem_of_getElem? (i := 650) (by decide +kernel), List.mem_of_getElem? (i := 806) (by decide +kernel), List.mem_of_getElem? (i := 807) (by decide +kernel)⟩
theorem lw_p26 : lw_okq (⟨"RainOfficeModel", "tipped", "(II)I"⟩, 26) := ⟨⟨by decide +kernel, by decide +kernel⟩, List.mem_of_getElem? (i := 650) (by decide +kernel), List.mem_of_getElem? (i := 810) (by decide +kernel), List.mem_of_getElem? (i := 811) (by decide +kernel)⟩
theorem lw_p27 : lw_okq (⟨"RainOfficeModel", "doubt", "(II)I"⟩, 26) := ⟨⟨by decide +kernel, by decide +kernel⟩, List.mem_of_getElem? (i := 650) (by decide +kernel), List.mem_of_getElem? (i := 822) (by decide +kernel), List.mem_of_getElem? (i := 823) (by decide +kernel)⟩
theorem lw_p28 : lw_okq (⟨"RainOfficeModel", "far", "(III)I"⟩, 26) := ⟨⟨by decide +kernel, by decide +kernel⟩, List.mem_of_getElem? (i := 650) (by decide +kernel), List.mem_of_getElem? (i := 826) (by decide +kernel), List.mem_of_getElem? (i := 827) (by decide +kernel)⟩
theorem lw_p29 : lw_okq (⟨"RainOfficeModel", "bys", "(II)I"⟩, 26) := ⟨⟨by decide +kernel, by decide +kernel⟩, List.mem_of_getElem? (i := 650) (by decide +kernel), List.mem_of_getElem? (i := 834) (by decide +kernel), List.mem_of_getElem? (i := 835) (by decide +kernel)⟩
theorem lw_p30 : lw_okq (⟨"RainOfficeModel", "rows", "(I)I"⟩, 26) := ⟨⟨by decide +kernel, by decide +kernel⟩, List.mem_of_getElem? (i := 650) (by decide +kernel), List.mem_of_getElem? (i := 838) (by decide +kernel), List.mem_of_getElem? (i := 839) (by decide +kernel)⟩
theorem lw_p31 : lw_okq (⟨"RainOfficeModel", "trusted", "(II)I"⟩, 26) := ⟨⟨by decide +kernel, by decide +kernel⟩, List.mem_of_getElem? (i := 650) (by decide +kernel), List.mem_of_getElem? (i := 842) (by decide +kernel), List.mem_of_getElem? (i := 843) (by decide +kernel)⟩
def lw_privs_2 : List (MethodName × Nat) := [(⟨"RainOffice$Books", "spreadRest", "(IIII)V"⟩, 7), (⟨"RainOffice$Mender", "thousandthsBy", "(LRainOffice$Books;III)J"⟩, 2), (⟨"RainOffice$Breaks", "gatherNeighbours", "(I)V"⟩, 4), (⟨"RainOffice$Breaks", "sumOfNeighbours", "(LRainOffice$Books;I)I"⟩, 4), (⟨"RainOffice$Breaks", "missesOfPart", "(II)J"⟩, 4), (⟨"RainOfficeModel", "fails", "(III)I"⟩, 26), (⟨"RainOfficeModel", "raw0", "(II)I"⟩, 26), (⟨"RainOfficeModel", "rawAt", "(III)I"⟩, 26), (⟨"RainOfficeModel", "isGauge", "(I)Z"⟩, 26), (⟨"RainOfficeModel", "byHand", "(III)I"⟩, 26), (⟨"RainOfficeModel", "tipped", "(II)I"⟩, 26), (⟨"RainOfficeModel", "doubt", "(II)I"⟩, 26), (⟨"RainOfficeModel", "far", "(III)I"⟩, 26), (⟨"RainOfficeModel", "bys", "(II)I"⟩, 26), (⟨"RainOfficeModel", "rows", "(I)I"⟩, 26), (⟨"RainOfficeModel", "trusted", "(II)I"⟩, 26)]
theorem lw_r2 : ∀ q ∈ lw_privs_2, lw_okq q := List.forall_mem_cons.mpr ⟨lw_p16, List.forall_mem_cons.mpr ⟨lw_p17, List.forall_mem_cons.mpr ⟨lw_p18, List.forall_mem_cons.mpr ⟨lw_p19, List.forall_mem_cons.mpr ⟨lw_p20, List.forall_mem_cons.mpr ⟨lw_p21, List.forall_mem_cons.mpr ⟨lw_p22, List.forall_mem_cons.mpr ⟨lw_p23, List.forall_mem_cons.mpr ⟨lw_p24, List.forall_mem_cons.mpr ⟨lw_p25, List.forall_mem_cons.mpr ⟨lw_p26, List.forall_mem_cons.mpr ⟨lw_p27, List.forall_mem_cons.mpr ⟨lw_p28, List.forall_mem_cons.mpr ⟨lw_p29, List.forall_mem_cons.mpr ⟨lw_p30, List.forall_mem_cons.mpr ⟨lw_p31, fun _ h => absurd h List.not_mem_nil⟩⟩⟩⟩⟩⟩⟩⟩⟩⟩⟩⟩⟩⟩⟩⟩
theorem lw_p32 : lw_okq (⟨"RainOfficeModel", "readOn", "(II)I"⟩, 26) := ⟨⟨by decide +kernel, by decide +kernel⟩, List.mem_of_getElem? (i := 650) (by decide +kernel), List.mem_of_getElem? (i := 850) (by decide +kernel), List.mem_of_getElem? (i := 851) (by decide +kernel)⟩
theorem lw_p33 : lw_okq (⟨"RainOfficeModel", "mended", "(II)I"⟩, 26) := ⟨⟨by decide +kernel, by decide +kernel⟩, List.mem_of_getElem? (i := 650) (by decide +kernel), List.mem_of_getElem? (i := 854) (by decide +kernel), List.mem_of_getElem? (i := 855) (by decide +kernel)⟩
theorem lw_p34 : lw_okq (⟨"RainOfficeModel", "mayMend", "(II)Z"⟩, 26) := ⟨⟨by decide +kernel, by decide +kernel⟩, List.mem_of_getElem? (i := 650) (by decide +kernel), List.mem_of_getElem? (i := 858) (by decide +kernel), List.mem_of_getElem? (i := 859) (by decide +kernel)⟩
theorem lw_p35 : lw_okq (⟨"RainOfficeModel", "number0", "(II)I"⟩, 26) := ⟨⟨by decide +kernel, by decide +kernel⟩, List.mem_of_getElem? (i := 650) (by decide +kernel), List.mem_of_getElem? (i := 867) (by decide +kernel), List.mem_of_getElem? (i := 868) (by decide +kernel)⟩
theorem lw_p36 : lw_okq (⟨"RainOfficeModel", "spread", "(II)I"⟩, 26) := ⟨⟨by decide +kernel, by decide +kernel⟩, List.mem_of_getElem? (i := 650) (by decide +kernel), List.mem_of_getElem? (i := 871) (by decide +kernel), List.mem_of_getElem? (i := 872) (by decide +kernel)⟩
theorem lw_p37 : lw_okq (⟨"RainOfficeModel", "owner", "(III)I"⟩, 26) := ⟨⟨by decide +kernel, by decide +kernel⟩, List.mem_of_getElem? (i := 650) (by decide +kernel), List.mem_of_getElem? (i := 879) (by decide +kernel), List.mem_of_getElem? (i := 880) (by decide +kernel)⟩
theorem lw_p38 : lw_okq (⟨"RainOfficeModel", "tells", "(II)Z"⟩, 26) := ⟨⟨by decide +kernel, by decide +kernel⟩, List.mem_of_getElem? (i := 650) (by decide +kernel), List.mem_of_getElem? (i := 883) (by decide +kernel), List.mem_of_getElem? (i := 884) (by decide +kernel)⟩
theorem lw_p39 : lw_okq (⟨"RainOfficeModel", "many", "(I)I"⟩, 26) := ⟨⟨by decide +kernel, by decide +kernel⟩, List.mem_of_getElem? (i := 650) (by decide +kernel), List.mem_of_getElem? (i := 895) (by decide +kernel), List.mem_of_getElem? (i := 896) (by decide +kernel)⟩
theorem lw_p40 : lw_okq (⟨"RainOfficeModel", "rain0", "(II)I"⟩, 26) := ⟨⟨by decide +kernel, by decide +kernel⟩, List.mem_of_getElem? (i := 650) (by decide +kernel), List.mem_of_getElem? (i := 903) (by decide +kernel), List.mem_of_getElem? (i := 904) (by decide +kernel)⟩
theorem lw_p41 : lw_okq (⟨"RainOfficeModel", "isTold", "(I)Z"⟩, 26) := ⟨⟨by decide +kernel, by decide +kernel⟩, List.mem_of_getElem? (i := 650) (by decide +kernel), List.mem_of_getElem? (i := 907) (by decide +kernel), List.mem_of_getElem? (i := 908) (by decide +kernel)⟩
theorem lw_p42 : lw_okq (⟨"RainOfficeModel", "flow0", "(II)J"⟩, 26) := ⟨⟨by decide +kernel, by decide +kernel⟩, List.mem_of_getElem? (i := 650) (by decide +kernel), List.mem_of_getElem? (i := 919) (by decide +kernel), List.mem_of_getElem? (i := 920) (by decide +kernel)⟩
theorem lw_p43 : lw_okq (⟨"RainOfficeModel", "failsStore", "(I)I"⟩, 26) := ⟨⟨by decide +kernel, by decide +kernel⟩, List.mem_of_getElem? (i := 650) (by decide +kernel), List.mem_of_getElem? (i := 932) (by decide +kernel), List.mem_of_getElem? (i := 933) (by decide +kernel)⟩
theorem lw_p44 : lw_okq (⟨"RainOfficeModel", "weekOf", "(IIZ)J"⟩, 26) := ⟨⟨by decide +kernel, by decide +kernel⟩, List.mem_of_getElem? (i := 650) (by decide +kernel), List.mem_of_getElem? (i := 936) (by decide +kernel), List.mem_of_getElem? (i := 937) (by decide +kernel)⟩
theorem lw_p45 : lw_okq (⟨"RainOfficeModel", "weeks", "(I)V"⟩, 26) := ⟨⟨by decide +kernel, by decide +kernel⟩, List.mem_of_getElem? (i := 650) (by decide +kernel), List.mem_of_getElem? (i := 944) (by decide +kernel), List.mem_of_getElem? (i := 945) (by decide +kernel)⟩
theorem lw_p46 : lw_okq (⟨"RainOfficeModel", "apart", "(II)J"⟩, 26) := ⟨⟨by decide +kernel, by decide +kernel⟩, List.mem_of_getElem? (i := 650) (by decide +kernel), List.mem_of_getElem? (i := 948) (by decide +kernel), List.mem_of_getElem? (i := 949) (by decide +kernel)⟩
def lw_privs_3 : List (MethodName × Nat) := [(⟨"RainOfficeModel", "readOn", "(II)I"⟩, 26), (⟨"RainOfficeModel", "mended", "(II)I"⟩, 26), (⟨"RainOfficeModel", "mayMend", "(II)Z"⟩, 26), (⟨"RainOfficeModel", "number0", "(II)I"⟩, 26), (⟨"RainOfficeModel", "spread", "(II)I"⟩, 26), (⟨"RainOfficeModel", "owner", "(III)I"⟩, 26), (⟨"RainOfficeModel", "tells", "(II)Z"⟩, 26), (⟨"RainOfficeModel", "many", "(I)I"⟩, 26), (⟨"RainOfficeModel", "rain0", "(II)I"⟩, 26), (⟨"RainOfficeModel", "isTold", "(I)Z"⟩, 26), (⟨"RainOfficeModel", "flow0", "(II)J"⟩, 26), (⟨"RainOfficeModel", "failsStore", "(I)I"⟩, 26), (⟨"RainOfficeModel", "weekOf", "(IIZ)J"⟩, 26), (⟨"RainOfficeModel", "weeks", "(I)V"⟩, 26), (⟨"RainOfficeModel", "apart", "(II)J"⟩, 26)]
theorem lw_r3 : ∀ q ∈ lw_privs_3, lw_okq q := List.forall_mem_cons.mpr ⟨lw_p32, List.forall_mem_cons.mpr ⟨lw_p33, List.forall_mem_cons.mpr ⟨lw_p34, List.forall_mem_cons.mpr ⟨lw_p35, List.forall_mem_cons.mpr ⟨lw_p36, List.forall_mem_cons.mpr ⟨lw_p37, List.forall_mem_cons.mpr ⟨lw_p38, List.forall_mem_cons.mpr ⟨lw_p39, List.forall_mem_cons.mpr ⟨lw_p40, List.forall_mem_cons.mpr ⟨lw_p41, List.forall_mem_cons.mpr ⟨lw_p42, List.forall_mem_cons.mpr ⟨lw_p43, List.forall_mem_cons.mpr ⟨lw_p44, List.forall_mem_cons.mpr ⟨lw_p45, List.forall_mem_cons.mpr ⟨lw_p46, fun _ h => absurd h List.not_mem_nil⟩⟩⟩⟩⟩⟩⟩⟩⟩⟩⟩⟩⟩⟩⟩
def lw_privs : List (MethodName × Nat) := lw_privs_1 ++ (lw_privs_2 ++ (lw_privs_3))
def lw_tbl : List Cond := k2_sels lw_privs ++ tables_1
theorem lw_privs_ok : ∀ q ∈ lw_privs, lw_okq q := by
  show ∀ q ∈ lw_privs_1 ++ (lw_privs_2 ++ (lw_privs_3)), lw_okq q
  exact List.forall_mem_append.mpr ⟨lw_r1, List.forall_mem_append.mpr ⟨lw_r2, lw_r3⟩⟩
-- ===== end of PART A =====
def RX0 : String := "RainOffice$Books"
def TX0 : u_T := fun k => match k with
  | 0 => ("RainOffice$Books", "net", "LRainOffice$Net;", true)
  | 1 => ("RainOffice$Books", "raw", "[[I", true)
  | 2 => ("RainOffice$Books", "doubt", "[[I", true)
  | 3 => ("RainOffice$Books", "trusted", "[[I", true)
  | 4 => ("RainOffice$Books", "told", "[[I", true)
  | 5 => ("RainOffice$Books", "rests", "[I", true)
  | _ => ("RainOffice$Books", "written", "I", false)
def tyX0 : Nat → FieldType := fun k => match k with
  | 0 => .object "RainOffice$Net"
  | 1 => .array (.array .int)
  | 2 => .array (.array .int)
  | 3 => .array (.array .int)
  | 4 => .array (.array .int)
  | 5 => .array .int
  | _ => .int
abbrev wsX00 : List Cond := u_ws RX0 TX0 7
theorem nmX0 : ∀ a, a < 7 → ∀ b, b < 7 → a ≠ b → (TX0 a).2.1 ≠ (TX0 b).2.1 := by decide +kernel
theorem tyX0_ok : ∀ k, k < 7 → parseFieldDescriptor (TX0 k).2.2.1 = some (tyX0 k) := by decide +kernel
abbrev cX0_init : ByteArray := prog_2_method_1_code
def yX0_init : MethodName := ⟨RX0, "<init>", "(LRainOffice$Net;)V"⟩
abbrev cX0_doubtOf : ByteArray := prog_2_method_2_code
def yX0_doubtOf : MethodName := ⟨RX0, "doubtOf", "(II)I"⟩
abbrev cX0_trustedOf : ByteArray := prog_2_method_3_code
def yX0_trustedOf : MethodName := ⟨RX0, "trustedOf", "(II)I"⟩
abbrev cX0_toldOf : ByteArray := prog_2_method_4_code
def yX0_toldOf : MethodName := ⟨RX0, "toldOf", "(II)I"⟩
abbrev cX0_rewrite : ByteArray := prog_2_method_5_code
def yX0_rewrite : MethodName := ⟨RX0, "rewrite", "()V"⟩
abbrev cX0_writeTrust : ByteArray := prog_2_method_6_code
def yX0_writeTrust : MethodName := ⟨RX0, "writeTrust", "(II)V"⟩
abbrev cX0_doubtingRule : ByteArray := prog_2_method_7_code
def yX0_doubtingRule : MethodName := ⟨RX0, "doubtingRule", "(II)I"⟩
abbrev cX0_isDryAmongWet : ByteArray := prog_2_method_8_code
def yX0_isDryAmongWet : MethodName := ⟨RX0, "isDryAmongWet", "(II)Z"⟩
abbrev cX0_writeSpread : ByteArray := prog_2_method_9_code
def yX0_writeSpread : MethodName := ⟨RX0, "writeSpread", "(II)V"⟩
abbrev cX0_spread : ByteArray := prog_2_method_10_code
def yX0_spread : MethodName := ⟨RX0, "spread", "(III)V"⟩
abbrev cX0_sumTrusted : ByteArray := prog_2_method_11_code
def yX0_sumTrusted : MethodName := ⟨RX0, "sumTrusted", "(III)I"⟩
abbrev cX0_spreadRest : ByteArray := prog_2_method_12_code
def yX0_spreadRest : MethodName := ⟨RX0, "spreadRest", "(IIII)V"⟩
abbrev cX0_nearestTrusted : ByteArray := prog_2_method_13_code
def yX0_nearestTrusted : MethodName := ⟨RX0, "nearestTrusted", "(III)I"⟩
abbrev cX0_isTrustedThrough : ByteArray := prog_2_method_14_code
def yX0_isTrustedThrough : MethodName := ⟨RX0, "isTrustedThrough", "(III)Z"⟩
def RX1 : String := "RainOffice$Breaks"
def TX1 : u_T := fun k => match k with
  | 0 => ("RainOffice$Breaks", "net", "LRainOffice$Net;", true)
  | 1 => ("RainOffice$Breaks", "circle", "LRainOffice$Circle;", true)
  | 2 => ("RainOffice$Breaks", "own", "[I", true)
  | _ => ("RainOffice$Breaks", "theirs", "[I", true)
def tyX1 : Nat → FieldType := fun k => match k with
  | 0 => .object "RainOffice$Net"
  | 1 => .object "RainOffice$Circle"
  | 2 => .array .int
  | _ => .array .int
abbrev wsX10 : List Cond := u_ws RX1 TX1 4
theorem nmX1 : ∀ a, a < 4 → ∀ b, b < 4 → a ≠ b → (TX1 a).2.1 ≠ (TX1 b).2.1 := by decide +kernel
theorem tyX1_ok : ∀ k, k < 4 → parseFieldDescriptor (TX1 k).2.2.1 = some (tyX1 k) := by decide +kernel
abbrev cX1_init : ByteArray := prog_3_method_1_code
def yX1_init : MethodName := ⟨RX1, "<init>", "(LRainOffice$Net;)V"⟩
abbrev cX1_sumWeeks : ByteArray := prog_3_method_2_code
def yX1_sumWeeks : MethodName := ⟨RX1, "sumWeeks", "(LRainOffice$Books;I)V"⟩
abbrev cX1_gatherNeighbours : ByteArray := prog_3_method_3_code
def yX1_gatherNeighbours : MethodName := ⟨RX1, "gatherNeighbours", "(I)V"⟩
abbrev cX1_sumOfNeighbours : ByteArray := prog_3_method_4_code
def yX1_sumOfNeighbours : MethodName := ⟨RX1, "sumOfNeighbours", "(LRainOffice$Books;I)I"⟩
abbrev cX1_leastBreak : ByteArray := prog_3_method_5_code
def yX1_leastBreak : MethodName := ⟨RX1, "leastBreak", "(I)I"⟩
abbrev cX1_missesAt : ByteArray := prog_3_method_6_code
def yX1_missesAt : MethodName := ⟨RX1, "missesAt", "(II)J"⟩
abbrev cX1_missesOfPart : ByteArray := prog_3_method_7_code
def yX1_missesOfPart : MethodName := ⟨RX1, "missesOfPart", "(II)J"⟩
def RX2 : String := "RainOffice$Circle"
def TX2 : u_T := fun k => match k with
  | 0 => ("RainOffice$Circle", "chosen", "[I", true)
  | 1 => ("RainOffice$Circle", "distances", "[I", true)
  | _ => ("RainOffice$Circle", "count", "I", false)
def tyX2 : Nat → FieldType := fun k => match k with
  | 0 => .array .int
  | 1 => .array .int
  | _ => .int
abbrev wsX20 : List Cond := u_ws RX2 TX2 3
theorem nmX2 : ∀ a, a < 3 → ∀ b, b < 3 → a ≠ b → (TX2 a).2.1 ≠ (TX2 b).2.1 := by decide +kernel
theorem tyX2_ok : ∀ k, k < 3 → parseFieldDescriptor (TX2 k).2.2.1 = some (tyX2 k) := by decide +kernel
abbrev cX2_init : ByteArray := prog_4_method_1_code
def yX2_init : MethodName := ⟨RX2, "<init>", "()V"⟩
abbrev cX2_offer : ByteArray := prog_4_method_2_code
def yX2_offer : MethodName := ⟨RX2, "offer", "(II)V"⟩
abbrev cX2_placeAt : ByteArray := prog_4_method_3_code
def yX2_placeAt : MethodName := ⟨RX2, "placeAt", "(I)I"⟩
def RX3 : String := "RainOffice$HandLog"
def TX3 : u_T := fun k => match k with
  | 0 => ("RainOffice$HandLog", "value", "[I", true)
  | 1 => ("RainOffice$HandLog", "putInOn", "[I", true)
  | 2 => ("RainOffice$HandLog", "before", "[I", true)
  | _ => ("RainOffice$HandLog", "count", "I", false)
def tyX3 : Nat → FieldType := fun k => match k with
  | 0 => .array .int
  | 1 => .array .int
  | 2 => .array .int
  | _ => .int
abbrev wsX30 : List Cond := u_ws RX3 TX3 4
theorem nmX3 : ∀ a, a < 4 → ∀ b, b < 4 → a ≠ b → (TX3 a).2.1 ≠ (TX3 b).2.1 := by decide +kernel
theorem tyX3_ok : ∀ k, k < 4 → parseFieldDescriptor (TX3 k).2.2.1 = some (tyX3 k) := by decide +kernel
abbrev cX3_init : ByteArray := prog_5_method_1_code
def yX3_init : MethodName := ⟨RX3, "<init>", "()V"⟩
abbrev cX3_append : ByteArray := prog_5_method_2_code
def yX3_append : MethodName := ⟨RX3, "append", "(III)I"⟩
abbrev cX3_latestUntil : ByteArray := prog_5_method_3_code
def yX3_latestUntil : MethodName := ⟨RX3, "latestUntil", "(II)I"⟩
def RX4 : String := "RainOffice$Land"
def TX4 : u_T := fun k => match k with
  | 0 => ("RainOffice$Land", "net", "LRainOffice$Net;", true)
  | _ => ("RainOffice$Land", "valleys", "[LRainOffice$Valley;", true)
def tyX4 : Nat → FieldType := fun k => match k with
  | 0 => .object "RainOffice$Net"
  | _ => .array (.object "RainOffice$Valley")
abbrev wsX40 : List Cond := u_ws RX4 TX4 2
theorem nmX4 : ∀ a, a < 2 → ∀ b, b < 2 → a ≠ b → (TX4 a).2.1 ≠ (TX4 b).2.1 := by decide +kernel
theorem tyX4_ok : ∀ k, k < 2 → parseFieldDescriptor (TX4 k).2.2.1 = some (tyX4 k) := by decide +kernel
abbrev cX4_init : ByteArray := prog_6_method_1_code
def yX4_init : MethodName := ⟨RX4, "<init>", "(LRainOffice$Net;)V"⟩
abbrev cX4_ownerOf : ByteArray := prog_6_method_2_code
def yX4_ownerOf : MethodName := ⟨RX4, "ownerOf", "(LRainOffice$Books;III)I"⟩
abbrev cX4_countOwned : ByteArray := prog_6_method_3_code
def yX4_countOwned : MethodName := ⟨RX4, "countOwned", "(LRainOffice$Books;II)I"⟩
abbrev cX4_rainOf : ByteArray := prog_6_method_4_code
def yX4_rainOf : MethodName := ⟨RX4, "rainOf", "(LRainOffice$Books;LRainOffice$Valley;I)I"⟩
abbrev cX4_flowOf : ByteArray := prog_6_method_5_code
def yX4_flowOf : MethodName := ⟨RX4, "flowOf", "(LRainOffice$Books;LRainOffice$Valley;I)J"⟩
def RX5 : String := "RainOffice$Mender"
def TX5 : u_T := fun k => match k with
  | 0 => ("RainOffice$Mender", "net", "LRainOffice$Net;", true)
  | _ => ("RainOffice$Mender", "circle", "LRainOffice$Circle;", true)
def tyX5 : Nat → FieldType := fun k => match k with
  | 0 => .object "RainOffice$Net"
  | _ => .object "RainOffice$Circle"
abbrev wsX50 : List Cond := u_ws RX5 TX5 2
theorem nmX5 : ∀ a, a < 2 → ∀ b, b < 2 → a ≠ b → (TX5 a).2.1 ≠ (TX5 b).2.1 := by decide +kernel
theorem tyX5_ok : ∀ k, k < 2 → parseFieldDescriptor (TX5 k).2.2.1 = some (tyX5 k) := by decide +kernel
abbrev cX5_init : ByteArray := prog_7_method_1_code
def yX5_init : MethodName := ⟨RX5, "<init>", "(LRainOffice$Net;)V"⟩
abbrev cX5_gather : ByteArray := prog_7_method_2_code
def yX5_gather : MethodName := ⟨RX5, "gather", "(LRainOffice$Books;II)I"⟩
abbrev cX5_mend : ByteArray := prog_7_method_3_code
def yX5_mend : MethodName := ⟨RX5, "mend", "(LRainOffice$Books;II)I"⟩
abbrev cX5_nearness : ByteArray := prog_7_method_4_code
def yX5_nearness : MethodName := ⟨RX5, "nearness", "(I)I"⟩
abbrev cX5_thousandthsBy : ByteArray := prog_7_method_5_code
def yX5_thousandthsBy : MethodName := ⟨RX5, "thousandthsBy", "(LRainOffice$Books;III)J"⟩
def RX6 : String := "RainOffice$Net"
def TX6 : u_T := fun k => match k with
  | 0 => ("RainOffice$Net", "places", "[LRainOffice$Place;", true)
  | 1 => ("RainOffice$Net", "log", "LRainOffice$HandLog;", true)
  | 2 => ("RainOffice$Net", "rules", "[I", true)
  | 3 => ("RainOffice$Net", "today", "I", false)
  | _ => ("RainOffice$Net", "changes", "I", false)
def tyX6 : Nat → FieldType := fun k => match k with
  | 0 => .array (.object "RainOffice$Place")
  | 1 => .object "RainOffice$HandLog"
  | 2 => .array .int
  | 3 => .int
  | _ => .int
abbrev wsX60 : List Cond := u_ws RX6 TX6 5
theorem nmX6 : ∀ a, a < 5 → ∀ b, b < 5 → a ≠ b → (TX6 a).2.1 ≠ (TX6 b).2.1 := by decide +kernel
theorem tyX6_ok : ∀ k, k < 5 → parseFieldDescriptor (TX6 k).2.2.1 = some (tyX6 k) := by decide +kernel
abbrev cX6_init : ByteArray := prog_8_method_1_code
def yX6_init : MethodName := ⟨RX6, "<init>", "()V"⟩
abbrev cX6_rule : ByteArray := prog_8_method_2_code
def yX6_rule : MethodName := ⟨RX6, "rule", "(I)I"⟩
abbrev cX6_daysBegun : ByteArray := prog_8_method_3_code
def yX6_daysBegun : MethodName := ⟨RX6, "daysBegun", "()I"⟩
abbrev cX6_lastWholeWeek : ByteArray := prog_8_method_4_code
def yX6_lastWholeWeek : MethodName := ⟨RX6, "lastWholeWeek", "()I"⟩
abbrev cX6_numberKnown : ByteArray := prog_8_method_5_code
def yX6_numberKnown : MethodName := ⟨RX6, "numberKnown", "(III)I"⟩
def RX7 : String := "RainOffice$Place"
def TX7 : u_T := fun k => match k with
  | 0 => ("RainOffice$Place", "kind", "I", false)
  | 1 => ("RainOffice$Place", "x", "I", false)
  | 2 => ("RainOffice$Place", "y", "I", false)
  | 3 => ("RainOffice$Place", "size", "I", false)
  | 4 => ("RainOffice$Place", "first", "I", false)
  | 5 => ("RainOffice$Place", "lying", "I", false)
  | 6 => ("RainOffice$Place", "reading", "[I", true)
  | 7 => ("RainOffice$Place", "second", "[I", true)
  | _ => ("RainOffice$Place", "handed", "[I", true)
def tyX7 : Nat → FieldType := fun k => match k with
  | 0 => .int
  | 1 => .int
  | 2 => .int
  | 3 => .int
  | 4 => .int
  | 5 => .int
  | 6 => .array .int
  | 7 => .array .int
  | _ => .array .int
abbrev wsX70 : List Cond := u_ws RX7 TX7 9
theorem nmX7 : ∀ a, a < 9 → ∀ b, b < 9 → a ≠ b → (TX7 a).2.1 ≠ (TX7 b).2.1 := by decide +kernel
theorem tyX7_ok : ∀ k, k < 9 → parseFieldDescriptor (TX7 k).2.2.1 = some (tyX7 k) := by decide +kernel
abbrev cX7_init : ByteArray := prog_9_method_1_code
def yX7_init : MethodName := ⟨RX7, "<init>", "()V"⟩
abbrev cX7_bring : ByteArray := prog_9_method_2_code
def yX7_bring : MethodName := ⟨RX7, "bring", "(IIIII)V"⟩
abbrev cX7_clear : ByteArray := prog_9_method_3_code
def yX7_clear : MethodName := ⟨RX7, "clear", "()V"⟩
abbrev cX7_isDailyGauge : ByteArray := prog_9_method_4_code
def yX7_isDailyGauge : MethodName := ⟨RX7, "isDailyGauge", "()Z"⟩
abbrev cX7_meltAway : ByteArray := prog_9_method_5_code
def yX7_meltAway : MethodName := ⟨RX7, "meltAway", "(II)I"⟩
abbrev cX7_numberRead : ByteArray := prog_9_method_6_code
def yX7_numberRead : MethodName := ⟨RX7, "numberRead", "(I)I"⟩
abbrev cX7_numberTipped : ByteArray := prog_9_method_7_code
def yX7_numberTipped : MethodName := ⟨RX7, "numberTipped", "(I)I"⟩
abbrev cX7_numberTwinned : ByteArray := prog_9_method_8_code
def yX7_numberTwinned : MethodName := ⟨RX7, "numberTwinned", "(I)I"⟩
abbrev cX7_isUnlike : ByteArray := prog_9_method_9_code
def yX7_isUnlike : MethodName := ⟨RX7, "isUnlike", "(II)Z"⟩
def RX8 : String := "RainOffice$Valley"
def TX8 : u_T := fun k => match k with
  | 0 => ("RainOffice$Valley", "has", "[Z", true)
  | _ => ("RainOffice$Valley", "count", "I", false)
def tyX8 : Nat → FieldType := fun k => match k with
  | 0 => .array .boolean
  | _ => .int
abbrev wsX80 : List Cond := u_ws RX8 TX8 2
theorem nmX8 : ∀ a, a < 2 → ∀ b, b < 2 → a ≠ b → (TX8 a).2.1 ≠ (TX8 b).2.1 := by decide +kernel
theorem tyX8_ok : ∀ k, k < 2 → parseFieldDescriptor (TX8 k).2.2.1 = some (tyX8 k) := by decide +kernel
abbrev cX8_init : ByteArray := prog_10_method_1_code
def yX8_init : MethodName := ⟨RX8, "<init>", "()V"⟩
abbrev cX8_change : ByteArray := prog_10_method_2_code
def yX8_change : MethodName := ⟨RX8, "change", "(IZ)I"⟩
def RX9 : String := "RainOffice"
def TX9 : u_T := fun k => match k with
  | 0 => ("RainOffice", "net", "LRainOffice$Net;", true)
  | 1 => ("RainOffice", "books", "LRainOffice$Books;", true)
  | 2 => ("RainOffice", "mender", "LRainOffice$Mender;", true)
  | 3 => ("RainOffice", "land", "LRainOffice$Land;", true)
  | _ => ("RainOffice", "breaks", "LRainOffice$Breaks;", true)
def tyX9 : Nat → FieldType := fun k => match k with
  | 0 => .object "RainOffice$Net"
  | 1 => .object "RainOffice$Books"
  | 2 => .object "RainOffice$Mender"
  | 3 => .object "RainOffice$Land"
  | _ => .object "RainOffice$Breaks"
abbrev wsX90 : List Cond := u_ws RX9 TX9 5
theorem nmX9 : ∀ a, a < 5 → ∀ b, b < 5 → a ≠ b → (TX9 a).2.1 ≠ (TX9 b).2.1 := by decide +kernel
theorem tyX9_ok : ∀ k, k < 5 → parseFieldDescriptor (TX9 k).2.2.1 = some (tyX9 k) := by decide +kernel
abbrev cX9_init : ByteArray := prog_1_method_1_code
def yX9_init : MethodName := ⟨RX9, "<init>", "()V"⟩
abbrev cX9_put : ByteArray := prog_1_method_2_code
def yX9_put : MethodName := ⟨RX9, "put", "(IIIII)I"⟩
abbrev cX9_lift : ByteArray := prog_1_method_3_code
def yX9_lift : MethodName := ⟨RX9, "lift", "(I)I"⟩
abbrev cX9_look : ByteArray := prog_1_method_4_code
def yX9_look : MethodName := ⟨RX9, "look", "(II)I"⟩
abbrev cX9_read : ByteArray := prog_1_method_5_code
def yX9_read : MethodName := ⟨RX9, "read", "(II)I"⟩
abbrev cX9_full : ByteArray := prog_1_method_6_code
def yX9_full : MethodName := ⟨RX9, "full", "(II)I"⟩
abbrev cX9_melt : ByteArray := prog_1_method_7_code
def yX9_melt : MethodName := ⟨RX9, "melt", "(II)I"⟩
abbrev cX9_other : ByteArray := prog_1_method_8_code
def yX9_other : MethodName := ⟨RX9, "other", "(II)I"⟩
abbrev cX9_hand : ByteArray := prog_1_method_9_code
def yX9_hand : MethodName := ⟨RX9, "hand", "(III)I"⟩
abbrev cX9_close : ByteArray := prog_1_method_10_code
def yX9_close : MethodName := ⟨RX9, "close", "()I"⟩
abbrev cX9_today : ByteArray := prog_1_method_11_code
def yX9_today : MethodName := ⟨RX9, "today", "()I"⟩
abbrev cX9_set : ByteArray := prog_1_method_12_code
def yX9_set : MethodName := ⟨RX9, "set", "(II)Z"⟩
abbrev cX9_raw : ByteArray := prog_1_method_13_code
def yX9_raw : MethodName := ⟨RX9, "raw", "(II)I"⟩
abbrev cX9_known : ByteArray := prog_1_method_14_code
def yX9_known : MethodName := ⟨RX9, "known", "(III)I"⟩
abbrev cX9_why : ByteArray := prog_1_method_15_code
def yX9_why : MethodName := ⟨RX9, "why", "(II)I"⟩
abbrev cX9_state : ByteArray := prog_1_method_16_code
def yX9_state : MethodName := ⟨RX9, "state", "(II)I"⟩
abbrev cX9_number : ByteArray := prog_1_method_17_code
def yX9_number : MethodName := ⟨RX9, "number", "(II)I"⟩
abbrev cX9_from : ByteArray := prog_1_method_18_code
def yX9_from : MethodName := ⟨RX9, "from", "(III)I"⟩
abbrev cX9_part : ByteArray := prog_1_method_19_code
def yX9_part : MethodName := ⟨RX9, "part", "(III)I"⟩
abbrev cX9_squares : ByteArray := prog_1_method_20_code
def yX9_squares : MethodName := ⟨RX9, "squares", "(II)I"⟩
abbrev cX9_valley : ByteArray := prog_1_method_21_code
def yX9_valley : MethodName := ⟨RX9, "valley", "(IIIZ)I"⟩
abbrev cX9_rain : ByteArray := prog_1_method_22_code
def yX9_rain : MethodName := ⟨RX9, "rain", "(II)I"⟩
abbrev cX9_mean : ByteArray := prog_1_method_23_code
def yX9_mean : MethodName := ⟨RX9, "mean", "(II)I"⟩
abbrev cX9_flow : ByteArray := prog_1_method_24_code
def yX9_flow : MethodName := ⟨RX9, "flow", "(II)J"⟩
abbrev cX9_ahead : ByteArray := prog_1_method_25_code
def yX9_ahead : MethodName := ⟨RX9, "ahead", "(IJ)I"⟩
abbrev cX9_week : ByteArray := prog_1_method_26_code
def yX9_week : MethodName := ⟨RX9, "week", "(III)I"⟩
abbrev cX9_cleft : ByteArray := prog_1_method_27_code
def yX9_cleft : MethodName := ⟨RX9, "cleft", "(I)I"⟩
abbrev cX9_misses : ByteArray := prog_1_method_28_code
def yX9_misses : MethodName := ⟨RX9, "misses", "(II)J"⟩
abbrev cX9_isPlace : ByteArray := prog_1_method_29_code
def yX9_isPlace : MethodName := ⟨RX9, "isPlace", "(I)Z"⟩
abbrev cX9_isDay : ByteArray := prog_1_method_30_code
def yX9_isDay : MethodName := ⟨RX9, "isDay", "(I)Z"⟩
abbrev cX9_isSquare : ByteArray := prog_1_method_31_code
def yX9_isSquare : MethodName := ⟨RX9, "isSquare", "(II)Z"⟩
abbrev cX9_isValley : ByteArray := prog_1_method_32_code
def yX9_isValley : MethodName := ⟨RX9, "isValley", "(I)Z"⟩
abbrev cX9_hasSize : ByteArray := prog_1_method_33_code
def yX9_hasSize : MethodName := ⟨RX9, "hasSize", "(I)Z"⟩
abbrev cX9_squaredDistance : ByteArray := prog_1_method_34_code
def yX9_squaredDistance : MethodName := ⟨RX9, "squaredDistance", "(IILRainOffice$Place;)I"⟩
abbrev cX9_gaugeFault : ByteArray := prog_1_method_35_code
def yX9_gaugeFault : MethodName := ⟨RX9, "gaugeFault", "(I)I"⟩
abbrev cX9_gaugeDayFault : ByteArray := prog_1_method_36_code
def yX9_gaugeDayFault : MethodName := ⟨RX9, "gaugeDayFault", "(II)I"⟩
abbrev cX9_dailyGaugeFault : ByteArray := prog_1_method_37_code
def yX9_dailyGaugeFault : MethodName := ⟨RX9, "dailyGaugeFault", "(I)I"⟩
abbrev cX9_kindFault : ByteArray := prog_1_method_38_code
def yX9_kindFault : MethodName := ⟨RX9, "kindFault", "(II)I"⟩
abbrev cX9_noteSecond : ByteArray := prog_1_method_39_code
def yX9_noteSecond : MethodName := ⟨RX9, "noteSecond", "(III)I"⟩
abbrev cX9_openBooks : ByteArray := prog_1_method_40_code
def yX9_openBooks : MethodName := ⟨RX9, "openBooks", "()LRainOffice$Books;"⟩
def RX10 : String := "RainOfficeModel"
def TX10 : u_T := fun k => match k with
  | 0 => ("RainOfficeModel", "kinds", "[I", true)
  | 1 => ("RainOfficeModel", "atX", "[I", true)
  | 2 => ("RainOfficeModel", "atY", "[I", true)
  | 3 => ("RainOfficeModel", "sizes", "[I", true)
  | 4 => ("RainOfficeModel", "first", "[I", true)
  | 5 => ("RainOfficeModel", "lies", "[I", true)
  | 6 => ("RainOfficeModel", "reads", "[I", true)
  | 7 => ("RainOfficeModel", "fulls", "[I", true)
  | 8 => ("RainOfficeModel", "melts", "[I", true)
  | 9 => ("RainOfficeModel", "others", "[I", true)
  | 10 => ("RainOfficeModel", "handPlace", "[I", true)
  | 11 => ("RainOfficeModel", "handDay", "[I", true)
  | 12 => ("RainOfficeModel", "handValue", "[I", true)
  | 13 => ("RainOfficeModel", "handWhen", "[I", true)
  | 14 => ("RainOfficeModel", "hands", "I", false)
  | 15 => ("RainOfficeModel", "now", "I", false)
  | 16 => ("RainOfficeModel", "greatest", "I", false)
  | 17 => ("RainOfficeModel", "near", "I", false)
  | 18 => ("RainOfficeModel", "wet", "I", false)
  | 19 => ("RainOfficeModel", "part", "I", false)
  | 20 => ("RainOfficeModel", "units", "[I", true)
  | 21 => ("RainOfficeModel", "valleys", "[Z", true)
  | 22 => ("RainOfficeModel", "row", "[I", true)
  | 23 => ("RainOfficeModel", "by", "[I", true)
  | 24 => ("RainOfficeModel", "as", "[J", true)
  | _ => ("RainOfficeModel", "bs", "[J", true)
def tyX10 : Nat → FieldType := fun k => match k with
  | 0 => .array .int
  | 1 => .array .int
  | 2 => .array .int
  | 3 => .array .int
  | 4 => .array .int
  | 5 => .array .int
  | 6 => .array .int
  | 7 => .array .int
  | 8 => .array .int
  | 9 => .array .int
  | 10 => .array .int
  | 11 => .array .int
  | 12 => .array .int
  | 13 => .array .int
  | 14 => .int
  | 15 => .int
  | 16 => .int
  | 17 => .int
  | 18 => .int
  | 19 => .int
  | 20 => .array .int
  | 21 => .array .boolean
  | 22 => .array .int
  | 23 => .array .int
  | 24 => .array .long
  | _ => .array .long
abbrev wsX100 : List Cond := u_ws RX10 TX10 26
theorem nmX10 : ∀ a, a < 26 → ∀ b, b < 26 → a ≠ b → (TX10 a).2.1 ≠ (TX10 b).2.1 := by decide +kernel
theorem tyX10_ok : ∀ k, k < 26 → parseFieldDescriptor (TX10 k).2.2.1 = some (tyX10 k) := by decide +kernel
abbrev cX10_init : ByteArray := prog_12_method_1_code
def yX10_init : MethodName := ⟨RX10, "<init>", "()V"⟩
abbrev cX10_isIn : ByteArray := prog_12_method_2_code
def yX10_isIn : MethodName := ⟨RX10, "isIn", "(III)Z"⟩
abbrev cX10_at : ByteArray := prog_12_method_3_code
def yX10_at : MethodName := ⟨RX10, "at", "(II)I"⟩
abbrev cX10_isGauge : ByteArray := prog_12_method_4_code
def yX10_isGauge : MethodName := ⟨RX10, "isGauge", "(I)Z"⟩
abbrev cX10_fails : ByteArray := prog_12_method_5_code
def yX10_fails : MethodName := ⟨RX10, "fails", "(III)I"⟩
abbrev cX10_put : ByteArray := prog_12_method_6_code
def yX10_put : MethodName := ⟨RX10, "put", "(IIIII)I"⟩
abbrev cX10_lift : ByteArray := prog_12_method_7_code
def yX10_lift : MethodName := ⟨RX10, "lift", "(I)I"⟩
abbrev cX10_look : ByteArray := prog_12_method_8_code
def yX10_look : MethodName := ⟨RX10, "look", "(II)I"⟩
abbrev cX10_read : ByteArray := prog_12_method_9_code
def yX10_read : MethodName := ⟨RX10, "read", "(II)I"⟩
abbrev cX10_full : ByteArray := prog_12_method_10_code
def yX10_full : MethodName := ⟨RX10, "full", "(II)I"⟩
abbrev cX10_melt : ByteArray := prog_12_method_11_code
def yX10_melt : MethodName := ⟨RX10, "melt", "(II)I"⟩
abbrev cX10_other : ByteArray := prog_12_method_12_code
def yX10_other : MethodName := ⟨RX10, "other", "(II)I"⟩
abbrev cX10_hand : ByteArray := prog_12_method_13_code
def yX10_hand : MethodName := ⟨RX10, "hand", "(III)I"⟩
abbrev cX10_close : ByteArray := prog_12_method_14_code
def yX10_close : MethodName := ⟨RX10, "close", "()I"⟩
abbrev cX10_today : ByteArray := prog_12_method_15_code
def yX10_today : MethodName := ⟨RX10, "today", "()I"⟩
abbrev cX10_set : ByteArray := prog_12_method_16_code
def yX10_set : MethodName := ⟨RX10, "set", "(II)Z"⟩
abbrev cX10_byHand : ByteArray := prog_12_method_17_code
def yX10_byHand : MethodName := ⟨RX10, "byHand", "(III)I"⟩
abbrev cX10_rawAt : ByteArray := prog_12_method_18_code
def yX10_rawAt : MethodName := ⟨RX10, "rawAt", "(III)I"⟩
abbrev cX10_tipped : ByteArray := prog_12_method_19_code
def yX10_tipped : MethodName := ⟨RX10, "tipped", "(II)I"⟩
abbrev cX10_raw0 : ByteArray := prog_12_method_20_code
def yX10_raw0 : MethodName := ⟨RX10, "raw0", "(II)I"⟩
abbrev cX10_raw : ByteArray := prog_12_method_21_code
def yX10_raw : MethodName := ⟨RX10, "raw", "(II)I"⟩
abbrev cX10_known : ByteArray := prog_12_method_22_code
def yX10_known : MethodName := ⟨RX10, "known", "(III)I"⟩
abbrev cX10_far : ByteArray := prog_12_method_23_code
def yX10_far : MethodName := ⟨RX10, "far", "(III)I"⟩
abbrev cX10_doubt : ByteArray := prog_12_method_24_code
def yX10_doubt : MethodName := ⟨RX10, "doubt", "(II)I"⟩
abbrev cX10_trusted : ByteArray := prog_12_method_25_code
def yX10_trusted : MethodName := ⟨RX10, "trusted", "(II)I"⟩
abbrev cX10_why : ByteArray := prog_12_method_26_code
def yX10_why : MethodName := ⟨RX10, "why", "(II)I"⟩
abbrev cX10_rows : ByteArray := prog_12_method_27_code
def yX10_rows : MethodName := ⟨RX10, "rows", "(I)I"⟩
abbrev cX10_bys : ByteArray := prog_12_method_28_code
def yX10_bys : MethodName := ⟨RX10, "bys", "(II)I"⟩
abbrev cX10_mayMend : ByteArray := prog_12_method_29_code
def yX10_mayMend : MethodName := ⟨RX10, "mayMend", "(II)Z"⟩
abbrev cX10_mended : ByteArray := prog_12_method_30_code
def yX10_mended : MethodName := ⟨RX10, "mended", "(II)I"⟩
abbrev cX10_from : ByteArray := prog_12_method_31_code
def yX10_from : MethodName := ⟨RX10, "from", "(III)I"⟩
abbrev cX10_readOn : ByteArray := prog_12_method_32_code
def yX10_readOn : MethodName := ⟨RX10, "readOn", "(II)I"⟩
abbrev cX10_spread : ByteArray := prog_12_method_33_code
def yX10_spread : MethodName := ⟨RX10, "spread", "(II)I"⟩
abbrev cX10_tells : ByteArray := prog_12_method_34_code
def yX10_tells : MethodName := ⟨RX10, "tells", "(II)Z"⟩
abbrev cX10_state : ByteArray := prog_12_method_35_code
def yX10_state : MethodName := ⟨RX10, "state", "(II)I"⟩
abbrev cX10_number0 : ByteArray := prog_12_method_36_code
def yX10_number0 : MethodName := ⟨RX10, "number0", "(II)I"⟩
abbrev cX10_number : ByteArray := prog_12_method_37_code
def yX10_number : MethodName := ⟨RX10, "number", "(II)I"⟩
abbrev cX10_owner : ByteArray := prog_12_method_38_code
def yX10_owner : MethodName := ⟨RX10, "owner", "(III)I"⟩
abbrev cX10_part : ByteArray := prog_12_method_39_code
def yX10_part : MethodName := ⟨RX10, "part", "(III)I"⟩
abbrev cX10_squares : ByteArray := prog_12_method_40_code
def yX10_squares : MethodName := ⟨RX10, "squares", "(II)I"⟩
abbrev cX10_many : ByteArray := prog_12_method_41_code
def yX10_many : MethodName := ⟨RX10, "many", "(I)I"⟩
abbrev cX10_valley : ByteArray := prog_12_method_42_code
def yX10_valley : MethodName := ⟨RX10, "valley", "(IIIZ)I"⟩
abbrev cX10_isTold : ByteArray := prog_12_method_43_code
def yX10_isTold : MethodName := ⟨RX10, "isTold", "(I)Z"⟩
abbrev cX10_rain0 : ByteArray := prog_12_method_44_code
def yX10_rain0 : MethodName := ⟨RX10, "rain0", "(II)I"⟩
abbrev cX10_rain : ByteArray := prog_12_method_45_code
def yX10_rain : MethodName := ⟨RX10, "rain", "(II)I"⟩
abbrev cX10_mean : ByteArray := prog_12_method_46_code
def yX10_mean : MethodName := ⟨RX10, "mean", "(II)I"⟩
abbrev cX10_flow0 : ByteArray := prog_12_method_47_code
def yX10_flow0 : MethodName := ⟨RX10, "flow0", "(II)J"⟩
abbrev cX10_flow : ByteArray := prog_12_method_48_code
def yX10_flow : MethodName := ⟨RX10, "flow", "(II)J"⟩
abbrev cX10_ahead : ByteArray := prog_12_method_49_code
def yX10_ahead : MethodName := ⟨RX10, "ahead", "(IJ)I"⟩
abbrev cX10_weekOf : ByteArray := prog_12_method_50_code
def yX10_weekOf : MethodName := ⟨RX10, "weekOf", "(IIZ)J"⟩
abbrev cX10_failsStore : ByteArray := prog_12_method_51_code
def yX10_failsStore : MethodName := ⟨RX10, "failsStore", "(I)I"⟩
abbrev cX10_week : ByteArray := prog_12_method_52_code
def yX10_week : MethodName := ⟨RX10, "week", "(III)I"⟩
abbrev cX10_apart : ByteArray := prog_12_method_53_code
def yX10_apart : MethodName := ⟨RX10, "apart", "(II)J"⟩
abbrev cX10_weeks : ByteArray := prog_12_method_54_code
def yX10_weeks : MethodName := ⟨RX10, "weeks", "(I)V"⟩
abbrev cX10_cleft : ByteArray := prog_12_method_55_code
def yX10_cleft : MethodName := ⟨RX10, "cleft", "(I)I"⟩
abbrev cX10_misses : ByteArray := prog_12_method_56_code
def yX10_misses : MethodName := ⟨RX10, "misses", "(II)J"⟩
def RJx8e188 : String := "java/lang/Cloneable"
def TJx8e188 : u_T := fun k => match k with
  | _ => ("", "", "", false)
def tyJx8e188 : Nat → FieldType := fun k => match k with
  | _ => .int
abbrev wsJx8e1880 : List Cond := u_ws RJx8e188 TJx8e188 0
theorem nmJx8e188 : ∀ a, a < 0 → ∀ b, b < 0 → a ≠ b → (TJx8e188 a).2.1 ≠ (TJx8e188 b).2.1 := by decide +kernel
theorem tyJx8e188_ok : ∀ k, k < 0 → parseFieldDescriptor (TJx8e188 k).2.2.1 = some (tyJx8e188 k) := by decide +kernel
def RJ9 : String := "java/lang/Math"
def TJ9 : u_T := fun k => match k with
  | _ => ("", "", "", false)
def tyJ9 : Nat → FieldType := fun k => match k with
  | _ => .int
abbrev wsJ90 : List Cond := u_ws RJ9 TJ9 0
theorem nmJ9 : ∀ a, a < 0 → ∀ b, b < 0 → a ≠ b → (TJ9 a).2.1 ≠ (TJ9 b).2.1 := by decide +kernel
theorem tyJ9_ok : ∀ k, k < 0 → parseFieldDescriptor (TJ9 k).2.2.1 = some (tyJ9 k) := by decide +kernel
abbrev cJ9_abs_0f7a4 : ByteArray := prog_14_method_59_code
def yJ9_abs_0f7a4 : MethodName := ⟨RJ9, "abs", "(I)I"⟩
abbrev cJ9_abs_067f4 : ByteArray := prog_14_method_61_code
def yJ9_abs_067f4 : MethodName := ⟨RJ9, "abs", "(J)J"⟩
abbrev cJ9_max_7cf53 : ByteArray := prog_14_method_65_code
def yJ9_max_7cf53 : MethodName := ⟨RJ9, "max", "(II)I"⟩
abbrev cJ9_min_7cf53 : ByteArray := prog_14_method_69_code
def yJ9_min_7cf53 : MethodName := ⟨RJ9, "min", "(II)I"⟩
def RJ7 : String := "java/util/Arrays"
def TJ7 : u_T := fun k => match k with
  | _ => ("", "", "", false)
def tyJ7 : Nat → FieldType := fun k => match k with
  | _ => .int
abbrev wsJ70 : List Cond := u_ws RJ7 TJ7 0
theorem nmJ7 : ∀ a, a < 0 → ∀ b, b < 0 → a ≠ b → (TJ7 a).2.1 ≠ (TJ7 b).2.1 := by decide +kernel
theorem tyJ7_ok : ∀ k, k < 0 → parseFieldDescriptor (TJ7 k).2.2.1 = some (tyJ7 k) := by decide +kernel
abbrev cJ7_fill_53178 : ByteArray := prog_15_method_103_code
def yJ7_fill_53178 : MethodName := ⟨RJ7, "fill", "([II)V"⟩
def RL : String := "RainOfficeLaw"
abbrev cL_law : ByteArray := code
def yL_law : MethodName := ⟨RL, "law", "([I)Z"⟩
