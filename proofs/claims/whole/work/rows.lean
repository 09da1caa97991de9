section
-- ===== PART A: goes FIRST, ahead of the names: the tables' words, and 'selects' of the private methods out of them =====
/-- a private method of a class that the tables say can be made, by its rows of tables_1 -/
def lw_okq (q : MethodName × Nat) : Prop := (q.1.cls ≠ "java/lang/invoke/MethodHandle" ∧ q.1.cls ≠ "java/lang/invoke/VarHandle") ∧ Cond.instantiable q.1.cls q.2 ∈ tables_1 ∧ Cond.privateMethod q.1 ∈ tables_1 ∧ Cond.instanceMethod q.1 ∈ tables_1
theorem lw_p0 : lw_okq (⟨"RainOffice", "gaugeFault", "(I)I"⟩, 5) := ⟨⟨by decide +kernel, by decide +kernel⟩, List.mem_of_getElem? (i := 15) (by decide +kernel), List.mem_of_getElem? (i := 313) (by decide +kernel), List.mem_of_getElem? (i := 314) (by decide +kernel)⟩
theorem lw_p1 : lw_okq (⟨"RainOffice", "kindFault", "(II)I"⟩, 5) := ⟨⟨by decide +kernel, by decide +kernel⟩, List.mem_of_getElem? (i := 15) (by decide +kernel), List.mem_of_getElem? (i := 324) (by decide +kernel), List.mem_of_getElem? (i := 325) (by decide +kernel)⟩
theorem lw_p2 : lw_okq (⟨"RainOffice", "noteSecond", "(III)I"⟩, 5) := ⟨⟨by decide +kernel, by decide +kernel⟩, List.mem_of_getElem? (i := 15) (by decide +kernel), List.mem_of_getElem? (i := 328) (by decide +kernel), List.mem_of_getElem? (i := 329) (by decide +kernel)⟩
theorem lw_p3 : lw_okq (⟨"RainOffice", "dailyGaugeFault", "(I)I"⟩, 5) := ⟨⟨by decide +kernel, by decide +kernel⟩, List.mem_of_getElem? (i := 15) (by decide +kernel), List.mem_of_getElem? (i := 352) (by decide +kernel), List.mem_of_getElem? (i := 353) (by decide +kernel)⟩
theorem lw_p4 : lw_okq (⟨"RainOffice", "gaugeDayFault", "(II)I"⟩, 5) := ⟨⟨by decide +kernel, by decide +kernel⟩, List.mem_of_getElem? (i := 15) (by decide +kernel), List.mem_of_getElem? (i := 380) (by decide +kernel), List.mem_of_getElem? (i := 381) (by decide +kernel)⟩
theorem lw_p5 : lw_okq (⟨"RainOffice$Place", "numberTipped", "(I)I"⟩, 9) := ⟨⟨by decide +kernel, by decide +kernel⟩, List.mem_of_getElem? (i := 60) (by decide +kernel), List.mem_of_getElem? (i := 398) (by decide +kernel), List.mem_of_getElem? (i := 399) (by decide +kernel)⟩
theorem lw_p6 : lw_okq (⟨"RainOffice$Place", "numberTwinned", "(I)I"⟩, 9) := ⟨⟨by decide +kernel, by decide +kernel⟩, List.mem_of_getElem? (i := 60) (by decide +kernel), List.mem_of_getElem? (i := 402) (by decide +kernel), List.mem_of_getElem? (i := 403) (by decide +kernel)⟩
theorem lw_p7 : lw_okq (⟨"RainOffice", "openBooks", "()LRainOffice$Books;"⟩, 5) := ⟨⟨by decide +kernel, by decide +kernel⟩, List.mem_of_getElem? (i := 15) (by decide +kernel), List.mem_of_getElem? (i := 414) (by decide +kernel), List.mem_of_getElem? (i := 415) (by decide +kernel)⟩
theorem lw_p8 : lw_okq (⟨"RainOffice$Books", "writeTrust", "(II)V"⟩, 7) := ⟨⟨by decide +kernel, by decide +kernel⟩, List.mem_of_getElem? (i := 143) (by decide +kernel), List.mem_of_getElem? (i := 430) (by decide +kernel), List.mem_of_getElem? (i := 431) (by decide +kernel)⟩
theorem lw_p9 : lw_okq (⟨"RainOffice$Books", "doubtingRule", "(II)I"⟩, 7) := ⟨⟨by decide +kernel, by decide +kernel⟩, List.mem_of_getElem? (i := 143) (by decide +kernel), List.mem_of_getElem? (i := 434) (by decide +kernel), List.mem_of_getElem? (i := 435) (by decide +kernel)⟩
theorem lw_p10 : lw_okq (⟨"RainOffice$Books", "isDryAmongWet", "(II)Z"⟩, 7) := ⟨⟨by decide +kernel, by decide +kernel⟩, List.mem_of_getElem? (i := 143) (by decide +kernel), List.mem_of_getElem? (i := 442) (by decide +kernel), List.mem_of_getElem? (i := 443) (by decide +kernel)⟩
theorem lw_p11 : lw_okq (⟨"RainOffice$Books", "writeSpread", "(II)V"⟩, 7) := ⟨⟨by decide +kernel, by decide +kernel⟩, List.mem_of_getElem? (i := 143) (by decide +kernel), List.mem_of_getElem? (i := 456) (by decide +kernel), List.mem_of_getElem? (i := 457) (by decide +kernel)⟩
theorem lw_p12 : lw_okq (⟨"RainOffice$Books", "spread", "(III)V"⟩, 7) := ⟨⟨by decide +kernel, by decide +kernel⟩, List.mem_of_getElem? (i := 143) (by decide +kernel), List.mem_of_getElem? (i := 460) (by decide +kernel), List.mem_of_getElem? (i := 461) (by decide +kernel)⟩
theorem lw_p13 : lw_okq (⟨"RainOffice$Books", "nearestTrusted", "(III)I"⟩, 7) := ⟨⟨by decide +kernel, by decide +kernel⟩, List.mem_of_getElem? (i := 143) (by decide +kernel), List.mem_of_getElem? (i := 464) (by decide +kernel), List.mem_of_getElem? (i := 465) (by decide +kernel)⟩
theorem lw_p14 : lw_okq (⟨"RainOffice$Books", "isTrustedThrough", "(III)Z"⟩, 7) := ⟨⟨by decide +kernel, by decide +kernel⟩, List.mem_of_getElem? (i := 143) (by decide +kernel), List.mem_of_getElem? (i := 468) (by decide +kernel), List.mem_of_getElem? (i := 469) (by decide +kernel)⟩
theorem lw_p15 : lw_okq (⟨"RainOffice$Books", "sumTrusted", "(III)I"⟩, 7) := ⟨⟨by decide +kernel, by decide +kernel⟩, List.mem_of_getElem? (i := 143) (by decide +kernel), List.mem_of_getElem? (i := 472) (by decide +kernel), List.mem_of_getElem? (i := 473) (by decide +kernel)⟩
def lw_privs_1 : List (MethodName × Nat) := [(⟨"RainOffice", "gaugeFault", "(I)I"⟩, 5), (⟨"RainOffice", "kindFault", "(II)I"⟩, 5), (⟨"RainOffice", "noteSecond", "(III)I"⟩, 5), (⟨"RainOffice", "dailyGaugeFault", "(I)I"⟩, 5), (⟨"RainOffice", "gaugeDayFault", "(II)I"⟩, 5), (⟨"RainOffice$Place", "numberTipped", "(I)I"⟩, 9), (⟨"RainOffice$Place", "numberTwinned", "(I)I"⟩, 9), (⟨"RainOffice", "openBooks", "()LRainOffice$Books;"⟩, 5), (⟨"RainOffice$Books", "writeTrust", "(II)V"⟩, 7), (⟨"RainOffice$Books", "doubtingRule", "(II)I"⟩, 7), (⟨"RainOffice$Books", "isDryAmongWet", "(II)Z"⟩, 7), (⟨"RainOffice$Books", "writeSpread", "(II)V"⟩, 7), (⟨"RainOffice$Books", "spread", "(III)V"⟩, 7), (⟨"RainOffice$Books", "nearestTrusted", "(III)I"⟩, 7), (⟨"RainOffice$Books", "isTrustedThrough", "(III)Z"⟩, 7), (⟨"RainOffice$Books", "sumTrusted", "(III)I"⟩, 7)]
theorem lw_r1 : ∀ q ∈ lw_privs_1, lw_okq q := List.forall_mem_cons.mpr ⟨lw_p0, List.forall_mem_cons.mpr ⟨lw_p1, List.forall_mem_cons.mpr ⟨lw_p2, List.forall_mem_cons.mpr ⟨lw_p3, List.forall_mem_cons.mpr ⟨lw_p4, List.forall_mem_cons.mpr ⟨lw_p5, List.forall_mem_cons.mpr ⟨lw_p6, List.forall_mem_cons.mpr ⟨lw_p7, List.forall_mem_cons.mpr ⟨lw_p8, List.forall_mem_cons.mpr ⟨lw_p9, List.forall_mem_cons.mpr ⟨lw_p10, List.forall_mem_cons.mpr ⟨lw_p11, List.forall_mem_cons.mpr ⟨lw_p12, List.forall_mem_cons.mpr ⟨lw_p13, List.forall_mem_cons.mpr ⟨lw_p14, List.forall_mem_cons.mpr ⟨lw_p15, fun _ h => absurd h List.not_mem_nil⟩⟩⟩⟩⟩⟩⟩⟩⟩⟩⟩⟩⟩⟩⟩⟩
theorem lw_p16 : lw_okq (⟨"RainOffice$Books", "spreadRest", "(IIII)V"⟩, 7) := ⟨⟨by decide +kernel, by decide +kernel⟩, List.mem_of_getElem? (i := 143) (by decide +kernel), List.mem_of_getElem? (i := 476) (by decide +kernel), List.mem_of_getElem? (i := 477) (by decide +kernel)⟩
theorem lw_p17 : lw_okq (⟨"RainOffice$Mender", "thousandthsBy", "(LRainOffice$Books;III)J"⟩, 2) := ⟨⟨by decide +kernel, by decide +kernel⟩, List.mem_of_getElem? (i := 175) (by decide +kernel), List.mem_of_getElem? (i := 526) (by decide +kernel), List.mem_of_getElem? (i := 527) (by decide +kernel)⟩
theorem lw_p18 : lw_okq (⟨"RainOffice$Breaks", "gatherNeighbours", "(I)V"⟩, 4) := ⟨⟨by decide +kernel, by decide +kernel⟩, List.mem_of_getElem? (i := 241) (by decide +kernel), List.mem_of_getElem? (i := 605) (by decide +kernel), List.mem_of_getElem? (i := 606) (by decide +kernel)⟩
theorem lw_p19 : lw_okq (⟨"RainOffice$Breaks", "sumOfNeighbours", "(LRainOffice$Books;I)I"⟩, 4) := ⟨⟨by decide +kernel, by decide +kernel⟩, List.mem_of_getElem? (i := 241) (by decide +kernel), List.mem_of_getElem? (i := 615) (by decide +kernel), List.mem_of_getElem? (i := 616) (by decide +kernel)⟩
theorem lw_p20 : lw_okq (⟨"RainOffice$Breaks", "missesOfPart", "(II)J"⟩, 4) := ⟨⟨by decide +kernel, by decide +kernel⟩, List.mem_of_getElem? (i := 241) (by decide +kernel), List.mem_of_getElem? (i := 636) (by decide +kernel), List.mem_of_getElem? (i := 637) (by decide +kernel)⟩
theorem lw_p21 : lw_okq (⟨"RainOfficeModel", "fails", "(III)I"⟩, 26) := ⟨⟨by decide +kernel, by decide +kernel⟩, List.mem_of_getElem? (i := 650) (by decide +kernel), List.mem_of_getElem? (i := 750) (by decide +kernel), List.mem_of_getElem? (i := 751) (by decide +kernel)⟩
theorem lw_p22 : lw_okq (⟨"RainOfficeModel", "raw0", "(II)I"⟩, 26) := ⟨⟨by decide +kernel, by decide +kernel⟩, List.mem_of_getElem? (i := 650) (by decide +kernel), List.mem_of_getElem? (i := 794) (by decide +kernel), List.mem_of_getElem? (i := 795) (by decide +kernel)⟩
theorem lw_p23 : lw_okq (⟨"RainOfficeModel", "rawAt", "(III)I"⟩, 26) := ⟨⟨by decide +kernel, by decide +kernel⟩, List.mem_of_getElem? (i := 650) (by decide +kernel), List.mem_of_getElem? (i := 798) (by decide +kernel), List.mem_of_getElem? (i := 799) (by decide +kernel)⟩
theorem lw_p24 : lw_okq (⟨"RainOfficeModel", "isGauge", "(I)Z"⟩, 26) := ⟨⟨by decide +kernel, by decide +kernel⟩, List.mem_of_getElem? (i := 650) (by decide +kernel), List.mem_of_getElem? (i := 802) (by decide +kernel), List.mem_of_getElem? (i := 803) (by decide +kernel)⟩
theorem lw_p25 : lw_okq (⟨"RainOfficeModel", "byHand", "(III)I"⟩, 26) := ⟨⟨by decide +kernel, by decide +kernel⟩, List.mem_of_getElem? (i := 650) (by decide +kernel), List.mem_of_getElem? (i := 806) (by decide +kernel), List.mem_of_getElem? (i := 807) (by decide +kernel)⟩
theorem lw_p26 : lw_okq (⟨"RainOfficeModel", "tipped", "(II)I"⟩, 26) := ⟨⟨by decide +kernel, by decide +kernel⟩, List.mem_of_getElem? (i := 650) (by decide +kernel), List.mem_of_getElem? (i := 810) (by decide +kernel), List.mem_of_getElem? (i := 811) (by decide +kernel)⟩
theorem lw_p27 : lw_okq (⟨"RainOfficeModel", "doubt", "(II)I"⟩, 26) := ⟨⟨by decide +kernel, by decide +kernel⟩, List.mem_of_getElem? (i := 650) (by decide +kernel), List.mem_of_getElem? (i := 822) (by decide +kernel), List.mem_of_getElem? (i := 823) (by decide +kernel)⟩
theorem lw_p28 : lw_okq (⟨"RainOfficeModel", "far", "(III)I"⟩, 26) := ⟨⟨by decide +kernel, by decide +kernel⟩, List.mem_of_getElem? (i := 650) (by decide +kernel), List.mem_of_getElem? (i := 826) (by decide +kernel), List.mem_of_getElem? (i := 827) (by decide +kernel)⟩
theorem lw_p29 : lw_okq (⟨"RainOfficeModel", "bys", "(II)I"⟩, 26) := ⟨⟨by decide +kernel, by decide +kernel⟩, List.mem_of_getElem? (i := 650) (by decide +kernel), List.mem_of_getElem? (i := 834) (by decide +kernel), List.mem_of_getElem? (i := 835) (by decide +kernel)⟩
theorem lw_p30 : lw_okq (⟨"RainOfficeModel", "rows", "(I)I"⟩, 26) := ⟨⟨by decide +kernel, by decide +kernel⟩, List.mem_of_getElem? (i := 650) (by decide +kernel), List.mem_of_getElem? (i := 838) (by decide +kernel), List.mem_of_getElem? (i := 839) (by decide +kernel)⟩
theorem lw_p31 : lw_okq (⟨"RainOfficeModel", "trusted", "(II)I"⟩, 26) := ⟨⟨by decide +kernel, by decide +kernel⟩, List.mem_of_getElem? (i := 650) (by decide +kernel), List.mem_of_getElem? (i := 842) (by decide +kernel), List.mem_of_getElem? (i := 843) (by decide +kernel)⟩
def lw_privs_2 : List (MethodName × Nat) := [(⟨"RainOffice$Books", "spreadRest", "(IIII)V"⟩, 7), (⟨"RainOffice$Mender", "thousandthsBy", "(LRainOffice$Books;III)J"⟩, 2), (⟨"RainOffice$Breaks", "gatherNeighbours", "(I)V"⟩, 4), (⟨"RainOffice$Breaks", "sumOfNeighbours", "(LRainOffice$Books;I)I"⟩, 4), (⟨"RainOffice$Breaks", "missesOfPart", "(II)J"⟩, 4), (⟨"RainOfficeModel", "fails", "(III)I"⟩, 26), (⟨"RainOfficeModel", "raw0", "(II)I"⟩, 26), (⟨"RainOfficeModel", "rawAt", "(III)I"⟩, 26), (⟨"RainOfficeModel", "isGauge", "(I)Z"⟩, 26), (⟨"RainOfficeModel", "byHand", "(III)I"⟩, 26), (⟨"RainOfficeModel", "tipped", "(II)I"⟩, 26), (⟨"RainOfficeModel", "doubt", "(II)I"⟩, 26), (⟨"RainOfficeModel", "far", "(III)I"⟩, 26), (⟨"RainOfficeModel", "bys", "(II)I"⟩, 26), (⟨"RainOfficeModel", "rows", "(I)I"⟩, 26), (⟨"RainOfficeModel", "trusted", "(II)I"⟩, 26)]
theorem lw_r2 : ∀ q ∈ lw_privs_2, lw_okq q := List.forall_mem_cons.mpr ⟨lw_p16, List.forall_mem_cons.mpr ⟨lw_p17, List.forall_mem_cons.mpr ⟨lw_p18, List.forall_mem_cons.mpr ⟨lw_p19, List.forall_mem_cons.mpr ⟨lw_p20, List.forall_mem_cons.mpr ⟨lw_p21, List.forall_mem_cons.mpr ⟨lw_p22, List.forall_mem_cons.mpr ⟨lw_p23, List.forall_mem_cons.mpr ⟨lw_p24, List.forall_mem_cons.mpr ⟨lw_p25, List.forall_mem_cons.mpr ⟨lw_p26, List.forall_mem_cons.mpr ⟨lw_p27, List.forall_mem_cons.mpr ⟨lw_p28, List.forall_mem_cons.mpr ⟨lw_p29, List.forall_mem_cons.mpr ⟨lw_p30, List.forall_mem_cons.mpr ⟨lw_p31, fun _ h => absurd h List.not_mem_nil⟩⟩⟩⟩⟩⟩⟩⟩⟩⟩⟩⟩⟩⟩⟩⟩
theorem lw_p32 : lw_okq (⟨"RainOfficeModel", "readOn", "(II)I"⟩, 26) := ⟨⟨by decide +kernel, by decide +kernel⟩, List.mem_of_getElem? (i := 650) (by decide +kernel), List.mem_of_getElem? (i := 850) (by decide +kernel), List.mem_of_getElem? (i := 851) (by decide +kernel)⟩
theorem lw_p33 : lw_okq (⟨"RainOfficeModel", "mended", "(II)I"⟩, 26) := ⟨⟨by decide +kernel, by decide +kernel⟩, List.mem_of_getElem? (i := 650) (by decide +kernel), List.mem_of_getElem? (i := 854) (by decide +kernel), List.mem_of_getElem? (i := 855) (by decide +kernel)⟩
theorem lw_p34 : lw_okq (⟨"RainOfficeModel", "mayMend", "(II)Z"⟩, 26) := ⟨⟨by decide +kernel, by decide +kernel⟩, List.mem_of_getElem? (i := 650) (by decide +kernel), List.mem_of_getElem? (i := 858) (by decide +kernel), List.mem_of_getElem? (i := 859) (by decide +kernel)⟩
theorem lw_p35 : lw_okq (⟨"RainOfficeModel", "number0", "(II)I"⟩, 26) := ⟨⟨by decide +kernel, by decide +kernel⟩, List.mem_of_getElem? (i := 650) (by decide +kernel), List.mem_of_getElem? (i := 867) (by decide +kernel), List.mem_of_getElem? (i := 868) (by decide +kernel)⟩
theorem lw_p36 : lw_okq (⟨"RainOfficeModel", "spread", "(II)I"⟩, 26) := ⟨⟨by decide +kernel, by decide +kernel⟩, List.mem_of_getElem? (i := 650) (by decide +kernel), List.mem_of_getElem? (i := 871) (by decide +kernel), List.mem_of_getElem? (i := 872) (by decide +kernel)⟩
theorem lw_p37 : lw_okq (⟨"RainOfficeModel", "owner", "(III)I"⟩, 26) := ⟨⟨by decide +kernel, by decide +kernel⟩, List.mem_of_getElem? (i := 650) (by decide +kernel), List.mem_of_getElem? (i := 879) (by decide +kernel), List.mem_of_getElem? (i := 880) (by decide +kernel)⟩
theorem lw_p38 : lw_okq (⟨"RainOfficeModel", "tells", "(II)Z"⟩, 26) := ⟨⟨by decide +kernel, by decide +kernel⟩, List.mem_of_getElem? (i := 650) (by decide +kernel), List.mem_of_getElem? (i := 883) (by decide +kernel), List.mem_of_getElem? (i := 884) (by decide +kernel)⟩
theorem lw_p39 : lw_okq (⟨"RainOfficeModel", "many", "(I)I"⟩, 26) := ⟨⟨by decide +kernel, by decide +kernel⟩, List.mem_of_getElem? (i := 650) (by decide +kernel), List.mem_of_getElem? (i := 895) (by decide +kernel), List.mem_of_getElem? (i := 896) (by decide +kernel)⟩
theorem lw_p40 : lw_okq (⟨"RainOfficeModel", "rain0", "(II)I"⟩, 26) := ⟨⟨by decide +kernel, by decide +kernel⟩, List.mem_of_getElem? (i := 650) (by decide +kernel), List.mem_of_getElem? (i := 903) (by decide +kernel), List.mem_of_getElem? (i := 904) (by decide +kernel)⟩
theorem lw_p41 : lw_okq (⟨"RainOfficeModel", "isTold", "(I)Z"⟩, 26) := ⟨⟨by decide +kernel, by decide +kernel⟩, List.mem_of_getElem? (i := 650) (by decide +kernel), List.mem_of_getElem? (i := 907) (by decide +kernel), List.mem_of_getElem? (i := 908) (by decide +kernel)⟩
theorem lw_p42 : lw_okq (⟨"RainOfficeModel", "flow0", "(II)J"⟩, 26) := ⟨⟨by decide +kernel, by decide +kernel⟩, List.mem_of_getElem? (i := 650) (by decide +kernel), List.mem_of_getElem? (i := 919) (by decide +kernel), List.mem_of_getElem? (i := 920) (by decide +kernel)⟩
theorem lw_p43 : lw_okq (⟨"RainOfficeModel", "failsStore", "(I)I"⟩, 26) := ⟨⟨by decide +kernel, by decide +kernel⟩, List.mem_of_getElem? (i := 650) (by decide +kernel), List.mem_of_getElem? (i := 932) (by decide +kernel), List.mem_of_getElem? (i := 933) (by decide +kernel)⟩
theorem lw_p44 : lw_okq (⟨"RainOfficeModel", "weekOf", "(IIZ)J"⟩, 26) := ⟨⟨by decide +kernel, by decide +kernel⟩, List.mem_of_getElem? (i := 650) (by decide +kernel), List.mem_of_getElem? (i := 936) (by decide +kernel), List.mem_of_getElem? (i := 937) (by decide +kernel)⟩
theorem lw_p45 : lw_okq (⟨"RainOfficeModel", "weeks", "(I)V"⟩, 26) := ⟨⟨by decide +kernel, by decide +kernel⟩, List.mem_of_getElem? (i := 650) (by decide +kernel), List.mem_of_getElem? (i := 944) (by decide +kernel), List.mem_of_getElem? (i := 945) (by decide +kernel)⟩
theorem lw_p46 : lw_okq (⟨"RainOfficeModel", "apart", "(II)J"⟩, 26) := ⟨⟨by decide +kernel, by decide +kernel⟩, List.mem_of_getElem? (i := 650) (by decide +kernel), List.mem_of_getElem? (i := 948) (by decide +kernel), List.mem_of_getElem? (i := 949) (by decide +kernel)⟩
def lw_privs_3 : List (MethodName × Nat) := [(⟨"RainOfficeModel", "readOn", "(II)I"⟩, 26), (⟨"RainOfficeModel", "mended", "(II)I"⟩, 26), (⟨"RainOfficeModel", "mayMend", "(II)Z"⟩, 26), (⟨"RainOfficeModel", "number0", "(II)I"⟩, 26), (⟨"RainOfficeModel", "spread", "(II)I"⟩, 26), (⟨"RainOfficeModel", "owner", "(III)I"⟩, 26), (⟨"RainOfficeModel", "tells", "(II)Z"⟩, 26), (⟨"RainOfficeModel", "many", "(I)I"⟩, 26), (⟨"RainOfficeModel", "rain0", "(II)I"⟩, 26), (⟨"RainOfficeModel", "isTold", "(I)Z"⟩, 26), (⟨"RainOfficeModel", "flow0", "(II)J"⟩, 26), (⟨"RainOfficeModel", "failsStore", "(I)I"⟩, 26), (⟨"RainOfficeModel", "weekOf", "(IIZ)J"⟩, 26), (⟨"RainOfficeModel", "weeks", "(I)V"⟩, 26), (⟨"RainOfficeModel", "apart", "(II)J"⟩, 26)]
theorem lw_r3 : ∀ q ∈ lw_privs_3, lw_okq q := List.forall_mem_cons.mpr ⟨lw_p32, List.forall_mem_cons.mpr ⟨lw_p33, List.forall_mem_cons.mpr ⟨lw_p34, List.forall_mem_cons.mpr ⟨lw_p35, List.forall_mem_cons.mpr ⟨lw_p36, List.forall_mem_cons.mpr ⟨lw_p37, List.forall_mem_cons.mpr ⟨lw_p38, List.forall_mem_cons.mpr ⟨lw_p39, List.forall_mem_cons.mpr ⟨lw_p40, List.forall_mem_cons.mpr ⟨lw_p41, List.forall_mem_cons.mpr ⟨lw_p42, List.forall_mem_cons.mpr ⟨lw_p43, List.forall_mem_cons.mpr ⟨lw_p44, List.forall_mem_cons.mpr ⟨lw_p45, List.forall_mem_cons.mpr ⟨lw_p46, fun _ h => absurd h List.not_mem_nil⟩⟩⟩⟩⟩⟩⟩⟩⟩⟩⟩⟩⟩⟩⟩
def lw_privs : List (MethodName × Nat) := lw_privs_1 ++ (lw_privs_2 ++ (lw_privs_3))
def lw_tbl : List Cond := k2_sels lw_privs ++ tables_1
theorem lw_privs_ok : ∀ q ∈ lw_privs, lw_okq q := by
  show ∀ q ∈ lw_privs_1 ++ (lw_privs_2 ++ (lw_privs_3)), lw_okq q
  exact List.forall_mem_append.mpr ⟨lw_r1, List.forall_mem_append.mpr ⟨lw_r2, lw_r3⟩⟩
-- ===== end of PART A =====
def RX0 : String := "RainOffice$Books"
def TX0 : u_T := fun k => match k with
  | 0 => ("RainOffice$Books", "net", "LRainOffice$Net;", true)
  | 1 => ("RainOffice$Books", "raw", "[[I", true)
  | 2 => ("RainOffice$Books", "doubt", "[[I", true)
  | 3 => ("RainOffice$Books", "trusted", "[[I", true)
  | 4 => ("RainOffice$Books", "told", "[[I", true)
  | 5 => ("RainOffice$Books", "rests", "[I", true)
  | _ => ("RainOffice$Books", "written", "I", false)
def tyX0 : Nat → FieldType := fun k => match k with
  | 0 => .object "RainOffice$Net"
  | 1 => .array (.array .int)
  | 2 => .array (.array .int)
  | 3 => .array (.array .int)
  | 4 => .array (.array .int)
  | 5 => .array .int
  | _ => .int
abbrev wsX00 : List Cond := u_ws RX0 TX0 7
theorem nmX0 : ∀ a, a < 7 → ∀ b, b < 7 → a ≠ b → (TX0 a).2.1 ≠ (TX0 b).2.1 := by decide +kernel
theorem tyX0_ok : ∀ k, k < 7 → parseFieldDescriptor (TX0 k).2.2.1 = some (tyX0 k) := by decide +kernel
abbrev cX0_init : ByteArray := prog_2_method_1_code
def yX0_init : MethodName := ⟨RX0, "<init>", "(LRainOffice$Net;)V"⟩
abbrev cX0_doubtOf : ByteArray := prog_2_method_2_code
def yX0_doubtOf : MethodName := ⟨RX0, "doubtOf", "(II)I"⟩
abbrev cX0_trustedOf : ByteArray := prog_2_method_3_code
def yX0_trustedOf : MethodName := ⟨RX0, "trustedOf", "(II)I"⟩
abbrev cX0_toldOf : ByteArray := prog_2_method_4_code
def yX0_toldOf : MethodName := ⟨RX0, "toldOf", "(II)I"⟩
abbrev cX0_rewrite : ByteArray := prog_2_method_5_code
def yX0_rewrite : MethodName := ⟨RX0, "rewrite", "()V"⟩
abbrev cX0_writeTrust : ByteArray := prog_2_method_6_code
def yX0_writeTrust : MethodName := ⟨RX0, "writeTrust", "(II)V"⟩
abbrev cX0_doubtingRule : ByteArray := prog_2_method_7_code
def yX0_doubtingRule : MethodName := ⟨RX0, "doubtingRule", "(II)I"⟩
abbrev cX0_isDryAmongWet : ByteArray := prog_2_method_8_code
def yX0_isDryAmongWet : MethodName := ⟨RX0, "isDryAmongWet", "(II)Z"⟩
abbrev cX0_writeSpread : ByteArray := prog_2_method_9_code
def yX0_writeSpread : MethodName := ⟨RX0, "writeSpread", "(II)V"⟩
abbrev cX0_spread : ByteArray := prog_2_method_10_code
def yX0_spread : MethodName := ⟨RX0, "spread", "(III)V"⟩
abbrev cX0_sumTrusted : ByteArray := prog_2_method_11_code
def yX0_sumTrusted : MethodName := ⟨RX0, "sumTrusted", "(III)I"⟩
abbrev cX0_spreadRest : ByteArray := prog_2_method_12_code
def yX0_spreadRest : MethodName := ⟨RX0, "spreadRest", "(IIII)V"⟩
abbrev cX0_nearestTrusted : ByteArray := prog_2_method_13_code
def yX0_nearestTrusted : MethodName := ⟨RX0, "nearestTrusted", "(III)I"⟩
abbrev cX0_isTrustedThrough : ByteArray := prog_2_method_14_code
def yX0_isTrustedThrough : MethodName := ⟨RX0, "isTrustedThrough", "(III)Z"⟩
def RX1 : String := "RainOffice$Breaks"
def TX1 : u_T := fun k => match k with
  | 0 => ("RainOffice$Breaks", "net", "LRainOffice$Net;", true)
  | 1 => ("RainOffice$Breaks", "circle", "LRainOffice$Circle;", true)
  | 2 => ("RainOffice$Breaks", "own", "[I", true)
  | _ => ("RainOffice$Breaks", "theirs", "[I", true)
def tyX1 : Nat → FieldType := fun k => match k with
  | 0 => .object "RainOffice$Net"
  | 1 => .object "RainOffice$Circle"
  | 2 => .array .int
  | _ => .array .int
abbrev wsX10 : List Cond := u_ws RX1 TX1 4
theorem nmX1 : ∀ a, a < 4 → ∀ b, b < 4 → a ≠ b → (TX1 a).2.1 ≠ (TX1 b).2.1 := by decide +kernel
theorem tyX1_ok : ∀ k, k < 4 → parseFieldDescriptor (TX1 k).2.2.1 = some (tyX1 k) := by decide +kernel
abbrev cX1_init : ByteArray := prog_3_method_1_code
def yX1_init : MethodName := ⟨RX1, "<init>", "(LRainOffice$Net;)V"⟩
abbrev cX1_sumWeeks : ByteArray := prog_3_method_2_code
def yX1_sumWeeks : MethodName := ⟨RX1, "sumWeeks", "(LRainOffice$Books;I)V"⟩
abbrev cX1_gatherNeighbours : ByteArray := prog_3_method_3_code
def yX1_gatherNeighbours : MethodName := ⟨RX1, "gatherNeighbours", "(I)V"⟩
abbrev cX1_sumOfNeighbours : ByteArray := prog_3_method_4_code
def yX1_sumOfNeighbours : MethodName := ⟨RX1, "sumOfNeighbours", "(LRainOffice$Books;I)I"⟩
abbrev cX1_leastBreak : ByteArray := prog_3_method_5_code
def yX1_leastBreak : MethodName := ⟨RX1, "leastBreak", "(I)I"⟩
abbrev cX1_missesAt : ByteArray := prog_3_method_6_code
def yX1_missesAt : MethodName := ⟨RX1, "missesAt", "(II)J"⟩
abbrev cX1_missesOfPart : ByteArray := prog_3_method_7_code
def yX1_missesOfPart : MethodName := ⟨RX1, "missesOfPart", "(II)J"⟩
def RX2 : String := "RainOffice$Circle"
def TX2 : u_T := fun k => match k with
  | 0 => ("RainOffice$Circle", "chosen", "[I", true)
  | 1 => ("RainOffice$Circle", "distances", "[I", true)
  | _ => ("RainOffice$Circle", "count", "I", false)
def tyX2 : Nat → FieldType := fun k => match k with
  | 0 => .array .int
  | 1 => .array .int
  | _ => .int
abbrev wsX20 : List Cond := u_ws RX2 TX2 3
theorem nmX2 : ∀ a, a < 3 → ∀ b, b < 3 → a ≠ b → (TX2 a).2.1 ≠ (TX2 b).2.1 := by decide +kernel
theorem tyX2_ok : ∀ k, k < 3 → parseFieldDescriptor (TX2 k).2.2.1 = some (tyX2 k) := by decide +kernel
abbrev cX2_init : ByteArray := prog_4_method_1_code
def yX2_init : MethodName := ⟨RX2, "<init>", "()V"⟩
abbrev cX2_offer : ByteArray := prog_4_method_2_code
def yX2_offer : MethodName := ⟨RX2, "offer", "(II)V"⟩
abbrev cX2_placeAt : ByteArray := prog_4_method_3_code
def yX2_placeAt : MethodName := ⟨RX2, "placeAt", "(I)I"⟩
def RX3 : String := "RainOffice$HandLog"
def TX3 : u_T := fun k => match k with
  | 0 => ("RainOffice$HandLog", "value", "[I", true)
  | 1 => ("RainOffice$HandLog", "putInOn", "[I", true)
  | 2 => ("RainOffice$HandLog", "before", "[I", true)
  | _ => ("RainOffice$HandLog", "count", "I", false)
def tyX3 : Nat → FieldType := fun k => match k with
  | 0 => .array .int
  | 1 => .array .int
  | 2 => .array .int
  | _ => .int
abbrev wsX30 : List Cond := u_ws RX3 TX3 4
theorem nmX3 : ∀ a, a < 4 → ∀ b, b < 4 → a ≠ b → (TX3 a).2.1 ≠ (TX3 b).2.1 := by decide +kernel
theorem tyX3_ok : ∀ k, k < 4 → parseFieldDescriptor (TX3 k).2.2.1 = some (tyX3 k) := by decide +kernel
abbrev cX3_init : ByteArray := prog_5_method_1_code
def yX3_init : MethodName := ⟨RX3, "<init>", "()V"⟩
abbrev cX3_append : ByteArray := prog_5_method_2_code
def yX3_append : MethodName := ⟨RX3, "append", "(III)I"⟩
abbrev cX3_latestUntil : ByteArray := prog_5_method_3_code
def yX3_latestUntil : MethodName := ⟨RX3, "latestUntil", "(II)I"⟩
def RX4 : String := "RainOffice$Land"
def TX4 : u_T := fun k => match k with
  | 0 => ("RainOffice$Land", "net", "LRainOffice$Net;", true)
  | _ => ("RainOffice$Land", "valleys", "[LRainOffice$Valley;", true)
def tyX4 : Nat → FieldType := fun k => match k with
  | 0 => .object "RainOffice$Net"
  | _ => .array (.object "RainOffice$Valley")
abbrev wsX40 : List Cond := u_ws RX4 TX4 2
theorem nmX4 : ∀ a, a < 2 → ∀ b, b < 2 → a ≠ b → (TX4 a).2.1 ≠ (TX4 b).2.1 := by decide +kernel
theorem tyX4_ok : ∀ k, k < 2 → parseFieldDescriptor (TX4 k).2.2.1 = some (tyX4 k) := by decide +kernel
abbrev cX4_init : ByteArray := prog_6_method_1_code
def yX4_init : MethodName := ⟨RX4, "<init>", "(LRainOffice$Net;)V"⟩
abbrev cX4_ownerOf : ByteArray := prog_6_method_2_code
def yX4_ownerOf : MethodName := ⟨RX4, "ownerOf", "(LRainOffice$Books;III)I"⟩
abbrev cX4_countOwned : ByteArray := prog_6_method_3_code
def yX4_countOwned : MethodName := ⟨RX4, "countOwned", "(LRainOffice$Books;II)I"⟩
abbrev cX4_rainOf : ByteArray := prog_6_method_4_code
def yX4_rainOf : MethodName := ⟨RX4, "rainOf", "(LRainOffice$Books;LRainOffice$Valley;I)I"⟩
abbrev cX4_flowOf : ByteArray := prog_6_method_5_code
def yX4_flowOf : MethodName := ⟨RX4, "flowOf", "(LRainOffice$Books;LRainOffice$Valley;I)J"⟩
def RX5 : String := "RainOffice$Mender"
def TX5 : u_T := fun k => match k with
  | 0 => ("RainOffice$Mender", "net", "LRainOffice$Net;", true)
  | _ => ("RainOffice$Mender", "circle", "LRainOffice$Circle;", true)
def tyX5 : Nat → FieldType := fun k => match k with
  | 0 => .object "RainOffice$Net"
  | _ => .object "RainOffice$Circle"
abbrev wsX50 : List Cond := u_ws RX5 TX5 2
theorem nmX5 : ∀ a, a < 2 → ∀ b, b < 2 → a ≠ b → (TX5 a).2.1 ≠ (TX5 b).2.1 := by decide +kernel
theorem tyX5_ok : ∀ k, k < 2 → parseFieldDescriptor (TX5 k).2.2.1 = some (tyX5 k) := by decide +kernel
abbrev cX5_init : ByteArray := prog_7_method_1_code
def yX5_init : MethodName := ⟨RX5, "<init>", "(LRainOffice$Net;)V"⟩
abbrev cX5_gather : ByteArray := prog_7_method_2_code
def yX5_gather : MethodName := ⟨RX5, "gather", "(LRainOffice$Books;II)I"⟩
abbrev cX5_mend : ByteArray := prog_7_method_3_code
def yX5_mend : MethodName := ⟨RX5, "mend", "(LRainOffice$Books;II)I"⟩
abbrev cX5_nearness : ByteArray := prog_7_method_4_code
def yX5_nearness : MethodName := ⟨RX5, "nearness", "(I)I"⟩
abbrev cX5_thousandthsBy : ByteArray := prog_7_method_5_code
def yX5_thousandthsBy : MethodName := ⟨RX5, "thousandthsBy", "(LRainOffice$Books;III)J"⟩
def RX6 : String := "RainOffice$Net"
def TX6 : u_T := fun k => match k with
  | 0 => ("RainOffice$Net", "places", "[LRainOffice$Place;", true)
  | 1 => ("RainOffice$Net", "log", "LRainOffice$HandLog;", true)
  | 2 => ("RainOffice$Net", "rules", "[I", true)
  | 3 => ("RainOffice$Net", "today", "I", false)
  | _ => ("RainOffice$Net", "changes", "I", false)
def tyX6 : Nat → FieldType := fun k => match k with
  | 0 => .array (.object "RainOffice$Place")
  | 1 => .object "RainOffice$HandLog"
  | 2 => .array .int
  | 3 => .int
  | _ => .int
abbrev wsX60 : List Cond := u_ws RX6 TX6 5
theorem nmX6 : ∀ a, a < 5 → ∀ b, b < 5 → a ≠ b → (TX6 a).2.1 ≠ (TX6 b).2.1 := by decide +kernel
theorem tyX6_ok : ∀ k, k < 5 → parseFieldDescriptor (TX6 k).2.2.1 = some (tyX6 k) := by decide +kernel
abbrev cX6_init : ByteArray := prog_8_method_1_code
def yX6_init : MethodName := ⟨RX6, "<init>", "()V"⟩
abbrev cX6_rule : ByteArray := prog_8_method_2_code
def yX6_rule : MethodName := ⟨RX6, "rule", "(I)I"⟩
abbrev cX6_daysBegun : ByteArray := prog_8_method_3_code
def yX6_daysBegun : MethodName := ⟨RX6, "daysBegun", "()I"⟩
abbrev cX6_lastWholeWeek : ByteArray := prog_8_method_4_code
def yX6_lastWholeWeek : MethodName := ⟨RX6, "lastWholeWeek", "()I"⟩
abbrev cX6_numberKnown : ByteArray := prog_8_method_5_code
def yX6_numberKnown : MethodName := ⟨RX6, "numberKnown", "(III)I"⟩
def RX7 : String := "RainOffice$Place"
def TX7 : u_T := fun k => match k with
  | 0 => ("RainOffice$Place", "kind", "I", false)
  | 1 => ("RainOffice$Place", "x", "I", false)
  | 2 => ("RainOffice$Place", "y", "I", false)
  | 3 => ("RainOffice$Place", "size", "I", false)
  | 4 => ("RainOffice$Place", "first", "I", false)
  | 5 => ("RainOffice$Place", "lying", "I", false)
  | 6 => ("RainOffice$Place", "reading", "[I", true)
  | 7 => ("RainOffice$Place", "second", "[I", true)
  | _ => ("RainOffice$Place", "handed", "[I", true)
def tyX7 : Nat → FieldType := fun k => match k with
  | 0 => .int
  | 1 => .int
  | 2 => .int
  | 3 => .int
  | 4 => .int
  | 5 => .int
  | 6 => .array .int
  | 7 => .array .int
  | _ => .array .int
abbrev wsX70 : List Cond := u_ws RX7 TX7 9
theorem nmX7 : ∀ a, a < 9 → ∀ b, b < 9 → a ≠ b → (TX7 a).2.1 ≠ (TX7 b).2.1 := by decide +kernel
theorem tyX7_ok : ∀ k, k < 9 → parseFieldDescriptor (TX7 k).2.2.1 = some (tyX7 k) := by decide +kernel
abbrev cX7_init : ByteArray := prog_9_method_1_code
def yX7_init : MethodName := ⟨RX7, "<init>", "()V"⟩
abbrev cX7_bring : ByteArray := prog_9_method_2_code
def yX7_bring : MethodName := ⟨RX7, "bring", "(IIIII)V"⟩
abbrev cX7_clear : ByteArray := prog_9_method_3_code
def yX7_clear : MethodName := ⟨RX7, "clear", "()V"⟩
abbrev cX7_isDailyGauge : ByteArray := prog_9_method_4_code
def yX7_isDailyGauge : MethodName := ⟨RX7, "isDailyGauge", "()Z"⟩
abbrev cX7_meltAway : ByteArray := prog_9_method_5_code
def yX7_meltAway : MethodName := ⟨RX7, "meltAway", "(II)I"⟩
abbrev cX7_numberRead : ByteArray := prog_9_method_6_code
def yX7_numberRead : MethodName := ⟨RX7, "numberRead", "(I)I"⟩
abbrev cX7_numberTipped : ByteArray := prog_9_method_7_code
def yX7_numberTipped : MethodName := ⟨RX7, "numberTipped", "(I)I"⟩
abbrev cX7_numberTwinned : ByteArray := prog_9_method_8_code
def yX7_numberTwinned : MethodName := ⟨RX7, "numberTwinned", "(I)I"⟩
abbrev cX7_isUnlike : ByteArray := prog_9_method_9_code
def yX7_isUnlike : MethodName := ⟨RX7, "isUnlike", "(II)Z"⟩
def RX8 : String := "RainOffice$Valley"
def TX8 : u_T := fun k => match k with
  | 0 => ("RainOffice$Valley", "has", "[Z", true)
  | _ => ("RainOffice$Valley", "count", "I", false)
def tyX8 : Nat → FieldType := fun k => match k with
  | 0 => .array .boolean
  | _ => .int
abbrev wsX80 : List Cond := u_ws RX8 TX8 2
theorem nmX8 : ∀ a, a < 2 → ∀ b, b < 2 → a ≠ b → (TX8 a).2.1 ≠ (TX8 b).2.1 := by decide +kernel
theorem tyX8_ok : ∀ k, k < 2 → parseFieldDescriptor (TX8 k).2.2.1 = some (tyX8 k) := by decide +kernel
abbrev cX8_init : ByteArray := prog_10_method_1_code
def yX8_init : MethodName := ⟨RX8, "<init>", "()V"⟩
abbrev cX8_change : ByteArray := prog_10_method_2_code
def yX8_change : MethodName := ⟨RX8, "change", "(IZ)I"⟩
def RX9 : String := "RainOffice"
def TX9 : u_T := fun k => match k with
  | 0 => ("RainOffice", "net", "LRainOffice$Net;", true)
  | 1 => ("RainOffice", "books", "LRainOffice$Books;", true)
  | 2 => ("RainOffice", "mender", "LRainOffice$Mender;", true)
  | 3 => ("RainOffice", "land", "LRainOffice$Land;", true)
  | _ => ("RainOffice", "breaks", "LRainOffice$Breaks;", true)
def tyX9 : Nat → FieldType := fun k => match k with
  | 0 => .object "RainOffice$Net"
  | 1 => .object "RainOffice$Books"
  | 2 => .object "RainOffice$Mender"
  | 3 => .object "RainOffice$Land"
  | _ => .object "RainOffice$Breaks"
abbrev wsX90 : List Cond := u_ws RX9 TX9 5
theorem nmX9 : ∀ a, a < 5 → ∀ b, b < 5 → a ≠ b → (TX9 a).2.1 ≠ (TX9 b).2.1 := by decide +kernel
theorem tyX9_ok : ∀ k, k < 5 → parseFieldDescriptor (TX9 k).2.2.1 = some (tyX9 k) := by decide +kernel
abbrev cX9_init : ByteArray := prog_1_method_1_code
def yX9_init : MethodName := ⟨RX9, "<init>", "()V"⟩
abbrev cX9_put : ByteArray := prog_1_method_2_code
def yX9_put : MethodName := ⟨RX9, "put", "(IIIII)I"⟩
abbrev cX9_lift : ByteArray := prog_1_method_3_code
def yX9_lift : MethodName := ⟨RX9, "lift", "(I)I"⟩
abbrev cX9_look : ByteArray := prog_1_method_4_code
def yX9_look : MethodName := ⟨RX9, "look", "(II)I"⟩
abbrev cX9_read : ByteArray := prog_1_method_5_code
def yX9_read : MethodName := ⟨RX9, "read", "(II)I"⟩
abbrev cX9_full : ByteArray := prog_1_method_6_code
def yX9_full : MethodName := ⟨RX9, "full", "(II)I"⟩
abbrev cX9_melt : ByteArray := prog_1_method_7_code
def yX9_melt : MethodName := ⟨RX9, "melt", "(II)I"⟩
abbrev cX9_other : ByteArray := prog_1_method_8_code
def yX9_other : MethodName := ⟨RX9, "other", "(II)I"⟩
abbrev cX9_hand : ByteArray := prog_1_method_9_code
def yX9_hand : MethodName := ⟨RX9, "hand", "(III)I"⟩
abbrev cX9_close : ByteArray := prog_1_method_10_code
def yX9_close : MethodName := ⟨RX9, "close", "()I"⟩
abbrev cX9_today : ByteArray := prog_1_method_11_code
def yX9_today : MethodName := ⟨RX9, "today", "()I"⟩
abbrev cX9_set : ByteArray := prog_1_method_12_code
def yX9_set : MethodName := ⟨RX9, "set", "(II)Z"⟩
abbrev cX9_raw : ByteArray := prog_1_method_13_code
def yX9_raw : MethodName := ⟨RX9, "raw", "(II)I"⟩
abbrev cX9_known : ByteArray := prog_1_method_14_code
def yX9_known : MethodName := ⟨RX9, "known", "(III)I"⟩
abbrev cX9_why : ByteArray := prog_1_method_15_code
def yX9_why : MethodName := ⟨RX9, "why", "(II)I"⟩
abbrev cX9_state : ByteArray := prog_1_method_16_code
def yX9_state : MethodName := ⟨RX9, "state", "(II)I"⟩
abbrev cX9_number : ByteArray := prog_1_method_17_code
def yX9_number : MethodName := ⟨RX9, "number", "(II)I"⟩
abbrev cX9_from : ByteArray := prog_1_method_18_code
def yX9_from : MethodName := ⟨RX9, "from", "(III)I"⟩
abbrev cX9_part : ByteArray := prog_1_method_19_code
def yX9_part : MethodName := ⟨RX9, "part", "(III)I"⟩
abbrev cX9_squares : ByteArray := prog_1_method_20_code
def yX9_squares : MethodName := ⟨RX9, "squares", "(II)I"⟩
abbrev cX9_valley : ByteArray := prog_1_method_21_code
def yX9_valley : MethodName := ⟨RX9, "valley", "(IIIZ)I"⟩
abbrev cX9_rain : ByteArray := prog_1_method_22_code
def yX9_rain : MethodName := ⟨RX9, "rain", "(II)I"⟩
abbrev cX9_mean : ByteArray := prog_1_method_23_code
def yX9_mean : MethodName := ⟨RX9, "mean", "(II)I"⟩
abbrev cX9_flow : ByteArray := prog_1_method_24_code
def yX9_flow : MethodName := ⟨RX9, "flow", "(II)J"⟩
abbrev cX9_ahead : ByteArray := prog_1_method_25_code
def yX9_ahead : MethodName := ⟨RX9, "ahead", "(IJ)I"⟩
abbrev cX9_week : ByteArray := prog_1_method_26_code
def yX9_week : MethodName := ⟨RX9, "week", "(III)I"⟩
abbrev cX9_cleft : ByteArray := prog_1_method_27_code
def yX9_cleft : MethodName := ⟨RX9, "cleft", "(I)I"⟩
abbrev cX9_misses : ByteArray := prog_1_method_28_code
def yX9_misses : MethodName := ⟨RX9, "misses", "(II)J"⟩
abbrev cX9_isPlace : ByteArray := prog_1_method_29_code
def yX9_isPlace : MethodName := ⟨RX9, "isPlace", "(I)Z"⟩
abbrev cX9_isDay : ByteArray := prog_1_method_30_code
def yX9_isDay : MethodName := ⟨RX9, "isDay", "(I)Z"⟩
abbrev cX9_isSquare : ByteArray := prog_1_method_31_code
def yX9_isSquare : MethodName := ⟨RX9, "isSquare", "(II)Z"⟩
abbrev cX9_isValley : ByteArray := prog_1_method_32_code
def yX9_isValley : MethodName := ⟨RX9, "isValley", "(I)Z"⟩
abbrev cX9_hasSize : ByteArray := prog_1_method_33_code
def yX9_hasSize : MethodName := ⟨RX9, "hasSize", "(I)Z"⟩
abbrev cX9_squaredDistance : ByteArray := prog_1_method_34_code
def yX9_squaredDistance : MethodName := ⟨RX9, "squaredDistance", "(IILRainOffice$Place;)I"⟩
abbrev cX9_gaugeFault : ByteArray := prog_1_method_35_code
def yX9_gaugeFault : MethodName := ⟨RX9, "gaugeFault", "(I)I"⟩
abbrev cX9_gaugeDayFault : ByteArray := prog_1_method_36_code
def yX9_gaugeDayFault : MethodName := ⟨RX9, "gaugeDayFault", "(II)I"⟩
abbrev cX9_dailyGaugeFault : ByteArray := prog_1_method_37_code
def yX9_dailyGaugeFault : MethodName := ⟨RX9, "dailyGaugeFault", "(I)I"⟩
abbrev cX9_kindFault : ByteArray := prog_1_method_38_code
def yX9_kindFault : MethodName := ⟨RX9, "kindFault", "(II)I"⟩
abbrev cX9_noteSecond : ByteArray := prog_1_method_39_code
def yX9_noteSecond : MethodName := ⟨RX9, "noteSecond", "(III)I"⟩
abbrev cX9_openBooks : ByteArray := prog_1_method_40_code
def yX9_openBooks : MethodName := ⟨RX9, "openBooks", "()LRainOffice$Books;"⟩
def RX10 : String := "RainOfficeModel"
def TX10 : u_T := fun k => match k with
  | 0 => ("RainOfficeModel", "kinds", "[I", true)
  | 1 => ("RainOfficeModel", "atX", "[I", true)
  | 2 => ("RainOfficeModel", "atY", "[I", true)
  | 3 => ("RainOfficeModel", "sizes", "[I", true)
  | 4 => ("RainOfficeModel", "first", "[I", true)
  | 5 => ("RainOfficeModel", "lies", "[I", true)
  | 6 => ("RainOfficeModel", "reads", "[I", true)
  | 7 => ("RainOfficeModel", "fulls", "[I", true)
  | 8 => ("RainOfficeModel", "melts", "[I", true)
  | 9 => ("RainOfficeModel", "others", "[I", true)
  | 10 => ("RainOfficeModel", "handPlace", "[I", true)
  | 11 => ("RainOfficeModel", "handDay", "[I", true)
  | 12 => ("RainOfficeModel", "handValue", "[I", true)
  | 13 => ("RainOfficeModel", "handWhen", "[I", true)
  | 14 => ("RainOfficeModel", "hands", "I", false)
  | 15 => ("RainOfficeModel", "now", "I", false)
  | 16 => ("RainOfficeModel", "greatest", "I", false)
  | 17 => ("RainOfficeModel", "near", "I", false)
  | 18 => ("RainOfficeModel", "wet", "I", false)
  | 19 => ("RainOfficeModel", "part", "I", false)
  | 20 => ("RainOfficeModel", "units", "[I", true)
  | 21 => ("RainOfficeModel", "valleys", "[Z", true)
  | 22 => ("RainOfficeModel", "row", "[I", true)
  | 23 => ("RainOfficeModel", "by", "[I", true)
  | 24 => ("RainOfficeModel", "as", "[J", true)
  | _ => ("RainOfficeModel", "bs", "[J", true)
def tyX10 : Nat → FieldType := fun k => match k with
  | 0 => .array .int
  | 1 => .array .int
  | 2 => .array .int
  | 3 => .array .int
  | 4 => .array .int
  | 5 => .array .int
  | 6 => .array .int
  | 7 => .array .int
  | 8 => .array .int
  | 9 => .array .int
  | 10 => .array .int
  | 11 => .array .int
  | 12 => .array .int
  | 13 => .array .int
  | 14 => .int
  | 15 => .int
  | 16 => .int
  | 17 => .int
  | 18 => .int
  | 19 => .int
  | 20 => .array .int
  | 21 => .array .boolean
  | 22 => .array .int
  | 23 => .array .int
  | 24 => .array .long
  | _ => .array .long
abbrev wsX100 : List Cond := u_ws RX10 TX10 26
theorem nmX10 : ∀ a, a < 26 → ∀ b, b < 26 → a ≠ b → (TX10 a).2.1 ≠ (TX10 b).2.1 := by decide +kernel
theorem tyX10_ok : ∀ k, k < 26 → parseFieldDescriptor (TX10 k).2.2.1 = some (tyX10 k) := by decide +kernel
abbrev cX10_init : ByteArray := prog_12_method_1_code
def yX10_init : MethodName := ⟨RX10, "<init>", "()V"⟩
abbrev cX10_isIn : ByteArray := prog_12_method_2_code
def yX10_isIn : MethodName := ⟨RX10, "isIn", "(III)Z"⟩
abbrev cX10_at : ByteArray := prog_12_method_3_code
def yX10_at : MethodName := ⟨RX10, "at", "(II)I"⟩
abbrev cX10_isGauge : ByteArray := prog_12_method_4_code
def yX10_isGauge : MethodName := ⟨RX10, "isGauge", "(I)Z"⟩
abbrev cX10_fails : ByteArray := prog_12_method_5_code
def yX10_fails : MethodName := ⟨RX10, "fails", "(III)I"⟩
abbrev cX10_put : ByteArray := prog_12_method_6_code
def yX10_put : MethodName := ⟨RX10, "put", "(IIIII)I"⟩
abbrev cX10_lift : ByteArray := prog_12_method_7_code
def yX10_lift : MethodName := ⟨RX10, "lift", "(I)I"⟩
abbrev cX10_look : ByteArray := prog_12_method_8_code
def yX10_look : MethodName := ⟨RX10, "look", "(II)I"⟩
abbrev cX10_read : ByteArray := prog_12_method_9_code
def yX10_read : MethodName := ⟨RX10, "read", "(II)I"⟩
abbrev cX10_full : ByteArray := prog_12_method_10_code
def yX10_full : MethodName := ⟨RX10, "full", "(II)I"⟩
abbrev cX10_melt : ByteArray := prog_12_method_11_code
def yX10_melt : MethodName := ⟨RX10, "melt", "(II)I"⟩
abbrev cX10_other : ByteArray := prog_12_method_12_code
def yX10_other : MethodName := ⟨RX10, "other", "(II)I"⟩
abbrev cX10_hand : ByteArray := prog_12_method_13_code
def yX10_hand : MethodName := ⟨RX10, "hand", "(III)I"⟩
abbrev cX10_close : ByteArray := prog_12_method_14_code
def yX10_close : MethodName := ⟨RX10, "close", "()I"⟩
abbrev cX10_today : ByteArray := prog_12_method_15_code
def yX10_today : MethodName := ⟨RX10, "today", "()I"⟩
abbrev cX10_set : ByteArray := prog_12_method_16_code
def yX10_set : MethodName := ⟨RX10, "set", "(II)Z"⟩
abbrev cX10_byHand : ByteArray := prog_12_method_17_code
def yX10_byHand : MethodName := ⟨RX10, "byHand", "(III)I"⟩
abbrev cX10_rawAt : ByteArray := prog_12_method_18_code
def yX10_rawAt : MethodName := ⟨RX10, "rawAt", "(III)I"⟩
abbrev cX10_tipped : ByteArray := prog_12_method_19_code
def yX10_tipped : MethodName := ⟨RX10, "tipped", "(II)I"⟩
abbrev cX10_raw0 : ByteArray := prog_12_method_20_code
def yX10_raw0 : MethodName := ⟨RX10, "raw0", "(II)I"⟩
abbrev cX10_raw : ByteArray := prog_12_method_21_code
def yX10_raw : MethodName := ⟨RX10, "raw", "(II)I"⟩
abbrev cX10_known : ByteArray := prog_12_method_22_code
def yX10_known : MethodName := ⟨RX10, "known", "(III)I"⟩
abbrev cX10_far : ByteArray := prog_12_method_23_code
def yX10_far : MethodName := ⟨RX10, "far", "(III)I"⟩
abbrev cX10_doubt : ByteArray := prog_12_method_24_code
def yX10_doubt : MethodName := ⟨RX10, "doubt", "(II)I"⟩
abbrev cX10_trusted : ByteArray := prog_12_method_25_code
def yX10_trusted : MethodName := ⟨RX10, "trusted", "(II)I"⟩
abbrev cX10_why : ByteArray := prog_12_method_26_code
def yX10_why : MethodName := ⟨RX10, "why", "(II)I"⟩
abbrev cX10_rows : ByteArray := prog_12_method_27_code
def yX10_rows : MethodName := ⟨RX10, "rows", "(I)I"⟩
abbrev cX10_bys : ByteArray := prog_12_method_28_code
def yX10_bys : MethodName := ⟨RX10, "bys", "(II)I"⟩
abbrev cX10_mayMend : ByteArray := prog_12_method_29_code
def yX10_mayMend : MethodName := ⟨RX10, "mayMend", "(II)Z"⟩
abbrev cX10_mended : ByteArray := prog_12_method_30_code
def yX10_mended : MethodName := ⟨RX10, "mended", "(II)I"⟩
abbrev cX10_from : ByteArray := prog_12_method_31_code
def yX10_from : MethodName := ⟨RX10, "from", "(III)I"⟩
abbrev cX10_readOn : ByteArray := prog_12_method_32_code
def yX10_readOn : MethodName := ⟨RX10, "readOn", "(II)I"⟩
abbrev cX10_spread : ByteArray := prog_12_method_33_code
def yX10_spread : MethodName := ⟨RX10, "spread", "(II)I"⟩
abbrev cX10_tells : ByteArray := prog_12_method_34_code
def yX10_tells : MethodName := ⟨RX10, "tells", "(II)Z"⟩
abbrev cX10_state : ByteArray := prog_12_method_35_code
def yX10_state : MethodName := ⟨RX10, "state", "(II)I"⟩
abbrev cX10_number0 : ByteArray := prog_12_method_36_code
def yX10_number0 : MethodName := ⟨RX10, "number0", "(II)I"⟩
abbrev cX10_number : ByteArray := prog_12_method_37_code
def yX10_number : MethodName := ⟨RX10, "number", "(II)I"⟩
abbrev cX10_owner : ByteArray := prog_12_method_38_code
def yX10_owner : MethodName := ⟨RX10, "owner", "(III)I"⟩
abbrev cX10_part : ByteArray := prog_12_method_39_code
def yX10_part : MethodName := ⟨RX10, "part", "(III)I"⟩
abbrev cX10_squares : ByteArray := prog_12_method_40_code
def yX10_squares : MethodName := ⟨RX10, "squares", "(II)I"⟩
abbrev cX10_many : ByteArray := prog_12_method_41_code
def yX10_many : MethodName := ⟨RX10, "many", "(I)I"⟩
abbrev cX10_valley : ByteArray := prog_12_method_42_code
def yX10_valley : MethodName := ⟨RX10, "valley", "(IIIZ)I"⟩
abbrev cX10_isTold : ByteArray := prog_12_method_43_code
def yX10_isTold : MethodName := ⟨RX10, "isTold", "(I)Z"⟩
abbrev cX10_rain0 : ByteArray := prog_12_method_44_code
def yX10_rain0 : MethodName := ⟨RX10, "rain0", "(II)I"⟩
abbrev cX10_rain : ByteArray := prog_12_method_45_code
def yX10_rain : MethodName := ⟨RX10, "rain", "(II)I"⟩
abbrev cX10_mean : ByteArray := prog_12_method_46_code
def yX10_mean : MethodName := ⟨RX10, "mean", "(II)I"⟩
abbrev cX10_flow0 : ByteArray := prog_12_method_47_code
def yX10_flow0 : MethodName := ⟨RX10, "flow0", "(II)J"⟩
abbrev cX10_flow : ByteArray := prog_12_method_48_code
def yX10_flow : MethodName := ⟨RX10, "flow", "(II)J"⟩
abbrev cX10_ahead : ByteArray := prog_12_method_49_code
def yX10_ahead : MethodName := ⟨RX10, "ahead", "(IJ)I"⟩
abbrev cX10_weekOf : ByteArray := prog_12_method_50_code
def yX10_weekOf : MethodName := ⟨RX10, "weekOf", "(IIZ)J"⟩
abbrev cX10_failsStore : ByteArray := prog_12_method_51_code
def yX10_failsStore : MethodName := ⟨RX10, "failsStore", "(I)I"⟩
abbrev cX10_week : ByteArray := prog_12_method_52_code
def yX10_week : MethodName := ⟨RX10, "week", "(III)I"⟩
abbrev cX10_apart : ByteArray := prog_12_method_53_code
def yX10_apart : MethodName := ⟨RX10, "apart", "(II)J"⟩
abbrev cX10_weeks : ByteArray := prog_12_method_54_code
def yX10_weeks : MethodName := ⟨RX10, "weeks", "(I)V"⟩
abbrev cX10_cleft : ByteArray := prog_12_method_55_code
def yX10_cleft : MethodName := ⟨RX10, "cleft", "(I)I"⟩
abbrev cX10_misses : ByteArray := prog_12_method_56_code
def yX10_misses : MethodName := ⟨RX10, "misses", "(II)J"⟩
def RJx8e188 : String := "java/lang/Cloneable"
def TJx8e188 : u_T := fun k => match k with
  | _ => ("", "", "", false)
def tyJx8e188 : Nat → FieldType := fun k => match k with
  | _ => .int
abbrev wsJx8e1880 : List Cond := u_ws RJx8e188 TJx8e188 0
theorem nmJx8e188 : ∀ a, a < 0 → ∀ b, b < 0 → a ≠ b → (TJx8e188 a).2.1 ≠ (TJx8e188 b).2.1 := by decide +kernel
theorem tyJx8e188_ok : ∀ k, k < 0 → parseFieldDescriptor (TJx8e188 k).2.2.1 = some (tyJx8e188 k) := by decide +kernel
def RJ9 : String := "java/lang/Math"
def TJ9 : u_T := fun k => match k with
  | _ => ("", "", "", false)
def tyJ9 : Nat → FieldType := fun k => match k with
  | _ => .int
abbrev wsJ90 : List Cond := u_ws RJ9 TJ9 0
theorem nmJ9 : ∀ a, a < 0 → ∀ b, b < 0 → a ≠ b → (TJ9 a).2.1 ≠ (TJ9 b).2.1 := by decide +kernel
theorem tyJ9_ok : ∀ k, k < 0 → parseFieldDescriptor (TJ9 k).2.2.1 = some (tyJ9 k) := by decide +kernel
abbrev cJ9_abs_0f7a4 : ByteArray := prog_14_method_59_code
def yJ9_abs_0f7a4 : MethodName := ⟨RJ9, "abs", "(I)I"⟩
abbrev cJ9_abs_067f4 : ByteArray := prog_14_method_61_code
def yJ9_abs_067f4 : MethodName := ⟨RJ9, "abs", "(J)J"⟩
abbrev cJ9_max_7cf53 : ByteArray := prog_14_method_65_code
def yJ9_max_7cf53 : MethodName := ⟨RJ9, "max", "(II)I"⟩
abbrev cJ9_min_7cf53 : ByteArray := prog_14_method_69_code
def yJ9_min_7cf53 : MethodName := ⟨RJ9, "min", "(II)I"⟩
def RJ7 : String := "java/util/Arrays"
def TJ7 : u_T := fun k => match k with
  | _ => ("", "", "", false)
def tyJ7 : Nat → FieldType := fun k => match k with
  | _ => .int
abbrev wsJ70 : List Cond := u_ws RJ7 TJ7 0
theorem nmJ7 : ∀ a, a < 0 → ∀ b, b < 0 → a ≠ b → (TJ7 a).2.1 ≠ (TJ7 b).2.1 := by decide +kernel
theorem tyJ7_ok : ∀ k, k < 0 → parseFieldDescriptor (TJ7 k).2.2.1 = some (tyJ7 k) := by decide +kernel
abbrev cJ7_fill_53178 : ByteArray := prog_15_method_103_code
def yJ7_fill_53178 : MethodName := ⟨RJ7, "fill", "([II)V"⟩
def RL : String := "RainOfficeLaw"
abbrev cL_law : ByteArray := code
def yL_law : MethodName := ⟨RL, "law", "([I)Z"⟩
end
section
theorem dX0_init_0 : decode cX0_init 0 = .ok (.aload_n 0, 1) := by decide +kernel
theorem dX0_init_1 : decode cX0_init 1 = .ok (.invokespecial 3, 3) := by decide +kernel
theorem dX0_init_4 : decode cX0_init 4 = .ok (.aload_n 0, 1) := by decide +kernel
theorem dX0_init_5 : decode cX0_init 5 = .ok (.bipush 16, 2) := by decide +kernel
theorem dX0_init_7 : decode cX0_init 7 = .ok (.bipush 56, 2) := by decide +kernel
theorem dX0_init_9 : decode cX0_init 9 = .ok (.multianewarray 9 2, 4) := by decide +kernel
theorem dX0_init_13 : decode cX0_init 13 = .ok (.putfield 11, 3) := by decide +kernel
theorem dX0_init_16 : decode cX0_init 16 = .ok (.aload_n 0, 1) := by decide +kernel
theorem dX0_init_17 : decode cX0_init 17 = .ok (.bipush 16, 2) := by decide +kernel
theorem dX0_init_19 : decode cX0_init 19 = .ok (.bipush 56, 2) := by decide +kernel
theorem dX0_init_21 : decode cX0_init 21 = .ok (.multianewarray 9 2, 4) := by decide +kernel
theorem dX0_init_25 : decode cX0_init 25 = .ok (.putfield 16, 3) := by decide +kernel
theorem dX0_init_28 : decode cX0_init 28 = .ok (.aload_n 0, 1) := by decide +kernel
theorem dX0_init_29 : decode cX0_init 29 = .ok (.bipush 16, 2) := by decide +kernel
theorem dX0_init_31 : decode cX0_init 31 = .ok (.bipush 56, 2) := by decide +kernel
theorem dX0_init_33 : decode cX0_init 33 = .ok (.multianewarray 9 2, 4) := by decide +kernel
theorem dX0_init_37 : decode cX0_init 37 = .ok (.putfield 19, 3) := by decide +kernel
theorem dX0_init_40 : decode cX0_init 40 = .ok (.aload_n 0, 1) := by decide +kernel
theorem dX0_init_41 : decode cX0_init 41 = .ok (.bipush 16, 2) := by decide +kernel
theorem dX0_init_43 : decode cX0_init 43 = .ok (.bipush 56, 2) := by decide +kernel
theorem dX0_init_45 : decode cX0_init 45 = .ok (.multianewarray 9 2, 4) := by decide +kernel
theorem dX0_init_49 : decode cX0_init 49 = .ok (.putfield 22, 3) := by decide +kernel
theorem dX0_init_52 : decode cX0_init 52 = .ok (.aload_n 0, 1) := by decide +kernel
theorem dX0_init_53 : decode cX0_init 53 = .ok (.bipush 56, 2) := by decide +kernel
theorem dX0_init_55 : decode cX0_init 55 = .ok (.newarray .int, 2) := by decide +kernel
theorem dX0_init_57 : decode cX0_init 57 = .ok (.putfield 25, 3) := by decide +kernel
theorem dX0_init_60 : decode cX0_init 60 = .ok (.aload_n 0, 1) := by decide +kernel
theorem dX0_init_61 : decode cX0_init 61 = .ok (.aload_n 1, 1) := by decide +kernel
theorem dX0_init_62 : decode cX0_init 62 = .ok (.putfield 29, 3) := by decide +kernel
theorem dX0_init_65 : decode cX0_init 65 = .ok (.iconst 0, 1) := by decide +kernel
theorem dX0_init_66 : decode cX0_init 66 = .ok (.istore_n 2, 1) := by decide +kernel
theorem dX0_init_67 : decode cX0_init 67 = .ok (.iload_n 2, 1) := by decide +kernel
theorem dX0_init_68 : decode cX0_init 68 = .ok (.bipush 16, 2) := by decide +kernel
theorem dX0_init_70 : decode cX0_init 70 = .ok (.if_icmp .ge 39, 3) := by decide +kernel
theorem dX0_init_73 : decode cX0_init 73 = .ok (.aload_n 0, 1) := by decide +kernel
theorem dX0_init_74 : decode cX0_init 74 = .ok (.getfield 11, 3) := by decide +kernel
theorem dX0_init_77 : decode cX0_init 77 = .ok (.iload_n 2, 1) := by decide +kernel
theorem dX0_init_78 : decode cX0_init 78 = .ok (.aaload, 1) := by decide +kernel
theorem dX0_init_79 : decode cX0_init 79 = .ok (.iconst (-1), 1) := by decide +kernel
theorem dX0_init_80 : decode cX0_init 80 = .ok (.invokestatic 33, 3) := by decide +kernel
theorem dX0_init_83 : decode cX0_init 83 = .ok (.aload_n 0, 1) := by decide +kernel
theorem dX0_init_84 : decode cX0_init 84 = .ok (.getfield 19, 3) := by decide +kernel
theorem dX0_init_87 : decode cX0_init 87 = .ok (.iload_n 2, 1) := by decide +kernel
theorem dX0_init_88 : decode cX0_init 88 = .ok (.aaload, 1) := by decide +kernel
theorem dX0_init_89 : decode cX0_init 89 = .ok (.iconst (-1), 1) := by decide +kernel
theorem dX0_init_90 : decode cX0_init 90 = .ok (.invokestatic 33, 3) := by decide +kernel
theorem dX0_init_93 : decode cX0_init 93 = .ok (.aload_n 0, 1) := by decide +kernel
theorem dX0_init_94 : decode cX0_init 94 = .ok (.getfield 22, 3) := by decide +kernel
theorem dX0_init_97 : decode cX0_init 97 = .ok (.iload_n 2, 1) := by decide +kernel
theorem dX0_init_98 : decode cX0_init 98 = .ok (.aaload, 1) := by decide +kernel
theorem dX0_init_99 : decode cX0_init 99 = .ok (.iconst (-1), 1) := by decide +kernel
theorem dX0_init_100 : decode cX0_init 100 = .ok (.invokestatic 33, 3) := by decide +kernel
theorem dX0_init_103 : decode cX0_init 103 = .ok (.iinc 2 1, 3) := by decide +kernel
theorem dX0_init_106 : decode cX0_init 106 = .ok (.goto (-39), 3) := by decide +kernel
theorem dX0_init_109 : decode cX0_init 109 = .ok (.return_, 1) := by decide +kernel
theorem dX0_doubtOf_0 : decode cX0_doubtOf 0 = .ok (.iload_n 1, 1) := by decide +kernel
theorem dX0_doubtOf_1 : decode cX0_doubtOf 1 = .ok (.invokestatic 39, 3) := by decide +kernel
theorem dX0_doubtOf_4 : decode cX0_doubtOf 4 = .ok (.ifCond .eq 21, 3) := by decide +kernel
theorem dX0_doubtOf_7 : decode cX0_doubtOf 7 = .ok (.iload_n 2, 1) := by decide +kernel
theorem dX0_doubtOf_8 : decode cX0_doubtOf 8 = .ok (.invokestatic 43, 3) := by decide +kernel
theorem dX0_doubtOf_11 : decode cX0_doubtOf 11 = .ok (.ifCond .eq 14, 3) := by decide +kernel
theorem dX0_doubtOf_14 : decode cX0_doubtOf 14 = .ok (.aload_n 0, 1) := by decide +kernel
theorem dX0_doubtOf_15 : decode cX0_doubtOf 15 = .ok (.getfield 16, 3) := by decide +kernel
theorem dX0_doubtOf_18 : decode cX0_doubtOf 18 = .ok (.iload_n 1, 1) := by decide +kernel
theorem dX0_doubtOf_19 : decode cX0_doubtOf 19 = .ok (.aaload, 1) := by decide +kernel
theorem dX0_doubtOf_20 : decode cX0_doubtOf 20 = .ok (.iload_n 2, 1) := by decide +kernel
theorem dX0_doubtOf_21 : decode cX0_doubtOf 21 = .ok (.iaload, 1) := by decide +kernel
theorem dX0_doubtOf_22 : decode cX0_doubtOf 22 = .ok (.goto 4, 3) := by decide +kernel
theorem dX0_doubtOf_25 : decode cX0_doubtOf 25 = .ok (.iconst 0, 1) := by decide +kernel
theorem dX0_doubtOf_26 : decode cX0_doubtOf 26 = .ok (.ireturn, 1) := by decide +kernel
theorem dX0_trustedOf_0 : decode cX0_trustedOf 0 = .ok (.iload_n 1, 1) := by decide +kernel
theorem dX0_trustedOf_1 : decode cX0_trustedOf 1 = .ok (.invokestatic 39, 3) := by decide +kernel
theorem dX0_trustedOf_4 : decode cX0_trustedOf 4 = .ok (.ifCond .eq 21, 3) := by decide +kernel
theorem dX0_trustedOf_7 : decode cX0_trustedOf 7 = .ok (.iload_n 2, 1) := by decide +kernel
theorem dX0_trustedOf_8 : decode cX0_trustedOf 8 = .ok (.invokestatic 43, 3) := by decide +kernel
theorem dX0_trustedOf_11 : decode cX0_trustedOf 11 = .ok (.ifCond .eq 14, 3) := by decide +kernel
theorem dX0_trustedOf_14 : decode cX0_trustedOf 14 = .ok (.aload_n 0, 1) := by decide +kernel
theorem dX0_trustedOf_15 : decode cX0_trustedOf 15 = .ok (.getfield 19, 3) := by decide +kernel
theorem dX0_trustedOf_18 : decode cX0_trustedOf 18 = .ok (.iload_n 1, 1) := by decide +kernel
theorem dX0_trustedOf_19 : decode cX0_trustedOf 19 = .ok (.aaload, 1) := by decide +kernel
theorem dX0_trustedOf_20 : decode cX0_trustedOf 20 = .ok (.iload_n 2, 1) := by decide +kernel
theorem dX0_trustedOf_21 : decode cX0_trustedOf 21 = .ok (.iaload, 1) := by decide +kernel
theorem dX0_trustedOf_22 : decode cX0_trustedOf 22 = .ok (.goto 4, 3) := by decide +kernel
theorem dX0_trustedOf_25 : decode cX0_trustedOf 25 = .ok (.iconst (-1), 1) := by decide +kernel
theorem dX0_trustedOf_26 : decode cX0_trustedOf 26 = .ok (.ireturn, 1) := by decide +kernel
theorem dX0_toldOf_0 : decode cX0_toldOf 0 = .ok (.iload_n 1, 1) := by decide +kernel
theorem dX0_toldOf_1 : decode cX0_toldOf 1 = .ok (.invokestatic 39, 3) := by decide +kernel
theorem dX0_toldOf_4 : decode cX0_toldOf 4 = .ok (.ifCond .eq 21, 3) := by decide +kernel
theorem dX0_toldOf_7 : decode cX0_toldOf 7 = .ok (.iload_n 2, 1) := by decide +kernel
theorem dX0_toldOf_8 : decode cX0_toldOf 8 = .ok (.invokestatic 43, 3) := by decide +kernel
theorem dX0_toldOf_11 : decode cX0_toldOf 11 = .ok (.ifCond .eq 14, 3) := by decide +kernel
theorem dX0_toldOf_14 : decode cX0_toldOf 14 = .ok (.aload_n 0, 1) := by decide +kernel
theorem dX0_toldOf_15 : decode cX0_toldOf 15 = .ok (.getfield 22, 3) := by decide +kernel
theorem dX0_toldOf_18 : decode cX0_toldOf 18 = .ok (.iload_n 1, 1) := by decide +kernel
theorem dX0_toldOf_19 : decode cX0_toldOf 19 = .ok (.aaload, 1) := by decide +kernel
theorem dX0_toldOf_20 : decode cX0_toldOf 20 = .ok (.iload_n 2, 1) := by decide +kernel
theorem dX0_toldOf_21 : decode cX0_toldOf 21 = .ok (.iaload, 1) := by decide +kernel
theorem dX0_toldOf_22 : decode cX0_toldOf 22 = .ok (.goto 4, 3) := by decide +kernel
theorem dX0_toldOf_25 : decode cX0_toldOf 25 = .ok (.iconst (-1), 1) := by decide +kernel
theorem dX0_toldOf_26 : decode cX0_toldOf 26 = .ok (.ireturn, 1) := by decide +kernel
theorem dX0_rewrite_0 : decode cX0_rewrite 0 = .ok (.aload_n 0, 1) := by decide +kernel
theorem dX0_rewrite_1 : decode cX0_rewrite 1 = .ok (.getfield 29, 3) := by decide +kernel
theorem dX0_rewrite_4 : decode cX0_rewrite 4 = .ok (.invokevirtual 46, 3) := by decide +kernel
theorem dX0_rewrite_7 : decode cX0_rewrite 7 = .ok (.istore_n 1, 1) := by decide +kernel
theorem dX0_rewrite_8 : decode cX0_rewrite 8 = .ok (.iconst 0, 1) := by decide +kernel
theorem dX0_rewrite_9 : decode cX0_rewrite 9 = .ok (.istore_n 2, 1) := by decide +kernel
theorem dX0_rewrite_10 : decode cX0_rewrite 10 = .ok (.iload_n 2, 1) := by decide +kernel
theorem dX0_rewrite_11 : decode cX0_rewrite 11 = .ok (.bipush 16, 2) := by decide +kernel
theorem dX0_rewrite_13 : decode cX0_rewrite 13 = .ok (.if_icmp .ge 41, 3) := by decide +kernel
theorem dX0_rewrite_16 : decode cX0_rewrite 16 = .ok (.iconst 0, 1) := by decide +kernel
theorem dX0_rewrite_17 : decode cX0_rewrite 17 = .ok (.istore_n 3, 1) := by decide +kernel
theorem dX0_rewrite_18 : decode cX0_rewrite 18 = .ok (.iload_n 3, 1) := by decide +kernel
theorem dX0_rewrite_19 : decode cX0_rewrite 19 = .ok (.iload_n 1, 1) := by decide +kernel
theorem dX0_rewrite_20 : decode cX0_rewrite 20 = .ok (.if_icmp .ge 28, 3) := by decide +kernel
theorem dX0_rewrite_23 : decode cX0_rewrite 23 = .ok (.aload_n 0, 1) := by decide +kernel
theorem dX0_rewrite_24 : decode cX0_rewrite 24 = .ok (.getfield 11, 3) := by decide +kernel
theorem dX0_rewrite_27 : decode cX0_rewrite 27 = .ok (.iload_n 2, 1) := by decide +kernel
theorem dX0_rewrite_28 : decode cX0_rewrite 28 = .ok (.aaload, 1) := by decide +kernel
theorem dX0_rewrite_29 : decode cX0_rewrite 29 = .ok (.iload_n 3, 1) := by decide +kernel
theorem dX0_rewrite_30 : decode cX0_rewrite 30 = .ok (.aload_n 0, 1) := by decide +kernel
theorem dX0_rewrite_31 : decode cX0_rewrite 31 = .ok (.getfield 29, 3) := by decide +kernel
theorem dX0_rewrite_34 : decode cX0_rewrite 34 = .ok (.iload_n 2, 1) := by decide +kernel
theorem dX0_rewrite_35 : decode cX0_rewrite 35 = .ok (.iload_n 3, 1) := by decide +kernel
theorem dX0_rewrite_36 : decode cX0_rewrite 36 = .ok (.bipush 56, 2) := by decide +kernel
theorem dX0_rewrite_38 : decode cX0_rewrite 38 = .ok (.invokevirtual 52, 3) := by decide +kernel
theorem dX0_rewrite_41 : decode cX0_rewrite 41 = .ok (.iastore, 1) := by decide +kernel
theorem dX0_rewrite_42 : decode cX0_rewrite 42 = .ok (.iinc 3 1, 3) := by decide +kernel
theorem dX0_rewrite_45 : decode cX0_rewrite 45 = .ok (.goto (-27), 3) := by decide +kernel
theorem dX0_rewrite_48 : decode cX0_rewrite 48 = .ok (.iinc 2 1, 3) := by decide +kernel
theorem dX0_rewrite_51 : decode cX0_rewrite 51 = .ok (.goto (-41), 3) := by decide +kernel
theorem dX0_rewrite_54 : decode cX0_rewrite 54 = .ok (.iconst 0, 1) := by decide +kernel
theorem dX0_rewrite_55 : decode cX0_rewrite 55 = .ok (.istore_n 2, 1) := by decide +kernel
theorem dX0_rewrite_56 : decode cX0_rewrite 56 = .ok (.iload_n 2, 1) := by decide +kernel
theorem dX0_rewrite_57 : decode cX0_rewrite 57 = .ok (.bipush 16, 2) := by decide +kernel
theorem dX0_rewrite_59 : decode cX0_rewrite 59 = .ok (.if_icmp .ge 28, 3) := by decide +kernel
theorem dX0_rewrite_62 : decode cX0_rewrite 62 = .ok (.iconst 0, 1) := by decide +kernel
theorem dX0_rewrite_63 : decode cX0_rewrite 63 = .ok (.istore_n 3, 1) := by decide +kernel
theorem dX0_rewrite_64 : decode cX0_rewrite 64 = .ok (.iload_n 3, 1) := by decide +kernel
theorem dX0_rewrite_65 : decode cX0_rewrite 65 = .ok (.iload_n 1, 1) := by decide +kernel
theorem dX0_rewrite_66 : decode cX0_rewrite 66 = .ok (.if_icmp .ge 15, 3) := by decide +kernel
theorem dX0_rewrite_69 : decode cX0_rewrite 69 = .ok (.aload_n 0, 1) := by decide +kernel
theorem dX0_rewrite_70 : decode cX0_rewrite 70 = .ok (.iload_n 2, 1) := by decide +kernel
theorem dX0_rewrite_71 : decode cX0_rewrite 71 = .ok (.iload_n 3, 1) := by decide +kernel
theorem dX0_rewrite_72 : decode cX0_rewrite 72 = .ok (.invokevirtual 56, 3) := by decide +kernel
theorem dX0_rewrite_75 : decode cX0_rewrite 75 = .ok (.iinc 3 1, 3) := by decide +kernel
theorem dX0_rewrite_78 : decode cX0_rewrite 78 = .ok (.goto (-14), 3) := by decide +kernel
theorem dX0_rewrite_81 : decode cX0_rewrite 81 = .ok (.iinc 2 1, 3) := by decide +kernel
theorem dX0_rewrite_84 : decode cX0_rewrite 84 = .ok (.goto (-28), 3) := by decide +kernel
theorem dX0_rewrite_87 : decode cX0_rewrite 87 = .ok (.iconst 0, 1) := by decide +kernel
theorem dX0_rewrite_88 : decode cX0_rewrite 88 = .ok (.istore_n 2, 1) := by decide +kernel
theorem dX0_rewrite_89 : decode cX0_rewrite 89 = .ok (.iload_n 2, 1) := by decide +kernel
theorem dX0_rewrite_90 : decode cX0_rewrite 90 = .ok (.bipush 16, 2) := by decide +kernel
theorem dX0_rewrite_92 : decode cX0_rewrite 92 = .ok (.if_icmp .ge 31, 3) := by decide +kernel
theorem dX0_rewrite_95 : decode cX0_rewrite 95 = .ok (.aload_n 0, 1) := by decide +kernel
theorem dX0_rewrite_96 : decode cX0_rewrite 96 = .ok (.getfield 29, 3) := by decide +kernel
theorem dX0_rewrite_99 : decode cX0_rewrite 99 = .ok (.getfield 60, 3) := by decide +kernel
theorem dX0_rewrite_102 : decode cX0_rewrite 102 = .ok (.iload_n 2, 1) := by decide +kernel
theorem dX0_rewrite_103 : decode cX0_rewrite 103 = .ok (.aaload, 1) := by decide +kernel
theorem dX0_rewrite_104 : decode cX0_rewrite 104 = .ok (.getfield 64, 3) := by decide +kernel
theorem dX0_rewrite_107 : decode cX0_rewrite 107 = .ok (.iconst 3, 1) := by decide +kernel
theorem dX0_rewrite_108 : decode cX0_rewrite 108 = .ok (.if_icmp .ne 9, 3) := by decide +kernel
theorem dX0_rewrite_111 : decode cX0_rewrite 111 = .ok (.aload_n 0, 1) := by decide +kernel
theorem dX0_rewrite_112 : decode cX0_rewrite 112 = .ok (.iload_n 2, 1) := by decide +kernel
theorem dX0_rewrite_113 : decode cX0_rewrite 113 = .ok (.iload_n 1, 1) := by decide +kernel
theorem dX0_rewrite_114 : decode cX0_rewrite 114 = .ok (.invokevirtual 70, 3) := by decide +kernel
theorem dX0_rewrite_117 : decode cX0_rewrite 117 = .ok (.iinc 2 1, 3) := by decide +kernel
theorem dX0_rewrite_120 : decode cX0_rewrite 120 = .ok (.goto (-31), 3) := by decide +kernel
theorem dX0_rewrite_123 : decode cX0_rewrite 123 = .ok (.aload_n 0, 1) := by decide +kernel
theorem dX0_rewrite_124 : decode cX0_rewrite 124 = .ok (.aload_n 0, 1) := by decide +kernel
theorem dX0_rewrite_125 : decode cX0_rewrite 125 = .ok (.getfield 29, 3) := by decide +kernel
theorem dX0_rewrite_128 : decode cX0_rewrite 128 = .ok (.getfield 73, 3) := by decide +kernel
theorem dX0_rewrite_131 : decode cX0_rewrite 131 = .ok (.putfield 76, 3) := by decide +kernel
theorem dX0_rewrite_134 : decode cX0_rewrite 134 = .ok (.return_, 1) := by decide +kernel
theorem dX0_writeTrust_0 : decode cX0_writeTrust 0 = .ok (.aload_n 0, 1) := by decide +kernel
theorem dX0_writeTrust_1 : decode cX0_writeTrust 1 = .ok (.iload_n 1, 1) := by decide +kernel
theorem dX0_writeTrust_2 : decode cX0_writeTrust 2 = .ok (.iload_n 2, 1) := by decide +kernel
theorem dX0_writeTrust_3 : decode cX0_writeTrust 3 = .ok (.invokevirtual 79, 3) := by decide +kernel
theorem dX0_writeTrust_6 : decode cX0_writeTrust 6 = .ok (.istore_n 3, 1) := by decide +kernel
theorem dX0_writeTrust_7 : decode cX0_writeTrust 7 = .ok (.iload_n 3, 1) := by decide +kernel
theorem dX0_writeTrust_8 : decode cX0_writeTrust 8 = .ok (.ifCond .ne 14, 3) := by decide +kernel
theorem dX0_writeTrust_11 : decode cX0_writeTrust 11 = .ok (.aload_n 0, 1) := by decide +kernel
theorem dX0_writeTrust_12 : decode cX0_writeTrust 12 = .ok (.getfield 11, 3) := by decide +kernel
theorem dX0_writeTrust_15 : decode cX0_writeTrust 15 = .ok (.iload_n 1, 1) := by decide +kernel
theorem dX0_writeTrust_16 : decode cX0_writeTrust 16 = .ok (.aaload, 1) := by decide +kernel
theorem dX0_writeTrust_17 : decode cX0_writeTrust 17 = .ok (.iload_n 2, 1) := by decide +kernel
theorem dX0_writeTrust_18 : decode cX0_writeTrust 18 = .ok (.iaload, 1) := by decide +kernel
theorem dX0_writeTrust_19 : decode cX0_writeTrust 19 = .ok (.goto 4, 3) := by decide +kernel
theorem dX0_writeTrust_22 : decode cX0_writeTrust 22 = .ok (.iconst (-1), 1) := by decide +kernel
theorem dX0_writeTrust_23 : decode cX0_writeTrust 23 = .ok (.istore 4, 2) := by decide +kernel
theorem dX0_writeTrust_25 : decode cX0_writeTrust 25 = .ok (.aload_n 0, 1) := by decide +kernel
theorem dX0_writeTrust_26 : decode cX0_writeTrust 26 = .ok (.getfield 16, 3) := by decide +kernel
theorem dX0_writeTrust_29 : decode cX0_writeTrust 29 = .ok (.iload_n 1, 1) := by decide +kernel
theorem dX0_writeTrust_30 : decode cX0_writeTrust 30 = .ok (.aaload, 1) := by decide +kernel
theorem dX0_writeTrust_31 : decode cX0_writeTrust 31 = .ok (.iload_n 2, 1) := by decide +kernel
theorem dX0_writeTrust_32 : decode cX0_writeTrust 32 = .ok (.iload_n 3, 1) := by decide +kernel
theorem dX0_writeTrust_33 : decode cX0_writeTrust 33 = .ok (.iastore, 1) := by decide +kernel
theorem dX0_writeTrust_34 : decode cX0_writeTrust 34 = .ok (.aload_n 0, 1) := by decide +kernel
theorem dX0_writeTrust_35 : decode cX0_writeTrust 35 = .ok (.getfield 19, 3) := by decide +kernel
theorem dX0_writeTrust_38 : decode cX0_writeTrust 38 = .ok (.iload_n 1, 1) := by decide +kernel
theorem dX0_writeTrust_39 : decode cX0_writeTrust 39 = .ok (.aaload, 1) := by decide +kernel
theorem dX0_writeTrust_40 : decode cX0_writeTrust 40 = .ok (.iload_n 2, 1) := by decide +kernel
theorem dX0_writeTrust_41 : decode cX0_writeTrust 41 = .ok (.iload 4, 2) := by decide +kernel
theorem dX0_writeTrust_43 : decode cX0_writeTrust 43 = .ok (.iastore, 1) := by decide +kernel
theorem dX0_writeTrust_44 : decode cX0_writeTrust 44 = .ok (.aload_n 0, 1) := by decide +kernel
theorem dX0_writeTrust_45 : decode cX0_writeTrust 45 = .ok (.getfield 22, 3) := by decide +kernel
theorem dX0_writeTrust_48 : decode cX0_writeTrust 48 = .ok (.iload_n 1, 1) := by decide +kernel
theorem dX0_writeTrust_49 : decode cX0_writeTrust 49 = .ok (.aaload, 1) := by decide +kernel
theorem dX0_writeTrust_50 : decode cX0_writeTrust 50 = .ok (.iload_n 2, 1) := by decide +kernel
theorem dX0_writeTrust_51 : decode cX0_writeTrust 51 = .ok (.iload 4, 2) := by decide +kernel
theorem dX0_writeTrust_53 : decode cX0_writeTrust 53 = .ok (.iastore, 1) := by decide +kernel
theorem dX0_writeTrust_54 : decode cX0_writeTrust 54 = .ok (.return_, 1) := by decide +kernel
theorem dX0_doubtingRule_0 : decode cX0_doubtingRule 0 = .ok (.aload_n 0, 1) := by decide +kernel
theorem dX0_doubtingRule_1 : decode cX0_doubtingRule 1 = .ok (.getfield 11, 3) := by decide +kernel
theorem dX0_doubtingRule_4 : decode cX0_doubtingRule 4 = .ok (.iload_n 1, 1) := by decide +kernel
theorem dX0_doubtingRule_5 : decode cX0_doubtingRule 5 = .ok (.aaload, 1) := by decide +kernel
theorem dX0_doubtingRule_6 : decode cX0_doubtingRule 6 = .ok (.iload_n 2, 1) := by decide +kernel
theorem dX0_doubtingRule_7 : decode cX0_doubtingRule 7 = .ok (.iaload, 1) := by decide +kernel
theorem dX0_doubtingRule_8 : decode cX0_doubtingRule 8 = .ok (.istore_n 3, 1) := by decide +kernel
theorem dX0_doubtingRule_9 : decode cX0_doubtingRule 9 = .ok (.iload_n 3, 1) := by decide +kernel
theorem dX0_doubtingRule_10 : decode cX0_doubtingRule 10 = .ok (.iconst (-1), 1) := by decide +kernel
theorem dX0_doubtingRule_11 : decode cX0_doubtingRule 11 = .ok (.if_icmp .ne 5, 3) := by decide +kernel
theorem dX0_doubtingRule_14 : decode cX0_doubtingRule 14 = .ok (.iconst 0, 1) := by decide +kernel
theorem dX0_doubtingRule_15 : decode cX0_doubtingRule 15 = .ok (.ireturn, 1) := by decide +kernel
theorem dX0_doubtingRule_16 : decode cX0_doubtingRule 16 = .ok (.iload_n 3, 1) := by decide +kernel
theorem dX0_doubtingRule_17 : decode cX0_doubtingRule 17 = .ok (.aload_n 0, 1) := by decide +kernel
theorem dX0_doubtingRule_18 : decode cX0_doubtingRule 18 = .ok (.getfield 29, 3) := by decide +kernel
theorem dX0_doubtingRule_21 : decode cX0_doubtingRule 21 = .ok (.iconst 0, 1) := by decide +kernel
theorem dX0_doubtingRule_22 : decode cX0_doubtingRule 22 = .ok (.invokevirtual 83, 3) := by decide +kernel
theorem dX0_doubtingRule_25 : decode cX0_doubtingRule 25 = .ok (.if_icmp .le 5, 3) := by decide +kernel
theorem dX0_doubtingRule_28 : decode cX0_doubtingRule 28 = .ok (.iconst 1, 1) := by decide +kernel
theorem dX0_doubtingRule_29 : decode cX0_doubtingRule 29 = .ok (.ireturn, 1) := by decide +kernel
theorem dX0_doubtingRule_30 : decode cX0_doubtingRule 30 = .ok (.iload_n 3, 1) := by decide +kernel
theorem dX0_doubtingRule_31 : decode cX0_doubtingRule 31 = .ok (.ifCond .ne 14, 3) := by decide +kernel
theorem dX0_doubtingRule_34 : decode cX0_doubtingRule 34 = .ok (.aload_n 0, 1) := by decide +kernel
theorem dX0_doubtingRule_35 : decode cX0_doubtingRule 35 = .ok (.iload_n 1, 1) := by decide +kernel
theorem dX0_doubtingRule_36 : decode cX0_doubtingRule 36 = .ok (.iload_n 2, 1) := by decide +kernel
theorem dX0_doubtingRule_37 : decode cX0_doubtingRule 37 = .ok (.invokevirtual 87, 3) := by decide +kernel
theorem dX0_doubtingRule_40 : decode cX0_doubtingRule 40 = .ok (.ifCond .eq 5, 3) := by decide +kernel
theorem dX0_doubtingRule_43 : decode cX0_doubtingRule 43 = .ok (.iconst 2, 1) := by decide +kernel
theorem dX0_doubtingRule_44 : decode cX0_doubtingRule 44 = .ok (.ireturn, 1) := by decide +kernel
theorem dX0_doubtingRule_45 : decode cX0_doubtingRule 45 = .ok (.aload_n 0, 1) := by decide +kernel
theorem dX0_doubtingRule_46 : decode cX0_doubtingRule 46 = .ok (.getfield 29, 3) := by decide +kernel
theorem dX0_doubtingRule_49 : decode cX0_doubtingRule 49 = .ok (.getfield 60, 3) := by decide +kernel
theorem dX0_doubtingRule_52 : decode cX0_doubtingRule 52 = .ok (.iload_n 1, 1) := by decide +kernel
theorem dX0_doubtingRule_53 : decode cX0_doubtingRule 53 = .ok (.aaload, 1) := by decide +kernel
theorem dX0_doubtingRule_54 : decode cX0_doubtingRule 54 = .ok (.iload_n 2, 1) := by decide +kernel
theorem dX0_doubtingRule_55 : decode cX0_doubtingRule 55 = .ok (.aload_n 0, 1) := by decide +kernel
theorem dX0_doubtingRule_56 : decode cX0_doubtingRule 56 = .ok (.getfield 29, 3) := by decide +kernel
theorem dX0_doubtingRule_59 : decode cX0_doubtingRule 59 = .ok (.iconst 3, 1) := by decide +kernel
theorem dX0_doubtingRule_60 : decode cX0_doubtingRule 60 = .ok (.invokevirtual 83, 3) := by decide +kernel
theorem dX0_doubtingRule_63 : decode cX0_doubtingRule 63 = .ok (.invokevirtual 91, 3) := by decide +kernel
theorem dX0_doubtingRule_66 : decode cX0_doubtingRule 66 = .ok (.ifCond .eq 7, 3) := by decide +kernel
theorem dX0_doubtingRule_69 : decode cX0_doubtingRule 69 = .ok (.iconst 3, 1) := by decide +kernel
theorem dX0_doubtingRule_70 : decode cX0_doubtingRule 70 = .ok (.goto 4, 3) := by decide +kernel
theorem dX0_doubtingRule_73 : decode cX0_doubtingRule 73 = .ok (.iconst 0, 1) := by decide +kernel
theorem dX0_doubtingRule_74 : decode cX0_doubtingRule 74 = .ok (.ireturn, 1) := by decide +kernel
theorem dX0_isDryAmongWet_0 : decode cX0_isDryAmongWet 0 = .ok (.aload_n 0, 1) := by decide +kernel
theorem dX0_isDryAmongWet_1 : decode cX0_isDryAmongWet 1 = .ok (.getfield 29, 3) := by decide +kernel
theorem dX0_isDryAmongWet_4 : decode cX0_isDryAmongWet 4 = .ok (.getfield 60, 3) := by decide +kernel
theorem dX0_isDryAmongWet_7 : decode cX0_isDryAmongWet 7 = .ok (.iload_n 1, 1) := by decide +kernel
theorem dX0_isDryAmongWet_8 : decode cX0_isDryAmongWet 8 = .ok (.aaload, 1) := by decide +kernel
theorem dX0_isDryAmongWet_9 : decode cX0_isDryAmongWet 9 = .ok (.astore_n 3, 1) := by decide +kernel
theorem dX0_isDryAmongWet_10 : decode cX0_isDryAmongWet 10 = .ok (.aload_n 0, 1) := by decide +kernel
theorem dX0_isDryAmongWet_11 : decode cX0_isDryAmongWet 11 = .ok (.getfield 29, 3) := by decide +kernel
theorem dX0_isDryAmongWet_14 : decode cX0_isDryAmongWet 14 = .ok (.iconst 1, 1) := by decide +kernel
theorem dX0_isDryAmongWet_15 : decode cX0_isDryAmongWet 15 = .ok (.invokevirtual 83, 3) := by decide +kernel
theorem dX0_isDryAmongWet_18 : decode cX0_isDryAmongWet 18 = .ok (.istore 4, 2) := by decide +kernel
theorem dX0_isDryAmongWet_20 : decode cX0_isDryAmongWet 20 = .ok (.aload_n 0, 1) := by decide +kernel
theorem dX0_isDryAmongWet_21 : decode cX0_isDryAmongWet 21 = .ok (.getfield 29, 3) := by decide +kernel
theorem dX0_isDryAmongWet_24 : decode cX0_isDryAmongWet 24 = .ok (.iconst 2, 1) := by decide +kernel
theorem dX0_isDryAmongWet_25 : decode cX0_isDryAmongWet 25 = .ok (.invokevirtual 83, 3) := by decide +kernel
theorem dX0_isDryAmongWet_28 : decode cX0_isDryAmongWet 28 = .ok (.istore 5, 2) := by decide +kernel
theorem dX0_isDryAmongWet_30 : decode cX0_isDryAmongWet 30 = .ok (.iconst 0, 1) := by decide +kernel
theorem dX0_isDryAmongWet_31 : decode cX0_isDryAmongWet 31 = .ok (.istore 6, 2) := by decide +kernel
theorem dX0_isDryAmongWet_33 : decode cX0_isDryAmongWet 33 = .ok (.iconst 0, 1) := by decide +kernel
theorem dX0_isDryAmongWet_34 : decode cX0_isDryAmongWet 34 = .ok (.istore 7, 2) := by decide +kernel
theorem dX0_isDryAmongWet_36 : decode cX0_isDryAmongWet 36 = .ok (.iload 7, 2) := by decide +kernel
theorem dX0_isDryAmongWet_38 : decode cX0_isDryAmongWet 38 = .ok (.bipush 16, 2) := by decide +kernel
theorem dX0_isDryAmongWet_40 : decode cX0_isDryAmongWet 40 = .ok (.if_icmp .ge 76, 3) := by decide +kernel
theorem dX0_isDryAmongWet_43 : decode cX0_isDryAmongWet 43 = .ok (.iload 7, 2) := by decide +kernel
theorem dX0_isDryAmongWet_45 : decode cX0_isDryAmongWet 45 = .ok (.iload_n 1, 1) := by decide +kernel
theorem dX0_isDryAmongWet_46 : decode cX0_isDryAmongWet 46 = .ok (.if_icmp .eq 64, 3) := by decide +kernel
theorem dX0_isDryAmongWet_49 : decode cX0_isDryAmongWet 49 = .ok (.aload_n 0, 1) := by decide +kernel
theorem dX0_isDryAmongWet_50 : decode cX0_isDryAmongWet 50 = .ok (.getfield 11, 3) := by decide +kernel
theorem dX0_isDryAmongWet_53 : decode cX0_isDryAmongWet 53 = .ok (.iload 7, 2) := by decide +kernel
theorem dX0_isDryAmongWet_55 : decode cX0_isDryAmongWet 55 = .ok (.aaload, 1) := by decide +kernel
theorem dX0_isDryAmongWet_56 : decode cX0_isDryAmongWet 56 = .ok (.iload_n 2, 1) := by decide +kernel
theorem dX0_isDryAmongWet_57 : decode cX0_isDryAmongWet 57 = .ok (.iaload, 1) := by decide +kernel
theorem dX0_isDryAmongWet_58 : decode cX0_isDryAmongWet 58 = .ok (.iconst (-1), 1) := by decide +kernel
theorem dX0_isDryAmongWet_59 : decode cX0_isDryAmongWet 59 = .ok (.if_icmp .eq 51, 3) := by decide +kernel
theorem dX0_isDryAmongWet_62 : decode cX0_isDryAmongWet 62 = .ok (.aload_n 3, 1) := by decide +kernel
theorem dX0_isDryAmongWet_63 : decode cX0_isDryAmongWet 63 = .ok (.getfield 94, 3) := by decide +kernel
theorem dX0_isDryAmongWet_66 : decode cX0_isDryAmongWet 66 = .ok (.aload_n 3, 1) := by decide +kernel
theorem dX0_isDryAmongWet_67 : decode cX0_isDryAmongWet 67 = .ok (.getfield 97, 3) := by decide +kernel
theorem dX0_isDryAmongWet_70 : decode cX0_isDryAmongWet 70 = .ok (.aload_n 0, 1) := by decide +kernel
theorem dX0_isDryAmongWet_71 : decode cX0_isDryAmongWet 71 = .ok (.getfield 29, 3) := by decide +kernel
theorem dX0_isDryAmongWet_74 : decode cX0_isDryAmongWet 74 = .ok (.getfield 60, 3) := by decide +kernel
theorem dX0_isDryAmongWet_77 : decode cX0_isDryAmongWet 77 = .ok (.iload 7, 2) := by decide +kernel
theorem dX0_isDryAmongWet_79 : decode cX0_isDryAmongWet 79 = .ok (.aaload, 1) := by decide +kernel
theorem dX0_isDryAmongWet_80 : decode cX0_isDryAmongWet 80 = .ok (.invokestatic 100, 3) := by decide +kernel
theorem dX0_isDryAmongWet_83 : decode cX0_isDryAmongWet 83 = .ok (.iload 4, 2) := by decide +kernel
theorem dX0_isDryAmongWet_85 : decode cX0_isDryAmongWet 85 = .ok (.if_icmp .le 6, 3) := by decide +kernel
theorem dX0_isDryAmongWet_88 : decode cX0_isDryAmongWet 88 = .ok (.goto 22, 3) := by decide +kernel
theorem dX0_isDryAmongWet_91 : decode cX0_isDryAmongWet 91 = .ok (.aload_n 0, 1) := by decide +kernel
theorem dX0_isDryAmongWet_92 : decode cX0_isDryAmongWet 92 = .ok (.getfield 11, 3) := by decide +kernel
theorem dX0_isDryAmongWet_95 : decode cX0_isDryAmongWet 95 = .ok (.iload 7, 2) := by decide +kernel
theorem dX0_isDryAmongWet_97 : decode cX0_isDryAmongWet 97 = .ok (.aaload, 1) := by decide +kernel
theorem dX0_isDryAmongWet_98 : decode cX0_isDryAmongWet 98 = .ok (.iload_n 2, 1) := by decide +kernel
theorem dX0_isDryAmongWet_99 : decode cX0_isDryAmongWet 99 = .ok (.iaload, 1) := by decide +kernel
theorem dX0_isDryAmongWet_100 : decode cX0_isDryAmongWet 100 = .ok (.iload 5, 2) := by decide +kernel
theorem dX0_isDryAmongWet_102 : decode cX0_isDryAmongWet 102 = .ok (.if_icmp .ge 5, 3) := by decide +kernel
theorem dX0_isDryAmongWet_105 : decode cX0_isDryAmongWet 105 = .ok (.iconst 0, 1) := by decide +kernel
theorem dX0_isDryAmongWet_106 : decode cX0_isDryAmongWet 106 = .ok (.ireturn, 1) := by decide +kernel
theorem dX0_isDryAmongWet_107 : decode cX0_isDryAmongWet 107 = .ok (.iinc 6 1, 3) := by decide +kernel
theorem dX0_isDryAmongWet_110 : decode cX0_isDryAmongWet 110 = .ok (.iinc 7 1, 3) := by decide +kernel
theorem dX0_isDryAmongWet_113 : decode cX0_isDryAmongWet 113 = .ok (.goto (-77), 3) := by decide +kernel
theorem dX0_isDryAmongWet_116 : decode cX0_isDryAmongWet 116 = .ok (.iload 6, 2) := by decide +kernel
theorem dX0_isDryAmongWet_118 : decode cX0_isDryAmongWet 118 = .ok (.iconst 2, 1) := by decide +kernel
theorem dX0_isDryAmongWet_119 : decode cX0_isDryAmongWet 119 = .ok (.if_icmp .lt 7, 3) := by decide +kernel
theorem dX0_isDryAmongWet_122 : decode cX0_isDryAmongWet 122 = .ok (.iconst 1, 1) := by decide +kernel
theorem dX0_isDryAmongWet_123 : decode cX0_isDryAmongWet 123 = .ok (.goto 4, 3) := by decide +kernel
theorem dX0_isDryAmongWet_126 : decode cX0_isDryAmongWet 126 = .ok (.iconst 0, 1) := by decide +kernel
theorem dX0_isDryAmongWet_127 : decode cX0_isDryAmongWet 127 = .ok (.ireturn, 1) := by decide +kernel
theorem dX0_writeSpread_0 : decode cX0_writeSpread 0 = .ok (.aload_n 0, 1) := by decide +kernel
theorem dX0_writeSpread_1 : decode cX0_writeSpread 1 = .ok (.getfield 29, 3) := by decide +kernel
theorem dX0_writeSpread_4 : decode cX0_writeSpread 4 = .ok (.getfield 60, 3) := by decide +kernel
theorem dX0_writeSpread_7 : decode cX0_writeSpread 7 = .ok (.iload_n 1, 1) := by decide +kernel
theorem dX0_writeSpread_8 : decode cX0_writeSpread 8 = .ok (.aaload, 1) := by decide +kernel
theorem dX0_writeSpread_9 : decode cX0_writeSpread 9 = .ok (.astore_n 3, 1) := by decide +kernel
theorem dX0_writeSpread_10 : decode cX0_writeSpread 10 = .ok (.aload_n 3, 1) := by decide +kernel
theorem dX0_writeSpread_11 : decode cX0_writeSpread 11 = .ok (.getfield 104, 3) := by decide +kernel
theorem dX0_writeSpread_14 : decode cX0_writeSpread 14 = .ok (.istore 4, 2) := by decide +kernel
theorem dX0_writeSpread_16 : decode cX0_writeSpread 16 = .ok (.aload_n 3, 1) := by decide +kernel
theorem dX0_writeSpread_17 : decode cX0_writeSpread 17 = .ok (.getfield 104, 3) := by decide +kernel
theorem dX0_writeSpread_20 : decode cX0_writeSpread 20 = .ok (.istore 5, 2) := by decide +kernel
theorem dX0_writeSpread_22 : decode cX0_writeSpread 22 = .ok (.iload 5, 2) := by decide +kernel
theorem dX0_writeSpread_24 : decode cX0_writeSpread 24 = .ok (.ifCond .lt 41, 3) := by decide +kernel
theorem dX0_writeSpread_27 : decode cX0_writeSpread 27 = .ok (.iload 5, 2) := by decide +kernel
theorem dX0_writeSpread_29 : decode cX0_writeSpread 29 = .ok (.iload_n 2, 1) := by decide +kernel
theorem dX0_writeSpread_30 : decode cX0_writeSpread 30 = .ok (.if_icmp .ge 35, 3) := by decide +kernel
theorem dX0_writeSpread_33 : decode cX0_writeSpread 33 = .ok (.aload_n 3, 1) := by decide +kernel
theorem dX0_writeSpread_34 : decode cX0_writeSpread 34 = .ok (.getfield 107, 3) := by decide +kernel
theorem dX0_writeSpread_37 : decode cX0_writeSpread 37 = .ok (.iload 5, 2) := by decide +kernel
theorem dX0_writeSpread_39 : decode cX0_writeSpread 39 = .ok (.iaload, 1) := by decide +kernel
theorem dX0_writeSpread_40 : decode cX0_writeSpread 40 = .ok (.iconst (-1), 1) := by decide +kernel
theorem dX0_writeSpread_41 : decode cX0_writeSpread 41 = .ok (.if_icmp .eq 18, 3) := by decide +kernel
theorem dX0_writeSpread_44 : decode cX0_writeSpread 44 = .ok (.aload_n 0, 1) := by decide +kernel
theorem dX0_writeSpread_45 : decode cX0_writeSpread 45 = .ok (.iload_n 1, 1) := by decide +kernel
theorem dX0_writeSpread_46 : decode cX0_writeSpread 46 = .ok (.iload 4, 2) := by decide +kernel
theorem dX0_writeSpread_48 : decode cX0_writeSpread 48 = .ok (.iload 5, 2) := by decide +kernel
theorem dX0_writeSpread_50 : decode cX0_writeSpread 50 = .ok (.invokevirtual 110, 3) := by decide +kernel
theorem dX0_writeSpread_53 : decode cX0_writeSpread 53 = .ok (.iload 5, 2) := by decide +kernel
theorem dX0_writeSpread_55 : decode cX0_writeSpread 55 = .ok (.iconst 1, 1) := by decide +kernel
theorem dX0_writeSpread_56 : decode cX0_writeSpread 56 = .ok (.iadd, 1) := by decide +kernel
theorem dX0_writeSpread_57 : decode cX0_writeSpread 57 = .ok (.istore 4, 2) := by decide +kernel
theorem dX0_writeSpread_59 : decode cX0_writeSpread 59 = .ok (.iinc 5 1, 3) := by decide +kernel
theorem dX0_writeSpread_62 : decode cX0_writeSpread 62 = .ok (.goto (-40), 3) := by decide +kernel
theorem dX0_writeSpread_65 : decode cX0_writeSpread 65 = .ok (.return_, 1) := by decide +kernel
theorem dX0_spread_0 : decode cX0_spread 0 = .ok (.aload_n 0, 1) := by decide +kernel
theorem dX0_spread_1 : decode cX0_spread 1 = .ok (.getfield 29, 3) := by decide +kernel
theorem dX0_spread_4 : decode cX0_spread 4 = .ok (.getfield 60, 3) := by decide +kernel
theorem dX0_spread_7 : decode cX0_spread 7 = .ok (.iload_n 1, 1) := by decide +kernel
theorem dX0_spread_8 : decode cX0_spread 8 = .ok (.aaload, 1) := by decide +kernel
theorem dX0_spread_9 : decode cX0_spread 9 = .ok (.getfield 107, 3) := by decide +kernel
theorem dX0_spread_12 : decode cX0_spread 12 = .ok (.iload_n 3, 1) := by decide +kernel
theorem dX0_spread_13 : decode cX0_spread 13 = .ok (.iaload, 1) := by decide +kernel
theorem dX0_spread_14 : decode cX0_spread 14 = .ok (.istore 4, 2) := by decide +kernel
theorem dX0_spread_16 : decode cX0_spread 16 = .ok (.aload_n 0, 1) := by decide +kernel
theorem dX0_spread_17 : decode cX0_spread 17 = .ok (.iload_n 1, 1) := by decide +kernel
theorem dX0_spread_18 : decode cX0_spread 18 = .ok (.iload_n 2, 1) := by decide +kernel
theorem dX0_spread_19 : decode cX0_spread 19 = .ok (.iload_n 3, 1) := by decide +kernel
theorem dX0_spread_20 : decode cX0_spread 20 = .ok (.invokevirtual 114, 3) := by decide +kernel
theorem dX0_spread_23 : decode cX0_spread 23 = .ok (.istore 5, 2) := by decide +kernel
theorem dX0_spread_25 : decode cX0_spread 25 = .ok (.iload 5, 2) := by decide +kernel
theorem dX0_spread_27 : decode cX0_spread 27 = .ok (.iconst (-1), 1) := by decide +kernel
theorem dX0_spread_28 : decode cX0_spread 28 = .ok (.if_icmp .ne 7, 3) := by decide +kernel
theorem dX0_spread_31 : decode cX0_spread 31 = .ok (.iconst 0, 1) := by decide +kernel
theorem dX0_spread_32 : decode cX0_spread 32 = .ok (.goto 11, 3) := by decide +kernel
theorem dX0_spread_35 : decode cX0_spread 35 = .ok (.aload_n 0, 1) := by decide +kernel
theorem dX0_spread_36 : decode cX0_spread 36 = .ok (.iload 5, 2) := by decide +kernel
theorem dX0_spread_38 : decode cX0_spread 38 = .ok (.iload_n 2, 1) := by decide +kernel
theorem dX0_spread_39 : decode cX0_spread 39 = .ok (.iload_n 3, 1) := by decide +kernel
theorem dX0_spread_40 : decode cX0_spread 40 = .ok (.invokevirtual 117, 3) := by decide +kernel
theorem dX0_spread_43 : decode cX0_spread 43 = .ok (.istore 6, 2) := by decide +kernel
theorem dX0_spread_45 : decode cX0_spread 45 = .ok (.iload 5, 2) := by decide +kernel
theorem dX0_spread_47 : decode cX0_spread 47 = .ok (.iconst (-1), 1) := by decide +kernel
theorem dX0_spread_48 : decode cX0_spread 48 = .ok (.if_icmp .eq 8, 3) := by decide +kernel
theorem dX0_spread_51 : decode cX0_spread 51 = .ok (.iload 6, 2) := by decide +kernel
theorem dX0_spread_53 : decode cX0_spread 53 = .ok (.ifCond .gt 40, 3) := by decide +kernel
theorem dX0_spread_56 : decode cX0_spread 56 = .ok (.iload_n 2, 1) := by decide +kernel
theorem dX0_spread_57 : decode cX0_spread 57 = .ok (.istore 7, 2) := by decide +kernel
theorem dX0_spread_59 : decode cX0_spread 59 = .ok (.iload 7, 2) := by decide +kernel
theorem dX0_spread_61 : decode cX0_spread 61 = .ok (.iload_n 3, 1) := by decide +kernel
theorem dX0_spread_62 : decode cX0_spread 62 = .ok (.if_icmp .gt 30, 3) := by decide +kernel
theorem dX0_spread_65 : decode cX0_spread 65 = .ok (.aload_n 0, 1) := by decide +kernel
theorem dX0_spread_66 : decode cX0_spread 66 = .ok (.getfield 22, 3) := by decide +kernel
theorem dX0_spread_69 : decode cX0_spread 69 = .ok (.iload_n 1, 1) := by decide +kernel
theorem dX0_spread_70 : decode cX0_spread 70 = .ok (.aaload, 1) := by decide +kernel
theorem dX0_spread_71 : decode cX0_spread 71 = .ok (.iload 7, 2) := by decide +kernel
theorem dX0_spread_73 : decode cX0_spread 73 = .ok (.iload 7, 2) := by decide +kernel
theorem dX0_spread_75 : decode cX0_spread 75 = .ok (.iload_n 3, 1) := by decide +kernel
theorem dX0_spread_76 : decode cX0_spread 76 = .ok (.if_icmp .ne 8, 3) := by decide +kernel
theorem dX0_spread_79 : decode cX0_spread 79 = .ok (.iload 4, 2) := by decide +kernel
theorem dX0_spread_81 : decode cX0_spread 81 = .ok (.goto 4, 3) := by decide +kernel
theorem dX0_spread_84 : decode cX0_spread 84 = .ok (.iconst 0, 1) := by decide +kernel
theorem dX0_spread_85 : decode cX0_spread 85 = .ok (.iastore, 1) := by decide +kernel
theorem dX0_spread_86 : decode cX0_spread 86 = .ok (.iinc 7 1, 3) := by decide +kernel
theorem dX0_spread_89 : decode cX0_spread 89 = .ok (.goto (-30), 3) := by decide +kernel
theorem dX0_spread_92 : decode cX0_spread 92 = .ok (.return_, 1) := by decide +kernel
theorem dX0_spread_93 : decode cX0_spread 93 = .ok (.iload 4, 2) := by decide +kernel
theorem dX0_spread_95 : decode cX0_spread 95 = .ok (.istore 7, 2) := by decide +kernel
theorem dX0_spread_97 : decode cX0_spread 97 = .ok (.iload_n 2, 1) := by decide +kernel
theorem dX0_spread_98 : decode cX0_spread 98 = .ok (.istore 8, 2) := by decide +kernel
theorem dX0_spread_100 : decode cX0_spread 100 = .ok (.iload 8, 2) := by decide +kernel
theorem dX0_spread_102 : decode cX0_spread 102 = .ok (.iload_n 3, 1) := by decide +kernel
theorem dX0_spread_103 : decode cX0_spread 103 = .ok (.if_icmp .gt 71, 3) := by decide +kernel
theorem dX0_spread_106 : decode cX0_spread 106 = .ok (.aload_n 0, 1) := by decide +kernel
theorem dX0_spread_107 : decode cX0_spread 107 = .ok (.getfield 22, 3) := by decide +kernel
theorem dX0_spread_110 : decode cX0_spread 110 = .ok (.iload_n 1, 1) := by decide +kernel
theorem dX0_spread_111 : decode cX0_spread 111 = .ok (.aaload, 1) := by decide +kernel
theorem dX0_spread_112 : decode cX0_spread 112 = .ok (.iload 8, 2) := by decide +kernel
theorem dX0_spread_114 : decode cX0_spread 114 = .ok (.iload 4, 2) := by decide +kernel
theorem dX0_spread_116 : decode cX0_spread 116 = .ok (.aload_n 0, 1) := by decide +kernel
theorem dX0_spread_117 : decode cX0_spread 117 = .ok (.getfield 19, 3) := by decide +kernel
theorem dX0_spread_120 : decode cX0_spread 120 = .ok (.iload 5, 2) := by decide +kernel
theorem dX0_spread_122 : decode cX0_spread 122 = .ok (.aaload, 1) := by decide +kernel
theorem dX0_spread_123 : decode cX0_spread 123 = .ok (.iload 8, 2) := by decide +kernel
theorem dX0_spread_125 : decode cX0_spread 125 = .ok (.iaload, 1) := by decide +kernel
theorem dX0_spread_126 : decode cX0_spread 126 = .ok (.imul, 1) := by decide +kernel
theorem dX0_spread_127 : decode cX0_spread 127 = .ok (.iload 6, 2) := by decide +kernel
theorem dX0_spread_129 : decode cX0_spread 129 = .ok (.idiv, 1) := by decide +kernel
theorem dX0_spread_130 : decode cX0_spread 130 = .ok (.iastore, 1) := by decide +kernel
theorem dX0_spread_131 : decode cX0_spread 131 = .ok (.aload_n 0, 1) := by decide +kernel
theorem dX0_spread_132 : decode cX0_spread 132 = .ok (.getfield 25, 3) := by decide +kernel
theorem dX0_spread_135 : decode cX0_spread 135 = .ok (.iload 8, 2) := by decide +kernel
theorem dX0_spread_137 : decode cX0_spread 137 = .ok (.iload 4, 2) := by decide +kernel
theorem dX0_spread_139 : decode cX0_spread 139 = .ok (.aload_n 0, 1) := by decide +kernel
theorem dX0_spread_140 : decode cX0_spread 140 = .ok (.getfield 19, 3) := by decide +kernel
theorem dX0_spread_143 : decode cX0_spread 143 = .ok (.iload 5, 2) := by decide +kernel
theorem dX0_spread_145 : decode cX0_spread 145 = .ok (.aaload, 1) := by decide +kernel
theorem dX0_spread_146 : decode cX0_spread 146 = .ok (.iload 8, 2) := by decide +kernel
theorem dX0_spread_148 : decode cX0_spread 148 = .ok (.iaload, 1) := by decide +kernel
theorem dX0_spread_149 : decode cX0_spread 149 = .ok (.imul, 1) := by decide +kernel
theorem dX0_spread_150 : decode cX0_spread 150 = .ok (.iload 6, 2) := by decide +kernel
theorem dX0_spread_152 : decode cX0_spread 152 = .ok (.irem, 1) := by decide +kernel
theorem dX0_spread_153 : decode cX0_spread 153 = .ok (.iastore, 1) := by decide +kernel
theorem dX0_spread_154 : decode cX0_spread 154 = .ok (.iload 7, 2) := by decide +kernel
theorem dX0_spread_156 : decode cX0_spread 156 = .ok (.aload_n 0, 1) := by decide +kernel
theorem dX0_spread_157 : decode cX0_spread 157 = .ok (.getfield 22, 3) := by decide +kernel
theorem dX0_spread_160 : decode cX0_spread 160 = .ok (.iload_n 1, 1) := by decide +kernel
theorem dX0_spread_161 : decode cX0_spread 161 = .ok (.aaload, 1) := by decide +kernel
theorem dX0_spread_162 : decode cX0_spread 162 = .ok (.iload 8, 2) := by decide +kernel
theorem dX0_spread_164 : decode cX0_spread 164 = .ok (.iaload, 1) := by decide +kernel
theorem dX0_spread_165 : decode cX0_spread 165 = .ok (.isub, 1) := by decide +kernel
theorem dX0_spread_166 : decode cX0_spread 166 = .ok (.istore 7, 2) := by decide +kernel
theorem dX0_spread_168 : decode cX0_spread 168 = .ok (.iinc 8 1, 3) := by decide +kernel
theorem dX0_spread_171 : decode cX0_spread 171 = .ok (.goto (-71), 3) := by decide +kernel
theorem dX0_spread_174 : decode cX0_spread 174 = .ok (.aload_n 0, 1) := by decide +kernel
theorem dX0_spread_175 : decode cX0_spread 175 = .ok (.iload_n 1, 1) := by decide +kernel
theorem dX0_spread_176 : decode cX0_spread 176 = .ok (.iload_n 2, 1) := by decide +kernel
theorem dX0_spread_177 : decode cX0_spread 177 = .ok (.iload_n 3, 1) := by decide +kernel
theorem dX0_spread_178 : decode cX0_spread 178 = .ok (.iload 7, 2) := by decide +kernel
theorem dX0_spread_180 : decode cX0_spread 180 = .ok (.invokevirtual 120, 3) := by decide +kernel
theorem dX0_spread_183 : decode cX0_spread 183 = .ok (.return_, 1) := by decide +kernel
theorem dX0_sumTrusted_0 : decode cX0_sumTrusted 0 = .ok (.iconst 0, 1) := by decide +kernel
theorem dX0_sumTrusted_1 : decode cX0_sumTrusted 1 = .ok (.istore 4, 2) := by decide +kernel
theorem dX0_sumTrusted_3 : decode cX0_sumTrusted 3 = .ok (.iload_n 2, 1) := by decide +kernel
theorem dX0_sumTrusted_4 : decode cX0_sumTrusted 4 = .ok (.istore 5, 2) := by decide +kernel
theorem dX0_sumTrusted_6 : decode cX0_sumTrusted 6 = .ok (.iload 5, 2) := by decide +kernel
theorem dX0_sumTrusted_8 : decode cX0_sumTrusted 8 = .ok (.iload_n 3, 1) := by decide +kernel
theorem dX0_sumTrusted_9 : decode cX0_sumTrusted 9 = .ok (.if_icmp .gt 23, 3) := by decide +kernel
theorem dX0_sumTrusted_12 : decode cX0_sumTrusted 12 = .ok (.iload 4, 2) := by decide +kernel
theorem dX0_sumTrusted_14 : decode cX0_sumTrusted 14 = .ok (.aload_n 0, 1) := by decide +kernel
theorem dX0_sumTrusted_15 : decode cX0_sumTrusted 15 = .ok (.getfield 19, 3) := by decide +kernel
theorem dX0_sumTrusted_18 : decode cX0_sumTrusted 18 = .ok (.iload_n 1, 1) := by decide +kernel
theorem dX0_sumTrusted_19 : decode cX0_sumTrusted 19 = .ok (.aaload, 1) := by decide +kernel
theorem dX0_sumTrusted_20 : decode cX0_sumTrusted 20 = .ok (.iload 5, 2) := by decide +kernel
theorem dX0_sumTrusted_22 : decode cX0_sumTrusted 22 = .ok (.iaload, 1) := by decide +kernel
theorem dX0_sumTrusted_23 : decode cX0_sumTrusted 23 = .ok (.iadd, 1) := by decide +kernel
theorem dX0_sumTrusted_24 : decode cX0_sumTrusted 24 = .ok (.istore 4, 2) := by decide +kernel
theorem dX0_sumTrusted_26 : decode cX0_sumTrusted 26 = .ok (.iinc 5 1, 3) := by decide +kernel
theorem dX0_sumTrusted_29 : decode cX0_sumTrusted 29 = .ok (.goto (-23), 3) := by decide +kernel
theorem dX0_sumTrusted_32 : decode cX0_sumTrusted 32 = .ok (.iload 4, 2) := by decide +kernel
theorem dX0_sumTrusted_34 : decode cX0_sumTrusted 34 = .ok (.ireturn, 1) := by decide +kernel
theorem dX0_spreadRest_0 : decode cX0_spreadRest 0 = .ok (.iconst 0, 1) := by decide +kernel
theorem dX0_spreadRest_1 : decode cX0_spreadRest 1 = .ok (.istore 5, 2) := by decide +kernel
theorem dX0_spreadRest_3 : decode cX0_spreadRest 3 = .ok (.iload 5, 2) := by decide +kernel
theorem dX0_spreadRest_5 : decode cX0_spreadRest 5 = .ok (.iload 4, 2) := by decide +kernel
theorem dX0_spreadRest_7 : decode cX0_spreadRest 7 = .ok (.if_icmp .ge 71, 3) := by decide +kernel
theorem dX0_spreadRest_10 : decode cX0_spreadRest 10 = .ok (.iload_n 2, 1) := by decide +kernel
theorem dX0_spreadRest_11 : decode cX0_spreadRest 11 = .ok (.istore 6, 2) := by decide +kernel
theorem dX0_spreadRest_13 : decode cX0_spreadRest 13 = .ok (.iload_n 2, 1) := by decide +kernel
theorem dX0_spreadRest_14 : decode cX0_spreadRest 14 = .ok (.iconst 1, 1) := by decide +kernel
theorem dX0_spreadRest_15 : decode cX0_spreadRest 15 = .ok (.iadd, 1) := by decide +kernel
theorem dX0_spreadRest_16 : decode cX0_spreadRest 16 = .ok (.istore 7, 2) := by decide +kernel
theorem dX0_spreadRest_18 : decode cX0_spreadRest 18 = .ok (.iload 7, 2) := by decide +kernel
theorem dX0_spreadRest_20 : decode cX0_spreadRest 20 = .ok (.iload_n 3, 1) := by decide +kernel
theorem dX0_spreadRest_21 : decode cX0_spreadRest 21 = .ok (.if_icmp .gt 30, 3) := by decide +kernel
theorem dX0_spreadRest_24 : decode cX0_spreadRest 24 = .ok (.aload_n 0, 1) := by decide +kernel
theorem dX0_spreadRest_25 : decode cX0_spreadRest 25 = .ok (.getfield 25, 3) := by decide +kernel
theorem dX0_spreadRest_28 : decode cX0_spreadRest 28 = .ok (.iload 7, 2) := by decide +kernel
theorem dX0_spreadRest_30 : decode cX0_spreadRest 30 = .ok (.iaload, 1) := by decide +kernel
theorem dX0_spreadRest_31 : decode cX0_spreadRest 31 = .ok (.aload_n 0, 1) := by decide +kernel
theorem dX0_spreadRest_32 : decode cX0_spreadRest 32 = .ok (.getfield 25, 3) := by decide +kernel
theorem dX0_spreadRest_35 : decode cX0_spreadRest 35 = .ok (.iload 6, 2) := by decide +kernel
theorem dX0_spreadRest_37 : decode cX0_spreadRest 37 = .ok (.iaload, 1) := by decide +kernel
theorem dX0_spreadRest_38 : decode cX0_spreadRest 38 = .ok (.if_icmp .le 7, 3) := by decide +kernel
theorem dX0_spreadRest_41 : decode cX0_spreadRest 41 = .ok (.iload 7, 2) := by decide +kernel
theorem dX0_spreadRest_43 : decode cX0_spreadRest 43 = .ok (.istore 6, 2) := by decide +kernel
theorem dX0_spreadRest_45 : decode cX0_spreadRest 45 = .ok (.iinc 7 1, 3) := by decide +kernel
theorem dX0_spreadRest_48 : decode cX0_spreadRest 48 = .ok (.goto (-30), 3) := by decide +kernel
theorem dX0_spreadRest_51 : decode cX0_spreadRest 51 = .ok (.aload_n 0, 1) := by decide +kernel
theorem dX0_spreadRest_52 : decode cX0_spreadRest 52 = .ok (.getfield 22, 3) := by decide +kernel
theorem dX0_spreadRest_55 : decode cX0_spreadRest 55 = .ok (.iload_n 1, 1) := by decide +kernel
theorem dX0_spreadRest_56 : decode cX0_spreadRest 56 = .ok (.aaload, 1) := by decide +kernel
theorem dX0_spreadRest_57 : decode cX0_spreadRest 57 = .ok (.iload 6, 2) := by decide +kernel
theorem dX0_spreadRest_59 : decode cX0_spreadRest 59 = .ok (.dup2, 1) := by decide +kernel
theorem dX0_spreadRest_60 : decode cX0_spreadRest 60 = .ok (.iaload, 1) := by decide +kernel
theorem dX0_spreadRest_61 : decode cX0_spreadRest 61 = .ok (.iconst 1, 1) := by decide +kernel
theorem dX0_spreadRest_62 : decode cX0_spreadRest 62 = .ok (.iadd, 1) := by decide +kernel
theorem dX0_spreadRest_63 : decode cX0_spreadRest 63 = .ok (.iastore, 1) := by decide +kernel
theorem dX0_spreadRest_64 : decode cX0_spreadRest 64 = .ok (.aload_n 0, 1) := by decide +kernel
theorem dX0_spreadRest_65 : decode cX0_spreadRest 65 = .ok (.getfield 25, 3) := by decide +kernel
theorem dX0_spreadRest_68 : decode cX0_spreadRest 68 = .ok (.iload 6, 2) := by decide +kernel
theorem dX0_spreadRest_70 : decode cX0_spreadRest 70 = .ok (.iconst (-1), 1) := by decide +kernel
theorem dX0_spreadRest_71 : decode cX0_spreadRest 71 = .ok (.iastore, 1) := by decide +kernel
theorem dX0_spreadRest_72 : decode cX0_spreadRest 72 = .ok (.iinc 5 1, 3) := by decide +kernel
theorem dX0_spreadRest_75 : decode cX0_spreadRest 75 = .ok (.goto (-72), 3) := by decide +kernel
theorem dX0_spreadRest_78 : decode cX0_spreadRest 78 = .ok (.return_, 1) := by decide +kernel
theorem dX0_nearestTrusted_0 : decode cX0_nearestTrusted 0 = .ok (.aload_n 0, 1) := by decide +kernel
theorem dX0_nearestTrusted_1 : decode cX0_nearestTrusted 1 = .ok (.getfield 29, 3) := by decide +kernel
theorem dX0_nearestTrusted_4 : decode cX0_nearestTrusted 4 = .ok (.getfield 60, 3) := by decide +kernel
theorem dX0_nearestTrusted_7 : decode cX0_nearestTrusted 7 = .ok (.iload_n 1, 1) := by decide +kernel
theorem dX0_nearestTrusted_8 : decode cX0_nearestTrusted 8 = .ok (.aaload, 1) := by decide +kernel
theorem dX0_nearestTrusted_9 : decode cX0_nearestTrusted 9 = .ok (.astore 4, 2) := by decide +kernel
theorem dX0_nearestTrusted_11 : decode cX0_nearestTrusted 11 = .ok (.iconst (-1), 1) := by decide +kernel
theorem dX0_nearestTrusted_12 : decode cX0_nearestTrusted 12 = .ok (.istore 5, 2) := by decide +kernel
theorem dX0_nearestTrusted_14 : decode cX0_nearestTrusted 14 = .ok (.iconst 0, 1) := by decide +kernel
theorem dX0_nearestTrusted_15 : decode cX0_nearestTrusted 15 = .ok (.istore 6, 2) := by decide +kernel
theorem dX0_nearestTrusted_17 : decode cX0_nearestTrusted 17 = .ok (.iconst 0, 1) := by decide +kernel
theorem dX0_nearestTrusted_18 : decode cX0_nearestTrusted 18 = .ok (.istore 7, 2) := by decide +kernel
theorem dX0_nearestTrusted_20 : decode cX0_nearestTrusted 20 = .ok (.iload 7, 2) := by decide +kernel
theorem dX0_nearestTrusted_22 : decode cX0_nearestTrusted 22 = .ok (.bipush 16, 2) := by decide +kernel
theorem dX0_nearestTrusted_24 : decode cX0_nearestTrusted 24 = .ok (.if_icmp .ge 66, 3) := by decide +kernel
theorem dX0_nearestTrusted_27 : decode cX0_nearestTrusted 27 = .ok (.aload 4, 2) := by decide +kernel
theorem dX0_nearestTrusted_29 : decode cX0_nearestTrusted 29 = .ok (.getfield 94, 3) := by decide +kernel
theorem dX0_nearestTrusted_32 : decode cX0_nearestTrusted 32 = .ok (.aload 4, 2) := by decide +kernel
theorem dX0_nearestTrusted_34 : decode cX0_nearestTrusted 34 = .ok (.getfield 97, 3) := by decide +kernel
theorem dX0_nearestTrusted_37 : decode cX0_nearestTrusted 37 = .ok (.aload_n 0, 1) := by decide +kernel
theorem dX0_nearestTrusted_38 : decode cX0_nearestTrusted 38 = .ok (.getfield 29, 3) := by decide +kernel
theorem dX0_nearestTrusted_41 : decode cX0_nearestTrusted 41 = .ok (.getfield 60, 3) := by decide +kernel
theorem dX0_nearestTrusted_44 : decode cX0_nearestTrusted 44 = .ok (.iload 7, 2) := by decide +kernel
theorem dX0_nearestTrusted_46 : decode cX0_nearestTrusted 46 = .ok (.aaload, 1) := by decide +kernel
theorem dX0_nearestTrusted_47 : decode cX0_nearestTrusted 47 = .ok (.invokestatic 100, 3) := by decide +kernel
theorem dX0_nearestTrusted_50 : decode cX0_nearestTrusted 50 = .ok (.istore 8, 2) := by decide +kernel
theorem dX0_nearestTrusted_52 : decode cX0_nearestTrusted 52 = .ok (.iload 5, 2) := by decide +kernel
theorem dX0_nearestTrusted_54 : decode cX0_nearestTrusted 54 = .ok (.iconst (-1), 1) := by decide +kernel
theorem dX0_nearestTrusted_55 : decode cX0_nearestTrusted 55 = .ok (.if_icmp .eq 10, 3) := by decide +kernel
theorem dX0_nearestTrusted_58 : decode cX0_nearestTrusted 58 = .ok (.iload 8, 2) := by decide +kernel
theorem dX0_nearestTrusted_60 : decode cX0_nearestTrusted 60 = .ok (.iload 6, 2) := by decide +kernel
theorem dX0_nearestTrusted_62 : decode cX0_nearestTrusted 62 = .ok (.if_icmp .ge 22, 3) := by decide +kernel
theorem dX0_nearestTrusted_65 : decode cX0_nearestTrusted 65 = .ok (.aload_n 0, 1) := by decide +kernel
theorem dX0_nearestTrusted_66 : decode cX0_nearestTrusted 66 = .ok (.iload 7, 2) := by decide +kernel
theorem dX0_nearestTrusted_68 : decode cX0_nearestTrusted 68 = .ok (.iload_n 2, 1) := by decide +kernel
theorem dX0_nearestTrusted_69 : decode cX0_nearestTrusted 69 = .ok (.iload_n 3, 1) := by decide +kernel
theorem dX0_nearestTrusted_70 : decode cX0_nearestTrusted 70 = .ok (.invokevirtual 124, 3) := by decide +kernel
theorem dX0_nearestTrusted_73 : decode cX0_nearestTrusted 73 = .ok (.ifCond .eq 11, 3) := by decide +kernel
theorem dX0_nearestTrusted_76 : decode cX0_nearestTrusted 76 = .ok (.iload 7, 2) := by decide +kernel
theorem dX0_nearestTrusted_78 : decode cX0_nearestTrusted 78 = .ok (.istore 5, 2) := by decide +kernel
theorem dX0_nearestTrusted_80 : decode cX0_nearestTrusted 80 = .ok (.iload 8, 2) := by decide +kernel
theorem dX0_nearestTrusted_82 : decode cX0_nearestTrusted 82 = .ok (.istore 6, 2) := by decide +kernel
theorem dX0_nearestTrusted_84 : decode cX0_nearestTrusted 84 = .ok (.iinc 7 1, 3) := by decide +kernel
theorem dX0_nearestTrusted_87 : decode cX0_nearestTrusted 87 = .ok (.goto (-67), 3) := by decide +kernel
theorem dX0_nearestTrusted_90 : decode cX0_nearestTrusted 90 = .ok (.iload 5, 2) := by decide +kernel
theorem dX0_nearestTrusted_92 : decode cX0_nearestTrusted 92 = .ok (.ireturn, 1) := by decide +kernel
theorem dX0_isTrustedThrough_0 : decode cX0_isTrustedThrough 0 = .ok (.iload_n 2, 1) := by decide +kernel
theorem dX0_isTrustedThrough_1 : decode cX0_isTrustedThrough 1 = .ok (.istore 4, 2) := by decide +kernel
theorem dX0_isTrustedThrough_3 : decode cX0_isTrustedThrough 3 = .ok (.iload 4, 2) := by decide +kernel
theorem dX0_isTrustedThrough_5 : decode cX0_isTrustedThrough 5 = .ok (.iload_n 3, 1) := by decide +kernel
theorem dX0_isTrustedThrough_6 : decode cX0_isTrustedThrough 6 = .ok (.if_icmp .gt 24, 3) := by decide +kernel
theorem dX0_isTrustedThrough_9 : decode cX0_isTrustedThrough 9 = .ok (.aload_n 0, 1) := by decide +kernel
theorem dX0_isTrustedThrough_10 : decode cX0_isTrustedThrough 10 = .ok (.getfield 19, 3) := by decide +kernel
theorem dX0_isTrustedThrough_13 : decode cX0_isTrustedThrough 13 = .ok (.iload_n 1, 1) := by decide +kernel
theorem dX0_isTrustedThrough_14 : decode cX0_isTrustedThrough 14 = .ok (.aaload, 1) := by decide +kernel
theorem dX0_isTrustedThrough_15 : decode cX0_isTrustedThrough 15 = .ok (.iload 4, 2) := by decide +kernel
theorem dX0_isTrustedThrough_17 : decode cX0_isTrustedThrough 17 = .ok (.iaload, 1) := by decide +kernel
theorem dX0_isTrustedThrough_18 : decode cX0_isTrustedThrough 18 = .ok (.iconst (-1), 1) := by decide +kernel
theorem dX0_isTrustedThrough_19 : decode cX0_isTrustedThrough 19 = .ok (.if_icmp .ne 5, 3) := by decide +kernel
theorem dX0_isTrustedThrough_22 : decode cX0_isTrustedThrough 22 = .ok (.iconst 0, 1) := by decide +kernel
theorem dX0_isTrustedThrough_23 : decode cX0_isTrustedThrough 23 = .ok (.ireturn, 1) := by decide +kernel
theorem dX0_isTrustedThrough_24 : decode cX0_isTrustedThrough 24 = .ok (.iinc 4 1, 3) := by decide +kernel
theorem dX0_isTrustedThrough_27 : decode cX0_isTrustedThrough 27 = .ok (.goto (-24), 3) := by decide +kernel
theorem dX0_isTrustedThrough_30 : decode cX0_isTrustedThrough 30 = .ok (.iconst 1, 1) := by decide +kernel
theorem dX0_isTrustedThrough_31 : decode cX0_isTrustedThrough 31 = .ok (.ireturn, 1) := by decide +kernel
theorem dX1_init_0 : decode cX1_init 0 = .ok (.aload_n 0, 1) := by decide +kernel
theorem dX1_init_1 : decode cX1_init 1 = .ok (.invokespecial 3, 3) := by decide +kernel
theorem dX1_init_4 : decode cX1_init 4 = .ok (.aload_n 0, 1) := by decide +kernel
theorem dX1_init_5 : decode cX1_init 5 = .ok (.new 9, 3) := by decide +kernel
theorem dX1_init_8 : decode cX1_init 8 = .ok (.dup, 1) := by decide +kernel
theorem dX1_init_9 : decode cX1_init 9 = .ok (.invokespecial 11, 3) := by decide +kernel
theorem dX1_init_12 : decode cX1_init 12 = .ok (.putfield 12, 3) := by decide +kernel
theorem dX1_init_15 : decode cX1_init 15 = .ok (.aload_n 0, 1) := by decide +kernel
theorem dX1_init_16 : decode cX1_init 16 = .ok (.bipush 8, 2) := by decide +kernel
theorem dX1_init_18 : decode cX1_init 18 = .ok (.newarray .int, 2) := by decide +kernel
theorem dX1_init_20 : decode cX1_init 20 = .ok (.putfield 18, 3) := by decide +kernel
theorem dX1_init_23 : decode cX1_init 23 = .ok (.aload_n 0, 1) := by decide +kernel
theorem dX1_init_24 : decode cX1_init 24 = .ok (.bipush 8, 2) := by decide +kernel
theorem dX1_init_26 : decode cX1_init 26 = .ok (.newarray .int, 2) := by decide +kernel
theorem dX1_init_28 : decode cX1_init 28 = .ok (.putfield 22, 3) := by decide +kernel
theorem dX1_init_31 : decode cX1_init 31 = .ok (.aload_n 0, 1) := by decide +kernel
theorem dX1_init_32 : decode cX1_init 32 = .ok (.aload_n 1, 1) := by decide +kernel
theorem dX1_init_33 : decode cX1_init 33 = .ok (.putfield 25, 3) := by decide +kernel
theorem dX1_init_36 : decode cX1_init 36 = .ok (.return_, 1) := by decide +kernel
theorem dX1_sumWeeks_0 : decode cX1_sumWeeks 0 = .ok (.aload_n 0, 1) := by decide +kernel
theorem dX1_sumWeeks_1 : decode cX1_sumWeeks 1 = .ok (.iload_n 2, 1) := by decide +kernel
theorem dX1_sumWeeks_2 : decode cX1_sumWeeks 2 = .ok (.invokevirtual 29, 3) := by decide +kernel
theorem dX1_sumWeeks_5 : decode cX1_sumWeeks 5 = .ok (.aload_n 0, 1) := by decide +kernel
theorem dX1_sumWeeks_6 : decode cX1_sumWeeks 6 = .ok (.getfield 18, 3) := by decide +kernel
theorem dX1_sumWeeks_9 : decode cX1_sumWeeks 9 = .ok (.iconst 0, 1) := by decide +kernel
theorem dX1_sumWeeks_10 : decode cX1_sumWeeks 10 = .ok (.invokestatic 33, 3) := by decide +kernel
theorem dX1_sumWeeks_13 : decode cX1_sumWeeks 13 = .ok (.aload_n 0, 1) := by decide +kernel
theorem dX1_sumWeeks_14 : decode cX1_sumWeeks 14 = .ok (.getfield 22, 3) := by decide +kernel
theorem dX1_sumWeeks_17 : decode cX1_sumWeeks 17 = .ok (.iconst 0, 1) := by decide +kernel
theorem dX1_sumWeeks_18 : decode cX1_sumWeeks 18 = .ok (.invokestatic 33, 3) := by decide +kernel
theorem dX1_sumWeeks_21 : decode cX1_sumWeeks 21 = .ok (.iconst 0, 1) := by decide +kernel
theorem dX1_sumWeeks_22 : decode cX1_sumWeeks 22 = .ok (.istore_n 3, 1) := by decide +kernel
theorem dX1_sumWeeks_23 : decode cX1_sumWeeks 23 = .ok (.iload_n 3, 1) := by decide +kernel
theorem dX1_sumWeeks_24 : decode cX1_sumWeeks 24 = .ok (.bipush 56, 2) := by decide +kernel
theorem dX1_sumWeeks_26 : decode cX1_sumWeeks 26 = .ok (.if_icmp .ge 65, 3) := by decide +kernel
theorem dX1_sumWeeks_29 : decode cX1_sumWeeks 29 = .ok (.aload_n 1, 1) := by decide +kernel
theorem dX1_sumWeeks_30 : decode cX1_sumWeeks 30 = .ok (.iload_n 2, 1) := by decide +kernel
theorem dX1_sumWeeks_31 : decode cX1_sumWeeks 31 = .ok (.iload_n 3, 1) := by decide +kernel
theorem dX1_sumWeeks_32 : decode cX1_sumWeeks 32 = .ok (.invokevirtual 39, 3) := by decide +kernel
theorem dX1_sumWeeks_35 : decode cX1_sumWeeks 35 = .ok (.istore 4, 2) := by decide +kernel
theorem dX1_sumWeeks_37 : decode cX1_sumWeeks 37 = .ok (.aload_n 0, 1) := by decide +kernel
theorem dX1_sumWeeks_38 : decode cX1_sumWeeks 38 = .ok (.aload_n 1, 1) := by decide +kernel
theorem dX1_sumWeeks_39 : decode cX1_sumWeeks 39 = .ok (.iload_n 3, 1) := by decide +kernel
theorem dX1_sumWeeks_40 : decode cX1_sumWeeks 40 = .ok (.invokevirtual 45, 3) := by decide +kernel
theorem dX1_sumWeeks_43 : decode cX1_sumWeeks 43 = .ok (.istore 5, 2) := by decide +kernel
theorem dX1_sumWeeks_45 : decode cX1_sumWeeks 45 = .ok (.iload 4, 2) := by decide +kernel
theorem dX1_sumWeeks_47 : decode cX1_sumWeeks 47 = .ok (.iconst (-1), 1) := by decide +kernel
theorem dX1_sumWeeks_48 : decode cX1_sumWeeks 48 = .ok (.if_icmp .eq 37, 3) := by decide +kernel
theorem dX1_sumWeeks_51 : decode cX1_sumWeeks 51 = .ok (.iload 5, 2) := by decide +kernel
theorem dX1_sumWeeks_53 : decode cX1_sumWeeks 53 = .ok (.iconst (-1), 1) := by decide +kernel
theorem dX1_sumWeeks_54 : decode cX1_sumWeeks 54 = .ok (.if_icmp .eq 31, 3) := by decide +kernel
theorem dX1_sumWeeks_57 : decode cX1_sumWeeks 57 = .ok (.aload_n 0, 1) := by decide +kernel
theorem dX1_sumWeeks_58 : decode cX1_sumWeeks 58 = .ok (.getfield 18, 3) := by decide +kernel
theorem dX1_sumWeeks_61 : decode cX1_sumWeeks 61 = .ok (.iload_n 3, 1) := by decide +kernel
theorem dX1_sumWeeks_62 : decode cX1_sumWeeks 62 = .ok (.bipush 7, 2) := by decide +kernel
theorem dX1_sumWeeks_64 : decode cX1_sumWeeks 64 = .ok (.idiv, 1) := by decide +kernel
theorem dX1_sumWeeks_65 : decode cX1_sumWeeks 65 = .ok (.dup2, 1) := by decide +kernel
theorem dX1_sumWeeks_66 : decode cX1_sumWeeks 66 = .ok (.iaload, 1) := by decide +kernel
theorem dX1_sumWeeks_67 : decode cX1_sumWeeks 67 = .ok (.iload 4, 2) := by decide +kernel
theorem dX1_sumWeeks_69 : decode cX1_sumWeeks 69 = .ok (.iadd, 1) := by decide +kernel
theorem dX1_sumWeeks_70 : decode cX1_sumWeeks 70 = .ok (.iastore, 1) := by decide +kernel
theorem dX1_sumWeeks_71 : decode cX1_sumWeeks 71 = .ok (.aload_n 0, 1) := by decide +kernel
theorem dX1_sumWeeks_72 : decode cX1_sumWeeks 72 = .ok (.getfield 22, 3) := by decide +kernel
theorem dX1_sumWeeks_75 : decode cX1_sumWeeks 75 = .ok (.iload_n 3, 1) := by decide +kernel
theorem dX1_sumWeeks_76 : decode cX1_sumWeeks 76 = .ok (.bipush 7, 2) := by decide +kernel
theorem dX1_sumWeeks_78 : decode cX1_sumWeeks 78 = .ok (.idiv, 1) := by decide +kernel
theorem dX1_sumWeeks_79 : decode cX1_sumWeeks 79 = .ok (.dup2, 1) := by decide +kernel
theorem dX1_sumWeeks_80 : decode cX1_sumWeeks 80 = .ok (.iaload, 1) := by decide +kernel
theorem dX1_sumWeeks_81 : decode cX1_sumWeeks 81 = .ok (.iload 5, 2) := by decide +kernel
theorem dX1_sumWeeks_83 : decode cX1_sumWeeks 83 = .ok (.iadd, 1) := by decide +kernel
theorem dX1_sumWeeks_84 : decode cX1_sumWeeks 84 = .ok (.iastore, 1) := by decide +kernel
theorem dX1_sumWeeks_85 : decode cX1_sumWeeks 85 = .ok (.iinc 3 1, 3) := by decide +kernel
theorem dX1_sumWeeks_88 : decode cX1_sumWeeks 88 = .ok (.goto (-65), 3) := by decide +kernel
theorem dX1_sumWeeks_91 : decode cX1_sumWeeks 91 = .ok (.return_, 1) := by decide +kernel
theorem dX1_gatherNeighbours_0 : decode cX1_gatherNeighbours 0 = .ok (.aload_n 0, 1) := by decide +kernel
theorem dX1_gatherNeighbours_1 : decode cX1_gatherNeighbours 1 = .ok (.getfield 12, 3) := by decide +kernel
theorem dX1_gatherNeighbours_4 : decode cX1_gatherNeighbours 4 = .ok (.iconst 0, 1) := by decide +kernel
theorem dX1_gatherNeighbours_5 : decode cX1_gatherNeighbours 5 = .ok (.putfield 49, 3) := by decide +kernel
theorem dX1_gatherNeighbours_8 : decode cX1_gatherNeighbours 8 = .ok (.iload_n 1, 1) := by decide +kernel
theorem dX1_gatherNeighbours_9 : decode cX1_gatherNeighbours 9 = .ok (.invokestatic 53, 3) := by decide +kernel
theorem dX1_gatherNeighbours_12 : decode cX1_gatherNeighbours 12 = .ok (.ifCond .ne 4, 3) := by decide +kernel
theorem dX1_gatherNeighbours_15 : decode cX1_gatherNeighbours 15 = .ok (.return_, 1) := by decide +kernel
theorem dX1_gatherNeighbours_16 : decode cX1_gatherNeighbours 16 = .ok (.aload_n 0, 1) := by decide +kernel
theorem dX1_gatherNeighbours_17 : decode cX1_gatherNeighbours 17 = .ok (.getfield 25, 3) := by decide +kernel
theorem dX1_gatherNeighbours_20 : decode cX1_gatherNeighbours 20 = .ok (.getfield 57, 3) := by decide +kernel
theorem dX1_gatherNeighbours_23 : decode cX1_gatherNeighbours 23 = .ok (.iload_n 1, 1) := by decide +kernel
theorem dX1_gatherNeighbours_24 : decode cX1_gatherNeighbours 24 = .ok (.aaload, 1) := by decide +kernel
theorem dX1_gatherNeighbours_25 : decode cX1_gatherNeighbours 25 = .ok (.astore_n 2, 1) := by decide +kernel
theorem dX1_gatherNeighbours_26 : decode cX1_gatherNeighbours 26 = .ok (.iconst 0, 1) := by decide +kernel
theorem dX1_gatherNeighbours_27 : decode cX1_gatherNeighbours 27 = .ok (.istore_n 3, 1) := by decide +kernel
theorem dX1_gatherNeighbours_28 : decode cX1_gatherNeighbours 28 = .ok (.iload_n 3, 1) := by decide +kernel
theorem dX1_gatherNeighbours_29 : decode cX1_gatherNeighbours 29 = .ok (.bipush 16, 2) := by decide +kernel
theorem dX1_gatherNeighbours_31 : decode cX1_gatherNeighbours 31 = .ok (.if_icmp .ge 57, 3) := by decide +kernel
theorem dX1_gatherNeighbours_34 : decode cX1_gatherNeighbours 34 = .ok (.iload_n 3, 1) := by decide +kernel
theorem dX1_gatherNeighbours_35 : decode cX1_gatherNeighbours 35 = .ok (.iload_n 1, 1) := by decide +kernel
theorem dX1_gatherNeighbours_36 : decode cX1_gatherNeighbours 36 = .ok (.if_icmp .eq 46, 3) := by decide +kernel
theorem dX1_gatherNeighbours_39 : decode cX1_gatherNeighbours 39 = .ok (.aload_n 0, 1) := by decide +kernel
theorem dX1_gatherNeighbours_40 : decode cX1_gatherNeighbours 40 = .ok (.getfield 25, 3) := by decide +kernel
theorem dX1_gatherNeighbours_43 : decode cX1_gatherNeighbours 43 = .ok (.getfield 57, 3) := by decide +kernel
theorem dX1_gatherNeighbours_46 : decode cX1_gatherNeighbours 46 = .ok (.iload_n 3, 1) := by decide +kernel
theorem dX1_gatherNeighbours_47 : decode cX1_gatherNeighbours 47 = .ok (.aaload, 1) := by decide +kernel
theorem dX1_gatherNeighbours_48 : decode cX1_gatherNeighbours 48 = .ok (.invokevirtual 63, 3) := by decide +kernel
theorem dX1_gatherNeighbours_51 : decode cX1_gatherNeighbours 51 = .ok (.ifCond .eq 31, 3) := by decide +kernel
theorem dX1_gatherNeighbours_54 : decode cX1_gatherNeighbours 54 = .ok (.aload_n 0, 1) := by decide +kernel
theorem dX1_gatherNeighbours_55 : decode cX1_gatherNeighbours 55 = .ok (.getfield 12, 3) := by decide +kernel
theorem dX1_gatherNeighbours_58 : decode cX1_gatherNeighbours 58 = .ok (.iload_n 3, 1) := by decide +kernel
theorem dX1_gatherNeighbours_59 : decode cX1_gatherNeighbours 59 = .ok (.aload_n 2, 1) := by decide +kernel
theorem dX1_gatherNeighbours_60 : decode cX1_gatherNeighbours 60 = .ok (.getfield 69, 3) := by decide +kernel
theorem dX1_gatherNeighbours_63 : decode cX1_gatherNeighbours 63 = .ok (.aload_n 2, 1) := by decide +kernel
theorem dX1_gatherNeighbours_64 : decode cX1_gatherNeighbours 64 = .ok (.getfield 72, 3) := by decide +kernel
theorem dX1_gatherNeighbours_67 : decode cX1_gatherNeighbours 67 = .ok (.aload_n 0, 1) := by decide +kernel
theorem dX1_gatherNeighbours_68 : decode cX1_gatherNeighbours 68 = .ok (.getfield 25, 3) := by decide +kernel
theorem dX1_gatherNeighbours_71 : decode cX1_gatherNeighbours 71 = .ok (.getfield 57, 3) := by decide +kernel
theorem dX1_gatherNeighbours_74 : decode cX1_gatherNeighbours 74 = .ok (.iload_n 3, 1) := by decide +kernel
theorem dX1_gatherNeighbours_75 : decode cX1_gatherNeighbours 75 = .ok (.aaload, 1) := by decide +kernel
theorem dX1_gatherNeighbours_76 : decode cX1_gatherNeighbours 76 = .ok (.invokestatic 75, 3) := by decide +kernel
theorem dX1_gatherNeighbours_79 : decode cX1_gatherNeighbours 79 = .ok (.invokevirtual 79, 3) := by decide +kernel
theorem dX1_gatherNeighbours_82 : decode cX1_gatherNeighbours 82 = .ok (.iinc 3 1, 3) := by decide +kernel
theorem dX1_gatherNeighbours_85 : decode cX1_gatherNeighbours 85 = .ok (.goto (-57), 3) := by decide +kernel
theorem dX1_gatherNeighbours_88 : decode cX1_gatherNeighbours 88 = .ok (.return_, 1) := by decide +kernel
theorem dX1_sumOfNeighbours_0 : decode cX1_sumOfNeighbours 0 = .ok (.iconst 0, 1) := by decide +kernel
theorem dX1_sumOfNeighbours_1 : decode cX1_sumOfNeighbours 1 = .ok (.istore_n 3, 1) := by decide +kernel
theorem dX1_sumOfNeighbours_2 : decode cX1_sumOfNeighbours 2 = .ok (.iconst 0, 1) := by decide +kernel
theorem dX1_sumOfNeighbours_3 : decode cX1_sumOfNeighbours 3 = .ok (.istore 4, 2) := by decide +kernel
theorem dX1_sumOfNeighbours_5 : decode cX1_sumOfNeighbours 5 = .ok (.iload 4, 2) := by decide +kernel
theorem dX1_sumOfNeighbours_7 : decode cX1_sumOfNeighbours 7 = .ok (.aload_n 0, 1) := by decide +kernel
theorem dX1_sumOfNeighbours_8 : decode cX1_sumOfNeighbours 8 = .ok (.getfield 12, 3) := by decide +kernel
theorem dX1_sumOfNeighbours_11 : decode cX1_sumOfNeighbours 11 = .ok (.getfield 49, 3) := by decide +kernel
theorem dX1_sumOfNeighbours_14 : decode cX1_sumOfNeighbours 14 = .ok (.if_icmp .ge 38, 3) := by decide +kernel
theorem dX1_sumOfNeighbours_17 : decode cX1_sumOfNeighbours 17 = .ok (.aload_n 1, 1) := by decide +kernel
theorem dX1_sumOfNeighbours_18 : decode cX1_sumOfNeighbours 18 = .ok (.aload_n 0, 1) := by decide +kernel
theorem dX1_sumOfNeighbours_19 : decode cX1_sumOfNeighbours 19 = .ok (.getfield 12, 3) := by decide +kernel
theorem dX1_sumOfNeighbours_22 : decode cX1_sumOfNeighbours 22 = .ok (.iload 4, 2) := by decide +kernel
theorem dX1_sumOfNeighbours_24 : decode cX1_sumOfNeighbours 24 = .ok (.invokevirtual 83, 3) := by decide +kernel
theorem dX1_sumOfNeighbours_27 : decode cX1_sumOfNeighbours 27 = .ok (.iload_n 2, 1) := by decide +kernel
theorem dX1_sumOfNeighbours_28 : decode cX1_sumOfNeighbours 28 = .ok (.invokevirtual 39, 3) := by decide +kernel
theorem dX1_sumOfNeighbours_31 : decode cX1_sumOfNeighbours 31 = .ok (.istore 5, 2) := by decide +kernel
theorem dX1_sumOfNeighbours_33 : decode cX1_sumOfNeighbours 33 = .ok (.iload 5, 2) := by decide +kernel
theorem dX1_sumOfNeighbours_35 : decode cX1_sumOfNeighbours 35 = .ok (.iconst (-1), 1) := by decide +kernel
theorem dX1_sumOfNeighbours_36 : decode cX1_sumOfNeighbours 36 = .ok (.if_icmp .ne 5, 3) := by decide +kernel
theorem dX1_sumOfNeighbours_39 : decode cX1_sumOfNeighbours 39 = .ok (.iconst (-1), 1) := by decide +kernel
theorem dX1_sumOfNeighbours_40 : decode cX1_sumOfNeighbours 40 = .ok (.ireturn, 1) := by decide +kernel
theorem dX1_sumOfNeighbours_41 : decode cX1_sumOfNeighbours 41 = .ok (.iload_n 3, 1) := by decide +kernel
theorem dX1_sumOfNeighbours_42 : decode cX1_sumOfNeighbours 42 = .ok (.iload 5, 2) := by decide +kernel
theorem dX1_sumOfNeighbours_44 : decode cX1_sumOfNeighbours 44 = .ok (.iadd, 1) := by decide +kernel
theorem dX1_sumOfNeighbours_45 : decode cX1_sumOfNeighbours 45 = .ok (.istore_n 3, 1) := by decide +kernel
theorem dX1_sumOfNeighbours_46 : decode cX1_sumOfNeighbours 46 = .ok (.iinc 4 1, 3) := by decide +kernel
theorem dX1_sumOfNeighbours_49 : decode cX1_sumOfNeighbours 49 = .ok (.goto (-44), 3) := by decide +kernel
theorem dX1_sumOfNeighbours_52 : decode cX1_sumOfNeighbours 52 = .ok (.iload_n 3, 1) := by decide +kernel
theorem dX1_sumOfNeighbours_53 : decode cX1_sumOfNeighbours 53 = .ok (.ireturn, 1) := by decide +kernel
theorem dX1_leastBreak_0 : decode cX1_leastBreak 0 = .ok (.iconst (-1), 1) := by decide +kernel
theorem dX1_leastBreak_1 : decode cX1_leastBreak 1 = .ok (.istore_n 2, 1) := by decide +kernel
theorem dX1_leastBreak_2 : decode cX1_leastBreak 2 = .ok (.lconst 0, 1) := by decide +kernel
theorem dX1_leastBreak_3 : decode cX1_leastBreak 3 = .ok (.lstore_n 3, 1) := by decide +kernel
theorem dX1_leastBreak_4 : decode cX1_leastBreak 4 = .ok (.iconst 1, 1) := by decide +kernel
theorem dX1_leastBreak_5 : decode cX1_leastBreak 5 = .ok (.istore 5, 2) := by decide +kernel
theorem dX1_leastBreak_7 : decode cX1_leastBreak 7 = .ok (.iload 5, 2) := by decide +kernel
theorem dX1_leastBreak_9 : decode cX1_leastBreak 9 = .ok (.iload_n 1, 1) := by decide +kernel
theorem dX1_leastBreak_10 : decode cX1_leastBreak 10 = .ok (.if_icmp .gt 43, 3) := by decide +kernel
theorem dX1_leastBreak_13 : decode cX1_leastBreak 13 = .ok (.iload 5, 2) := by decide +kernel
theorem dX1_leastBreak_15 : decode cX1_leastBreak 15 = .ok (.bipush 8, 2) := by decide +kernel
theorem dX1_leastBreak_17 : decode cX1_leastBreak 17 = .ok (.if_icmp .ge 36, 3) := by decide +kernel
theorem dX1_leastBreak_20 : decode cX1_leastBreak 20 = .ok (.aload_n 0, 1) := by decide +kernel
theorem dX1_leastBreak_21 : decode cX1_leastBreak 21 = .ok (.iload 5, 2) := by decide +kernel
theorem dX1_leastBreak_23 : decode cX1_leastBreak 23 = .ok (.iload_n 1, 1) := by decide +kernel
theorem dX1_leastBreak_24 : decode cX1_leastBreak 24 = .ok (.invokevirtual 87, 3) := by decide +kernel
theorem dX1_leastBreak_27 : decode cX1_leastBreak 27 = .ok (.lstore 6, 2) := by decide +kernel
theorem dX1_leastBreak_29 : decode cX1_leastBreak 29 = .ok (.iload_n 2, 1) := by decide +kernel
theorem dX1_leastBreak_30 : decode cX1_leastBreak 30 = .ok (.iconst (-1), 1) := by decide +kernel
theorem dX1_leastBreak_31 : decode cX1_leastBreak 31 = .ok (.if_icmp .eq 10, 3) := by decide +kernel
theorem dX1_leastBreak_34 : decode cX1_leastBreak 34 = .ok (.lload 6, 2) := by decide +kernel
theorem dX1_leastBreak_36 : decode cX1_leastBreak 36 = .ok (.lload_n 3, 1) := by decide +kernel
theorem dX1_leastBreak_37 : decode cX1_leastBreak 37 = .ok (.lcmp, 1) := by decide +kernel
theorem dX1_leastBreak_38 : decode cX1_leastBreak 38 = .ok (.ifCond .ge 9, 3) := by decide +kernel
theorem dX1_leastBreak_41 : decode cX1_leastBreak 41 = .ok (.iload 5, 2) := by decide +kernel
theorem dX1_leastBreak_43 : decode cX1_leastBreak 43 = .ok (.istore_n 2, 1) := by decide +kernel
theorem dX1_leastBreak_44 : decode cX1_leastBreak 44 = .ok (.lload 6, 2) := by decide +kernel
theorem dX1_leastBreak_46 : decode cX1_leastBreak 46 = .ok (.lstore_n 3, 1) := by decide +kernel
theorem dX1_leastBreak_47 : decode cX1_leastBreak 47 = .ok (.iinc 5 1, 3) := by decide +kernel
theorem dX1_leastBreak_50 : decode cX1_leastBreak 50 = .ok (.goto (-43), 3) := by decide +kernel
theorem dX1_leastBreak_53 : decode cX1_leastBreak 53 = .ok (.iload_n 2, 1) := by decide +kernel
theorem dX1_leastBreak_54 : decode cX1_leastBreak 54 = .ok (.ireturn, 1) := by decide +kernel
theorem dX1_missesAt_0 : decode cX1_missesAt 0 = .ok (.aload_n 0, 1) := by decide +kernel
theorem dX1_missesAt_1 : decode cX1_missesAt 1 = .ok (.iconst 0, 1) := by decide +kernel
theorem dX1_missesAt_2 : decode cX1_missesAt 2 = .ok (.iload_n 1, 1) := by decide +kernel
theorem dX1_missesAt_3 : decode cX1_missesAt 3 = .ok (.iconst 1, 1) := by decide +kernel
theorem dX1_missesAt_4 : decode cX1_missesAt 4 = .ok (.isub, 1) := by decide +kernel
theorem dX1_missesAt_5 : decode cX1_missesAt 5 = .ok (.invokevirtual 91, 3) := by decide +kernel
theorem dX1_missesAt_8 : decode cX1_missesAt 8 = .ok (.aload_n 0, 1) := by decide +kernel
theorem dX1_missesAt_9 : decode cX1_missesAt 9 = .ok (.iload_n 1, 1) := by decide +kernel
theorem dX1_missesAt_10 : decode cX1_missesAt 10 = .ok (.iload_n 2, 1) := by decide +kernel
theorem dX1_missesAt_11 : decode cX1_missesAt 11 = .ok (.invokevirtual 91, 3) := by decide +kernel
theorem dX1_missesAt_14 : decode cX1_missesAt 14 = .ok (.ladd, 1) := by decide +kernel
theorem dX1_missesAt_15 : decode cX1_missesAt 15 = .ok (.lreturn, 1) := by decide +kernel
theorem dX1_missesOfPart_0 : decode cX1_missesOfPart 0 = .ok (.lconst 0, 1) := by decide +kernel
theorem dX1_missesOfPart_1 : decode cX1_missesOfPart 1 = .ok (.lstore_n 3, 1) := by decide +kernel
theorem dX1_missesOfPart_2 : decode cX1_missesOfPart 2 = .ok (.lconst 0, 1) := by decide +kernel
theorem dX1_missesOfPart_3 : decode cX1_missesOfPart 3 = .ok (.lstore 5, 2) := by decide +kernel
theorem dX1_missesOfPart_5 : decode cX1_missesOfPart 5 = .ok (.iconst 0, 1) := by decide +kernel
theorem dX1_missesOfPart_6 : decode cX1_missesOfPart 6 = .ok (.iload_n 1, 1) := by decide +kernel
theorem dX1_missesOfPart_7 : decode cX1_missesOfPart 7 = .ok (.invokestatic 94, 3) := by decide +kernel
theorem dX1_missesOfPart_10 : decode cX1_missesOfPart 10 = .ok (.istore 7, 2) := by decide +kernel
theorem dX1_missesOfPart_12 : decode cX1_missesOfPart 12 = .ok (.iload 7, 2) := by decide +kernel
theorem dX1_missesOfPart_14 : decode cX1_missesOfPart 14 = .ok (.iload_n 2, 1) := by decide +kernel
theorem dX1_missesOfPart_15 : decode cX1_missesOfPart 15 = .ok (.if_icmp .gt 40, 3) := by decide +kernel
theorem dX1_missesOfPart_18 : decode cX1_missesOfPart 18 = .ok (.iload 7, 2) := by decide +kernel
theorem dX1_missesOfPart_20 : decode cX1_missesOfPart 20 = .ok (.bipush 8, 2) := by decide +kernel
theorem dX1_missesOfPart_22 : decode cX1_missesOfPart 22 = .ok (.if_icmp .ge 33, 3) := by decide +kernel
theorem dX1_missesOfPart_25 : decode cX1_missesOfPart 25 = .ok (.lload_n 3, 1) := by decide +kernel
theorem dX1_missesOfPart_26 : decode cX1_missesOfPart 26 = .ok (.aload_n 0, 1) := by decide +kernel
theorem dX1_missesOfPart_27 : decode cX1_missesOfPart 27 = .ok (.getfield 18, 3) := by decide +kernel
theorem dX1_missesOfPart_30 : decode cX1_missesOfPart 30 = .ok (.iload 7, 2) := by decide +kernel
theorem dX1_missesOfPart_32 : decode cX1_missesOfPart 32 = .ok (.iaload, 1) := by decide +kernel
theorem dX1_missesOfPart_33 : decode cX1_missesOfPart 33 = .ok (.i2l, 1) := by decide +kernel
theorem dX1_missesOfPart_34 : decode cX1_missesOfPart 34 = .ok (.ladd, 1) := by decide +kernel
theorem dX1_missesOfPart_35 : decode cX1_missesOfPart 35 = .ok (.lstore_n 3, 1) := by decide +kernel
theorem dX1_missesOfPart_36 : decode cX1_missesOfPart 36 = .ok (.lload 5, 2) := by decide +kernel
theorem dX1_missesOfPart_38 : decode cX1_missesOfPart 38 = .ok (.aload_n 0, 1) := by decide +kernel
theorem dX1_missesOfPart_39 : decode cX1_missesOfPart 39 = .ok (.getfield 22, 3) := by decide +kernel
theorem dX1_missesOfPart_42 : decode cX1_missesOfPart 42 = .ok (.iload 7, 2) := by decide +kernel
theorem dX1_missesOfPart_44 : decode cX1_missesOfPart 44 = .ok (.iaload, 1) := by decide +kernel
theorem dX1_missesOfPart_45 : decode cX1_missesOfPart 45 = .ok (.i2l, 1) := by decide +kernel
theorem dX1_missesOfPart_46 : decode cX1_missesOfPart 46 = .ok (.ladd, 1) := by decide +kernel
theorem dX1_missesOfPart_47 : decode cX1_missesOfPart 47 = .ok (.lstore 5, 2) := by decide +kernel
theorem dX1_missesOfPart_49 : decode cX1_missesOfPart 49 = .ok (.iinc 7 1, 3) := by decide +kernel
theorem dX1_missesOfPart_52 : decode cX1_missesOfPart 52 = .ok (.goto (-40), 3) := by decide +kernel
theorem dX1_missesOfPart_55 : decode cX1_missesOfPart 55 = .ok (.lload 5, 2) := by decide +kernel
theorem dX1_missesOfPart_57 : decode cX1_missesOfPart 57 = .ok (.lconst 0, 1) := by decide +kernel
theorem dX1_missesOfPart_58 : decode cX1_missesOfPart 58 = .ok (.lcmp, 1) := by decide +kernel
theorem dX1_missesOfPart_59 : decode cX1_missesOfPart 59 = .ok (.ifCond .gt 9, 3) := by decide +kernel
theorem dX1_missesOfPart_62 : decode cX1_missesOfPart 62 = .ok (.lload_n 3, 1) := by decide +kernel
theorem dX1_missesOfPart_63 : decode cX1_missesOfPart 63 = .ok (.ldc2_w 99, 3) := by decide +kernel
theorem dX1_missesOfPart_66 : decode cX1_missesOfPart 66 = .ok (.lmul, 1) := by decide +kernel
theorem dX1_missesOfPart_67 : decode cX1_missesOfPart 67 = .ok (.lreturn, 1) := by decide +kernel
theorem dX1_missesOfPart_68 : decode cX1_missesOfPart 68 = .ok (.lconst 0, 1) := by decide +kernel
theorem dX1_missesOfPart_69 : decode cX1_missesOfPart 69 = .ok (.lstore 7, 2) := by decide +kernel
theorem dX1_missesOfPart_71 : decode cX1_missesOfPart 71 = .ok (.iconst 0, 1) := by decide +kernel
theorem dX1_missesOfPart_72 : decode cX1_missesOfPart 72 = .ok (.iload_n 1, 1) := by decide +kernel
theorem dX1_missesOfPart_73 : decode cX1_missesOfPart 73 = .ok (.invokestatic 94, 3) := by decide +kernel
theorem dX1_missesOfPart_76 : decode cX1_missesOfPart 76 = .ok (.istore 9, 2) := by decide +kernel
theorem dX1_missesOfPart_78 : decode cX1_missesOfPart 78 = .ok (.iload 9, 2) := by decide +kernel
theorem dX1_missesOfPart_80 : decode cX1_missesOfPart 80 = .ok (.iload_n 2, 1) := by decide +kernel
theorem dX1_missesOfPart_81 : decode cX1_missesOfPart 81 = .ok (.if_icmp .gt 46, 3) := by decide +kernel
theorem dX1_missesOfPart_84 : decode cX1_missesOfPart 84 = .ok (.iload 9, 2) := by decide +kernel
theorem dX1_missesOfPart_86 : decode cX1_missesOfPart 86 = .ok (.bipush 8, 2) := by decide +kernel
theorem dX1_missesOfPart_88 : decode cX1_missesOfPart 88 = .ok (.if_icmp .ge 39, 3) := by decide +kernel
theorem dX1_missesOfPart_91 : decode cX1_missesOfPart 91 = .ok (.lload 7, 2) := by decide +kernel
theorem dX1_missesOfPart_93 : decode cX1_missesOfPart 93 = .ok (.aload_n 0, 1) := by decide +kernel
theorem dX1_missesOfPart_94 : decode cX1_missesOfPart 94 = .ok (.getfield 18, 3) := by decide +kernel
theorem dX1_missesOfPart_97 : decode cX1_missesOfPart 97 = .ok (.iload 9, 2) := by decide +kernel
theorem dX1_missesOfPart_99 : decode cX1_missesOfPart 99 = .ok (.iaload, 1) := by decide +kernel
theorem dX1_missesOfPart_100 : decode cX1_missesOfPart 100 = .ok (.i2l, 1) := by decide +kernel
theorem dX1_missesOfPart_101 : decode cX1_missesOfPart 101 = .ok (.lload 5, 2) := by decide +kernel
theorem dX1_missesOfPart_103 : decode cX1_missesOfPart 103 = .ok (.lmul, 1) := by decide +kernel
theorem dX1_missesOfPart_104 : decode cX1_missesOfPart 104 = .ok (.aload_n 0, 1) := by decide +kernel
theorem dX1_missesOfPart_105 : decode cX1_missesOfPart 105 = .ok (.getfield 22, 3) := by decide +kernel
theorem dX1_missesOfPart_108 : decode cX1_missesOfPart 108 = .ok (.iload 9, 2) := by decide +kernel
theorem dX1_missesOfPart_110 : decode cX1_missesOfPart 110 = .ok (.iaload, 1) := by decide +kernel
theorem dX1_missesOfPart_111 : decode cX1_missesOfPart 111 = .ok (.i2l, 1) := by decide +kernel
theorem dX1_missesOfPart_112 : decode cX1_missesOfPart 112 = .ok (.lload_n 3, 1) := by decide +kernel
theorem dX1_missesOfPart_113 : decode cX1_missesOfPart 113 = .ok (.lmul, 1) := by decide +kernel
theorem dX1_missesOfPart_114 : decode cX1_missesOfPart 114 = .ok (.lsub, 1) := by decide +kernel
theorem dX1_missesOfPart_115 : decode cX1_missesOfPart 115 = .ok (.invokestatic 101, 3) := by decide +kernel
theorem dX1_missesOfPart_118 : decode cX1_missesOfPart 118 = .ok (.ladd, 1) := by decide +kernel
theorem dX1_missesOfPart_119 : decode cX1_missesOfPart 119 = .ok (.lstore 7, 2) := by decide +kernel
theorem dX1_missesOfPart_121 : decode cX1_missesOfPart 121 = .ok (.iinc 9 1, 3) := by decide +kernel
theorem dX1_missesOfPart_124 : decode cX1_missesOfPart 124 = .ok (.goto (-46), 3) := by decide +kernel
theorem dX1_missesOfPart_127 : decode cX1_missesOfPart 127 = .ok (.lload 7, 2) := by decide +kernel
theorem dX1_missesOfPart_129 : decode cX1_missesOfPart 129 = .ok (.ldc2_w 99, 3) := by decide +kernel
theorem dX1_missesOfPart_132 : decode cX1_missesOfPart 132 = .ok (.lmul, 1) := by decide +kernel
theorem dX1_missesOfPart_133 : decode cX1_missesOfPart 133 = .ok (.lload 5, 2) := by decide +kernel
theorem dX1_missesOfPart_135 : decode cX1_missesOfPart 135 = .ok (.ldiv, 1) := by decide +kernel
theorem dX1_missesOfPart_136 : decode cX1_missesOfPart 136 = .ok (.lreturn, 1) := by decide +kernel
theorem dX2_init_0 : decode cX2_init 0 = .ok (.aload_n 0, 1) := by decide +kernel
theorem dX2_init_1 : decode cX2_init 1 = .ok (.invokespecial 3, 3) := by decide +kernel
theorem dX2_init_4 : decode cX2_init 4 = .ok (.aload_n 0, 1) := by decide +kernel
theorem dX2_init_5 : decode cX2_init 5 = .ok (.iconst 4, 1) := by decide +kernel
theorem dX2_init_6 : decode cX2_init 6 = .ok (.newarray .int, 2) := by decide +kernel
theorem dX2_init_8 : decode cX2_init 8 = .ok (.putfield 9, 3) := by decide +kernel
theorem dX2_init_11 : decode cX2_init 11 = .ok (.aload_n 0, 1) := by decide +kernel
theorem dX2_init_12 : decode cX2_init 12 = .ok (.iconst 4, 1) := by decide +kernel
theorem dX2_init_13 : decode cX2_init 13 = .ok (.newarray .int, 2) := by decide +kernel
theorem dX2_init_15 : decode cX2_init 15 = .ok (.putfield 15, 3) := by decide +kernel
theorem dX2_init_18 : decode cX2_init 18 = .ok (.return_, 1) := by decide +kernel
theorem dX2_offer_0 : decode cX2_offer 0 = .ok (.aload_n 0, 1) := by decide +kernel
theorem dX2_offer_1 : decode cX2_offer 1 = .ok (.getfield 18, 3) := by decide +kernel
theorem dX2_offer_4 : decode cX2_offer 4 = .ok (.istore_n 3, 1) := by decide +kernel
theorem dX2_offer_5 : decode cX2_offer 5 = .ok (.iload_n 3, 1) := by decide +kernel
theorem dX2_offer_6 : decode cX2_offer 6 = .ok (.ifCond .le 21, 3) := by decide +kernel
theorem dX2_offer_9 : decode cX2_offer 9 = .ok (.aload_n 0, 1) := by decide +kernel
theorem dX2_offer_10 : decode cX2_offer 10 = .ok (.getfield 15, 3) := by decide +kernel
theorem dX2_offer_13 : decode cX2_offer 13 = .ok (.iload_n 3, 1) := by decide +kernel
theorem dX2_offer_14 : decode cX2_offer 14 = .ok (.iconst 1, 1) := by decide +kernel
theorem dX2_offer_15 : decode cX2_offer 15 = .ok (.isub, 1) := by decide +kernel
theorem dX2_offer_16 : decode cX2_offer 16 = .ok (.iaload, 1) := by decide +kernel
theorem dX2_offer_17 : decode cX2_offer 17 = .ok (.iload_n 2, 1) := by decide +kernel
theorem dX2_offer_18 : decode cX2_offer 18 = .ok (.if_icmp .le 9, 3) := by decide +kernel
theorem dX2_offer_21 : decode cX2_offer 21 = .ok (.iinc 3 (-1), 3) := by decide +kernel
theorem dX2_offer_24 : decode cX2_offer 24 = .ok (.goto (-19), 3) := by decide +kernel
theorem dX2_offer_27 : decode cX2_offer 27 = .ok (.iload_n 3, 1) := by decide +kernel
theorem dX2_offer_28 : decode cX2_offer 28 = .ok (.iconst 4, 1) := by decide +kernel
theorem dX2_offer_29 : decode cX2_offer 29 = .ok (.if_icmp .lt 4, 3) := by decide +kernel
theorem dX2_offer_32 : decode cX2_offer 32 = .ok (.return_, 1) := by decide +kernel
theorem dX2_offer_33 : decode cX2_offer 33 = .ok (.aload_n 0, 1) := by decide +kernel
theorem dX2_offer_34 : decode cX2_offer 34 = .ok (.aload_n 0, 1) := by decide +kernel
theorem dX2_offer_35 : decode cX2_offer 35 = .ok (.getfield 18, 3) := by decide +kernel
theorem dX2_offer_38 : decode cX2_offer 38 = .ok (.iconst 1, 1) := by decide +kernel
theorem dX2_offer_39 : decode cX2_offer 39 = .ok (.iadd, 1) := by decide +kernel
theorem dX2_offer_40 : decode cX2_offer 40 = .ok (.iconst 4, 1) := by decide +kernel
theorem dX2_offer_41 : decode cX2_offer 41 = .ok (.invokestatic 22, 3) := by decide +kernel
theorem dX2_offer_44 : decode cX2_offer 44 = .ok (.putfield 18, 3) := by decide +kernel
theorem dX2_offer_47 : decode cX2_offer 47 = .ok (.aload_n 0, 1) := by decide +kernel
theorem dX2_offer_48 : decode cX2_offer 48 = .ok (.getfield 18, 3) := by decide +kernel
theorem dX2_offer_51 : decode cX2_offer 51 = .ok (.iconst 1, 1) := by decide +kernel
theorem dX2_offer_52 : decode cX2_offer 52 = .ok (.isub, 1) := by decide +kernel
theorem dX2_offer_53 : decode cX2_offer 53 = .ok (.istore 4, 2) := by decide +kernel
theorem dX2_offer_55 : decode cX2_offer 55 = .ok (.iload 4, 2) := by decide +kernel
theorem dX2_offer_57 : decode cX2_offer 57 = .ok (.iload_n 3, 1) := by decide +kernel
theorem dX2_offer_58 : decode cX2_offer 58 = .ok (.if_icmp .le 41, 3) := by decide +kernel
theorem dX2_offer_61 : decode cX2_offer 61 = .ok (.aload_n 0, 1) := by decide +kernel
theorem dX2_offer_62 : decode cX2_offer 62 = .ok (.getfield 9, 3) := by decide +kernel
theorem dX2_offer_65 : decode cX2_offer 65 = .ok (.iload 4, 2) := by decide +kernel
theorem dX2_offer_67 : decode cX2_offer 67 = .ok (.aload_n 0, 1) := by decide +kernel
theorem dX2_offer_68 : decode cX2_offer 68 = .ok (.getfield 9, 3) := by decide +kernel
theorem dX2_offer_71 : decode cX2_offer 71 = .ok (.iload 4, 2) := by decide +kernel
theorem dX2_offer_73 : decode cX2_offer 73 = .ok (.iconst 1, 1) := by decide +kernel
theorem dX2_offer_74 : decode cX2_offer 74 = .ok (.isub, 1) := by decide +kernel
theorem dX2_offer_75 : decode cX2_offer 75 = .ok (.iaload, 1) := by decide +kernel
theorem dX2_offer_76 : decode cX2_offer 76 = .ok (.iastore, 1) := by decide +kernel
theorem dX2_offer_77 : decode cX2_offer 77 = .ok (.aload_n 0, 1) := by decide +kernel
theorem dX2_offer_78 : decode cX2_offer 78 = .ok (.getfield 15, 3) := by decide +kernel
theorem dX2_offer_81 : decode cX2_offer 81 = .ok (.iload 4, 2) := by decide +kernel
theorem dX2_offer_83 : decode cX2_offer 83 = .ok (.aload_n 0, 1) := by decide +kernel
theorem dX2_offer_84 : decode cX2_offer 84 = .ok (.getfield 15, 3) := by decide +kernel
theorem dX2_offer_87 : decode cX2_offer 87 = .ok (.iload 4, 2) := by decide +kernel
theorem dX2_offer_89 : decode cX2_offer 89 = .ok (.iconst 1, 1) := by decide +kernel
theorem dX2_offer_90 : decode cX2_offer 90 = .ok (.isub, 1) := by decide +kernel
theorem dX2_offer_91 : decode cX2_offer 91 = .ok (.iaload, 1) := by decide +kernel
theorem dX2_offer_92 : decode cX2_offer 92 = .ok (.iastore, 1) := by decide +kernel
theorem dX2_offer_93 : decode cX2_offer 93 = .ok (.iinc 4 (-1), 3) := by decide +kernel
theorem dX2_offer_96 : decode cX2_offer 96 = .ok (.goto (-41), 3) := by decide +kernel
theorem dX2_offer_99 : decode cX2_offer 99 = .ok (.aload_n 0, 1) := by decide +kernel
theorem dX2_offer_100 : decode cX2_offer 100 = .ok (.getfield 9, 3) := by decide +kernel
theorem dX2_offer_103 : decode cX2_offer 103 = .ok (.iload_n 3, 1) := by decide +kernel
theorem dX2_offer_104 : decode cX2_offer 104 = .ok (.iload_n 1, 1) := by decide +kernel
theorem dX2_offer_105 : decode cX2_offer 105 = .ok (.iastore, 1) := by decide +kernel
theorem dX2_offer_106 : decode cX2_offer 106 = .ok (.aload_n 0, 1) := by decide +kernel
theorem dX2_offer_107 : decode cX2_offer 107 = .ok (.getfield 15, 3) := by decide +kernel
theorem dX2_offer_110 : decode cX2_offer 110 = .ok (.iload_n 3, 1) := by decide +kernel
theorem dX2_offer_111 : decode cX2_offer 111 = .ok (.iload_n 2, 1) := by decide +kernel
theorem dX2_offer_112 : decode cX2_offer 112 = .ok (.iastore, 1) := by decide +kernel
theorem dX2_offer_113 : decode cX2_offer 113 = .ok (.return_, 1) := by decide +kernel
theorem dX2_placeAt_0 : decode cX2_placeAt 0 = .ok (.iload_n 1, 1) := by decide +kernel
theorem dX2_placeAt_1 : decode cX2_placeAt 1 = .ok (.ifCond .lt 20, 3) := by decide +kernel
theorem dX2_placeAt_4 : decode cX2_placeAt 4 = .ok (.iload_n 1, 1) := by decide +kernel
theorem dX2_placeAt_5 : decode cX2_placeAt 5 = .ok (.aload_n 0, 1) := by decide +kernel
theorem dX2_placeAt_6 : decode cX2_placeAt 6 = .ok (.getfield 18, 3) := by decide +kernel
theorem dX2_placeAt_9 : decode cX2_placeAt 9 = .ok (.if_icmp .ge 12, 3) := by decide +kernel
theorem dX2_placeAt_12 : decode cX2_placeAt 12 = .ok (.aload_n 0, 1) := by decide +kernel
theorem dX2_placeAt_13 : decode cX2_placeAt 13 = .ok (.getfield 9, 3) := by decide +kernel
theorem dX2_placeAt_16 : decode cX2_placeAt 16 = .ok (.iload_n 1, 1) := by decide +kernel
theorem dX2_placeAt_17 : decode cX2_placeAt 17 = .ok (.iaload, 1) := by decide +kernel
theorem dX2_placeAt_18 : decode cX2_placeAt 18 = .ok (.goto 4, 3) := by decide +kernel
theorem dX2_placeAt_21 : decode cX2_placeAt 21 = .ok (.iconst (-1), 1) := by decide +kernel
theorem dX2_placeAt_22 : decode cX2_placeAt 22 = .ok (.ireturn, 1) := by decide +kernel
theorem dX3_init_0 : decode cX3_init 0 = .ok (.aload_n 0, 1) := by decide +kernel
theorem dX3_init_1 : decode cX3_init 1 = .ok (.invokespecial 3, 3) := by decide +kernel
theorem dX3_init_4 : decode cX3_init 4 = .ok (.aload_n 0, 1) := by decide +kernel
theorem dX3_init_5 : decode cX3_init 5 = .ok (.bipush 100, 2) := by decide +kernel
theorem dX3_init_7 : decode cX3_init 7 = .ok (.newarray .int, 2) := by decide +kernel
theorem dX3_init_9 : decode cX3_init 9 = .ok (.putfield 9, 3) := by decide +kernel
theorem dX3_init_12 : decode cX3_init 12 = .ok (.aload_n 0, 1) := by decide +kernel
theorem dX3_init_13 : decode cX3_init 13 = .ok (.bipush 100, 2) := by decide +kernel
theorem dX3_init_15 : decode cX3_init 15 = .ok (.newarray .int, 2) := by decide +kernel
theorem dX3_init_17 : decode cX3_init 17 = .ok (.putfield 15, 3) := by decide +kernel
theorem dX3_init_20 : decode cX3_init 20 = .ok (.aload_n 0, 1) := by decide +kernel
theorem dX3_init_21 : decode cX3_init 21 = .ok (.bipush 100, 2) := by decide +kernel
theorem dX3_init_23 : decode cX3_init 23 = .ok (.newarray .int, 2) := by decide +kernel
theorem dX3_init_25 : decode cX3_init 25 = .ok (.putfield 18, 3) := by decide +kernel
theorem dX3_init_28 : decode cX3_init 28 = .ok (.return_, 1) := by decide +kernel
theorem dX3_append_0 : decode cX3_append 0 = .ok (.aload_n 0, 1) := by decide +kernel
theorem dX3_append_1 : decode cX3_append 1 = .ok (.getfield 21, 3) := by decide +kernel
theorem dX3_append_4 : decode cX3_append 4 = .ok (.bipush 100, 2) := by decide +kernel
theorem dX3_append_6 : decode cX3_append 6 = .ok (.if_icmp .lt 5, 3) := by decide +kernel
theorem dX3_append_9 : decode cX3_append 9 = .ok (.iconst (-1), 1) := by decide +kernel
theorem dX3_append_10 : decode cX3_append 10 = .ok (.ireturn, 1) := by decide +kernel
theorem dX3_append_11 : decode cX3_append 11 = .ok (.aload_n 0, 1) := by decide +kernel
theorem dX3_append_12 : decode cX3_append 12 = .ok (.getfield 9, 3) := by decide +kernel
theorem dX3_append_15 : decode cX3_append 15 = .ok (.aload_n 0, 1) := by decide +kernel
theorem dX3_append_16 : decode cX3_append 16 = .ok (.getfield 21, 3) := by decide +kernel
theorem dX3_append_19 : decode cX3_append 19 = .ok (.iload_n 1, 1) := by decide +kernel
theorem dX3_append_20 : decode cX3_append 20 = .ok (.iastore, 1) := by decide +kernel
theorem dX3_append_21 : decode cX3_append 21 = .ok (.aload_n 0, 1) := by decide +kernel
theorem dX3_append_22 : decode cX3_append 22 = .ok (.getfield 15, 3) := by decide +kernel
theorem dX3_append_25 : decode cX3_append 25 = .ok (.aload_n 0, 1) := by decide +kernel
theorem dX3_append_26 : decode cX3_append 26 = .ok (.getfield 21, 3) := by decide +kernel
theorem dX3_append_29 : decode cX3_append 29 = .ok (.iload_n 2, 1) := by decide +kernel
theorem dX3_append_30 : decode cX3_append 30 = .ok (.iastore, 1) := by decide +kernel
theorem dX3_append_31 : decode cX3_append 31 = .ok (.aload_n 0, 1) := by decide +kernel
theorem dX3_append_32 : decode cX3_append 32 = .ok (.getfield 18, 3) := by decide +kernel
theorem dX3_append_35 : decode cX3_append 35 = .ok (.aload_n 0, 1) := by decide +kernel
theorem dX3_append_36 : decode cX3_append 36 = .ok (.getfield 21, 3) := by decide +kernel
theorem dX3_append_39 : decode cX3_append 39 = .ok (.iload_n 3, 1) := by decide +kernel
theorem dX3_append_40 : decode cX3_append 40 = .ok (.iastore, 1) := by decide +kernel
theorem dX3_append_41 : decode cX3_append 41 = .ok (.aload_n 0, 1) := by decide +kernel
theorem dX3_append_42 : decode cX3_append 42 = .ok (.dup, 1) := by decide +kernel
theorem dX3_append_43 : decode cX3_append 43 = .ok (.getfield 21, 3) := by decide +kernel
theorem dX3_append_46 : decode cX3_append 46 = .ok (.iconst 1, 1) := by decide +kernel
theorem dX3_append_47 : decode cX3_append 47 = .ok (.iadd, 1) := by decide +kernel
theorem dX3_append_48 : decode cX3_append 48 = .ok (.putfield 21, 3) := by decide +kernel
theorem dX3_append_51 : decode cX3_append 51 = .ok (.aload_n 0, 1) := by decide +kernel
theorem dX3_append_52 : decode cX3_append 52 = .ok (.getfield 21, 3) := by decide +kernel
theorem dX3_append_55 : decode cX3_append 55 = .ok (.iconst 1, 1) := by decide +kernel
theorem dX3_append_56 : decode cX3_append 56 = .ok (.isub, 1) := by decide +kernel
theorem dX3_append_57 : decode cX3_append 57 = .ok (.ireturn, 1) := by decide +kernel
theorem dX3_latestUntil_0 : decode cX3_latestUntil 0 = .ok (.iload_n 1, 1) := by decide +kernel
theorem dX3_latestUntil_1 : decode cX3_latestUntil 1 = .ok (.istore_n 3, 1) := by decide +kernel
theorem dX3_latestUntil_2 : decode cX3_latestUntil 2 = .ok (.iconst 0, 1) := by decide +kernel
theorem dX3_latestUntil_3 : decode cX3_latestUntil 3 = .ok (.istore 4, 2) := by decide +kernel
theorem dX3_latestUntil_5 : decode cX3_latestUntil 5 = .ok (.iload 4, 2) := by decide +kernel
theorem dX3_latestUntil_7 : decode cX3_latestUntil 7 = .ok (.bipush 100, 2) := by decide +kernel
theorem dX3_latestUntil_9 : decode cX3_latestUntil 9 = .ok (.if_icmp .ge 40, 3) := by decide +kernel
theorem dX3_latestUntil_12 : decode cX3_latestUntil 12 = .ok (.iload_n 3, 1) := by decide +kernel
theorem dX3_latestUntil_13 : decode cX3_latestUntil 13 = .ok (.ifCond .lt 9, 3) := by decide +kernel
theorem dX3_latestUntil_16 : decode cX3_latestUntil 16 = .ok (.iload_n 3, 1) := by decide +kernel
theorem dX3_latestUntil_17 : decode cX3_latestUntil 17 = .ok (.bipush 100, 2) := by decide +kernel
theorem dX3_latestUntil_19 : decode cX3_latestUntil 19 = .ok (.if_icmp .lt 5, 3) := by decide +kernel
theorem dX3_latestUntil_22 : decode cX3_latestUntil 22 = .ok (.iconst (-1), 1) := by decide +kernel
theorem dX3_latestUntil_23 : decode cX3_latestUntil 23 = .ok (.ireturn, 1) := by decide +kernel
theorem dX3_latestUntil_24 : decode cX3_latestUntil 24 = .ok (.aload_n 0, 1) := by decide +kernel
theorem dX3_latestUntil_25 : decode cX3_latestUntil 25 = .ok (.getfield 15, 3) := by decide +kernel
theorem dX3_latestUntil_28 : decode cX3_latestUntil 28 = .ok (.iload_n 3, 1) := by decide +kernel
theorem dX3_latestUntil_29 : decode cX3_latestUntil 29 = .ok (.iaload, 1) := by decide +kernel
theorem dX3_latestUntil_30 : decode cX3_latestUntil 30 = .ok (.iload_n 2, 1) := by decide +kernel
theorem dX3_latestUntil_31 : decode cX3_latestUntil 31 = .ok (.if_icmp .gt 5, 3) := by decide +kernel
theorem dX3_latestUntil_34 : decode cX3_latestUntil 34 = .ok (.iload_n 3, 1) := by decide +kernel
theorem dX3_latestUntil_35 : decode cX3_latestUntil 35 = .ok (.ireturn, 1) := by decide +kernel
theorem dX3_latestUntil_36 : decode cX3_latestUntil 36 = .ok (.aload_n 0, 1) := by decide +kernel
theorem dX3_latestUntil_37 : decode cX3_latestUntil 37 = .ok (.getfield 18, 3) := by decide +kernel
theorem dX3_latestUntil_40 : decode cX3_latestUntil 40 = .ok (.iload_n 3, 1) := by decide +kernel
theorem dX3_latestUntil_41 : decode cX3_latestUntil 41 = .ok (.iaload, 1) := by decide +kernel
theorem dX3_latestUntil_42 : decode cX3_latestUntil 42 = .ok (.istore_n 3, 1) := by decide +kernel
theorem dX3_latestUntil_43 : decode cX3_latestUntil 43 = .ok (.iinc 4 1, 3) := by decide +kernel
theorem dX3_latestUntil_46 : decode cX3_latestUntil 46 = .ok (.goto (-41), 3) := by decide +kernel
theorem dX3_latestUntil_49 : decode cX3_latestUntil 49 = .ok (.iconst (-1), 1) := by decide +kernel
theorem dX3_latestUntil_50 : decode cX3_latestUntil 50 = .ok (.ireturn, 1) := by decide +kernel
theorem dX4_init_0 : decode cX4_init 0 = .ok (.aload_n 0, 1) := by decide +kernel
theorem dX4_init_1 : decode cX4_init 1 = .ok (.invokespecial 3, 3) := by decide +kernel
theorem dX4_init_4 : decode cX4_init 4 = .ok (.aload_n 0, 1) := by decide +kernel
theorem dX4_init_5 : decode cX4_init 5 = .ok (.bipush 8, 2) := by decide +kernel
theorem dX4_init_7 : decode cX4_init 7 = .ok (.anewarray 9, 3) := by decide +kernel
theorem dX4_init_10 : decode cX4_init 10 = .ok (.putfield 11, 3) := by decide +kernel
theorem dX4_init_13 : decode cX4_init 13 = .ok (.aload_n 0, 1) := by decide +kernel
theorem dX4_init_14 : decode cX4_init 14 = .ok (.aload_n 1, 1) := by decide +kernel
theorem dX4_init_15 : decode cX4_init 15 = .ok (.putfield 17, 3) := by decide +kernel
theorem dX4_init_18 : decode cX4_init 18 = .ok (.iconst 0, 1) := by decide +kernel
theorem dX4_init_19 : decode cX4_init 19 = .ok (.istore_n 2, 1) := by decide +kernel
theorem dX4_init_20 : decode cX4_init 20 = .ok (.iload_n 2, 1) := by decide +kernel
theorem dX4_init_21 : decode cX4_init 21 = .ok (.bipush 8, 2) := by decide +kernel
theorem dX4_init_23 : decode cX4_init 23 = .ok (.if_icmp .ge 22, 3) := by decide +kernel
theorem dX4_init_26 : decode cX4_init 26 = .ok (.aload_n 0, 1) := by decide +kernel
theorem dX4_init_27 : decode cX4_init 27 = .ok (.getfield 11, 3) := by decide +kernel
theorem dX4_init_30 : decode cX4_init 30 = .ok (.iload_n 2, 1) := by decide +kernel
theorem dX4_init_31 : decode cX4_init 31 = .ok (.new 9, 3) := by decide +kernel
theorem dX4_init_34 : decode cX4_init 34 = .ok (.dup, 1) := by decide +kernel
theorem dX4_init_35 : decode cX4_init 35 = .ok (.invokespecial 21, 3) := by decide +kernel
theorem dX4_init_38 : decode cX4_init 38 = .ok (.aastore, 1) := by decide +kernel
theorem dX4_init_39 : decode cX4_init 39 = .ok (.iinc 2 1, 3) := by decide +kernel
theorem dX4_init_42 : decode cX4_init 42 = .ok (.goto (-22), 3) := by decide +kernel
theorem dX4_init_45 : decode cX4_init 45 = .ok (.return_, 1) := by decide +kernel
theorem dX4_ownerOf_0 : decode cX4_ownerOf 0 = .ok (.iconst (-1), 1) := by decide +kernel
theorem dX4_ownerOf_1 : decode cX4_ownerOf 1 = .ok (.istore 5, 2) := by decide +kernel
theorem dX4_ownerOf_3 : decode cX4_ownerOf 3 = .ok (.iconst 0, 1) := by decide +kernel
theorem dX4_ownerOf_4 : decode cX4_ownerOf 4 = .ok (.istore 6, 2) := by decide +kernel
theorem dX4_ownerOf_6 : decode cX4_ownerOf 6 = .ok (.iconst 0, 1) := by decide +kernel
theorem dX4_ownerOf_7 : decode cX4_ownerOf 7 = .ok (.istore 7, 2) := by decide +kernel
theorem dX4_ownerOf_9 : decode cX4_ownerOf 9 = .ok (.iload 7, 2) := by decide +kernel
theorem dX4_ownerOf_11 : decode cX4_ownerOf 11 = .ok (.bipush 16, 2) := by decide +kernel
theorem dX4_ownerOf_13 : decode cX4_ownerOf 13 = .ok (.if_icmp .ge 62, 3) := by decide +kernel
theorem dX4_ownerOf_16 : decode cX4_ownerOf 16 = .ok (.aload_n 1, 1) := by decide +kernel
theorem dX4_ownerOf_17 : decode cX4_ownerOf 17 = .ok (.iload 7, 2) := by decide +kernel
theorem dX4_ownerOf_19 : decode cX4_ownerOf 19 = .ok (.iload 4, 2) := by decide +kernel
theorem dX4_ownerOf_21 : decode cX4_ownerOf 21 = .ok (.invokevirtual 22, 3) := by decide +kernel
theorem dX4_ownerOf_24 : decode cX4_ownerOf 24 = .ok (.iconst (-1), 1) := by decide +kernel
theorem dX4_ownerOf_25 : decode cX4_ownerOf 25 = .ok (.if_icmp .ne 6, 3) := by decide +kernel
theorem dX4_ownerOf_28 : decode cX4_ownerOf 28 = .ok (.goto 41, 3) := by decide +kernel
theorem dX4_ownerOf_31 : decode cX4_ownerOf 31 = .ok (.iload_n 2, 1) := by decide +kernel
theorem dX4_ownerOf_32 : decode cX4_ownerOf 32 = .ok (.iload_n 3, 1) := by decide +kernel
theorem dX4_ownerOf_33 : decode cX4_ownerOf 33 = .ok (.aload_n 0, 1) := by decide +kernel
theorem dX4_ownerOf_34 : decode cX4_ownerOf 34 = .ok (.getfield 17, 3) := by decide +kernel
theorem dX4_ownerOf_37 : decode cX4_ownerOf 37 = .ok (.getfield 28, 3) := by decide +kernel
theorem dX4_ownerOf_40 : decode cX4_ownerOf 40 = .ok (.iload 7, 2) := by decide +kernel
theorem dX4_ownerOf_42 : decode cX4_ownerOf 42 = .ok (.aaload, 1) := by decide +kernel
theorem dX4_ownerOf_43 : decode cX4_ownerOf 43 = .ok (.invokestatic 34, 3) := by decide +kernel
theorem dX4_ownerOf_46 : decode cX4_ownerOf 46 = .ok (.istore 8, 2) := by decide +kernel
theorem dX4_ownerOf_48 : decode cX4_ownerOf 48 = .ok (.iload 5, 2) := by decide +kernel
theorem dX4_ownerOf_50 : decode cX4_ownerOf 50 = .ok (.iconst (-1), 1) := by decide +kernel
theorem dX4_ownerOf_51 : decode cX4_ownerOf 51 = .ok (.if_icmp .eq 10, 3) := by decide +kernel
theorem dX4_ownerOf_54 : decode cX4_ownerOf 54 = .ok (.iload 8, 2) := by decide +kernel
theorem dX4_ownerOf_56 : decode cX4_ownerOf 56 = .ok (.iload 6, 2) := by decide +kernel
theorem dX4_ownerOf_58 : decode cX4_ownerOf 58 = .ok (.if_icmp .ge 11, 3) := by decide +kernel
theorem dX4_ownerOf_61 : decode cX4_ownerOf 61 = .ok (.iload 7, 2) := by decide +kernel
theorem dX4_ownerOf_63 : decode cX4_ownerOf 63 = .ok (.istore 5, 2) := by decide +kernel
theorem dX4_ownerOf_65 : decode cX4_ownerOf 65 = .ok (.iload 8, 2) := by decide +kernel
theorem dX4_ownerOf_67 : decode cX4_ownerOf 67 = .ok (.istore 6, 2) := by decide +kernel
theorem dX4_ownerOf_69 : decode cX4_ownerOf 69 = .ok (.iinc 7 1, 3) := by decide +kernel
theorem dX4_ownerOf_72 : decode cX4_ownerOf 72 = .ok (.goto (-63), 3) := by decide +kernel
theorem dX4_ownerOf_75 : decode cX4_ownerOf 75 = .ok (.iload 5, 2) := by decide +kernel
theorem dX4_ownerOf_77 : decode cX4_ownerOf 77 = .ok (.ireturn, 1) := by decide +kernel
theorem dX4_countOwned_0 : decode cX4_countOwned 0 = .ok (.iconst 0, 1) := by decide +kernel
theorem dX4_countOwned_1 : decode cX4_countOwned 1 = .ok (.istore 4, 2) := by decide +kernel
theorem dX4_countOwned_3 : decode cX4_countOwned 3 = .ok (.aload_n 1, 1) := by decide +kernel
theorem dX4_countOwned_4 : decode cX4_countOwned 4 = .ok (.iload_n 2, 1) := by decide +kernel
theorem dX4_countOwned_5 : decode cX4_countOwned 5 = .ok (.iload_n 3, 1) := by decide +kernel
theorem dX4_countOwned_6 : decode cX4_countOwned 6 = .ok (.invokevirtual 22, 3) := by decide +kernel
theorem dX4_countOwned_9 : decode cX4_countOwned 9 = .ok (.iconst (-1), 1) := by decide +kernel
theorem dX4_countOwned_10 : decode cX4_countOwned 10 = .ok (.if_icmp .ne 6, 3) := by decide +kernel
theorem dX4_countOwned_13 : decode cX4_countOwned 13 = .ok (.iload 4, 2) := by decide +kernel
theorem dX4_countOwned_15 : decode cX4_countOwned 15 = .ok (.ireturn, 1) := by decide +kernel
theorem dX4_countOwned_16 : decode cX4_countOwned 16 = .ok (.iconst 0, 1) := by decide +kernel
theorem dX4_countOwned_17 : decode cX4_countOwned 17 = .ok (.istore 5, 2) := by decide +kernel
theorem dX4_countOwned_19 : decode cX4_countOwned 19 = .ok (.iload 5, 2) := by decide +kernel
theorem dX4_countOwned_21 : decode cX4_countOwned 21 = .ok (.bipush 100, 2) := by decide +kernel
theorem dX4_countOwned_23 : decode cX4_countOwned 23 = .ok (.if_icmp .ge 32, 3) := by decide +kernel
theorem dX4_countOwned_26 : decode cX4_countOwned 26 = .ok (.aload_n 0, 1) := by decide +kernel
theorem dX4_countOwned_27 : decode cX4_countOwned 27 = .ok (.aload_n 1, 1) := by decide +kernel
theorem dX4_countOwned_28 : decode cX4_countOwned 28 = .ok (.iload 5, 2) := by decide +kernel
theorem dX4_countOwned_30 : decode cX4_countOwned 30 = .ok (.bipush 10, 2) := by decide +kernel
theorem dX4_countOwned_32 : decode cX4_countOwned 32 = .ok (.irem, 1) := by decide +kernel
theorem dX4_countOwned_33 : decode cX4_countOwned 33 = .ok (.iload 5, 2) := by decide +kernel
theorem dX4_countOwned_35 : decode cX4_countOwned 35 = .ok (.bipush 10, 2) := by decide +kernel
theorem dX4_countOwned_37 : decode cX4_countOwned 37 = .ok (.idiv, 1) := by decide +kernel
theorem dX4_countOwned_38 : decode cX4_countOwned 38 = .ok (.iload_n 3, 1) := by decide +kernel
theorem dX4_countOwned_39 : decode cX4_countOwned 39 = .ok (.invokevirtual 38, 3) := by decide +kernel
theorem dX4_countOwned_42 : decode cX4_countOwned 42 = .ok (.iload_n 2, 1) := by decide +kernel
theorem dX4_countOwned_43 : decode cX4_countOwned 43 = .ok (.if_icmp .ne 6, 3) := by decide +kernel
theorem dX4_countOwned_46 : decode cX4_countOwned 46 = .ok (.iinc 4 1, 3) := by decide +kernel
theorem dX4_countOwned_49 : decode cX4_countOwned 49 = .ok (.iinc 5 1, 3) := by decide +kernel
theorem dX4_countOwned_52 : decode cX4_countOwned 52 = .ok (.goto (-33), 3) := by decide +kernel
theorem dX4_countOwned_55 : decode cX4_countOwned 55 = .ok (.iload 4, 2) := by decide +kernel
theorem dX4_countOwned_57 : decode cX4_countOwned 57 = .ok (.ireturn, 1) := by decide +kernel
theorem dX4_rainOf_0 : decode cX4_rainOf 0 = .ok (.iconst 0, 1) := by decide +kernel
theorem dX4_rainOf_1 : decode cX4_rainOf 1 = .ok (.istore 4, 2) := by decide +kernel
theorem dX4_rainOf_3 : decode cX4_rainOf 3 = .ok (.aload_n 2, 1) := by decide +kernel
theorem dX4_rainOf_4 : decode cX4_rainOf 4 = .ok (.getfield 42, 3) := by decide +kernel
theorem dX4_rainOf_7 : decode cX4_rainOf 7 = .ok (.ifCond .ne 5, 3) := by decide +kernel
theorem dX4_rainOf_10 : decode cX4_rainOf 10 = .ok (.iconst (-1), 1) := by decide +kernel
theorem dX4_rainOf_11 : decode cX4_rainOf 11 = .ok (.ireturn, 1) := by decide +kernel
theorem dX4_rainOf_12 : decode cX4_rainOf 12 = .ok (.iconst 0, 1) := by decide +kernel
theorem dX4_rainOf_13 : decode cX4_rainOf 13 = .ok (.istore 5, 2) := by decide +kernel
theorem dX4_rainOf_15 : decode cX4_rainOf 15 = .ok (.iload 5, 2) := by decide +kernel
theorem dX4_rainOf_17 : decode cX4_rainOf 17 = .ok (.bipush 100, 2) := by decide +kernel
theorem dX4_rainOf_19 : decode cX4_rainOf 19 = .ok (.if_icmp .ge 57, 3) := by decide +kernel
theorem dX4_rainOf_22 : decode cX4_rainOf 22 = .ok (.aload_n 2, 1) := by decide +kernel
theorem dX4_rainOf_23 : decode cX4_rainOf 23 = .ok (.getfield 46, 3) := by decide +kernel
theorem dX4_rainOf_26 : decode cX4_rainOf 26 = .ok (.iload 5, 2) := by decide +kernel
theorem dX4_rainOf_28 : decode cX4_rainOf 28 = .ok (.baload, 1) := by decide +kernel
theorem dX4_rainOf_29 : decode cX4_rainOf 29 = .ok (.ifCond .eq 41, 3) := by decide +kernel
theorem dX4_rainOf_32 : decode cX4_rainOf 32 = .ok (.aload_n 0, 1) := by decide +kernel
theorem dX4_rainOf_33 : decode cX4_rainOf 33 = .ok (.aload_n 1, 1) := by decide +kernel
theorem dX4_rainOf_34 : decode cX4_rainOf 34 = .ok (.iload 5, 2) := by decide +kernel
theorem dX4_rainOf_36 : decode cX4_rainOf 36 = .ok (.bipush 10, 2) := by decide +kernel
theorem dX4_rainOf_38 : decode cX4_rainOf 38 = .ok (.irem, 1) := by decide +kernel
theorem dX4_rainOf_39 : decode cX4_rainOf 39 = .ok (.iload 5, 2) := by decide +kernel
theorem dX4_rainOf_41 : decode cX4_rainOf 41 = .ok (.bipush 10, 2) := by decide +kernel
theorem dX4_rainOf_43 : decode cX4_rainOf 43 = .ok (.idiv, 1) := by decide +kernel
theorem dX4_rainOf_44 : decode cX4_rainOf 44 = .ok (.iload_n 3, 1) := by decide +kernel
theorem dX4_rainOf_45 : decode cX4_rainOf 45 = .ok (.invokevirtual 38, 3) := by decide +kernel
theorem dX4_rainOf_48 : decode cX4_rainOf 48 = .ok (.istore 6, 2) := by decide +kernel
theorem dX4_rainOf_50 : decode cX4_rainOf 50 = .ok (.iload 6, 2) := by decide +kernel
theorem dX4_rainOf_52 : decode cX4_rainOf 52 = .ok (.iconst (-1), 1) := by decide +kernel
theorem dX4_rainOf_53 : decode cX4_rainOf 53 = .ok (.if_icmp .ne 5, 3) := by decide +kernel
theorem dX4_rainOf_56 : decode cX4_rainOf 56 = .ok (.iconst (-1), 1) := by decide +kernel
theorem dX4_rainOf_57 : decode cX4_rainOf 57 = .ok (.ireturn, 1) := by decide +kernel
theorem dX4_rainOf_58 : decode cX4_rainOf 58 = .ok (.iload 4, 2) := by decide +kernel
theorem dX4_rainOf_60 : decode cX4_rainOf 60 = .ok (.aload_n 1, 1) := by decide +kernel
theorem dX4_rainOf_61 : decode cX4_rainOf 61 = .ok (.iload 6, 2) := by decide +kernel
theorem dX4_rainOf_63 : decode cX4_rainOf 63 = .ok (.iload_n 3, 1) := by decide +kernel
theorem dX4_rainOf_64 : decode cX4_rainOf 64 = .ok (.invokevirtual 22, 3) := by decide +kernel
theorem dX4_rainOf_67 : decode cX4_rainOf 67 = .ok (.iadd, 1) := by decide +kernel
theorem dX4_rainOf_68 : decode cX4_rainOf 68 = .ok (.istore 4, 2) := by decide +kernel
theorem dX4_rainOf_70 : decode cX4_rainOf 70 = .ok (.iinc 5 1, 3) := by decide +kernel
theorem dX4_rainOf_73 : decode cX4_rainOf 73 = .ok (.goto (-58), 3) := by decide +kernel
theorem dX4_rainOf_76 : decode cX4_rainOf 76 = .ok (.iload 4, 2) := by decide +kernel
theorem dX4_rainOf_78 : decode cX4_rainOf 78 = .ok (.ireturn, 1) := by decide +kernel
theorem dX4_flowOf_0 : decode cX4_flowOf 0 = .ok (.lconst 0, 1) := by decide +kernel
theorem dX4_flowOf_1 : decode cX4_flowOf 1 = .ok (.lstore 4, 2) := by decide +kernel
theorem dX4_flowOf_3 : decode cX4_flowOf 3 = .ok (.iconst 0, 1) := by decide +kernel
theorem dX4_flowOf_4 : decode cX4_flowOf 4 = .ok (.istore 6, 2) := by decide +kernel
theorem dX4_flowOf_6 : decode cX4_flowOf 6 = .ok (.iload 6, 2) := by decide +kernel
theorem dX4_flowOf_8 : decode cX4_flowOf 8 = .ok (.bipush 8, 2) := by decide +kernel
theorem dX4_flowOf_10 : decode cX4_flowOf 10 = .ok (.if_icmp .ge 53, 3) := by decide +kernel
theorem dX4_flowOf_13 : decode cX4_flowOf 13 = .ok (.aload_n 0, 1) := by decide +kernel
theorem dX4_flowOf_14 : decode cX4_flowOf 14 = .ok (.getfield 17, 3) := by decide +kernel
theorem dX4_flowOf_17 : decode cX4_flowOf 17 = .ok (.iconst 4, 1) := by decide +kernel
theorem dX4_flowOf_18 : decode cX4_flowOf 18 = .ok (.iload 6, 2) := by decide +kernel
theorem dX4_flowOf_20 : decode cX4_flowOf 20 = .ok (.iadd, 1) := by decide +kernel
theorem dX4_flowOf_21 : decode cX4_flowOf 21 = .ok (.invokevirtual 50, 3) := by decide +kernel
theorem dX4_flowOf_24 : decode cX4_flowOf 24 = .ok (.i2l, 1) := by decide +kernel
theorem dX4_flowOf_25 : decode cX4_flowOf 25 = .ok (.lstore 7, 2) := by decide +kernel
theorem dX4_flowOf_27 : decode cX4_flowOf 27 = .ok (.lload 7, 2) := by decide +kernel
theorem dX4_flowOf_29 : decode cX4_flowOf 29 = .ok (.lconst 0, 1) := by decide +kernel
theorem dX4_flowOf_30 : decode cX4_flowOf 30 = .ok (.lcmp, 1) := by decide +kernel
theorem dX4_flowOf_31 : decode cX4_flowOf 31 = .ok (.ifCond .eq 26, 3) := by decide +kernel
theorem dX4_flowOf_34 : decode cX4_flowOf 34 = .ok (.lload 4, 2) := by decide +kernel
theorem dX4_flowOf_36 : decode cX4_flowOf 36 = .ok (.lload 7, 2) := by decide +kernel
theorem dX4_flowOf_38 : decode cX4_flowOf 38 = .ok (.iconst 0, 1) := by decide +kernel
theorem dX4_flowOf_39 : decode cX4_flowOf 39 = .ok (.aload_n 0, 1) := by decide +kernel
theorem dX4_flowOf_40 : decode cX4_flowOf 40 = .ok (.aload_n 1, 1) := by decide +kernel
theorem dX4_flowOf_41 : decode cX4_flowOf 41 = .ok (.aload_n 2, 1) := by decide +kernel
theorem dX4_flowOf_42 : decode cX4_flowOf 42 = .ok (.iload_n 3, 1) := by decide +kernel
theorem dX4_flowOf_43 : decode cX4_flowOf 43 = .ok (.iload 6, 2) := by decide +kernel
theorem dX4_flowOf_45 : decode cX4_flowOf 45 = .ok (.isub, 1) := by decide +kernel
theorem dX4_flowOf_46 : decode cX4_flowOf 46 = .ok (.invokevirtual 54, 3) := by decide +kernel
theorem dX4_flowOf_49 : decode cX4_flowOf 49 = .ok (.invokestatic 58, 3) := by decide +kernel
theorem dX4_flowOf_52 : decode cX4_flowOf 52 = .ok (.i2l, 1) := by decide +kernel
theorem dX4_flowOf_53 : decode cX4_flowOf 53 = .ok (.lmul, 1) := by decide +kernel
theorem dX4_flowOf_54 : decode cX4_flowOf 54 = .ok (.ladd, 1) := by decide +kernel
theorem dX4_flowOf_55 : decode cX4_flowOf 55 = .ok (.lstore 4, 2) := by decide +kernel
theorem dX4_flowOf_57 : decode cX4_flowOf 57 = .ok (.iinc 6 1, 3) := by decide +kernel
theorem dX4_flowOf_60 : decode cX4_flowOf 60 = .ok (.goto (-54), 3) := by decide +kernel
theorem dX4_flowOf_63 : decode cX4_flowOf 63 = .ok (.lload 4, 2) := by decide +kernel
theorem dX4_flowOf_65 : decode cX4_flowOf 65 = .ok (.lreturn, 1) := by decide +kernel
theorem dX5_init_0 : decode cX5_init 0 = .ok (.aload_n 0, 1) := by decide +kernel
theorem dX5_init_1 : decode cX5_init 1 = .ok (.invokespecial 3, 3) := by decide +kernel
theorem dX5_init_4 : decode cX5_init 4 = .ok (.aload_n 0, 1) := by decide +kernel
theorem dX5_init_5 : decode cX5_init 5 = .ok (.new 9, 3) := by decide +kernel
theorem dX5_init_8 : decode cX5_init 8 = .ok (.dup, 1) := by decide +kernel
theorem dX5_init_9 : decode cX5_init 9 = .ok (.invokespecial 11, 3) := by decide +kernel
theorem dX5_init_12 : decode cX5_init 12 = .ok (.putfield 12, 3) := by decide +kernel
theorem dX5_init_15 : decode cX5_init 15 = .ok (.aload_n 0, 1) := by decide +kernel
theorem dX5_init_16 : decode cX5_init 16 = .ok (.aload_n 1, 1) := by decide +kernel
theorem dX5_init_17 : decode cX5_init 17 = .ok (.putfield 18, 3) := by decide +kernel
theorem dX5_init_20 : decode cX5_init 20 = .ok (.return_, 1) := by decide +kernel
theorem dX5_gather_0 : decode cX5_gather 0 = .ok (.aload_n 0, 1) := by decide +kernel
theorem dX5_gather_1 : decode cX5_gather 1 = .ok (.getfield 12, 3) := by decide +kernel
theorem dX5_gather_4 : decode cX5_gather 4 = .ok (.iconst 0, 1) := by decide +kernel
theorem dX5_gather_5 : decode cX5_gather 5 = .ok (.putfield 22, 3) := by decide +kernel
theorem dX5_gather_8 : decode cX5_gather 8 = .ok (.iload_n 2, 1) := by decide +kernel
theorem dX5_gather_9 : decode cX5_gather 9 = .ok (.invokestatic 26, 3) := by decide +kernel
theorem dX5_gather_12 : decode cX5_gather 12 = .ok (.ifCond .eq 34, 3) := by decide +kernel
theorem dX5_gather_15 : decode cX5_gather 15 = .ok (.aload_n 0, 1) := by decide +kernel
theorem dX5_gather_16 : decode cX5_gather 16 = .ok (.getfield 18, 3) := by decide +kernel
theorem dX5_gather_19 : decode cX5_gather 19 = .ok (.getfield 30, 3) := by decide +kernel
theorem dX5_gather_22 : decode cX5_gather 22 = .ok (.iload_n 2, 1) := by decide +kernel
theorem dX5_gather_23 : decode cX5_gather 23 = .ok (.aaload, 1) := by decide +kernel
theorem dX5_gather_24 : decode cX5_gather 24 = .ok (.invokevirtual 36, 3) := by decide +kernel
theorem dX5_gather_27 : decode cX5_gather 27 = .ok (.ifCond .eq 19, 3) := by decide +kernel
theorem dX5_gather_30 : decode cX5_gather 30 = .ok (.iload_n 3, 1) := by decide +kernel
theorem dX5_gather_31 : decode cX5_gather 31 = .ok (.aload_n 0, 1) := by decide +kernel
theorem dX5_gather_32 : decode cX5_gather 32 = .ok (.getfield 18, 3) := by decide +kernel
theorem dX5_gather_35 : decode cX5_gather 35 = .ok (.getfield 30, 3) := by decide +kernel
theorem dX5_gather_38 : decode cX5_gather 38 = .ok (.iload_n 2, 1) := by decide +kernel
theorem dX5_gather_39 : decode cX5_gather 39 = .ok (.aaload, 1) := by decide +kernel
theorem dX5_gather_40 : decode cX5_gather 40 = .ok (.getfield 42, 3) := by decide +kernel
theorem dX5_gather_43 : decode cX5_gather 43 = .ok (.if_icmp .ge 5, 3) := by decide +kernel
theorem dX5_gather_46 : decode cX5_gather 46 = .ok (.iconst 0, 1) := by decide +kernel
theorem dX5_gather_47 : decode cX5_gather 47 = .ok (.ireturn, 1) := by decide +kernel
theorem dX5_gather_48 : decode cX5_gather 48 = .ok (.aload_n 0, 1) := by decide +kernel
theorem dX5_gather_49 : decode cX5_gather 49 = .ok (.getfield 18, 3) := by decide +kernel
theorem dX5_gather_52 : decode cX5_gather 52 = .ok (.getfield 30, 3) := by decide +kernel
theorem dX5_gather_55 : decode cX5_gather 55 = .ok (.iload_n 2, 1) := by decide +kernel
theorem dX5_gather_56 : decode cX5_gather 56 = .ok (.aaload, 1) := by decide +kernel
theorem dX5_gather_57 : decode cX5_gather 57 = .ok (.astore 4, 2) := by decide +kernel
theorem dX5_gather_59 : decode cX5_gather 59 = .ok (.iconst 0, 1) := by decide +kernel
theorem dX5_gather_60 : decode cX5_gather 60 = .ok (.istore 5, 2) := by decide +kernel
theorem dX5_gather_62 : decode cX5_gather 62 = .ok (.iload 5, 2) := by decide +kernel
theorem dX5_gather_64 : decode cX5_gather 64 = .ok (.bipush 16, 2) := by decide +kernel
theorem dX5_gather_66 : decode cX5_gather 66 = .ok (.if_icmp .ge 58, 3) := by decide +kernel
theorem dX5_gather_69 : decode cX5_gather 69 = .ok (.iload 5, 2) := by decide +kernel
theorem dX5_gather_71 : decode cX5_gather 71 = .ok (.iload_n 2, 1) := by decide +kernel
theorem dX5_gather_72 : decode cX5_gather 72 = .ok (.if_icmp .eq 46, 3) := by decide +kernel
theorem dX5_gather_75 : decode cX5_gather 75 = .ok (.aload_n 1, 1) := by decide +kernel
theorem dX5_gather_76 : decode cX5_gather 76 = .ok (.iload 5, 2) := by decide +kernel
theorem dX5_gather_78 : decode cX5_gather 78 = .ok (.iload_n 3, 1) := by decide +kernel
theorem dX5_gather_79 : decode cX5_gather 79 = .ok (.invokevirtual 45, 3) := by decide +kernel
theorem dX5_gather_82 : decode cX5_gather 82 = .ok (.iconst (-1), 1) := by decide +kernel
theorem dX5_gather_83 : decode cX5_gather 83 = .ok (.if_icmp .eq 35, 3) := by decide +kernel
theorem dX5_gather_86 : decode cX5_gather 86 = .ok (.aload_n 0, 1) := by decide +kernel
theorem dX5_gather_87 : decode cX5_gather 87 = .ok (.getfield 12, 3) := by decide +kernel
theorem dX5_gather_90 : decode cX5_gather 90 = .ok (.iload 5, 2) := by decide +kernel
theorem dX5_gather_92 : decode cX5_gather 92 = .ok (.aload 4, 2) := by decide +kernel
theorem dX5_gather_94 : decode cX5_gather 94 = .ok (.getfield 51, 3) := by decide +kernel
theorem dX5_gather_97 : decode cX5_gather 97 = .ok (.aload 4, 2) := by decide +kernel
theorem dX5_gather_99 : decode cX5_gather 99 = .ok (.getfield 54, 3) := by decide +kernel
theorem dX5_gather_102 : decode cX5_gather 102 = .ok (.aload_n 0, 1) := by decide +kernel
theorem dX5_gather_103 : decode cX5_gather 103 = .ok (.getfield 18, 3) := by decide +kernel
theorem dX5_gather_106 : decode cX5_gather 106 = .ok (.getfield 30, 3) := by decide +kernel
theorem dX5_gather_109 : decode cX5_gather 109 = .ok (.iload 5, 2) := by decide +kernel
theorem dX5_gather_111 : decode cX5_gather 111 = .ok (.aaload, 1) := by decide +kernel
theorem dX5_gather_112 : decode cX5_gather 112 = .ok (.invokestatic 57, 3) := by decide +kernel
theorem dX5_gather_115 : decode cX5_gather 115 = .ok (.invokevirtual 61, 3) := by decide +kernel
theorem dX5_gather_118 : decode cX5_gather 118 = .ok (.iinc 5 1, 3) := by decide +kernel
theorem dX5_gather_121 : decode cX5_gather 121 = .ok (.goto (-59), 3) := by decide +kernel
theorem dX5_gather_124 : decode cX5_gather 124 = .ok (.aload_n 0, 1) := by decide +kernel
theorem dX5_gather_125 : decode cX5_gather 125 = .ok (.getfield 12, 3) := by decide +kernel
theorem dX5_gather_128 : decode cX5_gather 128 = .ok (.getfield 22, 3) := by decide +kernel
theorem dX5_gather_131 : decode cX5_gather 131 = .ok (.ireturn, 1) := by decide +kernel
theorem dX5_mend_0 : decode cX5_mend 0 = .ok (.aload_n 0, 1) := by decide +kernel
theorem dX5_mend_1 : decode cX5_mend 1 = .ok (.aload_n 1, 1) := by decide +kernel
theorem dX5_mend_2 : decode cX5_mend 2 = .ok (.iload_n 2, 1) := by decide +kernel
theorem dX5_mend_3 : decode cX5_mend 3 = .ok (.iload_n 3, 1) := by decide +kernel
theorem dX5_mend_4 : decode cX5_mend 4 = .ok (.invokevirtual 65, 3) := by decide +kernel
theorem dX5_mend_7 : decode cX5_mend 7 = .ok (.istore 4, 2) := by decide +kernel
theorem dX5_mend_9 : decode cX5_mend 9 = .ok (.lconst 0, 1) := by decide +kernel
theorem dX5_mend_10 : decode cX5_mend 10 = .ok (.lstore 5, 2) := by decide +kernel
theorem dX5_mend_12 : decode cX5_mend 12 = .ok (.lconst 0, 1) := by decide +kernel
theorem dX5_mend_13 : decode cX5_mend 13 = .ok (.lstore 7, 2) := by decide +kernel
theorem dX5_mend_15 : decode cX5_mend 15 = .ok (.iconst 0, 1) := by decide +kernel
theorem dX5_mend_16 : decode cX5_mend 16 = .ok (.istore 9, 2) := by decide +kernel
theorem dX5_mend_18 : decode cX5_mend 18 = .ok (.iload 9, 2) := by decide +kernel
theorem dX5_mend_20 : decode cX5_mend 20 = .ok (.iload 4, 2) := by decide +kernel
theorem dX5_mend_22 : decode cX5_mend 22 = .ok (.if_icmp .ge 63, 3) := by decide +kernel
theorem dX5_mend_25 : decode cX5_mend 25 = .ok (.iload 9, 2) := by decide +kernel
theorem dX5_mend_27 : decode cX5_mend 27 = .ok (.iconst 4, 1) := by decide +kernel
theorem dX5_mend_28 : decode cX5_mend 28 = .ok (.if_icmp .ge 57, 3) := by decide +kernel
theorem dX5_mend_31 : decode cX5_mend 31 = .ok (.aload_n 0, 1) := by decide +kernel
theorem dX5_mend_32 : decode cX5_mend 32 = .ok (.getfield 12, 3) := by decide +kernel
theorem dX5_mend_35 : decode cX5_mend 35 = .ok (.getfield 69, 3) := by decide +kernel
theorem dX5_mend_38 : decode cX5_mend 38 = .ok (.iload 9, 2) := by decide +kernel
theorem dX5_mend_40 : decode cX5_mend 40 = .ok (.iaload, 1) := by decide +kernel
theorem dX5_mend_41 : decode cX5_mend 41 = .ok (.invokestatic 73, 3) := by decide +kernel
theorem dX5_mend_44 : decode cX5_mend 44 = .ok (.i2l, 1) := by decide +kernel
theorem dX5_mend_45 : decode cX5_mend 45 = .ok (.lstore 10, 2) := by decide +kernel
theorem dX5_mend_47 : decode cX5_mend 47 = .ok (.lload 5, 2) := by decide +kernel
theorem dX5_mend_49 : decode cX5_mend 49 = .ok (.lload 10, 2) := by decide +kernel
theorem dX5_mend_51 : decode cX5_mend 51 = .ok (.aload_n 0, 1) := by decide +kernel
theorem dX5_mend_52 : decode cX5_mend 52 = .ok (.aload_n 1, 1) := by decide +kernel
theorem dX5_mend_53 : decode cX5_mend 53 = .ok (.iload_n 2, 1) := by decide +kernel
theorem dX5_mend_54 : decode cX5_mend 54 = .ok (.aload_n 0, 1) := by decide +kernel
theorem dX5_mend_55 : decode cX5_mend 55 = .ok (.getfield 12, 3) := by decide +kernel
theorem dX5_mend_58 : decode cX5_mend 58 = .ok (.getfield 77, 3) := by decide +kernel
theorem dX5_mend_61 : decode cX5_mend 61 = .ok (.iload 9, 2) := by decide +kernel
theorem dX5_mend_63 : decode cX5_mend 63 = .ok (.iaload, 1) := by decide +kernel
theorem dX5_mend_64 : decode cX5_mend 64 = .ok (.iload_n 3, 1) := by decide +kernel
theorem dX5_mend_65 : decode cX5_mend 65 = .ok (.invokevirtual 80, 3) := by decide +kernel
theorem dX5_mend_68 : decode cX5_mend 68 = .ok (.lmul, 1) := by decide +kernel
theorem dX5_mend_69 : decode cX5_mend 69 = .ok (.ladd, 1) := by decide +kernel
theorem dX5_mend_70 : decode cX5_mend 70 = .ok (.lstore 5, 2) := by decide +kernel
theorem dX5_mend_72 : decode cX5_mend 72 = .ok (.lload 7, 2) := by decide +kernel
theorem dX5_mend_74 : decode cX5_mend 74 = .ok (.lload 10, 2) := by decide +kernel
theorem dX5_mend_76 : decode cX5_mend 76 = .ok (.ladd, 1) := by decide +kernel
theorem dX5_mend_77 : decode cX5_mend 77 = .ok (.lstore 7, 2) := by decide +kernel
theorem dX5_mend_79 : decode cX5_mend 79 = .ok (.iinc 9 1, 3) := by decide +kernel
theorem dX5_mend_82 : decode cX5_mend 82 = .ok (.goto (-64), 3) := by decide +kernel
theorem dX5_mend_85 : decode cX5_mend 85 = .ok (.lload 7, 2) := by decide +kernel
theorem dX5_mend_87 : decode cX5_mend 87 = .ok (.lconst 0, 1) := by decide +kernel
theorem dX5_mend_88 : decode cX5_mend 88 = .ok (.lcmp, 1) := by decide +kernel
theorem dX5_mend_89 : decode cX5_mend 89 = .ok (.ifCond .gt 7, 3) := by decide +kernel
theorem dX5_mend_92 : decode cX5_mend 92 = .ok (.iconst (-1), 1) := by decide +kernel
theorem dX5_mend_93 : decode cX5_mend 93 = .ok (.goto 13, 3) := by decide +kernel
theorem dX5_mend_96 : decode cX5_mend 96 = .ok (.lload 5, 2) := by decide +kernel
theorem dX5_mend_98 : decode cX5_mend 98 = .ok (.lload 7, 2) := by decide +kernel
theorem dX5_mend_100 : decode cX5_mend 100 = .ok (.ldc2_w 84, 3) := by decide +kernel
theorem dX5_mend_103 : decode cX5_mend 103 = .ok (.lmul, 1) := by decide +kernel
theorem dX5_mend_104 : decode cX5_mend 104 = .ok (.ldiv, 1) := by decide +kernel
theorem dX5_mend_105 : decode cX5_mend 105 = .ok (.l2i, 1) := by decide +kernel
theorem dX5_mend_106 : decode cX5_mend 106 = .ok (.ireturn, 1) := by decide +kernel
theorem dX5_nearness_0 : decode cX5_nearness 0 = .ok (.iload_n 0, 1) := by decide +kernel
theorem dX5_nearness_1 : decode cX5_nearness 1 = .ok (.ifCond .gt 9, 3) := by decide +kernel
theorem dX5_nearness_4 : decode cX5_nearness 4 = .ok (.sipush 288, 3) := by decide +kernel
theorem dX5_nearness_7 : decode cX5_nearness 7 = .ok (.goto 12, 3) := by decide +kernel
theorem dX5_nearness_10 : decode cX5_nearness 10 = .ok (.iconst 1, 1) := by decide +kernel
theorem dX5_nearness_11 : decode cX5_nearness 11 = .ok (.sipush 144, 3) := by decide +kernel
theorem dX5_nearness_14 : decode cX5_nearness 14 = .ok (.iload_n 0, 1) := by decide +kernel
theorem dX5_nearness_15 : decode cX5_nearness 15 = .ok (.idiv, 1) := by decide +kernel
theorem dX5_nearness_16 : decode cX5_nearness 16 = .ok (.invokestatic 86, 3) := by decide +kernel
theorem dX5_nearness_19 : decode cX5_nearness 19 = .ok (.ireturn, 1) := by decide +kernel
theorem dX5_thousandthsBy_0 : decode cX5_thousandthsBy 0 = .ok (.lconst 0, 1) := by decide +kernel
theorem dX5_thousandthsBy_1 : decode cX5_thousandthsBy 1 = .ok (.lstore 5, 2) := by decide +kernel
theorem dX5_thousandthsBy_3 : decode cX5_thousandthsBy 3 = .ok (.lconst 0, 1) := by decide +kernel
theorem dX5_thousandthsBy_4 : decode cX5_thousandthsBy 4 = .ok (.lstore 7, 2) := by decide +kernel
theorem dX5_thousandthsBy_6 : decode cX5_thousandthsBy 6 = .ok (.iconst 0, 1) := by decide +kernel
theorem dX5_thousandthsBy_7 : decode cX5_thousandthsBy 7 = .ok (.istore 9, 2) := by decide +kernel
theorem dX5_thousandthsBy_9 : decode cX5_thousandthsBy 9 = .ok (.iload 9, 2) := by decide +kernel
theorem dX5_thousandthsBy_11 : decode cX5_thousandthsBy 11 = .ok (.aload_n 0, 1) := by decide +kernel
theorem dX5_thousandthsBy_12 : decode cX5_thousandthsBy 12 = .ok (.getfield 18, 3) := by decide +kernel
theorem dX5_thousandthsBy_15 : decode cX5_thousandthsBy 15 = .ok (.getfield 91, 3) := by decide +kernel
theorem dX5_thousandthsBy_18 : decode cX5_thousandthsBy 18 = .ok (.if_icmp .ge 62, 3) := by decide +kernel
theorem dX5_thousandthsBy_21 : decode cX5_thousandthsBy 21 = .ok (.iload 9, 2) := by decide +kernel
theorem dX5_thousandthsBy_23 : decode cX5_thousandthsBy 23 = .ok (.bipush 56, 2) := by decide +kernel
theorem dX5_thousandthsBy_25 : decode cX5_thousandthsBy 25 = .ok (.if_icmp .ge 55, 3) := by decide +kernel
theorem dX5_thousandthsBy_28 : decode cX5_thousandthsBy 28 = .ok (.aload_n 1, 1) := by decide +kernel
theorem dX5_thousandthsBy_29 : decode cX5_thousandthsBy 29 = .ok (.iload_n 2, 1) := by decide +kernel
theorem dX5_thousandthsBy_30 : decode cX5_thousandthsBy 30 = .ok (.iload 9, 2) := by decide +kernel
theorem dX5_thousandthsBy_32 : decode cX5_thousandthsBy 32 = .ok (.invokevirtual 45, 3) := by decide +kernel
theorem dX5_thousandthsBy_35 : decode cX5_thousandthsBy 35 = .ok (.istore 10, 2) := by decide +kernel
theorem dX5_thousandthsBy_37 : decode cX5_thousandthsBy 37 = .ok (.aload_n 1, 1) := by decide +kernel
theorem dX5_thousandthsBy_38 : decode cX5_thousandthsBy 38 = .ok (.iload_n 3, 1) := by decide +kernel
theorem dX5_thousandthsBy_39 : decode cX5_thousandthsBy 39 = .ok (.iload 9, 2) := by decide +kernel
theorem dX5_thousandthsBy_41 : decode cX5_thousandthsBy 41 = .ok (.invokevirtual 45, 3) := by decide +kernel
theorem dX5_thousandthsBy_44 : decode cX5_thousandthsBy 44 = .ok (.istore 11, 2) := by decide +kernel
theorem dX5_thousandthsBy_46 : decode cX5_thousandthsBy 46 = .ok (.iload 10, 2) := by decide +kernel
theorem dX5_thousandthsBy_48 : decode cX5_thousandthsBy 48 = .ok (.iconst (-1), 1) := by decide +kernel
theorem dX5_thousandthsBy_49 : decode cX5_thousandthsBy 49 = .ok (.if_icmp .eq 25, 3) := by decide +kernel
theorem dX5_thousandthsBy_52 : decode cX5_thousandthsBy 52 = .ok (.iload 11, 2) := by decide +kernel
theorem dX5_thousandthsBy_54 : decode cX5_thousandthsBy 54 = .ok (.iconst (-1), 1) := by decide +kernel
theorem dX5_thousandthsBy_55 : decode cX5_thousandthsBy 55 = .ok (.if_icmp .eq 19, 3) := by decide +kernel
theorem dX5_thousandthsBy_58 : decode cX5_thousandthsBy 58 = .ok (.lload 5, 2) := by decide +kernel
theorem dX5_thousandthsBy_60 : decode cX5_thousandthsBy 60 = .ok (.iload 10, 2) := by decide +kernel
theorem dX5_thousandthsBy_62 : decode cX5_thousandthsBy 62 = .ok (.i2l, 1) := by decide +kernel
theorem dX5_thousandthsBy_63 : decode cX5_thousandthsBy 63 = .ok (.ladd, 1) := by decide +kernel
theorem dX5_thousandthsBy_64 : decode cX5_thousandthsBy 64 = .ok (.lstore 5, 2) := by decide +kernel
theorem dX5_thousandthsBy_66 : decode cX5_thousandthsBy 66 = .ok (.lload 7, 2) := by decide +kernel
theorem dX5_thousandthsBy_68 : decode cX5_thousandthsBy 68 = .ok (.iload 11, 2) := by decide +kernel
theorem dX5_thousandthsBy_70 : decode cX5_thousandthsBy 70 = .ok (.i2l, 1) := by decide +kernel
theorem dX5_thousandthsBy_71 : decode cX5_thousandthsBy 71 = .ok (.ladd, 1) := by decide +kernel
theorem dX5_thousandthsBy_72 : decode cX5_thousandthsBy 72 = .ok (.lstore 7, 2) := by decide +kernel
theorem dX5_thousandthsBy_74 : decode cX5_thousandthsBy 74 = .ok (.iinc 9 1, 3) := by decide +kernel
theorem dX5_thousandthsBy_77 : decode cX5_thousandthsBy 77 = .ok (.goto (-68), 3) := by decide +kernel
theorem dX5_thousandthsBy_80 : decode cX5_thousandthsBy 80 = .ok (.ldc2_w 84, 3) := by decide +kernel
theorem dX5_thousandthsBy_83 : decode cX5_thousandthsBy 83 = .ok (.aload_n 1, 1) := by decide +kernel
theorem dX5_thousandthsBy_84 : decode cX5_thousandthsBy 84 = .ok (.iload_n 3, 1) := by decide +kernel
theorem dX5_thousandthsBy_85 : decode cX5_thousandthsBy 85 = .ok (.iload 4, 2) := by decide +kernel
theorem dX5_thousandthsBy_87 : decode cX5_thousandthsBy 87 = .ok (.invokevirtual 45, 3) := by decide +kernel
theorem dX5_thousandthsBy_90 : decode cX5_thousandthsBy 90 = .ok (.i2l, 1) := by decide +kernel
theorem dX5_thousandthsBy_91 : decode cX5_thousandthsBy 91 = .ok (.lmul, 1) := by decide +kernel
theorem dX5_thousandthsBy_92 : decode cX5_thousandthsBy 92 = .ok (.lstore 9, 2) := by decide +kernel
theorem dX5_thousandthsBy_94 : decode cX5_thousandthsBy 94 = .ok (.lload 7, 2) := by decide +kernel
theorem dX5_thousandthsBy_96 : decode cX5_thousandthsBy 96 = .ok (.lconst 0, 1) := by decide +kernel
theorem dX5_thousandthsBy_97 : decode cX5_thousandthsBy 97 = .ok (.lcmp, 1) := by decide +kernel
theorem dX5_thousandthsBy_98 : decode cX5_thousandthsBy 98 = .ok (.ifCond .gt 8, 3) := by decide +kernel
theorem dX5_thousandthsBy_101 : decode cX5_thousandthsBy 101 = .ok (.lload 9, 2) := by decide +kernel
theorem dX5_thousandthsBy_103 : decode cX5_thousandthsBy 103 = .ok (.goto 11, 3) := by decide +kernel
theorem dX5_thousandthsBy_106 : decode cX5_thousandthsBy 106 = .ok (.lload 9, 2) := by decide +kernel
theorem dX5_thousandthsBy_108 : decode cX5_thousandthsBy 108 = .ok (.lload 5, 2) := by decide +kernel
theorem dX5_thousandthsBy_110 : decode cX5_thousandthsBy 110 = .ok (.lmul, 1) := by decide +kernel
theorem dX5_thousandthsBy_111 : decode cX5_thousandthsBy 111 = .ok (.lload 7, 2) := by decide +kernel
theorem dX5_thousandthsBy_113 : decode cX5_thousandthsBy 113 = .ok (.ldiv, 1) := by decide +kernel
theorem dX5_thousandthsBy_114 : decode cX5_thousandthsBy 114 = .ok (.lreturn, 1) := by decide +kernel
theorem dX6_init_0 : decode cX6_init 0 = .ok (.aload_n 0, 1) := by decide +kernel
theorem dX6_init_1 : decode cX6_init 1 = .ok (.invokespecial 3, 3) := by decide +kernel
theorem dX6_init_4 : decode cX6_init 4 = .ok (.aload_n 0, 1) := by decide +kernel
theorem dX6_init_5 : decode cX6_init 5 = .ok (.bipush 16, 2) := by decide +kernel
theorem dX6_init_7 : decode cX6_init 7 = .ok (.anewarray 9, 3) := by decide +kernel
theorem dX6_init_10 : decode cX6_init 10 = .ok (.putfield 11, 3) := by decide +kernel
theorem dX6_init_13 : decode cX6_init 13 = .ok (.aload_n 0, 1) := by decide +kernel
theorem dX6_init_14 : decode cX6_init 14 = .ok (.new 17, 3) := by decide +kernel
theorem dX6_init_17 : decode cX6_init 17 = .ok (.dup, 1) := by decide +kernel
theorem dX6_init_18 : decode cX6_init 18 = .ok (.invokespecial 19, 3) := by decide +kernel
theorem dX6_init_21 : decode cX6_init 21 = .ok (.putfield 20, 3) := by decide +kernel
theorem dX6_init_24 : decode cX6_init 24 = .ok (.aload_n 0, 1) := by decide +kernel
theorem dX6_init_25 : decode cX6_init 25 = .ok (.getstatic 24, 3) := by decide +kernel
theorem dX6_init_28 : decode cX6_init 28 = .ok (.invokevirtual 28, 3) := by decide +kernel
theorem dX6_init_31 : decode cX6_init 31 = .ok (.checkcast 29, 3) := by decide +kernel
theorem dX6_init_34 : decode cX6_init 34 = .ok (.putfield 33, 3) := by decide +kernel
theorem dX6_init_37 : decode cX6_init 37 = .ok (.iconst 0, 1) := by decide +kernel
theorem dX6_init_38 : decode cX6_init 38 = .ok (.istore_n 1, 1) := by decide +kernel
theorem dX6_init_39 : decode cX6_init 39 = .ok (.iload_n 1, 1) := by decide +kernel
theorem dX6_init_40 : decode cX6_init 40 = .ok (.bipush 16, 2) := by decide +kernel
theorem dX6_init_42 : decode cX6_init 42 = .ok (.if_icmp .ge 22, 3) := by decide +kernel
theorem dX6_init_45 : decode cX6_init 45 = .ok (.aload_n 0, 1) := by decide +kernel
theorem dX6_init_46 : decode cX6_init 46 = .ok (.getfield 11, 3) := by decide +kernel
theorem dX6_init_49 : decode cX6_init 49 = .ok (.iload_n 1, 1) := by decide +kernel
theorem dX6_init_50 : decode cX6_init 50 = .ok (.new 9, 3) := by decide +kernel
theorem dX6_init_53 : decode cX6_init 53 = .ok (.dup, 1) := by decide +kernel
theorem dX6_init_54 : decode cX6_init 54 = .ok (.invokespecial 36, 3) := by decide +kernel
theorem dX6_init_57 : decode cX6_init 57 = .ok (.aastore, 1) := by decide +kernel
theorem dX6_init_58 : decode cX6_init 58 = .ok (.iinc 1 1, 3) := by decide +kernel
theorem dX6_init_61 : decode cX6_init 61 = .ok (.goto (-22), 3) := by decide +kernel
theorem dX6_init_64 : decode cX6_init 64 = .ok (.return_, 1) := by decide +kernel
theorem dX6_rule_0 : decode cX6_rule 0 = .ok (.iload_n 1, 1) := by decide +kernel
theorem dX6_rule_1 : decode cX6_rule 1 = .ok (.ifCond .lt 18, 3) := by decide +kernel
theorem dX6_rule_4 : decode cX6_rule 4 = .ok (.iload_n 1, 1) := by decide +kernel
theorem dX6_rule_5 : decode cX6_rule 5 = .ok (.bipush 12, 2) := by decide +kernel
theorem dX6_rule_7 : decode cX6_rule 7 = .ok (.if_icmp .ge 12, 3) := by decide +kernel
theorem dX6_rule_10 : decode cX6_rule 10 = .ok (.aload_n 0, 1) := by decide +kernel
theorem dX6_rule_11 : decode cX6_rule 11 = .ok (.getfield 33, 3) := by decide +kernel
theorem dX6_rule_14 : decode cX6_rule 14 = .ok (.iload_n 1, 1) := by decide +kernel
theorem dX6_rule_15 : decode cX6_rule 15 = .ok (.iaload, 1) := by decide +kernel
theorem dX6_rule_16 : decode cX6_rule 16 = .ok (.goto 4, 3) := by decide +kernel
theorem dX6_rule_19 : decode cX6_rule 19 = .ok (.iconst 0, 1) := by decide +kernel
theorem dX6_rule_20 : decode cX6_rule 20 = .ok (.ireturn, 1) := by decide +kernel
theorem dX6_daysBegun_0 : decode cX6_daysBegun 0 = .ok (.aload_n 0, 1) := by decide +kernel
theorem dX6_daysBegun_1 : decode cX6_daysBegun 1 = .ok (.getfield 37, 3) := by decide +kernel
theorem dX6_daysBegun_4 : decode cX6_daysBegun 4 = .ok (.iconst 1, 1) := by decide +kernel
theorem dX6_daysBegun_5 : decode cX6_daysBegun 5 = .ok (.iadd, 1) := by decide +kernel
theorem dX6_daysBegun_6 : decode cX6_daysBegun 6 = .ok (.bipush 56, 2) := by decide +kernel
theorem dX6_daysBegun_8 : decode cX6_daysBegun 8 = .ok (.invokestatic 41, 3) := by decide +kernel
theorem dX6_daysBegun_11 : decode cX6_daysBegun 11 = .ok (.ireturn, 1) := by decide +kernel
theorem dX6_lastWholeWeek_0 : decode cX6_lastWholeWeek 0 = .ok (.aload_n 0, 1) := by decide +kernel
theorem dX6_lastWholeWeek_1 : decode cX6_lastWholeWeek 1 = .ok (.getfield 37, 3) := by decide +kernel
theorem dX6_lastWholeWeek_4 : decode cX6_lastWholeWeek 4 = .ok (.bipush 7, 2) := by decide +kernel
theorem dX6_lastWholeWeek_6 : decode cX6_lastWholeWeek 6 = .ok (.idiv, 1) := by decide +kernel
theorem dX6_lastWholeWeek_7 : decode cX6_lastWholeWeek 7 = .ok (.iconst 1, 1) := by decide +kernel
theorem dX6_lastWholeWeek_8 : decode cX6_lastWholeWeek 8 = .ok (.isub, 1) := by decide +kernel
theorem dX6_lastWholeWeek_9 : decode cX6_lastWholeWeek 9 = .ok (.ireturn, 1) := by decide +kernel
theorem dX6_numberKnown_0 : decode cX6_numberKnown 0 = .ok (.iload_n 1, 1) := by decide +kernel
theorem dX6_numberKnown_1 : decode cX6_numberKnown 1 = .ok (.invokestatic 47, 3) := by decide +kernel
theorem dX6_numberKnown_4 : decode cX6_numberKnown 4 = .ok (.ifCond .eq 10, 3) := by decide +kernel
theorem dX6_numberKnown_7 : decode cX6_numberKnown 7 = .ok (.iload_n 2, 1) := by decide +kernel
theorem dX6_numberKnown_8 : decode cX6_numberKnown 8 = .ok (.invokestatic 51, 3) := by decide +kernel
theorem dX6_numberKnown_11 : decode cX6_numberKnown 11 = .ok (.ifCond .ne 5, 3) := by decide +kernel
theorem dX6_numberKnown_14 : decode cX6_numberKnown 14 = .ok (.iconst (-1), 1) := by decide +kernel
theorem dX6_numberKnown_15 : decode cX6_numberKnown 15 = .ok (.ireturn, 1) := by decide +kernel
theorem dX6_numberKnown_16 : decode cX6_numberKnown 16 = .ok (.aload_n 0, 1) := by decide +kernel
theorem dX6_numberKnown_17 : decode cX6_numberKnown 17 = .ok (.getfield 11, 3) := by decide +kernel
theorem dX6_numberKnown_20 : decode cX6_numberKnown 20 = .ok (.iload_n 1, 1) := by decide +kernel
theorem dX6_numberKnown_21 : decode cX6_numberKnown 21 = .ok (.aaload, 1) := by decide +kernel
theorem dX6_numberKnown_22 : decode cX6_numberKnown 22 = .ok (.astore 4, 2) := by decide +kernel
theorem dX6_numberKnown_24 : decode cX6_numberKnown 24 = .ok (.aload_n 0, 1) := by decide +kernel
theorem dX6_numberKnown_25 : decode cX6_numberKnown 25 = .ok (.getfield 20, 3) := by decide +kernel
theorem dX6_numberKnown_28 : decode cX6_numberKnown 28 = .ok (.aload 4, 2) := by decide +kernel
theorem dX6_numberKnown_30 : decode cX6_numberKnown 30 = .ok (.getfield 54, 3) := by decide +kernel
theorem dX6_numberKnown_33 : decode cX6_numberKnown 33 = .ok (.iload_n 2, 1) := by decide +kernel
theorem dX6_numberKnown_34 : decode cX6_numberKnown 34 = .ok (.iaload, 1) := by decide +kernel
theorem dX6_numberKnown_35 : decode cX6_numberKnown 35 = .ok (.iload_n 3, 1) := by decide +kernel
theorem dX6_numberKnown_36 : decode cX6_numberKnown 36 = .ok (.invokevirtual 57, 3) := by decide +kernel
theorem dX6_numberKnown_39 : decode cX6_numberKnown 39 = .ok (.istore 5, 2) := by decide +kernel
theorem dX6_numberKnown_41 : decode cX6_numberKnown 41 = .ok (.iload 5, 2) := by decide +kernel
theorem dX6_numberKnown_43 : decode cX6_numberKnown 43 = .ok (.ifCond .lt 21, 3) := by decide +kernel
theorem dX6_numberKnown_46 : decode cX6_numberKnown 46 = .ok (.iload 5, 2) := by decide +kernel
theorem dX6_numberKnown_48 : decode cX6_numberKnown 48 = .ok (.bipush 100, 2) := by decide +kernel
theorem dX6_numberKnown_50 : decode cX6_numberKnown 50 = .ok (.if_icmp .ge 14, 3) := by decide +kernel
theorem dX6_numberKnown_53 : decode cX6_numberKnown 53 = .ok (.aload_n 0, 1) := by decide +kernel
theorem dX6_numberKnown_54 : decode cX6_numberKnown 54 = .ok (.getfield 20, 3) := by decide +kernel
theorem dX6_numberKnown_57 : decode cX6_numberKnown 57 = .ok (.getfield 60, 3) := by decide +kernel
theorem dX6_numberKnown_60 : decode cX6_numberKnown 60 = .ok (.iload 5, 2) := by decide +kernel
theorem dX6_numberKnown_62 : decode cX6_numberKnown 62 = .ok (.iaload, 1) := by decide +kernel
theorem dX6_numberKnown_63 : decode cX6_numberKnown 63 = .ok (.ireturn, 1) := by decide +kernel
theorem dX6_numberKnown_64 : decode cX6_numberKnown 64 = .ok (.iload_n 2, 1) := by decide +kernel
theorem dX6_numberKnown_65 : decode cX6_numberKnown 65 = .ok (.iload_n 3, 1) := by decide +kernel
theorem dX6_numberKnown_66 : decode cX6_numberKnown 66 = .ok (.if_icmp .gt 12, 3) := by decide +kernel
theorem dX6_numberKnown_69 : decode cX6_numberKnown 69 = .ok (.aload 4, 2) := by decide +kernel
theorem dX6_numberKnown_71 : decode cX6_numberKnown 71 = .ok (.iload_n 2, 1) := by decide +kernel
theorem dX6_numberKnown_72 : decode cX6_numberKnown 72 = .ok (.invokevirtual 63, 3) := by decide +kernel
theorem dX6_numberKnown_75 : decode cX6_numberKnown 75 = .ok (.goto 4, 3) := by decide +kernel
theorem dX6_numberKnown_78 : decode cX6_numberKnown 78 = .ok (.iconst (-1), 1) := by decide +kernel
theorem dX6_numberKnown_79 : decode cX6_numberKnown 79 = .ok (.ireturn, 1) := by decide +kernel
theorem dX7_init_0 : decode cX7_init 0 = .ok (.aload_n 0, 1) := by decide +kernel
theorem dX7_init_1 : decode cX7_init 1 = .ok (.invokespecial 3, 3) := by decide +kernel
theorem dX7_init_4 : decode cX7_init 4 = .ok (.aload_n 0, 1) := by decide +kernel
theorem dX7_init_5 : decode cX7_init 5 = .ok (.iconst (-1), 1) := by decide +kernel
theorem dX7_init_6 : decode cX7_init 6 = .ok (.putfield 9, 3) := by decide +kernel
theorem dX7_init_9 : decode cX7_init 9 = .ok (.aload_n 0, 1) := by decide +kernel
theorem dX7_init_10 : decode cX7_init 10 = .ok (.bipush 56, 2) := by decide +kernel
theorem dX7_init_12 : decode cX7_init 12 = .ok (.newarray .int, 2) := by decide +kernel
theorem dX7_init_14 : decode cX7_init 14 = .ok (.putfield 15, 3) := by decide +kernel
theorem dX7_init_17 : decode cX7_init 17 = .ok (.aload_n 0, 1) := by decide +kernel
theorem dX7_init_18 : decode cX7_init 18 = .ok (.bipush 56, 2) := by decide +kernel
theorem dX7_init_20 : decode cX7_init 20 = .ok (.newarray .int, 2) := by decide +kernel
theorem dX7_init_22 : decode cX7_init 22 = .ok (.putfield 19, 3) := by decide +kernel
theorem dX7_init_25 : decode cX7_init 25 = .ok (.aload_n 0, 1) := by decide +kernel
theorem dX7_init_26 : decode cX7_init 26 = .ok (.bipush 56, 2) := by decide +kernel
theorem dX7_init_28 : decode cX7_init 28 = .ok (.newarray .int, 2) := by decide +kernel
theorem dX7_init_30 : decode cX7_init 30 = .ok (.putfield 22, 3) := by decide +kernel
theorem dX7_init_33 : decode cX7_init 33 = .ok (.aload_n 0, 1) := by decide +kernel
theorem dX7_init_34 : decode cX7_init 34 = .ok (.getfield 15, 3) := by decide +kernel
theorem dX7_init_37 : decode cX7_init 37 = .ok (.iconst (-1), 1) := by decide +kernel
theorem dX7_init_38 : decode cX7_init 38 = .ok (.invokestatic 25, 3) := by decide +kernel
theorem dX7_init_41 : decode cX7_init 41 = .ok (.aload_n 0, 1) := by decide +kernel
theorem dX7_init_42 : decode cX7_init 42 = .ok (.getfield 19, 3) := by decide +kernel
theorem dX7_init_45 : decode cX7_init 45 = .ok (.iconst (-1), 1) := by decide +kernel
theorem dX7_init_46 : decode cX7_init 46 = .ok (.invokestatic 25, 3) := by decide +kernel
theorem dX7_init_49 : decode cX7_init 49 = .ok (.aload_n 0, 1) := by decide +kernel
theorem dX7_init_50 : decode cX7_init 50 = .ok (.getfield 22, 3) := by decide +kernel
theorem dX7_init_53 : decode cX7_init 53 = .ok (.iconst (-1), 1) := by decide +kernel
theorem dX7_init_54 : decode cX7_init 54 = .ok (.invokestatic 25, 3) := by decide +kernel
theorem dX7_init_57 : decode cX7_init 57 = .ok (.return_, 1) := by decide +kernel
theorem dX7_bring_0 : decode cX7_bring 0 = .ok (.aload_n 0, 1) := by decide +kernel
theorem dX7_bring_1 : decode cX7_bring 1 = .ok (.iload_n 1, 1) := by decide +kernel
theorem dX7_bring_2 : decode cX7_bring 2 = .ok (.putfield 9, 3) := by decide +kernel
theorem dX7_bring_5 : decode cX7_bring 5 = .ok (.aload_n 0, 1) := by decide +kernel
theorem dX7_bring_6 : decode cX7_bring 6 = .ok (.iload_n 2, 1) := by decide +kernel
theorem dX7_bring_7 : decode cX7_bring 7 = .ok (.putfield 31, 3) := by decide +kernel
theorem dX7_bring_10 : decode cX7_bring 10 = .ok (.aload_n 0, 1) := by decide +kernel
theorem dX7_bring_11 : decode cX7_bring 11 = .ok (.iload_n 3, 1) := by decide +kernel
theorem dX7_bring_12 : decode cX7_bring 12 = .ok (.putfield 34, 3) := by decide +kernel
theorem dX7_bring_15 : decode cX7_bring 15 = .ok (.aload_n 0, 1) := by decide +kernel
theorem dX7_bring_16 : decode cX7_bring 16 = .ok (.iload 4, 2) := by decide +kernel
theorem dX7_bring_18 : decode cX7_bring 18 = .ok (.putfield 37, 3) := by decide +kernel
theorem dX7_bring_21 : decode cX7_bring 21 = .ok (.aload_n 0, 1) := by decide +kernel
theorem dX7_bring_22 : decode cX7_bring 22 = .ok (.iload 5, 2) := by decide +kernel
theorem dX7_bring_24 : decode cX7_bring 24 = .ok (.putfield 40, 3) := by decide +kernel
theorem dX7_bring_27 : decode cX7_bring 27 = .ok (.return_, 1) := by decide +kernel
theorem dX7_clear_0 : decode cX7_clear 0 = .ok (.aload_n 0, 1) := by decide +kernel
theorem dX7_clear_1 : decode cX7_clear 1 = .ok (.iconst (-1), 1) := by decide +kernel
theorem dX7_clear_2 : decode cX7_clear 2 = .ok (.putfield 9, 3) := by decide +kernel
theorem dX7_clear_5 : decode cX7_clear 5 = .ok (.aload_n 0, 1) := by decide +kernel
theorem dX7_clear_6 : decode cX7_clear 6 = .ok (.iconst 0, 1) := by decide +kernel
theorem dX7_clear_7 : decode cX7_clear 7 = .ok (.putfield 43, 3) := by decide +kernel
theorem dX7_clear_10 : decode cX7_clear 10 = .ok (.aload_n 0, 1) := by decide +kernel
theorem dX7_clear_11 : decode cX7_clear 11 = .ok (.getfield 15, 3) := by decide +kernel
theorem dX7_clear_14 : decode cX7_clear 14 = .ok (.iconst (-1), 1) := by decide +kernel
theorem dX7_clear_15 : decode cX7_clear 15 = .ok (.invokestatic 25, 3) := by decide +kernel
theorem dX7_clear_18 : decode cX7_clear 18 = .ok (.aload_n 0, 1) := by decide +kernel
theorem dX7_clear_19 : decode cX7_clear 19 = .ok (.getfield 19, 3) := by decide +kernel
theorem dX7_clear_22 : decode cX7_clear 22 = .ok (.iconst (-1), 1) := by decide +kernel
theorem dX7_clear_23 : decode cX7_clear 23 = .ok (.invokestatic 25, 3) := by decide +kernel
theorem dX7_clear_26 : decode cX7_clear 26 = .ok (.aload_n 0, 1) := by decide +kernel
theorem dX7_clear_27 : decode cX7_clear 27 = .ok (.getfield 22, 3) := by decide +kernel
theorem dX7_clear_30 : decode cX7_clear 30 = .ok (.iconst (-1), 1) := by decide +kernel
theorem dX7_clear_31 : decode cX7_clear 31 = .ok (.invokestatic 25, 3) := by decide +kernel
theorem dX7_clear_34 : decode cX7_clear 34 = .ok (.return_, 1) := by decide +kernel
theorem dX7_isDailyGauge_0 : decode cX7_isDailyGauge 0 = .ok (.aload_n 0, 1) := by decide +kernel
theorem dX7_isDailyGauge_1 : decode cX7_isDailyGauge 1 = .ok (.getfield 9, 3) := by decide +kernel
theorem dX7_isDailyGauge_4 : decode cX7_isDailyGauge 4 = .ok (.iconst (-1), 1) := by decide +kernel
theorem dX7_isDailyGauge_5 : decode cX7_isDailyGauge 5 = .ok (.if_icmp .eq 23, 3) := by decide +kernel
theorem dX7_isDailyGauge_8 : decode cX7_isDailyGauge 8 = .ok (.aload_n 0, 1) := by decide +kernel
theorem dX7_isDailyGauge_9 : decode cX7_isDailyGauge 9 = .ok (.getfield 9, 3) := by decide +kernel
theorem dX7_isDailyGauge_12 : decode cX7_isDailyGauge 12 = .ok (.iconst 5, 1) := by decide +kernel
theorem dX7_isDailyGauge_13 : decode cX7_isDailyGauge 13 = .ok (.if_icmp .eq 15, 3) := by decide +kernel
theorem dX7_isDailyGauge_16 : decode cX7_isDailyGauge 16 = .ok (.aload_n 0, 1) := by decide +kernel
theorem dX7_isDailyGauge_17 : decode cX7_isDailyGauge 17 = .ok (.getfield 9, 3) := by decide +kernel
theorem dX7_isDailyGauge_20 : decode cX7_isDailyGauge 20 = .ok (.iconst 3, 1) := by decide +kernel
theorem dX7_isDailyGauge_21 : decode cX7_isDailyGauge 21 = .ok (.if_icmp .eq 7, 3) := by decide +kernel
theorem dX7_isDailyGauge_24 : decode cX7_isDailyGauge 24 = .ok (.iconst 1, 1) := by decide +kernel
theorem dX7_isDailyGauge_25 : decode cX7_isDailyGauge 25 = .ok (.goto 4, 3) := by decide +kernel
theorem dX7_isDailyGauge_28 : decode cX7_isDailyGauge 28 = .ok (.iconst 0, 1) := by decide +kernel
theorem dX7_isDailyGauge_29 : decode cX7_isDailyGauge 29 = .ok (.ireturn, 1) := by decide +kernel
theorem dX7_meltAway_0 : decode cX7_meltAway 0 = .ok (.iload_n 1, 1) := by decide +kernel
theorem dX7_meltAway_1 : decode cX7_meltAway 1 = .ok (.invokestatic 46, 3) := by decide +kernel
theorem dX7_meltAway_4 : decode cX7_meltAway 4 = .ok (.ifCond .ne 5, 3) := by decide +kernel
theorem dX7_meltAway_7 : decode cX7_meltAway 7 = .ok (.iconst (-1), 1) := by decide +kernel
theorem dX7_meltAway_8 : decode cX7_meltAway 8 = .ok (.ireturn, 1) := by decide +kernel
theorem dX7_meltAway_9 : decode cX7_meltAway 9 = .ok (.iconst 0, 1) := by decide +kernel
theorem dX7_meltAway_10 : decode cX7_meltAway 10 = .ok (.aload_n 0, 1) := by decide +kernel
theorem dX7_meltAway_11 : decode cX7_meltAway 11 = .ok (.getfield 19, 3) := by decide +kernel
theorem dX7_meltAway_14 : decode cX7_meltAway 14 = .ok (.iload_n 1, 1) := by decide +kernel
theorem dX7_meltAway_15 : decode cX7_meltAway 15 = .ok (.iaload, 1) := by decide +kernel
theorem dX7_meltAway_16 : decode cX7_meltAway 16 = .ok (.invokestatic 50, 3) := by decide +kernel
theorem dX7_meltAway_19 : decode cX7_meltAway 19 = .ok (.iload_n 2, 1) := by decide +kernel
theorem dX7_meltAway_20 : decode cX7_meltAway 20 = .ok (.iadd, 1) := by decide +kernel
theorem dX7_meltAway_21 : decode cX7_meltAway 21 = .ok (.istore_n 3, 1) := by decide +kernel
theorem dX7_meltAway_22 : decode cX7_meltAway 22 = .ok (.iload_n 2, 1) := by decide +kernel
theorem dX7_meltAway_23 : decode cX7_meltAway 23 = .ok (.aload_n 0, 1) := by decide +kernel
theorem dX7_meltAway_24 : decode cX7_meltAway 24 = .ok (.getfield 43, 3) := by decide +kernel
theorem dX7_meltAway_27 : decode cX7_meltAway 27 = .ok (.if_icmp .gt 10, 3) := by decide +kernel
theorem dX7_meltAway_30 : decode cX7_meltAway 30 = .ok (.iload_n 3, 1) := by decide +kernel
theorem dX7_meltAway_31 : decode cX7_meltAway 31 = .ok (.sipush 5000, 3) := by decide +kernel
theorem dX7_meltAway_34 : decode cX7_meltAway 34 = .ok (.if_icmp .le 5, 3) := by decide +kernel
theorem dX7_meltAway_37 : decode cX7_meltAway 37 = .ok (.iconst (-1), 1) := by decide +kernel
theorem dX7_meltAway_38 : decode cX7_meltAway 38 = .ok (.ireturn, 1) := by decide +kernel
theorem dX7_meltAway_39 : decode cX7_meltAway 39 = .ok (.aload_n 0, 1) := by decide +kernel
theorem dX7_meltAway_40 : decode cX7_meltAway 40 = .ok (.dup, 1) := by decide +kernel
theorem dX7_meltAway_41 : decode cX7_meltAway 41 = .ok (.getfield 43, 3) := by decide +kernel
theorem dX7_meltAway_44 : decode cX7_meltAway 44 = .ok (.iload_n 2, 1) := by decide +kernel
theorem dX7_meltAway_45 : decode cX7_meltAway 45 = .ok (.isub, 1) := by decide +kernel
theorem dX7_meltAway_46 : decode cX7_meltAway 46 = .ok (.putfield 43, 3) := by decide +kernel
theorem dX7_meltAway_49 : decode cX7_meltAway 49 = .ok (.aload_n 0, 1) := by decide +kernel
theorem dX7_meltAway_50 : decode cX7_meltAway 50 = .ok (.getfield 19, 3) := by decide +kernel
theorem dX7_meltAway_53 : decode cX7_meltAway 53 = .ok (.iload_n 1, 1) := by decide +kernel
theorem dX7_meltAway_54 : decode cX7_meltAway 54 = .ok (.iload_n 3, 1) := by decide +kernel
theorem dX7_meltAway_55 : decode cX7_meltAway 55 = .ok (.iastore, 1) := by decide +kernel
theorem dX7_meltAway_56 : decode cX7_meltAway 56 = .ok (.aload_n 0, 1) := by decide +kernel
theorem dX7_meltAway_57 : decode cX7_meltAway 57 = .ok (.getfield 43, 3) := by decide +kernel
theorem dX7_meltAway_60 : decode cX7_meltAway 60 = .ok (.ireturn, 1) := by decide +kernel
theorem dX7_numberRead_0 : decode cX7_numberRead 0 = .ok (.iload_n 1, 1) := by decide +kernel
theorem dX7_numberRead_1 : decode cX7_numberRead 1 = .ok (.invokestatic 46, 3) := by decide +kernel
theorem dX7_numberRead_4 : decode cX7_numberRead 4 = .ok (.ifCond .ne 5, 3) := by decide +kernel
theorem dX7_numberRead_7 : decode cX7_numberRead 7 = .ok (.iconst (-1), 1) := by decide +kernel
theorem dX7_numberRead_8 : decode cX7_numberRead 8 = .ok (.ireturn, 1) := by decide +kernel
theorem dX7_numberRead_9 : decode cX7_numberRead 9 = .ok (.aload_n 0, 1) := by decide +kernel
theorem dX7_numberRead_10 : decode cX7_numberRead 10 = .ok (.getfield 9, 3) := by decide +kernel
theorem dX7_numberRead_13 : decode cX7_numberRead 13 = .ok (.tableswitch 85 0 4 #[35, 42, 48, 85, 79], 35) := by decide +kernel
theorem dX7_numberRead_48 : decode cX7_numberRead 48 = .ok (.aload_n 0, 1) := by decide +kernel
end
section
theorem dX7_numberRead_49 : decode cX7_numberRead 49 = .ok (.getfield 15, 3) := by decide +kernel
theorem dX7_numberRead_52 : decode cX7_numberRead 52 = .ok (.iload_n 1, 1) := by decide +kernel
theorem dX7_numberRead_53 : decode cX7_numberRead 53 = .ok (.iaload, 1) := by decide +kernel
theorem dX7_numberRead_54 : decode cX7_numberRead 54 = .ok (.ireturn, 1) := by decide +kernel
theorem dX7_numberRead_55 : decode cX7_numberRead 55 = .ok (.aload_n 0, 1) := by decide +kernel
theorem dX7_numberRead_56 : decode cX7_numberRead 56 = .ok (.iload_n 1, 1) := by decide +kernel
theorem dX7_numberRead_57 : decode cX7_numberRead 57 = .ok (.invokevirtual 56, 3) := by decide +kernel
theorem dX7_numberRead_60 : decode cX7_numberRead 60 = .ok (.ireturn, 1) := by decide +kernel
theorem dX7_numberRead_61 : decode cX7_numberRead 61 = .ok (.aload_n 0, 1) := by decide +kernel
theorem dX7_numberRead_62 : decode cX7_numberRead 62 = .ok (.getfield 19, 3) := by decide +kernel
theorem dX7_numberRead_65 : decode cX7_numberRead 65 = .ok (.iload_n 1, 1) := by decide +kernel
theorem dX7_numberRead_66 : decode cX7_numberRead 66 = .ok (.iaload, 1) := by decide +kernel
theorem dX7_numberRead_67 : decode cX7_numberRead 67 = .ok (.iconst (-1), 1) := by decide +kernel
theorem dX7_numberRead_68 : decode cX7_numberRead 68 = .ok (.if_icmp .ne 17, 3) := by decide +kernel
theorem dX7_numberRead_71 : decode cX7_numberRead 71 = .ok (.aload_n 0, 1) := by decide +kernel
theorem dX7_numberRead_72 : decode cX7_numberRead 72 = .ok (.getfield 15, 3) := by decide +kernel
theorem dX7_numberRead_75 : decode cX7_numberRead 75 = .ok (.iload_n 1, 1) := by decide +kernel
theorem dX7_numberRead_76 : decode cX7_numberRead 76 = .ok (.iaload, 1) := by decide +kernel
theorem dX7_numberRead_77 : decode cX7_numberRead 77 = .ok (.iconst (-1), 1) := by decide +kernel
theorem dX7_numberRead_78 : decode cX7_numberRead 78 = .ok (.if_icmp .eq 7, 3) := by decide +kernel
theorem dX7_numberRead_81 : decode cX7_numberRead 81 = .ok (.iconst 0, 1) := by decide +kernel
theorem dX7_numberRead_82 : decode cX7_numberRead 82 = .ok (.goto 9, 3) := by decide +kernel
theorem dX7_numberRead_85 : decode cX7_numberRead 85 = .ok (.aload_n 0, 1) := by decide +kernel
theorem dX7_numberRead_86 : decode cX7_numberRead 86 = .ok (.getfield 19, 3) := by decide +kernel
theorem dX7_numberRead_89 : decode cX7_numberRead 89 = .ok (.iload_n 1, 1) := by decide +kernel
theorem dX7_numberRead_90 : decode cX7_numberRead 90 = .ok (.iaload, 1) := by decide +kernel
theorem dX7_numberRead_91 : decode cX7_numberRead 91 = .ok (.ireturn, 1) := by decide +kernel
theorem dX7_numberRead_92 : decode cX7_numberRead 92 = .ok (.aload_n 0, 1) := by decide +kernel
theorem dX7_numberRead_93 : decode cX7_numberRead 93 = .ok (.iload_n 1, 1) := by decide +kernel
theorem dX7_numberRead_94 : decode cX7_numberRead 94 = .ok (.invokevirtual 60, 3) := by decide +kernel
theorem dX7_numberRead_97 : decode cX7_numberRead 97 = .ok (.ireturn, 1) := by decide +kernel
theorem dX7_numberRead_98 : decode cX7_numberRead 98 = .ok (.iconst (-1), 1) := by decide +kernel
theorem dX7_numberRead_99 : decode cX7_numberRead 99 = .ok (.ireturn, 1) := by decide +kernel
theorem dX7_numberTipped_0 : decode cX7_numberTipped 0 = .ok (.iload_n 1, 1) := by decide +kernel
theorem dX7_numberTipped_1 : decode cX7_numberTipped 1 = .ok (.invokestatic 46, 3) := by decide +kernel
theorem dX7_numberTipped_4 : decode cX7_numberTipped 4 = .ok (.ifCond .eq 13, 3) := by decide +kernel
theorem dX7_numberTipped_7 : decode cX7_numberTipped 7 = .ok (.aload_n 0, 1) := by decide +kernel
theorem dX7_numberTipped_8 : decode cX7_numberTipped 8 = .ok (.getfield 15, 3) := by decide +kernel
theorem dX7_numberTipped_11 : decode cX7_numberTipped 11 = .ok (.iload_n 1, 1) := by decide +kernel
theorem dX7_numberTipped_12 : decode cX7_numberTipped 12 = .ok (.iaload, 1) := by decide +kernel
theorem dX7_numberTipped_13 : decode cX7_numberTipped 13 = .ok (.iconst (-1), 1) := by decide +kernel
theorem dX7_numberTipped_14 : decode cX7_numberTipped 14 = .ok (.if_icmp .ne 5, 3) := by decide +kernel
theorem dX7_numberTipped_17 : decode cX7_numberTipped 17 = .ok (.iconst (-1), 1) := by decide +kernel
theorem dX7_numberTipped_18 : decode cX7_numberTipped 18 = .ok (.ireturn, 1) := by decide +kernel
theorem dX7_numberTipped_19 : decode cX7_numberTipped 19 = .ok (.aload_n 0, 1) := by decide +kernel
theorem dX7_numberTipped_20 : decode cX7_numberTipped 20 = .ok (.getfield 15, 3) := by decide +kernel
theorem dX7_numberTipped_23 : decode cX7_numberTipped 23 = .ok (.iload_n 1, 1) := by decide +kernel
theorem dX7_numberTipped_24 : decode cX7_numberTipped 24 = .ok (.iaload, 1) := by decide +kernel
theorem dX7_numberTipped_25 : decode cX7_numberTipped 25 = .ok (.aload_n 0, 1) := by decide +kernel
theorem dX7_numberTipped_26 : decode cX7_numberTipped 26 = .ok (.getfield 37, 3) := by decide +kernel
theorem dX7_numberTipped_29 : decode cX7_numberTipped 29 = .ok (.imul, 1) := by decide +kernel
theorem dX7_numberTipped_30 : decode cX7_numberTipped 30 = .ok (.istore_n 2, 1) := by decide +kernel
theorem dX7_numberTipped_31 : decode cX7_numberTipped 31 = .ok (.iload_n 1, 1) := by decide +kernel
theorem dX7_numberTipped_32 : decode cX7_numberTipped 32 = .ok (.ifCond .le 51, 3) := by decide +kernel
theorem dX7_numberTipped_35 : decode cX7_numberTipped 35 = .ok (.aload_n 0, 1) := by decide +kernel
theorem dX7_numberTipped_36 : decode cX7_numberTipped 36 = .ok (.getfield 19, 3) := by decide +kernel
theorem dX7_numberTipped_39 : decode cX7_numberTipped 39 = .ok (.iload_n 1, 1) := by decide +kernel
theorem dX7_numberTipped_40 : decode cX7_numberTipped 40 = .ok (.iaload, 1) := by decide +kernel
theorem dX7_numberTipped_41 : decode cX7_numberTipped 41 = .ok (.iconst (-1), 1) := by decide +kernel
theorem dX7_numberTipped_42 : decode cX7_numberTipped 42 = .ok (.if_icmp .eq 41, 3) := by decide +kernel
theorem dX7_numberTipped_45 : decode cX7_numberTipped 45 = .ok (.aload_n 0, 1) := by decide +kernel
theorem dX7_numberTipped_46 : decode cX7_numberTipped 46 = .ok (.getfield 19, 3) := by decide +kernel
theorem dX7_numberTipped_49 : decode cX7_numberTipped 49 = .ok (.iload_n 1, 1) := by decide +kernel
theorem dX7_numberTipped_50 : decode cX7_numberTipped 50 = .ok (.iconst 1, 1) := by decide +kernel
theorem dX7_numberTipped_51 : decode cX7_numberTipped 51 = .ok (.isub, 1) := by decide +kernel
theorem dX7_numberTipped_52 : decode cX7_numberTipped 52 = .ok (.iaload, 1) := by decide +kernel
theorem dX7_numberTipped_53 : decode cX7_numberTipped 53 = .ok (.iconst (-1), 1) := by decide +kernel
theorem dX7_numberTipped_54 : decode cX7_numberTipped 54 = .ok (.if_icmp .eq 29, 3) := by decide +kernel
theorem dX7_numberTipped_57 : decode cX7_numberTipped 57 = .ok (.iload_n 2, 1) := by decide +kernel
theorem dX7_numberTipped_58 : decode cX7_numberTipped 58 = .ok (.aload_n 0, 1) := by decide +kernel
theorem dX7_numberTipped_59 : decode cX7_numberTipped 59 = .ok (.getfield 37, 3) := by decide +kernel
theorem dX7_numberTipped_62 : decode cX7_numberTipped 62 = .ok (.aload_n 0, 1) := by decide +kernel
theorem dX7_numberTipped_63 : decode cX7_numberTipped 63 = .ok (.getfield 19, 3) := by decide +kernel
theorem dX7_numberTipped_66 : decode cX7_numberTipped 66 = .ok (.iload_n 1, 1) := by decide +kernel
theorem dX7_numberTipped_67 : decode cX7_numberTipped 67 = .ok (.iaload, 1) := by decide +kernel
theorem dX7_numberTipped_68 : decode cX7_numberTipped 68 = .ok (.aload_n 0, 1) := by decide +kernel
theorem dX7_numberTipped_69 : decode cX7_numberTipped 69 = .ok (.getfield 19, 3) := by decide +kernel
theorem dX7_numberTipped_72 : decode cX7_numberTipped 72 = .ok (.iload_n 1, 1) := by decide +kernel
theorem dX7_numberTipped_73 : decode cX7_numberTipped 73 = .ok (.iconst 1, 1) := by decide +kernel
theorem dX7_numberTipped_74 : decode cX7_numberTipped 74 = .ok (.isub, 1) := by decide +kernel
theorem dX7_numberTipped_75 : decode cX7_numberTipped 75 = .ok (.iaload, 1) := by decide +kernel
theorem dX7_numberTipped_76 : decode cX7_numberTipped 76 = .ok (.isub, 1) := by decide +kernel
theorem dX7_numberTipped_77 : decode cX7_numberTipped 77 = .ok (.imul, 1) := by decide +kernel
theorem dX7_numberTipped_78 : decode cX7_numberTipped 78 = .ok (.bipush 8, 2) := by decide +kernel
theorem dX7_numberTipped_80 : decode cX7_numberTipped 80 = .ok (.idiv, 1) := by decide +kernel
theorem dX7_numberTipped_81 : decode cX7_numberTipped 81 = .ok (.iadd, 1) := by decide +kernel
theorem dX7_numberTipped_82 : decode cX7_numberTipped 82 = .ok (.istore_n 2, 1) := by decide +kernel
theorem dX7_numberTipped_83 : decode cX7_numberTipped 83 = .ok (.iconst 0, 1) := by decide +kernel
theorem dX7_numberTipped_84 : decode cX7_numberTipped 84 = .ok (.iload_n 2, 1) := by decide +kernel
theorem dX7_numberTipped_85 : decode cX7_numberTipped 85 = .ok (.invokestatic 50, 3) := by decide +kernel
theorem dX7_numberTipped_88 : decode cX7_numberTipped 88 = .ok (.ireturn, 1) := by decide +kernel
theorem dX7_numberTwinned_0 : decode cX7_numberTwinned 0 = .ok (.iload_n 1, 1) := by decide +kernel
theorem dX7_numberTwinned_1 : decode cX7_numberTwinned 1 = .ok (.invokestatic 46, 3) := by decide +kernel
theorem dX7_numberTwinned_4 : decode cX7_numberTwinned 4 = .ok (.ifCond .eq 23, 3) := by decide +kernel
theorem dX7_numberTwinned_7 : decode cX7_numberTwinned 7 = .ok (.aload_n 0, 1) := by decide +kernel
theorem dX7_numberTwinned_8 : decode cX7_numberTwinned 8 = .ok (.getfield 15, 3) := by decide +kernel
theorem dX7_numberTwinned_11 : decode cX7_numberTwinned 11 = .ok (.iload_n 1, 1) := by decide +kernel
theorem dX7_numberTwinned_12 : decode cX7_numberTwinned 12 = .ok (.iaload, 1) := by decide +kernel
theorem dX7_numberTwinned_13 : decode cX7_numberTwinned 13 = .ok (.iconst (-1), 1) := by decide +kernel
theorem dX7_numberTwinned_14 : decode cX7_numberTwinned 14 = .ok (.if_icmp .eq 13, 3) := by decide +kernel
theorem dX7_numberTwinned_17 : decode cX7_numberTwinned 17 = .ok (.aload_n 0, 1) := by decide +kernel
theorem dX7_numberTwinned_18 : decode cX7_numberTwinned 18 = .ok (.getfield 19, 3) := by decide +kernel
theorem dX7_numberTwinned_21 : decode cX7_numberTwinned 21 = .ok (.iload_n 1, 1) := by decide +kernel
theorem dX7_numberTwinned_22 : decode cX7_numberTwinned 22 = .ok (.iaload, 1) := by decide +kernel
theorem dX7_numberTwinned_23 : decode cX7_numberTwinned 23 = .ok (.iconst (-1), 1) := by decide +kernel
theorem dX7_numberTwinned_24 : decode cX7_numberTwinned 24 = .ok (.if_icmp .ne 5, 3) := by decide +kernel
theorem dX7_numberTwinned_27 : decode cX7_numberTwinned 27 = .ok (.iconst (-1), 1) := by decide +kernel
theorem dX7_numberTwinned_28 : decode cX7_numberTwinned 28 = .ok (.ireturn, 1) := by decide +kernel
theorem dX7_numberTwinned_29 : decode cX7_numberTwinned 29 = .ok (.aload_n 0, 1) := by decide +kernel
theorem dX7_numberTwinned_30 : decode cX7_numberTwinned 30 = .ok (.getfield 15, 3) := by decide +kernel
theorem dX7_numberTwinned_33 : decode cX7_numberTwinned 33 = .ok (.iload_n 1, 1) := by decide +kernel
theorem dX7_numberTwinned_34 : decode cX7_numberTwinned 34 = .ok (.iaload, 1) := by decide +kernel
theorem dX7_numberTwinned_35 : decode cX7_numberTwinned 35 = .ok (.aload_n 0, 1) := by decide +kernel
theorem dX7_numberTwinned_36 : decode cX7_numberTwinned 36 = .ok (.getfield 19, 3) := by decide +kernel
theorem dX7_numberTwinned_39 : decode cX7_numberTwinned 39 = .ok (.iload_n 1, 1) := by decide +kernel
theorem dX7_numberTwinned_40 : decode cX7_numberTwinned 40 = .ok (.iaload, 1) := by decide +kernel
theorem dX7_numberTwinned_41 : decode cX7_numberTwinned 41 = .ok (.iadd, 1) := by decide +kernel
theorem dX7_numberTwinned_42 : decode cX7_numberTwinned 42 = .ok (.aload_n 0, 1) := by decide +kernel
theorem dX7_numberTwinned_43 : decode cX7_numberTwinned 43 = .ok (.getfield 37, 3) := by decide +kernel
theorem dX7_numberTwinned_46 : decode cX7_numberTwinned 46 = .ok (.imul, 1) := by decide +kernel
theorem dX7_numberTwinned_47 : decode cX7_numberTwinned 47 = .ok (.iconst 2, 1) := by decide +kernel
theorem dX7_numberTwinned_48 : decode cX7_numberTwinned 48 = .ok (.idiv, 1) := by decide +kernel
theorem dX7_numberTwinned_49 : decode cX7_numberTwinned 49 = .ok (.ireturn, 1) := by decide +kernel
theorem dX7_isUnlike_0 : decode cX7_isUnlike 0 = .ok (.iload_n 1, 1) := by decide +kernel
theorem dX7_isUnlike_1 : decode cX7_isUnlike 1 = .ok (.invokestatic 46, 3) := by decide +kernel
theorem dX7_isUnlike_4 : decode cX7_isUnlike 4 = .ok (.ifCond .eq 21, 3) := by decide +kernel
theorem dX7_isUnlike_7 : decode cX7_isUnlike 7 = .ok (.aload_n 0, 1) := by decide +kernel
theorem dX7_isUnlike_8 : decode cX7_isUnlike 8 = .ok (.getfield 9, 3) := by decide +kernel
theorem dX7_isUnlike_11 : decode cX7_isUnlike 11 = .ok (.iconst 4, 1) := by decide +kernel
theorem dX7_isUnlike_12 : decode cX7_isUnlike 12 = .ok (.if_icmp .ne 13, 3) := by decide +kernel
theorem dX7_isUnlike_15 : decode cX7_isUnlike 15 = .ok (.aload_n 0, 1) := by decide +kernel
theorem dX7_isUnlike_16 : decode cX7_isUnlike 16 = .ok (.getfield 22, 3) := by decide +kernel
theorem dX7_isUnlike_19 : decode cX7_isUnlike 19 = .ok (.iload_n 1, 1) := by decide +kernel
theorem dX7_isUnlike_20 : decode cX7_isUnlike 20 = .ok (.iaload, 1) := by decide +kernel
theorem dX7_isUnlike_21 : decode cX7_isUnlike 21 = .ok (.iconst (-1), 1) := by decide +kernel
theorem dX7_isUnlike_22 : decode cX7_isUnlike 22 = .ok (.if_icmp .eq 5, 3) := by decide +kernel
theorem dX7_isUnlike_25 : decode cX7_isUnlike 25 = .ok (.iconst 0, 1) := by decide +kernel
theorem dX7_isUnlike_26 : decode cX7_isUnlike 26 = .ok (.ireturn, 1) := by decide +kernel
theorem dX7_isUnlike_27 : decode cX7_isUnlike 27 = .ok (.aload_n 0, 1) := by decide +kernel
theorem dX7_isUnlike_28 : decode cX7_isUnlike 28 = .ok (.getfield 15, 3) := by decide +kernel
theorem dX7_isUnlike_31 : decode cX7_isUnlike 31 = .ok (.iload_n 1, 1) := by decide +kernel
theorem dX7_isUnlike_32 : decode cX7_isUnlike 32 = .ok (.iaload, 1) := by decide +kernel
theorem dX7_isUnlike_33 : decode cX7_isUnlike 33 = .ok (.aload_n 0, 1) := by decide +kernel
theorem dX7_isUnlike_34 : decode cX7_isUnlike 34 = .ok (.getfield 19, 3) := by decide +kernel
theorem dX7_isUnlike_37 : decode cX7_isUnlike 37 = .ok (.iload_n 1, 1) := by decide +kernel
theorem dX7_isUnlike_38 : decode cX7_isUnlike 38 = .ok (.iaload, 1) := by decide +kernel
theorem dX7_isUnlike_39 : decode cX7_isUnlike 39 = .ok (.invokestatic 50, 3) := by decide +kernel
theorem dX7_isUnlike_42 : decode cX7_isUnlike 42 = .ok (.istore_n 3, 1) := by decide +kernel
theorem dX7_isUnlike_43 : decode cX7_isUnlike 43 = .ok (.aload_n 0, 1) := by decide +kernel
theorem dX7_isUnlike_44 : decode cX7_isUnlike 44 = .ok (.getfield 15, 3) := by decide +kernel
theorem dX7_isUnlike_47 : decode cX7_isUnlike 47 = .ok (.iload_n 1, 1) := by decide +kernel
theorem dX7_isUnlike_48 : decode cX7_isUnlike 48 = .ok (.iaload, 1) := by decide +kernel
theorem dX7_isUnlike_49 : decode cX7_isUnlike 49 = .ok (.aload_n 0, 1) := by decide +kernel
theorem dX7_isUnlike_50 : decode cX7_isUnlike 50 = .ok (.getfield 19, 3) := by decide +kernel
theorem dX7_isUnlike_53 : decode cX7_isUnlike 53 = .ok (.iload_n 1, 1) := by decide +kernel
theorem dX7_isUnlike_54 : decode cX7_isUnlike 54 = .ok (.iaload, 1) := by decide +kernel
theorem dX7_isUnlike_55 : decode cX7_isUnlike 55 = .ok (.isub, 1) := by decide +kernel
theorem dX7_isUnlike_56 : decode cX7_isUnlike 56 = .ok (.invokestatic 63, 3) := by decide +kernel
theorem dX7_isUnlike_59 : decode cX7_isUnlike 59 = .ok (.bipush 100, 2) := by decide +kernel
theorem dX7_isUnlike_61 : decode cX7_isUnlike 61 = .ok (.imul, 1) := by decide +kernel
theorem dX7_isUnlike_62 : decode cX7_isUnlike 62 = .ok (.iload_n 2, 1) := by decide +kernel
theorem dX7_isUnlike_63 : decode cX7_isUnlike 63 = .ok (.iload_n 3, 1) := by decide +kernel
theorem dX7_isUnlike_64 : decode cX7_isUnlike 64 = .ok (.imul, 1) := by decide +kernel
theorem dX7_isUnlike_65 : decode cX7_isUnlike 65 = .ok (.if_icmp .le 7, 3) := by decide +kernel
theorem dX7_isUnlike_68 : decode cX7_isUnlike 68 = .ok (.iconst 1, 1) := by decide +kernel
theorem dX7_isUnlike_69 : decode cX7_isUnlike 69 = .ok (.goto 4, 3) := by decide +kernel
theorem dX7_isUnlike_72 : decode cX7_isUnlike 72 = .ok (.iconst 0, 1) := by decide +kernel
theorem dX7_isUnlike_73 : decode cX7_isUnlike 73 = .ok (.ireturn, 1) := by decide +kernel
theorem dX8_init_0 : decode cX8_init 0 = .ok (.aload_n 0, 1) := by decide +kernel
theorem dX8_init_1 : decode cX8_init 1 = .ok (.invokespecial 3, 3) := by decide +kernel
theorem dX8_init_4 : decode cX8_init 4 = .ok (.aload_n 0, 1) := by decide +kernel
theorem dX8_init_5 : decode cX8_init 5 = .ok (.bipush 100, 2) := by decide +kernel
theorem dX8_init_7 : decode cX8_init 7 = .ok (.newarray .boolean, 2) := by decide +kernel
theorem dX8_init_9 : decode cX8_init 9 = .ok (.putfield 9, 3) := by decide +kernel
theorem dX8_init_12 : decode cX8_init 12 = .ok (.return_, 1) := by decide +kernel
theorem dX8_change_0 : decode cX8_change 0 = .ok (.iload_n 1, 1) := by decide +kernel
theorem dX8_change_1 : decode cX8_change 1 = .ok (.ifCond .lt 44, 3) := by decide +kernel
theorem dX8_change_4 : decode cX8_change 4 = .ok (.iload_n 1, 1) := by decide +kernel
theorem dX8_change_5 : decode cX8_change 5 = .ok (.bipush 100, 2) := by decide +kernel
theorem dX8_change_7 : decode cX8_change 7 = .ok (.if_icmp .ge 38, 3) := by decide +kernel
theorem dX8_change_10 : decode cX8_change 10 = .ok (.aload_n 0, 1) := by decide +kernel
theorem dX8_change_11 : decode cX8_change 11 = .ok (.getfield 9, 3) := by decide +kernel
theorem dX8_change_14 : decode cX8_change 14 = .ok (.iload_n 1, 1) := by decide +kernel
theorem dX8_change_15 : decode cX8_change 15 = .ok (.baload, 1) := by decide +kernel
theorem dX8_change_16 : decode cX8_change 16 = .ok (.iload_n 2, 1) := by decide +kernel
theorem dX8_change_17 : decode cX8_change 17 = .ok (.if_icmp .eq 28, 3) := by decide +kernel
theorem dX8_change_20 : decode cX8_change 20 = .ok (.aload_n 0, 1) := by decide +kernel
theorem dX8_change_21 : decode cX8_change 21 = .ok (.getfield 9, 3) := by decide +kernel
theorem dX8_change_24 : decode cX8_change 24 = .ok (.iload_n 1, 1) := by decide +kernel
theorem dX8_change_25 : decode cX8_change 25 = .ok (.iload_n 2, 1) := by decide +kernel
theorem dX8_change_26 : decode cX8_change 26 = .ok (.bastore, 1) := by decide +kernel
theorem dX8_change_27 : decode cX8_change 27 = .ok (.aload_n 0, 1) := by decide +kernel
theorem dX8_change_28 : decode cX8_change 28 = .ok (.dup, 1) := by decide +kernel
theorem dX8_change_29 : decode cX8_change 29 = .ok (.getfield 15, 3) := by decide +kernel
theorem dX8_change_32 : decode cX8_change 32 = .ok (.iload_n 2, 1) := by decide +kernel
theorem dX8_change_33 : decode cX8_change 33 = .ok (.ifCond .eq 7, 3) := by decide +kernel
theorem dX8_change_36 : decode cX8_change 36 = .ok (.iconst 1, 1) := by decide +kernel
theorem dX8_change_37 : decode cX8_change 37 = .ok (.goto 4, 3) := by decide +kernel
theorem dX8_change_40 : decode cX8_change 40 = .ok (.iconst (-1), 1) := by decide +kernel
theorem dX8_change_41 : decode cX8_change 41 = .ok (.iadd, 1) := by decide +kernel
theorem dX8_change_42 : decode cX8_change 42 = .ok (.putfield 15, 3) := by decide +kernel
theorem dX8_change_45 : decode cX8_change 45 = .ok (.aload_n 0, 1) := by decide +kernel
theorem dX8_change_46 : decode cX8_change 46 = .ok (.getfield 15, 3) := by decide +kernel
theorem dX8_change_49 : decode cX8_change 49 = .ok (.ireturn, 1) := by decide +kernel
theorem dX9_init_0 : decode cX9_init 0 = .ok (.aload_n 0, 1) := by decide +kernel
theorem dX9_init_1 : decode cX9_init 1 = .ok (.invokespecial 1, 3) := by decide +kernel
theorem dX9_init_4 : decode cX9_init 4 = .ok (.aload_n 0, 1) := by decide +kernel
theorem dX9_init_5 : decode cX9_init 5 = .ok (.new 7, 3) := by decide +kernel
theorem dX9_init_8 : decode cX9_init 8 = .ok (.dup, 1) := by decide +kernel
theorem dX9_init_9 : decode cX9_init 9 = .ok (.invokespecial 9, 3) := by decide +kernel
theorem dX9_init_12 : decode cX9_init 12 = .ok (.putfield 10, 3) := by decide +kernel
theorem dX9_init_15 : decode cX9_init 15 = .ok (.aload_n 0, 1) := by decide +kernel
theorem dX9_init_16 : decode cX9_init 16 = .ok (.new 16, 3) := by decide +kernel
theorem dX9_init_19 : decode cX9_init 19 = .ok (.dup, 1) := by decide +kernel
theorem dX9_init_20 : decode cX9_init 20 = .ok (.aload_n 0, 1) := by decide +kernel
theorem dX9_init_21 : decode cX9_init 21 = .ok (.getfield 10, 3) := by decide +kernel
theorem dX9_init_24 : decode cX9_init 24 = .ok (.invokespecial 18, 3) := by decide +kernel
theorem dX9_init_27 : decode cX9_init 27 = .ok (.putfield 21, 3) := by decide +kernel
theorem dX9_init_30 : decode cX9_init 30 = .ok (.aload_n 0, 1) := by decide +kernel
theorem dX9_init_31 : decode cX9_init 31 = .ok (.new 25, 3) := by decide +kernel
theorem dX9_init_34 : decode cX9_init 34 = .ok (.dup, 1) := by decide +kernel
theorem dX9_init_35 : decode cX9_init 35 = .ok (.aload_n 0, 1) := by decide +kernel
theorem dX9_init_36 : decode cX9_init 36 = .ok (.getfield 10, 3) := by decide +kernel
theorem dX9_init_39 : decode cX9_init 39 = .ok (.invokespecial 27, 3) := by decide +kernel
theorem dX9_init_42 : decode cX9_init 42 = .ok (.putfield 28, 3) := by decide +kernel
theorem dX9_init_45 : decode cX9_init 45 = .ok (.aload_n 0, 1) := by decide +kernel
theorem dX9_init_46 : decode cX9_init 46 = .ok (.new 32, 3) := by decide +kernel
theorem dX9_init_49 : decode cX9_init 49 = .ok (.dup, 1) := by decide +kernel
theorem dX9_init_50 : decode cX9_init 50 = .ok (.aload_n 0, 1) := by decide +kernel
theorem dX9_init_51 : decode cX9_init 51 = .ok (.getfield 10, 3) := by decide +kernel
theorem dX9_init_54 : decode cX9_init 54 = .ok (.invokespecial 34, 3) := by decide +kernel
theorem dX9_init_57 : decode cX9_init 57 = .ok (.putfield 35, 3) := by decide +kernel
theorem dX9_init_60 : decode cX9_init 60 = .ok (.aload_n 0, 1) := by decide +kernel
theorem dX9_init_61 : decode cX9_init 61 = .ok (.new 39, 3) := by decide +kernel
theorem dX9_init_64 : decode cX9_init 64 = .ok (.dup, 1) := by decide +kernel
theorem dX9_init_65 : decode cX9_init 65 = .ok (.aload_n 0, 1) := by decide +kernel
theorem dX9_init_66 : decode cX9_init 66 = .ok (.getfield 10, 3) := by decide +kernel
theorem dX9_init_69 : decode cX9_init 69 = .ok (.invokespecial 41, 3) := by decide +kernel
theorem dX9_init_72 : decode cX9_init 72 = .ok (.putfield 42, 3) := by decide +kernel
theorem dX9_init_75 : decode cX9_init 75 = .ok (.return_, 1) := by decide +kernel
theorem dX9_put_0 : decode cX9_put 0 = .ok (.iload_n 1, 1) := by decide +kernel
theorem dX9_put_1 : decode cX9_put 1 = .ok (.invokestatic 46, 3) := by decide +kernel
theorem dX9_put_4 : decode cX9_put 4 = .ok (.ifCond .eq 21, 3) := by decide +kernel
theorem dX9_put_7 : decode cX9_put 7 = .ok (.iload_n 2, 1) := by decide +kernel
theorem dX9_put_8 : decode cX9_put 8 = .ok (.ifCond .lt 17, 3) := by decide +kernel
theorem dX9_put_11 : decode cX9_put 11 = .ok (.iload_n 2, 1) := by decide +kernel
theorem dX9_put_12 : decode cX9_put 12 = .ok (.iconst 5, 1) := by decide +kernel
theorem dX9_put_13 : decode cX9_put 13 = .ok (.if_icmp .gt 12, 3) := by decide +kernel
theorem dX9_put_16 : decode cX9_put 16 = .ok (.iload_n 3, 1) := by decide +kernel
theorem dX9_put_17 : decode cX9_put 17 = .ok (.iload 4, 2) := by decide +kernel
theorem dX9_put_19 : decode cX9_put 19 = .ok (.invokestatic 50, 3) := by decide +kernel
theorem dX9_put_22 : decode cX9_put 22 = .ok (.ifCond .ne 5, 3) := by decide +kernel
theorem dX9_put_25 : decode cX9_put 25 = .ok (.iconst (-1), 1) := by decide +kernel
theorem dX9_put_26 : decode cX9_put 26 = .ok (.ireturn, 1) := by decide +kernel
theorem dX9_put_27 : decode cX9_put 27 = .ok (.iload_n 2, 1) := by decide +kernel
theorem dX9_put_28 : decode cX9_put 28 = .ok (.invokestatic 54, 3) := by decide +kernel
theorem dX9_put_31 : decode cX9_put 31 = .ok (.ifCond .eq 18, 3) := by decide +kernel
theorem dX9_put_34 : decode cX9_put 34 = .ok (.iload 5, 2) := by decide +kernel
theorem dX9_put_36 : decode cX9_put 36 = .ok (.iconst 1, 1) := by decide +kernel
theorem dX9_put_37 : decode cX9_put 37 = .ok (.if_icmp .lt 10, 3) := by decide +kernel
theorem dX9_put_40 : decode cX9_put 40 = .ok (.iload 5, 2) := by decide +kernel
theorem dX9_put_42 : decode cX9_put 42 = .ok (.bipush 20, 2) := by decide +kernel
theorem dX9_put_44 : decode cX9_put 44 = .ok (.if_icmp .le 5, 3) := by decide +kernel
theorem dX9_put_47 : decode cX9_put 47 = .ok (.iconst (-1), 1) := by decide +kernel
theorem dX9_put_48 : decode cX9_put 48 = .ok (.ireturn, 1) := by decide +kernel
theorem dX9_put_49 : decode cX9_put 49 = .ok (.aload_n 0, 1) := by decide +kernel
theorem dX9_put_50 : decode cX9_put 50 = .ok (.getfield 10, 3) := by decide +kernel
theorem dX9_put_53 : decode cX9_put 53 = .ok (.getfield 57, 3) := by decide +kernel
theorem dX9_put_56 : decode cX9_put 56 = .ok (.iload_n 1, 1) := by decide +kernel
theorem dX9_put_57 : decode cX9_put 57 = .ok (.aaload, 1) := by decide +kernel
theorem dX9_put_58 : decode cX9_put 58 = .ok (.astore 6, 2) := by decide +kernel
theorem dX9_put_60 : decode cX9_put 60 = .ok (.aload 6, 2) := by decide +kernel
theorem dX9_put_62 : decode cX9_put 62 = .ok (.getfield 61, 3) := by decide +kernel
theorem dX9_put_65 : decode cX9_put 65 = .ok (.iconst (-1), 1) := by decide +kernel
theorem dX9_put_66 : decode cX9_put 66 = .ok (.if_icmp .eq 5, 3) := by decide +kernel
theorem dX9_put_69 : decode cX9_put 69 = .ok (.iconst (-1), 1) := by decide +kernel
theorem dX9_put_70 : decode cX9_put 70 = .ok (.ireturn, 1) := by decide +kernel
theorem dX9_put_71 : decode cX9_put 71 = .ok (.aload 6, 2) := by decide +kernel
theorem dX9_put_73 : decode cX9_put 73 = .ok (.iload_n 2, 1) := by decide +kernel
theorem dX9_put_74 : decode cX9_put 74 = .ok (.iload_n 3, 1) := by decide +kernel
theorem dX9_put_75 : decode cX9_put 75 = .ok (.iload 4, 2) := by decide +kernel
theorem dX9_put_77 : decode cX9_put 77 = .ok (.iload_n 2, 1) := by decide +kernel
theorem dX9_put_78 : decode cX9_put 78 = .ok (.invokestatic 54, 3) := by decide +kernel
theorem dX9_put_81 : decode cX9_put 81 = .ok (.ifCond .eq 8, 3) := by decide +kernel
theorem dX9_put_84 : decode cX9_put 84 = .ok (.iload 5, 2) := by decide +kernel
theorem dX9_put_86 : decode cX9_put 86 = .ok (.goto 4, 3) := by decide +kernel
theorem dX9_put_89 : decode cX9_put 89 = .ok (.iconst 0, 1) := by decide +kernel
theorem dX9_put_90 : decode cX9_put 90 = .ok (.iload_n 2, 1) := by decide +kernel
theorem dX9_put_91 : decode cX9_put 91 = .ok (.iconst 5, 1) := by decide +kernel
theorem dX9_put_92 : decode cX9_put 92 = .ok (.if_icmp .ne 7, 3) := by decide +kernel
theorem dX9_put_95 : decode cX9_put 95 = .ok (.iconst 0, 1) := by decide +kernel
theorem dX9_put_96 : decode cX9_put 96 = .ok (.goto 10, 3) := by decide +kernel
theorem dX9_put_99 : decode cX9_put 99 = .ok (.aload_n 0, 1) := by decide +kernel
theorem dX9_put_100 : decode cX9_put 100 = .ok (.getfield 10, 3) := by decide +kernel
theorem dX9_put_103 : decode cX9_put 103 = .ok (.getfield 67, 3) := by decide +kernel
theorem dX9_put_106 : decode cX9_put 106 = .ok (.invokevirtual 70, 3) := by decide +kernel
theorem dX9_put_109 : decode cX9_put 109 = .ok (.aload_n 0, 1) := by decide +kernel
theorem dX9_put_110 : decode cX9_put 110 = .ok (.getfield 10, 3) := by decide +kernel
theorem dX9_put_113 : decode cX9_put 113 = .ok (.dup, 1) := by decide +kernel
theorem dX9_put_114 : decode cX9_put 114 = .ok (.getfield 74, 3) := by decide +kernel
theorem dX9_put_117 : decode cX9_put 117 = .ok (.iconst 1, 1) := by decide +kernel
theorem dX9_put_118 : decode cX9_put 118 = .ok (.iadd, 1) := by decide +kernel
theorem dX9_put_119 : decode cX9_put 119 = .ok (.putfield 74, 3) := by decide +kernel
theorem dX9_put_122 : decode cX9_put 122 = .ok (.iload_n 1, 1) := by decide +kernel
theorem dX9_put_123 : decode cX9_put 123 = .ok (.ireturn, 1) := by decide +kernel
theorem dX9_lift_0 : decode cX9_lift 0 = .ok (.iload_n 1, 1) := by decide +kernel
theorem dX9_lift_1 : decode cX9_lift 1 = .ok (.invokestatic 46, 3) := by decide +kernel
theorem dX9_lift_4 : decode cX9_lift 4 = .ok (.ifCond .eq 19, 3) := by decide +kernel
theorem dX9_lift_7 : decode cX9_lift 7 = .ok (.aload_n 0, 1) := by decide +kernel
theorem dX9_lift_8 : decode cX9_lift 8 = .ok (.getfield 10, 3) := by decide +kernel
theorem dX9_lift_11 : decode cX9_lift 11 = .ok (.getfield 57, 3) := by decide +kernel
theorem dX9_lift_14 : decode cX9_lift 14 = .ok (.iload_n 1, 1) := by decide +kernel
theorem dX9_lift_15 : decode cX9_lift 15 = .ok (.aaload, 1) := by decide +kernel
theorem dX9_lift_16 : decode cX9_lift 16 = .ok (.getfield 61, 3) := by decide +kernel
theorem dX9_lift_19 : decode cX9_lift 19 = .ok (.iconst (-1), 1) := by decide +kernel
theorem dX9_lift_20 : decode cX9_lift 20 = .ok (.if_icmp .ne 5, 3) := by decide +kernel
theorem dX9_lift_23 : decode cX9_lift 23 = .ok (.iconst (-1), 1) := by decide +kernel
theorem dX9_lift_24 : decode cX9_lift 24 = .ok (.ireturn, 1) := by decide +kernel
theorem dX9_lift_25 : decode cX9_lift 25 = .ok (.aload_n 0, 1) := by decide +kernel
theorem dX9_lift_26 : decode cX9_lift 26 = .ok (.getfield 10, 3) := by decide +kernel
theorem dX9_lift_29 : decode cX9_lift 29 = .ok (.getfield 57, 3) := by decide +kernel
theorem dX9_lift_32 : decode cX9_lift 32 = .ok (.iload_n 1, 1) := by decide +kernel
theorem dX9_lift_33 : decode cX9_lift 33 = .ok (.aaload, 1) := by decide +kernel
theorem dX9_lift_34 : decode cX9_lift 34 = .ok (.getfield 61, 3) := by decide +kernel
theorem dX9_lift_37 : decode cX9_lift 37 = .ok (.istore_n 2, 1) := by decide +kernel
theorem dX9_lift_38 : decode cX9_lift 38 = .ok (.aload_n 0, 1) := by decide +kernel
theorem dX9_lift_39 : decode cX9_lift 39 = .ok (.getfield 10, 3) := by decide +kernel
theorem dX9_lift_42 : decode cX9_lift 42 = .ok (.getfield 57, 3) := by decide +kernel
theorem dX9_lift_45 : decode cX9_lift 45 = .ok (.iload_n 1, 1) := by decide +kernel
theorem dX9_lift_46 : decode cX9_lift 46 = .ok (.aaload, 1) := by decide +kernel
theorem dX9_lift_47 : decode cX9_lift 47 = .ok (.invokevirtual 77, 3) := by decide +kernel
theorem dX9_lift_50 : decode cX9_lift 50 = .ok (.aload_n 0, 1) := by decide +kernel
theorem dX9_lift_51 : decode cX9_lift 51 = .ok (.getfield 10, 3) := by decide +kernel
theorem dX9_lift_54 : decode cX9_lift 54 = .ok (.dup, 1) := by decide +kernel
theorem dX9_lift_55 : decode cX9_lift 55 = .ok (.getfield 74, 3) := by decide +kernel
theorem dX9_lift_58 : decode cX9_lift 58 = .ok (.iconst 1, 1) := by decide +kernel
theorem dX9_lift_59 : decode cX9_lift 59 = .ok (.iadd, 1) := by decide +kernel
theorem dX9_lift_60 : decode cX9_lift 60 = .ok (.putfield 74, 3) := by decide +kernel
theorem dX9_lift_63 : decode cX9_lift 63 = .ok (.iload_n 2, 1) := by decide +kernel
theorem dX9_lift_64 : decode cX9_lift 64 = .ok (.ireturn, 1) := by decide +kernel
theorem dX9_look_0 : decode cX9_look 0 = .ok (.iload_n 1, 1) := by decide +kernel
theorem dX9_look_1 : decode cX9_look 1 = .ok (.invokestatic 46, 3) := by decide +kernel
theorem dX9_look_4 : decode cX9_look 4 = .ok (.ifCond .eq 19, 3) := by decide +kernel
theorem dX9_look_7 : decode cX9_look 7 = .ok (.aload_n 0, 1) := by decide +kernel
theorem dX9_look_8 : decode cX9_look 8 = .ok (.getfield 10, 3) := by decide +kernel
theorem dX9_look_11 : decode cX9_look 11 = .ok (.getfield 57, 3) := by decide +kernel
theorem dX9_look_14 : decode cX9_look 14 = .ok (.iload_n 1, 1) := by decide +kernel
theorem dX9_look_15 : decode cX9_look 15 = .ok (.aaload, 1) := by decide +kernel
theorem dX9_look_16 : decode cX9_look 16 = .ok (.getfield 61, 3) := by decide +kernel
theorem dX9_look_19 : decode cX9_look 19 = .ok (.iconst (-1), 1) := by decide +kernel
theorem dX9_look_20 : decode cX9_look 20 = .ok (.if_icmp .ne 5, 3) := by decide +kernel
theorem dX9_look_23 : decode cX9_look 23 = .ok (.iconst (-1), 1) := by decide +kernel
theorem dX9_look_24 : decode cX9_look 24 = .ok (.ireturn, 1) := by decide +kernel
theorem dX9_look_25 : decode cX9_look 25 = .ok (.aload_n 0, 1) := by decide +kernel
theorem dX9_look_26 : decode cX9_look 26 = .ok (.getfield 10, 3) := by decide +kernel
theorem dX9_look_29 : decode cX9_look 29 = .ok (.getfield 57, 3) := by decide +kernel
theorem dX9_look_32 : decode cX9_look 32 = .ok (.iload_n 1, 1) := by decide +kernel
theorem dX9_look_33 : decode cX9_look 33 = .ok (.aaload, 1) := by decide +kernel
theorem dX9_look_34 : decode cX9_look 34 = .ok (.astore_n 3, 1) := by decide +kernel
theorem dX9_look_35 : decode cX9_look 35 = .ok (.iload_n 2, 1) := by decide +kernel
theorem dX9_look_36 : decode cX9_look 36 = .ok (.tableswitch 70 0 5 #[40, 45, 50, 55, 60, 65], 40) := by decide +kernel
theorem dX9_look_76 : decode cX9_look 76 = .ok (.aload_n 3, 1) := by decide +kernel
theorem dX9_look_77 : decode cX9_look 77 = .ok (.getfield 61, 3) := by decide +kernel
theorem dX9_look_80 : decode cX9_look 80 = .ok (.ireturn, 1) := by decide +kernel
theorem dX9_look_81 : decode cX9_look 81 = .ok (.aload_n 3, 1) := by decide +kernel
theorem dX9_look_82 : decode cX9_look 82 = .ok (.getfield 80, 3) := by decide +kernel
theorem dX9_look_85 : decode cX9_look 85 = .ok (.ireturn, 1) := by decide +kernel
theorem dX9_look_86 : decode cX9_look 86 = .ok (.aload_n 3, 1) := by decide +kernel
theorem dX9_look_87 : decode cX9_look 87 = .ok (.getfield 83, 3) := by decide +kernel
theorem dX9_look_90 : decode cX9_look 90 = .ok (.ireturn, 1) := by decide +kernel
theorem dX9_look_91 : decode cX9_look 91 = .ok (.aload_n 3, 1) := by decide +kernel
theorem dX9_look_92 : decode cX9_look 92 = .ok (.getfield 86, 3) := by decide +kernel
theorem dX9_look_95 : decode cX9_look 95 = .ok (.ireturn, 1) := by decide +kernel
theorem dX9_look_96 : decode cX9_look 96 = .ok (.aload_n 3, 1) := by decide +kernel
theorem dX9_look_97 : decode cX9_look 97 = .ok (.getfield 89, 3) := by decide +kernel
theorem dX9_look_100 : decode cX9_look 100 = .ok (.ireturn, 1) := by decide +kernel
theorem dX9_look_101 : decode cX9_look 101 = .ok (.aload_n 3, 1) := by decide +kernel
theorem dX9_look_102 : decode cX9_look 102 = .ok (.getfield 92, 3) := by decide +kernel
theorem dX9_look_105 : decode cX9_look 105 = .ok (.ireturn, 1) := by decide +kernel
theorem dX9_look_106 : decode cX9_look 106 = .ok (.iconst (-1), 1) := by decide +kernel
theorem dX9_look_107 : decode cX9_look 107 = .ok (.ireturn, 1) := by decide +kernel
theorem dX9_read_0 : decode cX9_read 0 = .ok (.aload_n 0, 1) := by decide +kernel
theorem dX9_read_1 : decode cX9_read 1 = .ok (.iload_n 1, 1) := by decide +kernel
theorem dX9_read_2 : decode cX9_read 2 = .ok (.invokevirtual 95, 3) := by decide +kernel
theorem dX9_read_5 : decode cX9_read 5 = .ok (.istore_n 3, 1) := by decide +kernel
theorem dX9_read_6 : decode cX9_read 6 = .ok (.iload_n 3, 1) := by decide +kernel
theorem dX9_read_7 : decode cX9_read 7 = .ok (.ifCond .eq 5, 3) := by decide +kernel
theorem dX9_read_10 : decode cX9_read 10 = .ok (.iload_n 3, 1) := by decide +kernel
theorem dX9_read_11 : decode cX9_read 11 = .ok (.ireturn, 1) := by decide +kernel
theorem dX9_read_12 : decode cX9_read 12 = .ok (.aload_n 0, 1) := by decide +kernel
theorem dX9_read_13 : decode cX9_read 13 = .ok (.getfield 10, 3) := by decide +kernel
theorem dX9_read_16 : decode cX9_read 16 = .ok (.getfield 57, 3) := by decide +kernel
theorem dX9_read_19 : decode cX9_read 19 = .ok (.iload_n 1, 1) := by decide +kernel
theorem dX9_read_20 : decode cX9_read 20 = .ok (.aaload, 1) := by decide +kernel
theorem dX9_read_21 : decode cX9_read 21 = .ok (.astore 4, 2) := by decide +kernel
theorem dX9_read_23 : decode cX9_read 23 = .ok (.aload 4, 2) := by decide +kernel
theorem dX9_read_25 : decode cX9_read 25 = .ok (.getfield 61, 3) := by decide +kernel
theorem dX9_read_28 : decode cX9_read 28 = .ok (.invokestatic 54, 3) := by decide +kernel
theorem dX9_read_31 : decode cX9_read 31 = .ok (.ifCond .eq 9, 3) := by decide +kernel
theorem dX9_read_34 : decode cX9_read 34 = .ok (.sipush 250, 3) := by decide +kernel
theorem dX9_read_37 : decode cX9_read 37 = .ok (.goto 6, 3) := by decide +kernel
theorem dX9_read_40 : decode cX9_read 40 = .ok (.sipush 5000, 3) := by decide +kernel
theorem dX9_read_43 : decode cX9_read 43 = .ok (.istore 5, 2) := by decide +kernel
theorem dX9_read_45 : decode cX9_read 45 = .ok (.iload_n 2, 1) := by decide +kernel
theorem dX9_read_46 : decode cX9_read 46 = .ok (.ifCond .lt 22, 3) := by decide +kernel
theorem dX9_read_49 : decode cX9_read 49 = .ok (.iload_n 2, 1) := by decide +kernel
theorem dX9_read_50 : decode cX9_read 50 = .ok (.iload 5, 2) := by decide +kernel
theorem dX9_read_52 : decode cX9_read 52 = .ok (.if_icmp .gt 16, 3) := by decide +kernel
theorem dX9_read_55 : decode cX9_read 55 = .ok (.aload_n 0, 1) := by decide +kernel
theorem dX9_read_56 : decode cX9_read 56 = .ok (.getfield 10, 3) := by decide +kernel
theorem dX9_read_59 : decode cX9_read 59 = .ok (.getfield 67, 3) := by decide +kernel
theorem dX9_read_62 : decode cX9_read 62 = .ok (.invokestatic 99, 3) := by decide +kernel
theorem dX9_read_65 : decode cX9_read 65 = .ok (.ifCond .ne 5, 3) := by decide +kernel
theorem dX9_read_68 : decode cX9_read 68 = .ok (.iconst (-1), 1) := by decide +kernel
theorem dX9_read_69 : decode cX9_read 69 = .ok (.ireturn, 1) := by decide +kernel
theorem dX9_read_70 : decode cX9_read 70 = .ok (.aload 4, 2) := by decide +kernel
theorem dX9_read_72 : decode cX9_read 72 = .ok (.getfield 102, 3) := by decide +kernel
theorem dX9_read_75 : decode cX9_read 75 = .ok (.aload_n 0, 1) := by decide +kernel
theorem dX9_read_76 : decode cX9_read 76 = .ok (.getfield 10, 3) := by decide +kernel
theorem dX9_read_79 : decode cX9_read 79 = .ok (.getfield 67, 3) := by decide +kernel
theorem dX9_read_82 : decode cX9_read 82 = .ok (.iload_n 2, 1) := by decide +kernel
theorem dX9_read_83 : decode cX9_read 83 = .ok (.iastore, 1) := by decide +kernel
theorem dX9_read_84 : decode cX9_read 84 = .ok (.aload 4, 2) := by decide +kernel
theorem dX9_read_86 : decode cX9_read 86 = .ok (.getfield 61, 3) := by decide +kernel
theorem dX9_read_89 : decode cX9_read 89 = .ok (.iconst 2, 1) := by decide +kernel
theorem dX9_read_90 : decode cX9_read 90 = .ok (.if_icmp .ne 14, 3) := by decide +kernel
theorem dX9_read_93 : decode cX9_read 93 = .ok (.aload 4, 2) := by decide +kernel
theorem dX9_read_95 : decode cX9_read 95 = .ok (.dup, 1) := by decide +kernel
theorem dX9_read_96 : decode cX9_read 96 = .ok (.getfield 92, 3) := by decide +kernel
theorem dX9_read_99 : decode cX9_read 99 = .ok (.iload_n 2, 1) := by decide +kernel
theorem dX9_read_100 : decode cX9_read 100 = .ok (.iadd, 1) := by decide +kernel
theorem dX9_read_101 : decode cX9_read 101 = .ok (.putfield 92, 3) := by decide +kernel
theorem dX9_read_104 : decode cX9_read 104 = .ok (.aload_n 0, 1) := by decide +kernel
theorem dX9_read_105 : decode cX9_read 105 = .ok (.getfield 10, 3) := by decide +kernel
theorem dX9_read_108 : decode cX9_read 108 = .ok (.dup, 1) := by decide +kernel
theorem dX9_read_109 : decode cX9_read 109 = .ok (.getfield 74, 3) := by decide +kernel
theorem dX9_read_112 : decode cX9_read 112 = .ok (.iconst 1, 1) := by decide +kernel
theorem dX9_read_113 : decode cX9_read 113 = .ok (.iadd, 1) := by decide +kernel
theorem dX9_read_114 : decode cX9_read 114 = .ok (.putfield 74, 3) := by decide +kernel
theorem dX9_read_117 : decode cX9_read 117 = .ok (.iconst 1, 1) := by decide +kernel
theorem dX9_read_118 : decode cX9_read 118 = .ok (.ireturn, 1) := by decide +kernel
theorem dX9_full_0 : decode cX9_full 0 = .ok (.aload_n 0, 1) := by decide +kernel
theorem dX9_full_1 : decode cX9_full 1 = .ok (.iload_n 1, 1) := by decide +kernel
theorem dX9_full_2 : decode cX9_full 2 = .ok (.iconst 1, 1) := by decide +kernel
theorem dX9_full_3 : decode cX9_full 3 = .ok (.invokevirtual 106, 3) := by decide +kernel
theorem dX9_full_6 : decode cX9_full 6 = .ok (.istore_n 3, 1) := by decide +kernel
theorem dX9_full_7 : decode cX9_full 7 = .ok (.iload_n 3, 1) := by decide +kernel
theorem dX9_full_8 : decode cX9_full 8 = .ok (.ifCond .eq 7, 3) := by decide +kernel
theorem dX9_full_11 : decode cX9_full 11 = .ok (.iload_n 3, 1) := by decide +kernel
theorem dX9_full_12 : decode cX9_full 12 = .ok (.goto 11, 3) := by decide +kernel
theorem dX9_full_15 : decode cX9_full 15 = .ok (.aload_n 0, 1) := by decide +kernel
theorem dX9_full_16 : decode cX9_full 16 = .ok (.iload_n 1, 1) := by decide +kernel
theorem dX9_full_17 : decode cX9_full 17 = .ok (.iload_n 2, 1) := by decide +kernel
theorem dX9_full_18 : decode cX9_full 18 = .ok (.bipush 7, 2) := by decide +kernel
theorem dX9_full_20 : decode cX9_full 20 = .ok (.invokevirtual 110, 3) := by decide +kernel
theorem dX9_full_23 : decode cX9_full 23 = .ok (.ireturn, 1) := by decide +kernel
theorem dX9_melt_0 : decode cX9_melt 0 = .ok (.aload_n 0, 1) := by decide +kernel
theorem dX9_melt_1 : decode cX9_melt 1 = .ok (.iload_n 1, 1) := by decide +kernel
theorem dX9_melt_2 : decode cX9_melt 2 = .ok (.iconst 2, 1) := by decide +kernel
theorem dX9_melt_3 : decode cX9_melt 3 = .ok (.invokevirtual 106, 3) := by decide +kernel
theorem dX9_melt_6 : decode cX9_melt 6 = .ok (.istore_n 3, 1) := by decide +kernel
theorem dX9_melt_7 : decode cX9_melt 7 = .ok (.iload_n 3, 1) := by decide +kernel
theorem dX9_melt_8 : decode cX9_melt 8 = .ok (.ifCond .eq 5, 3) := by decide +kernel
theorem dX9_melt_11 : decode cX9_melt 11 = .ok (.iload_n 3, 1) := by decide +kernel
theorem dX9_melt_12 : decode cX9_melt 12 = .ok (.ireturn, 1) := by decide +kernel
theorem dX9_melt_13 : decode cX9_melt 13 = .ok (.iload_n 2, 1) := by decide +kernel
theorem dX9_melt_14 : decode cX9_melt 14 = .ok (.iconst 1, 1) := by decide +kernel
theorem dX9_melt_15 : decode cX9_melt 15 = .ok (.if_icmp .lt 10, 3) := by decide +kernel
theorem dX9_melt_18 : decode cX9_melt 18 = .ok (.iload_n 2, 1) := by decide +kernel
theorem dX9_melt_19 : decode cX9_melt 19 = .ok (.sipush 5000, 3) := by decide +kernel
theorem dX9_melt_22 : decode cX9_melt 22 = .ok (.if_icmp .le 5, 3) := by decide +kernel
theorem dX9_melt_25 : decode cX9_melt 25 = .ok (.iconst (-1), 1) := by decide +kernel
theorem dX9_melt_26 : decode cX9_melt 26 = .ok (.ireturn, 1) := by decide +kernel
theorem dX9_melt_27 : decode cX9_melt 27 = .ok (.aload_n 0, 1) := by decide +kernel
theorem dX9_melt_28 : decode cX9_melt 28 = .ok (.getfield 10, 3) := by decide +kernel
theorem dX9_melt_31 : decode cX9_melt 31 = .ok (.getfield 57, 3) := by decide +kernel
theorem dX9_melt_34 : decode cX9_melt 34 = .ok (.iload_n 1, 1) := by decide +kernel
theorem dX9_melt_35 : decode cX9_melt 35 = .ok (.aaload, 1) := by decide +kernel
theorem dX9_melt_36 : decode cX9_melt 36 = .ok (.aload_n 0, 1) := by decide +kernel
theorem dX9_melt_37 : decode cX9_melt 37 = .ok (.getfield 10, 3) := by decide +kernel
theorem dX9_melt_40 : decode cX9_melt 40 = .ok (.getfield 67, 3) := by decide +kernel
theorem dX9_melt_43 : decode cX9_melt 43 = .ok (.iload_n 2, 1) := by decide +kernel
theorem dX9_melt_44 : decode cX9_melt 44 = .ok (.invokevirtual 114, 3) := by decide +kernel
theorem dX9_melt_47 : decode cX9_melt 47 = .ok (.istore 4, 2) := by decide +kernel
theorem dX9_melt_49 : decode cX9_melt 49 = .ok (.iload 4, 2) := by decide +kernel
theorem dX9_melt_51 : decode cX9_melt 51 = .ok (.iconst (-1), 1) := by decide +kernel
theorem dX9_melt_52 : decode cX9_melt 52 = .ok (.if_icmp .eq 16, 3) := by decide +kernel
theorem dX9_melt_55 : decode cX9_melt 55 = .ok (.aload_n 0, 1) := by decide +kernel
theorem dX9_melt_56 : decode cX9_melt 56 = .ok (.getfield 10, 3) := by decide +kernel
theorem dX9_melt_59 : decode cX9_melt 59 = .ok (.dup, 1) := by decide +kernel
theorem dX9_melt_60 : decode cX9_melt 60 = .ok (.getfield 74, 3) := by decide +kernel
theorem dX9_melt_63 : decode cX9_melt 63 = .ok (.iconst 1, 1) := by decide +kernel
theorem dX9_melt_64 : decode cX9_melt 64 = .ok (.iadd, 1) := by decide +kernel
theorem dX9_melt_65 : decode cX9_melt 65 = .ok (.putfield 74, 3) := by decide +kernel
theorem dX9_melt_68 : decode cX9_melt 68 = .ok (.iload 4, 2) := by decide +kernel
theorem dX9_melt_70 : decode cX9_melt 70 = .ok (.ireturn, 1) := by decide +kernel
theorem dX9_other_0 : decode cX9_other 0 = .ok (.aload_n 0, 1) := by decide +kernel
theorem dX9_other_1 : decode cX9_other 1 = .ok (.iload_n 1, 1) := by decide +kernel
theorem dX9_other_2 : decode cX9_other 2 = .ok (.iconst 4, 1) := by decide +kernel
theorem dX9_other_3 : decode cX9_other 3 = .ok (.invokevirtual 106, 3) := by decide +kernel
theorem dX9_other_6 : decode cX9_other 6 = .ok (.istore_n 3, 1) := by decide +kernel
theorem dX9_other_7 : decode cX9_other 7 = .ok (.iload_n 3, 1) := by decide +kernel
theorem dX9_other_8 : decode cX9_other 8 = .ok (.ifCond .eq 7, 3) := by decide +kernel
theorem dX9_other_11 : decode cX9_other 11 = .ok (.iload_n 3, 1) := by decide +kernel
theorem dX9_other_12 : decode cX9_other 12 = .ok (.goto 12, 3) := by decide +kernel
theorem dX9_other_15 : decode cX9_other 15 = .ok (.aload_n 0, 1) := by decide +kernel
theorem dX9_other_16 : decode cX9_other 16 = .ok (.iload_n 1, 1) := by decide +kernel
theorem dX9_other_17 : decode cX9_other 17 = .ok (.iload_n 2, 1) := by decide +kernel
theorem dX9_other_18 : decode cX9_other 18 = .ok (.sipush 250, 3) := by decide +kernel
theorem dX9_other_21 : decode cX9_other 21 = .ok (.invokevirtual 110, 3) := by decide +kernel
theorem dX9_other_24 : decode cX9_other 24 = .ok (.ireturn, 1) := by decide +kernel
theorem dX9_hand_0 : decode cX9_hand 0 = .ok (.aload_n 0, 1) := by decide +kernel
theorem dX9_hand_1 : decode cX9_hand 1 = .ok (.iload_n 1, 1) := by decide +kernel
theorem dX9_hand_2 : decode cX9_hand 2 = .ok (.invokevirtual 117, 3) := by decide +kernel
theorem dX9_hand_5 : decode cX9_hand 5 = .ok (.istore 4, 2) := by decide +kernel
theorem dX9_hand_7 : decode cX9_hand 7 = .ok (.iload 4, 2) := by decide +kernel
theorem dX9_hand_9 : decode cX9_hand 9 = .ok (.ifCond .eq 6, 3) := by decide +kernel
theorem dX9_hand_12 : decode cX9_hand 12 = .ok (.iload 4, 2) := by decide +kernel
theorem dX9_hand_14 : decode cX9_hand 14 = .ok (.ireturn, 1) := by decide +kernel
theorem dX9_hand_15 : decode cX9_hand 15 = .ok (.aload_n 0, 1) := by decide +kernel
theorem dX9_hand_16 : decode cX9_hand 16 = .ok (.getfield 10, 3) := by decide +kernel
theorem dX9_hand_19 : decode cX9_hand 19 = .ok (.getfield 57, 3) := by decide +kernel
theorem dX9_hand_22 : decode cX9_hand 22 = .ok (.iload_n 1, 1) := by decide +kernel
theorem dX9_hand_23 : decode cX9_hand 23 = .ok (.aaload, 1) := by decide +kernel
theorem dX9_hand_24 : decode cX9_hand 24 = .ok (.astore 5, 2) := by decide +kernel
theorem dX9_hand_26 : decode cX9_hand 26 = .ok (.iload_n 3, 1) := by decide +kernel
theorem dX9_hand_27 : decode cX9_hand 27 = .ok (.iconst (-1), 1) := by decide +kernel
theorem dX9_hand_28 : decode cX9_hand 28 = .ok (.if_icmp .lt 37, 3) := by decide +kernel
theorem dX9_hand_31 : decode cX9_hand 31 = .ok (.iload_n 3, 1) := by decide +kernel
theorem dX9_hand_32 : decode cX9_hand 32 = .ok (.sipush 5000, 3) := by decide +kernel
theorem dX9_hand_35 : decode cX9_hand 35 = .ok (.if_icmp .gt 30, 3) := by decide +kernel
theorem dX9_hand_38 : decode cX9_hand 38 = .ok (.iload_n 2, 1) := by decide +kernel
theorem dX9_hand_39 : decode cX9_hand 39 = .ok (.invokestatic 99, 3) := by decide +kernel
theorem dX9_hand_42 : decode cX9_hand 42 = .ok (.ifCond .eq 23, 3) := by decide +kernel
theorem dX9_hand_45 : decode cX9_hand 45 = .ok (.iload_n 2, 1) := by decide +kernel
theorem dX9_hand_46 : decode cX9_hand 46 = .ok (.aload 5, 2) := by decide +kernel
theorem dX9_hand_48 : decode cX9_hand 48 = .ok (.getfield 89, 3) := by decide +kernel
theorem dX9_hand_51 : decode cX9_hand 51 = .ok (.if_icmp .lt 14, 3) := by decide +kernel
theorem dX9_hand_54 : decode cX9_hand 54 = .ok (.iload_n 2, 1) := by decide +kernel
theorem dX9_hand_55 : decode cX9_hand 55 = .ok (.aload_n 0, 1) := by decide +kernel
theorem dX9_hand_56 : decode cX9_hand 56 = .ok (.getfield 10, 3) := by decide +kernel
theorem dX9_hand_59 : decode cX9_hand 59 = .ok (.getfield 67, 3) := by decide +kernel
theorem dX9_hand_62 : decode cX9_hand 62 = .ok (.if_icmp .le 5, 3) := by decide +kernel
theorem dX9_hand_65 : decode cX9_hand 65 = .ok (.iconst (-1), 1) := by decide +kernel
theorem dX9_hand_66 : decode cX9_hand 66 = .ok (.ireturn, 1) := by decide +kernel
theorem dX9_hand_67 : decode cX9_hand 67 = .ok (.aload_n 0, 1) := by decide +kernel
theorem dX9_hand_68 : decode cX9_hand 68 = .ok (.getfield 10, 3) := by decide +kernel
theorem dX9_hand_71 : decode cX9_hand 71 = .ok (.getfield 120, 3) := by decide +kernel
theorem dX9_hand_74 : decode cX9_hand 74 = .ok (.iload_n 3, 1) := by decide +kernel
theorem dX9_hand_75 : decode cX9_hand 75 = .ok (.aload_n 0, 1) := by decide +kernel
theorem dX9_hand_76 : decode cX9_hand 76 = .ok (.getfield 10, 3) := by decide +kernel
theorem dX9_hand_79 : decode cX9_hand 79 = .ok (.getfield 67, 3) := by decide +kernel
theorem dX9_hand_82 : decode cX9_hand 82 = .ok (.aload 5, 2) := by decide +kernel
theorem dX9_hand_84 : decode cX9_hand 84 = .ok (.getfield 124, 3) := by decide +kernel
theorem dX9_hand_87 : decode cX9_hand 87 = .ok (.iload_n 2, 1) := by decide +kernel
theorem dX9_hand_88 : decode cX9_hand 88 = .ok (.iaload, 1) := by decide +kernel
theorem dX9_hand_89 : decode cX9_hand 89 = .ok (.invokevirtual 127, 3) := by decide +kernel
theorem dX9_hand_92 : decode cX9_hand 92 = .ok (.istore 6, 2) := by decide +kernel
theorem dX9_hand_94 : decode cX9_hand 94 = .ok (.iload 6, 2) := by decide +kernel
theorem dX9_hand_96 : decode cX9_hand 96 = .ok (.iconst (-1), 1) := by decide +kernel
theorem dX9_hand_97 : decode cX9_hand 97 = .ok (.if_icmp .ne 5, 3) := by decide +kernel
theorem dX9_hand_100 : decode cX9_hand 100 = .ok (.iconst (-1), 1) := by decide +kernel
theorem dX9_hand_101 : decode cX9_hand 101 = .ok (.ireturn, 1) := by decide +kernel
theorem dX9_hand_102 : decode cX9_hand 102 = .ok (.aload 5, 2) := by decide +kernel
theorem dX9_hand_104 : decode cX9_hand 104 = .ok (.getfield 124, 3) := by decide +kernel
theorem dX9_hand_107 : decode cX9_hand 107 = .ok (.iload_n 2, 1) := by decide +kernel
theorem dX9_hand_108 : decode cX9_hand 108 = .ok (.iload 6, 2) := by decide +kernel
theorem dX9_hand_110 : decode cX9_hand 110 = .ok (.iastore, 1) := by decide +kernel
theorem dX9_hand_111 : decode cX9_hand 111 = .ok (.aload_n 0, 1) := by decide +kernel
theorem dX9_hand_112 : decode cX9_hand 112 = .ok (.getfield 10, 3) := by decide +kernel
theorem dX9_hand_115 : decode cX9_hand 115 = .ok (.dup, 1) := by decide +kernel
theorem dX9_hand_116 : decode cX9_hand 116 = .ok (.getfield 74, 3) := by decide +kernel
theorem dX9_hand_119 : decode cX9_hand 119 = .ok (.iconst 1, 1) := by decide +kernel
theorem dX9_hand_120 : decode cX9_hand 120 = .ok (.iadd, 1) := by decide +kernel
theorem dX9_hand_121 : decode cX9_hand 121 = .ok (.putfield 74, 3) := by decide +kernel
theorem dX9_hand_124 : decode cX9_hand 124 = .ok (.iload 6, 2) := by decide +kernel
theorem dX9_hand_126 : decode cX9_hand 126 = .ok (.iconst 1, 1) := by decide +kernel
theorem dX9_hand_127 : decode cX9_hand 127 = .ok (.iadd, 1) := by decide +kernel
theorem dX9_hand_128 : decode cX9_hand 128 = .ok (.ireturn, 1) := by decide +kernel
theorem dX9_close_0 : decode cX9_close 0 = .ok (.aload_n 0, 1) := by decide +kernel
theorem dX9_close_1 : decode cX9_close 1 = .ok (.getfield 10, 3) := by decide +kernel
theorem dX9_close_4 : decode cX9_close 4 = .ok (.getfield 67, 3) := by decide +kernel
theorem dX9_close_7 : decode cX9_close 7 = .ok (.bipush 56, 2) := by decide +kernel
theorem dX9_close_9 : decode cX9_close 9 = .ok (.if_icmp .lt 5, 3) := by decide +kernel
theorem dX9_close_12 : decode cX9_close 12 = .ok (.iconst (-1), 1) := by decide +kernel
theorem dX9_close_13 : decode cX9_close 13 = .ok (.ireturn, 1) := by decide +kernel
theorem dX9_close_14 : decode cX9_close 14 = .ok (.aload_n 0, 1) := by decide +kernel
theorem dX9_close_15 : decode cX9_close 15 = .ok (.getfield 10, 3) := by decide +kernel
theorem dX9_close_18 : decode cX9_close 18 = .ok (.dup, 1) := by decide +kernel
theorem dX9_close_19 : decode cX9_close 19 = .ok (.getfield 67, 3) := by decide +kernel
theorem dX9_close_22 : decode cX9_close 22 = .ok (.iconst 1, 1) := by decide +kernel
theorem dX9_close_23 : decode cX9_close 23 = .ok (.iadd, 1) := by decide +kernel
theorem dX9_close_24 : decode cX9_close 24 = .ok (.putfield 67, 3) := by decide +kernel
theorem dX9_close_27 : decode cX9_close 27 = .ok (.aload_n 0, 1) := by decide +kernel
theorem dX9_close_28 : decode cX9_close 28 = .ok (.getfield 10, 3) := by decide +kernel
theorem dX9_close_31 : decode cX9_close 31 = .ok (.getfield 67, 3) := by decide +kernel
theorem dX9_close_34 : decode cX9_close 34 = .ok (.ireturn, 1) := by decide +kernel
theorem dX9_today_0 : decode cX9_today 0 = .ok (.aload_n 0, 1) := by decide +kernel
theorem dX9_today_1 : decode cX9_today 1 = .ok (.getfield 10, 3) := by decide +kernel
theorem dX9_today_4 : decode cX9_today 4 = .ok (.getfield 67, 3) := by decide +kernel
theorem dX9_today_7 : decode cX9_today 7 = .ok (.ireturn, 1) := by decide +kernel
theorem dX9_set_0 : decode cX9_set 0 = .ok (.iload_n 1, 1) := by decide +kernel
theorem dX9_set_1 : decode cX9_set 1 = .ok (.ifCond .lt 27, 3) := by decide +kernel
theorem dX9_set_4 : decode cX9_set 4 = .ok (.iload_n 1, 1) := by decide +kernel
theorem dX9_set_5 : decode cX9_set 5 = .ok (.bipush 12, 2) := by decide +kernel
theorem dX9_set_7 : decode cX9_set 7 = .ok (.if_icmp .ge 21, 3) := by decide +kernel
theorem dX9_set_10 : decode cX9_set 10 = .ok (.iload_n 2, 1) := by decide +kernel
theorem dX9_set_11 : decode cX9_set 11 = .ok (.getstatic 132, 3) := by decide +kernel
theorem dX9_set_14 : decode cX9_set 14 = .ok (.iload_n 1, 1) := by decide +kernel
theorem dX9_set_15 : decode cX9_set 15 = .ok (.iaload, 1) := by decide +kernel
theorem dX9_set_16 : decode cX9_set 16 = .ok (.if_icmp .lt 12, 3) := by decide +kernel
theorem dX9_set_19 : decode cX9_set 19 = .ok (.iload_n 2, 1) := by decide +kernel
theorem dX9_set_20 : decode cX9_set 20 = .ok (.getstatic 135, 3) := by decide +kernel
theorem dX9_set_23 : decode cX9_set 23 = .ok (.iload_n 1, 1) := by decide +kernel
theorem dX9_set_24 : decode cX9_set 24 = .ok (.iaload, 1) := by decide +kernel
theorem dX9_set_25 : decode cX9_set 25 = .ok (.if_icmp .le 5, 3) := by decide +kernel
theorem dX9_set_28 : decode cX9_set 28 = .ok (.iconst 0, 1) := by decide +kernel
theorem dX9_set_29 : decode cX9_set 29 = .ok (.ireturn, 1) := by decide +kernel
theorem dX9_set_30 : decode cX9_set 30 = .ok (.aload_n 0, 1) := by decide +kernel
theorem dX9_set_31 : decode cX9_set 31 = .ok (.getfield 10, 3) := by decide +kernel
theorem dX9_set_34 : decode cX9_set 34 = .ok (.getfield 138, 3) := by decide +kernel
theorem dX9_set_37 : decode cX9_set 37 = .ok (.iload_n 1, 1) := by decide +kernel
theorem dX9_set_38 : decode cX9_set 38 = .ok (.iload_n 2, 1) := by decide +kernel
theorem dX9_set_39 : decode cX9_set 39 = .ok (.iastore, 1) := by decide +kernel
theorem dX9_set_40 : decode cX9_set 40 = .ok (.aload_n 0, 1) := by decide +kernel
theorem dX9_set_41 : decode cX9_set 41 = .ok (.getfield 10, 3) := by decide +kernel
theorem dX9_set_44 : decode cX9_set 44 = .ok (.dup, 1) := by decide +kernel
theorem dX9_set_45 : decode cX9_set 45 = .ok (.getfield 74, 3) := by decide +kernel
theorem dX9_set_48 : decode cX9_set 48 = .ok (.iconst 1, 1) := by decide +kernel
theorem dX9_set_49 : decode cX9_set 49 = .ok (.iadd, 1) := by decide +kernel
theorem dX9_set_50 : decode cX9_set 50 = .ok (.putfield 74, 3) := by decide +kernel
theorem dX9_set_53 : decode cX9_set 53 = .ok (.iconst 1, 1) := by decide +kernel
theorem dX9_set_54 : decode cX9_set 54 = .ok (.ireturn, 1) := by decide +kernel
theorem dX9_raw_0 : decode cX9_raw 0 = .ok (.aload_n 0, 1) := by decide +kernel
theorem dX9_raw_1 : decode cX9_raw 1 = .ok (.iload_n 1, 1) := by decide +kernel
theorem dX9_raw_2 : decode cX9_raw 2 = .ok (.iload_n 2, 1) := by decide +kernel
theorem dX9_raw_3 : decode cX9_raw 3 = .ok (.invokevirtual 141, 3) := by decide +kernel
theorem dX9_raw_6 : decode cX9_raw 6 = .ok (.istore_n 3, 1) := by decide +kernel
theorem dX9_raw_7 : decode cX9_raw 7 = .ok (.iload_n 3, 1) := by decide +kernel
theorem dX9_raw_8 : decode cX9_raw 8 = .ok (.ifCond .eq 7, 3) := by decide +kernel
theorem dX9_raw_11 : decode cX9_raw 11 = .ok (.iload_n 3, 1) := by decide +kernel
theorem dX9_raw_12 : decode cX9_raw 12 = .ok (.goto 14, 3) := by decide +kernel
theorem dX9_raw_15 : decode cX9_raw 15 = .ok (.aload_n 0, 1) := by decide +kernel
theorem dX9_raw_16 : decode cX9_raw 16 = .ok (.getfield 10, 3) := by decide +kernel
theorem dX9_raw_19 : decode cX9_raw 19 = .ok (.iload_n 1, 1) := by decide +kernel
theorem dX9_raw_20 : decode cX9_raw 20 = .ok (.iload_n 2, 1) := by decide +kernel
theorem dX9_raw_21 : decode cX9_raw 21 = .ok (.bipush 56, 2) := by decide +kernel
theorem dX9_raw_23 : decode cX9_raw 23 = .ok (.invokevirtual 144, 3) := by decide +kernel
theorem dX9_raw_26 : decode cX9_raw 26 = .ok (.ireturn, 1) := by decide +kernel
theorem dX9_known_0 : decode cX9_known 0 = .ok (.aload_n 0, 1) := by decide +kernel
theorem dX9_known_1 : decode cX9_known 1 = .ok (.iload_n 1, 1) := by decide +kernel
theorem dX9_known_2 : decode cX9_known 2 = .ok (.iload_n 2, 1) := by decide +kernel
theorem dX9_known_3 : decode cX9_known 3 = .ok (.invokevirtual 141, 3) := by decide +kernel
theorem dX9_known_6 : decode cX9_known 6 = .ok (.istore 4, 2) := by decide +kernel
theorem dX9_known_8 : decode cX9_known 8 = .ok (.iload 4, 2) := by decide +kernel
theorem dX9_known_10 : decode cX9_known 10 = .ok (.ifCond .eq 8, 3) := by decide +kernel
theorem dX9_known_13 : decode cX9_known 13 = .ok (.iload 4, 2) := by decide +kernel
theorem dX9_known_15 : decode cX9_known 15 = .ok (.goto 13, 3) := by decide +kernel
theorem dX9_known_18 : decode cX9_known 18 = .ok (.aload_n 0, 1) := by decide +kernel
theorem dX9_known_19 : decode cX9_known 19 = .ok (.getfield 10, 3) := by decide +kernel
theorem dX9_known_22 : decode cX9_known 22 = .ok (.iload_n 1, 1) := by decide +kernel
theorem dX9_known_23 : decode cX9_known 23 = .ok (.iload_n 2, 1) := by decide +kernel
theorem dX9_known_24 : decode cX9_known 24 = .ok (.iload_n 3, 1) := by decide +kernel
theorem dX9_known_25 : decode cX9_known 25 = .ok (.invokevirtual 144, 3) := by decide +kernel
theorem dX9_known_28 : decode cX9_known 28 = .ok (.ireturn, 1) := by decide +kernel
theorem dX9_why_0 : decode cX9_why 0 = .ok (.aload_n 0, 1) := by decide +kernel
theorem dX9_why_1 : decode cX9_why 1 = .ok (.iload_n 1, 1) := by decide +kernel
theorem dX9_why_2 : decode cX9_why 2 = .ok (.iload_n 2, 1) := by decide +kernel
theorem dX9_why_3 : decode cX9_why 3 = .ok (.invokevirtual 141, 3) := by decide +kernel
theorem dX9_why_6 : decode cX9_why 6 = .ok (.istore_n 3, 1) := by decide +kernel
theorem dX9_why_7 : decode cX9_why 7 = .ok (.iload_n 3, 1) := by decide +kernel
theorem dX9_why_8 : decode cX9_why 8 = .ok (.ifCond .eq 7, 3) := by decide +kernel
theorem dX9_why_11 : decode cX9_why 11 = .ok (.iload_n 3, 1) := by decide +kernel
theorem dX9_why_12 : decode cX9_why 12 = .ok (.goto 12, 3) := by decide +kernel
theorem dX9_why_15 : decode cX9_why 15 = .ok (.aload_n 0, 1) := by decide +kernel
theorem dX9_why_16 : decode cX9_why 16 = .ok (.invokevirtual 147, 3) := by decide +kernel
theorem dX9_why_19 : decode cX9_why 19 = .ok (.iload_n 1, 1) := by decide +kernel
theorem dX9_why_20 : decode cX9_why 20 = .ok (.iload_n 2, 1) := by decide +kernel
theorem dX9_why_21 : decode cX9_why 21 = .ok (.invokevirtual 151, 3) := by decide +kernel
theorem dX9_why_24 : decode cX9_why 24 = .ok (.ireturn, 1) := by decide +kernel
theorem dX9_state_0 : decode cX9_state 0 = .ok (.aload_n 0, 1) := by decide +kernel
theorem dX9_state_1 : decode cX9_state 1 = .ok (.iload_n 1, 1) := by decide +kernel
theorem dX9_state_2 : decode cX9_state 2 = .ok (.iload_n 2, 1) := by decide +kernel
theorem dX9_state_3 : decode cX9_state 3 = .ok (.invokevirtual 141, 3) := by decide +kernel
theorem dX9_state_6 : decode cX9_state 6 = .ok (.istore_n 3, 1) := by decide +kernel
theorem dX9_state_7 : decode cX9_state 7 = .ok (.iload_n 3, 1) := by decide +kernel
theorem dX9_state_8 : decode cX9_state 8 = .ok (.ifCond .eq 5, 3) := by decide +kernel
theorem dX9_state_11 : decode cX9_state 11 = .ok (.iload_n 3, 1) := by decide +kernel
theorem dX9_state_12 : decode cX9_state 12 = .ok (.ireturn, 1) := by decide +kernel
theorem dX9_state_13 : decode cX9_state 13 = .ok (.aload_n 0, 1) := by decide +kernel
theorem dX9_state_14 : decode cX9_state 14 = .ok (.invokevirtual 147, 3) := by decide +kernel
theorem dX9_state_17 : decode cX9_state 17 = .ok (.astore 4, 2) := by decide +kernel
theorem dX9_state_19 : decode cX9_state 19 = .ok (.aload 4, 2) := by decide +kernel
theorem dX9_state_21 : decode cX9_state 21 = .ok (.iload_n 1, 1) := by decide +kernel
theorem dX9_state_22 : decode cX9_state 22 = .ok (.iload_n 2, 1) := by decide +kernel
theorem dX9_state_23 : decode cX9_state 23 = .ok (.invokevirtual 154, 3) := by decide +kernel
theorem dX9_state_26 : decode cX9_state 26 = .ok (.iconst (-1), 1) := by decide +kernel
theorem dX9_state_27 : decode cX9_state 27 = .ok (.if_icmp .eq 25, 3) := by decide +kernel
theorem dX9_state_30 : decode cX9_state 30 = .ok (.aload_n 0, 1) := by decide +kernel
theorem dX9_state_31 : decode cX9_state 31 = .ok (.getfield 10, 3) := by decide +kernel
theorem dX9_state_34 : decode cX9_state 34 = .ok (.getfield 57, 3) := by decide +kernel
theorem dX9_state_37 : decode cX9_state 37 = .ok (.iload_n 1, 1) := by decide +kernel
theorem dX9_state_38 : decode cX9_state 38 = .ok (.aaload, 1) := by decide +kernel
theorem dX9_state_39 : decode cX9_state 39 = .ok (.getfield 61, 3) := by decide +kernel
theorem dX9_state_42 : decode cX9_state 42 = .ok (.iconst 3, 1) := by decide +kernel
theorem dX9_state_43 : decode cX9_state 43 = .ok (.if_icmp .ne 7, 3) := by decide +kernel
theorem dX9_state_46 : decode cX9_state 46 = .ok (.iconst 4, 1) := by decide +kernel
theorem dX9_state_47 : decode cX9_state 47 = .ok (.goto 4, 3) := by decide +kernel
theorem dX9_state_50 : decode cX9_state 50 = .ok (.iconst 1, 1) := by decide +kernel
theorem dX9_state_51 : decode cX9_state 51 = .ok (.ireturn, 1) := by decide +kernel
theorem dX9_state_52 : decode cX9_state 52 = .ok (.aload_n 0, 1) := by decide +kernel
theorem dX9_state_53 : decode cX9_state 53 = .ok (.getfield 28, 3) := by decide +kernel
theorem dX9_state_56 : decode cX9_state 56 = .ok (.aload 4, 2) := by decide +kernel
theorem dX9_state_58 : decode cX9_state 58 = .ok (.iload_n 1, 1) := by decide +kernel
theorem dX9_state_59 : decode cX9_state 59 = .ok (.iload_n 2, 1) := by decide +kernel
theorem dX9_state_60 : decode cX9_state 60 = .ok (.invokevirtual 157, 3) := by decide +kernel
theorem dX9_state_63 : decode cX9_state 63 = .ok (.ifCond .le 5, 3) := by decide +kernel
theorem dX9_state_66 : decode cX9_state 66 = .ok (.iconst 3, 1) := by decide +kernel
theorem dX9_state_67 : decode cX9_state 67 = .ok (.ireturn, 1) := by decide +kernel
theorem dX9_state_68 : decode cX9_state 68 = .ok (.aload 4, 2) := by decide +kernel
theorem dX9_state_70 : decode cX9_state 70 = .ok (.iload_n 1, 1) := by decide +kernel
theorem dX9_state_71 : decode cX9_state 71 = .ok (.iload_n 2, 1) := by decide +kernel
theorem dX9_state_72 : decode cX9_state 72 = .ok (.invokevirtual 151, 3) := by decide +kernel
theorem dX9_state_75 : decode cX9_state 75 = .ok (.ifCond .ne 7, 3) := by decide +kernel
theorem dX9_state_78 : decode cX9_state 78 = .ok (.iconst 0, 1) := by decide +kernel
theorem dX9_state_79 : decode cX9_state 79 = .ok (.goto 4, 3) := by decide +kernel
theorem dX9_state_82 : decode cX9_state 82 = .ok (.iconst 2, 1) := by decide +kernel
theorem dX9_state_83 : decode cX9_state 83 = .ok (.ireturn, 1) := by decide +kernel
theorem dX9_number_0 : decode cX9_number 0 = .ok (.aload_n 0, 1) := by decide +kernel
theorem dX9_number_1 : decode cX9_number 1 = .ok (.iload_n 1, 1) := by decide +kernel
theorem dX9_number_2 : decode cX9_number 2 = .ok (.iload_n 2, 1) := by decide +kernel
theorem dX9_number_3 : decode cX9_number 3 = .ok (.invokevirtual 141, 3) := by decide +kernel
theorem dX9_number_6 : decode cX9_number 6 = .ok (.istore_n 3, 1) := by decide +kernel
theorem dX9_number_7 : decode cX9_number 7 = .ok (.iload_n 3, 1) := by decide +kernel
theorem dX9_number_8 : decode cX9_number 8 = .ok (.ifCond .eq 5, 3) := by decide +kernel
theorem dX9_number_11 : decode cX9_number 11 = .ok (.iload_n 3, 1) := by decide +kernel
theorem dX9_number_12 : decode cX9_number 12 = .ok (.ireturn, 1) := by decide +kernel
theorem dX9_number_13 : decode cX9_number 13 = .ok (.aload_n 0, 1) := by decide +kernel
theorem dX9_number_14 : decode cX9_number 14 = .ok (.invokevirtual 147, 3) := by decide +kernel
theorem dX9_number_17 : decode cX9_number 17 = .ok (.astore 4, 2) := by decide +kernel
theorem dX9_number_19 : decode cX9_number 19 = .ok (.aload 4, 2) := by decide +kernel
theorem dX9_number_21 : decode cX9_number 21 = .ok (.iload_n 1, 1) := by decide +kernel
theorem dX9_number_22 : decode cX9_number 22 = .ok (.iload_n 2, 1) := by decide +kernel
theorem dX9_number_23 : decode cX9_number 23 = .ok (.invokevirtual 154, 3) := by decide +kernel
theorem dX9_number_26 : decode cX9_number 26 = .ok (.istore 5, 2) := by decide +kernel
theorem dX9_number_28 : decode cX9_number 28 = .ok (.iload 5, 2) := by decide +kernel
theorem dX9_number_30 : decode cX9_number 30 = .ok (.iconst (-1), 1) := by decide +kernel
theorem dX9_number_31 : decode cX9_number 31 = .ok (.if_icmp .eq 6, 3) := by decide +kernel
theorem dX9_number_34 : decode cX9_number 34 = .ok (.iload 5, 2) := by decide +kernel
theorem dX9_number_36 : decode cX9_number 36 = .ok (.ireturn, 1) := by decide +kernel
theorem dX9_number_37 : decode cX9_number 37 = .ok (.aload_n 0, 1) := by decide +kernel
theorem dX9_number_38 : decode cX9_number 38 = .ok (.getfield 28, 3) := by decide +kernel
theorem dX9_number_41 : decode cX9_number 41 = .ok (.aload 4, 2) := by decide +kernel
theorem dX9_number_43 : decode cX9_number 43 = .ok (.iload_n 1, 1) := by decide +kernel
theorem dX9_number_44 : decode cX9_number 44 = .ok (.iload_n 2, 1) := by decide +kernel
theorem dX9_number_45 : decode cX9_number 45 = .ok (.invokevirtual 161, 3) := by decide +kernel
theorem dX9_number_48 : decode cX9_number 48 = .ok (.istore 6, 2) := by decide +kernel
theorem dX9_number_50 : decode cX9_number 50 = .ok (.iload 6, 2) := by decide +kernel
theorem dX9_number_52 : decode cX9_number 52 = .ok (.iconst (-1), 1) := by decide +kernel
theorem dX9_number_53 : decode cX9_number 53 = .ok (.if_icmp .eq 8, 3) := by decide +kernel
theorem dX9_number_56 : decode cX9_number 56 = .ok (.iload 6, 2) := by decide +kernel
theorem dX9_number_58 : decode cX9_number 58 = .ok (.goto 14, 3) := by decide +kernel
theorem dX9_number_61 : decode cX9_number 61 = .ok (.aload_n 0, 1) := by decide +kernel
theorem dX9_number_62 : decode cX9_number 62 = .ok (.getfield 10, 3) := by decide +kernel
theorem dX9_number_65 : decode cX9_number 65 = .ok (.iload_n 1, 1) := by decide +kernel
theorem dX9_number_66 : decode cX9_number 66 = .ok (.iload_n 2, 1) := by decide +kernel
theorem dX9_number_67 : decode cX9_number 67 = .ok (.bipush 56, 2) := by decide +kernel
theorem dX9_number_69 : decode cX9_number 69 = .ok (.invokevirtual 144, 3) := by decide +kernel
theorem dX9_number_72 : decode cX9_number 72 = .ok (.ireturn, 1) := by decide +kernel
theorem dX9_from_0 : decode cX9_from 0 = .ok (.aload_n 0, 1) := by decide +kernel
theorem dX9_from_1 : decode cX9_from 1 = .ok (.iload_n 1, 1) := by decide +kernel
theorem dX9_from_2 : decode cX9_from 2 = .ok (.invokevirtual 117, 3) := by decide +kernel
theorem dX9_from_5 : decode cX9_from 5 = .ok (.istore 4, 2) := by decide +kernel
theorem dX9_from_7 : decode cX9_from 7 = .ok (.iload 4, 2) := by decide +kernel
theorem dX9_from_9 : decode cX9_from 9 = .ok (.ifCond .eq 6, 3) := by decide +kernel
theorem dX9_from_12 : decode cX9_from 12 = .ok (.iload 4, 2) := by decide +kernel
theorem dX9_from_14 : decode cX9_from 14 = .ok (.ireturn, 1) := by decide +kernel
theorem dX9_from_15 : decode cX9_from 15 = .ok (.aload_n 0, 1) := by decide +kernel
theorem dX9_from_16 : decode cX9_from 16 = .ok (.getfield 28, 3) := by decide +kernel
theorem dX9_from_19 : decode cX9_from 19 = .ok (.aload_n 0, 1) := by decide +kernel
theorem dX9_from_20 : decode cX9_from 20 = .ok (.invokevirtual 147, 3) := by decide +kernel
theorem dX9_from_23 : decode cX9_from 23 = .ok (.iload_n 1, 1) := by decide +kernel
theorem dX9_from_24 : decode cX9_from 24 = .ok (.iload_n 2, 1) := by decide +kernel
theorem dX9_from_25 : decode cX9_from 25 = .ok (.invokevirtual 157, 3) := by decide +kernel
theorem dX9_from_28 : decode cX9_from 28 = .ok (.istore 5, 2) := by decide +kernel
theorem dX9_from_30 : decode cX9_from 30 = .ok (.iload_n 3, 1) := by decide +kernel
theorem dX9_from_31 : decode cX9_from 31 = .ok (.ifCond .lt 23, 3) := by decide +kernel
theorem dX9_from_34 : decode cX9_from 34 = .ok (.iload_n 3, 1) := by decide +kernel
theorem dX9_from_35 : decode cX9_from 35 = .ok (.iload 5, 2) := by decide +kernel
theorem dX9_from_37 : decode cX9_from 37 = .ok (.if_icmp .ge 17, 3) := by decide +kernel
theorem dX9_from_40 : decode cX9_from 40 = .ok (.aload_n 0, 1) := by decide +kernel
theorem dX9_from_41 : decode cX9_from 41 = .ok (.getfield 28, 3) := by decide +kernel
theorem dX9_from_44 : decode cX9_from 44 = .ok (.getfield 164, 3) := by decide +kernel
theorem dX9_from_47 : decode cX9_from 47 = .ok (.iload_n 3, 1) := by decide +kernel
theorem dX9_from_48 : decode cX9_from 48 = .ok (.invokevirtual 168, 3) := by decide +kernel
theorem dX9_from_51 : decode cX9_from 51 = .ok (.goto 4, 3) := by decide +kernel
theorem dX9_from_54 : decode cX9_from 54 = .ok (.iconst (-1), 1) := by decide +kernel
theorem dX9_from_55 : decode cX9_from 55 = .ok (.ireturn, 1) := by decide +kernel
theorem dX9_part_0 : decode cX9_part 0 = .ok (.iload_n 1, 1) := by decide +kernel
theorem dX9_part_1 : decode cX9_part 1 = .ok (.iload_n 2, 1) := by decide +kernel
theorem dX9_part_2 : decode cX9_part 2 = .ok (.invokestatic 50, 3) := by decide +kernel
theorem dX9_part_5 : decode cX9_part 5 = .ok (.ifCond .eq 20, 3) := by decide +kernel
theorem dX9_part_8 : decode cX9_part 8 = .ok (.aload_n 0, 1) := by decide +kernel
theorem dX9_part_9 : decode cX9_part 9 = .ok (.getfield 35, 3) := by decide +kernel
theorem dX9_part_12 : decode cX9_part 12 = .ok (.aload_n 0, 1) := by decide +kernel
theorem dX9_part_13 : decode cX9_part 13 = .ok (.invokevirtual 147, 3) := by decide +kernel
theorem dX9_part_16 : decode cX9_part 16 = .ok (.iload_n 1, 1) := by decide +kernel
theorem dX9_part_17 : decode cX9_part 17 = .ok (.iload_n 2, 1) := by decide +kernel
theorem dX9_part_18 : decode cX9_part 18 = .ok (.iload_n 3, 1) := by decide +kernel
theorem dX9_part_19 : decode cX9_part 19 = .ok (.invokevirtual 173, 3) := by decide +kernel
theorem dX9_part_22 : decode cX9_part 22 = .ok (.goto 4, 3) := by decide +kernel
theorem dX9_part_25 : decode cX9_part 25 = .ok (.iconst (-1), 1) := by decide +kernel
theorem dX9_part_26 : decode cX9_part 26 = .ok (.ireturn, 1) := by decide +kernel
theorem dX9_squares_0 : decode cX9_squares 0 = .ok (.aload_n 0, 1) := by decide +kernel
theorem dX9_squares_1 : decode cX9_squares 1 = .ok (.iload_n 1, 1) := by decide +kernel
theorem dX9_squares_2 : decode cX9_squares 2 = .ok (.iload_n 2, 1) := by decide +kernel
theorem dX9_squares_3 : decode cX9_squares 3 = .ok (.invokevirtual 141, 3) := by decide +kernel
theorem dX9_squares_6 : decode cX9_squares 6 = .ok (.istore_n 3, 1) := by decide +kernel
theorem dX9_squares_7 : decode cX9_squares 7 = .ok (.iload_n 3, 1) := by decide +kernel
theorem dX9_squares_8 : decode cX9_squares 8 = .ok (.ifCond .eq 7, 3) := by decide +kernel
theorem dX9_squares_11 : decode cX9_squares 11 = .ok (.iload_n 3, 1) := by decide +kernel
theorem dX9_squares_12 : decode cX9_squares 12 = .ok (.goto 16, 3) := by decide +kernel
theorem dX9_squares_15 : decode cX9_squares 15 = .ok (.aload_n 0, 1) := by decide +kernel
theorem dX9_squares_16 : decode cX9_squares 16 = .ok (.getfield 35, 3) := by decide +kernel
theorem dX9_squares_19 : decode cX9_squares 19 = .ok (.aload_n 0, 1) := by decide +kernel
theorem dX9_squares_20 : decode cX9_squares 20 = .ok (.invokevirtual 147, 3) := by decide +kernel
theorem dX9_squares_23 : decode cX9_squares 23 = .ok (.iload_n 1, 1) := by decide +kernel
theorem dX9_squares_24 : decode cX9_squares 24 = .ok (.iload_n 2, 1) := by decide +kernel
theorem dX9_squares_25 : decode cX9_squares 25 = .ok (.invokevirtual 177, 3) := by decide +kernel
theorem dX9_squares_28 : decode cX9_squares 28 = .ok (.ireturn, 1) := by decide +kernel
theorem dX9_valley_0 : decode cX9_valley 0 = .ok (.iload_n 1, 1) := by decide +kernel
theorem dX9_valley_1 : decode cX9_valley 1 = .ok (.invokestatic 180, 3) := by decide +kernel
theorem dX9_valley_4 : decode cX9_valley 4 = .ok (.ifCond .eq 11, 3) := by decide +kernel
theorem dX9_valley_7 : decode cX9_valley 7 = .ok (.iload_n 2, 1) := by decide +kernel
theorem dX9_valley_8 : decode cX9_valley 8 = .ok (.iload_n 3, 1) := by decide +kernel
theorem dX9_valley_9 : decode cX9_valley 9 = .ok (.invokestatic 50, 3) := by decide +kernel
theorem dX9_valley_12 : decode cX9_valley 12 = .ok (.ifCond .ne 5, 3) := by decide +kernel
theorem dX9_valley_15 : decode cX9_valley 15 = .ok (.iconst (-1), 1) := by decide +kernel
theorem dX9_valley_16 : decode cX9_valley 16 = .ok (.ireturn, 1) := by decide +kernel
theorem dX9_valley_17 : decode cX9_valley 17 = .ok (.aload_n 0, 1) := by decide +kernel
theorem dX9_valley_18 : decode cX9_valley 18 = .ok (.getfield 35, 3) := by decide +kernel
theorem dX9_valley_21 : decode cX9_valley 21 = .ok (.getfield 183, 3) := by decide +kernel
theorem dX9_valley_24 : decode cX9_valley 24 = .ok (.iload_n 1, 1) := by decide +kernel
theorem dX9_valley_25 : decode cX9_valley 25 = .ok (.aaload, 1) := by decide +kernel
theorem dX9_valley_26 : decode cX9_valley 26 = .ok (.iload_n 2, 1) := by decide +kernel
theorem dX9_valley_27 : decode cX9_valley 27 = .ok (.iload_n 3, 1) := by decide +kernel
theorem dX9_valley_28 : decode cX9_valley 28 = .ok (.bipush 10, 2) := by decide +kernel
theorem dX9_valley_30 : decode cX9_valley 30 = .ok (.imul, 1) := by decide +kernel
theorem dX9_valley_31 : decode cX9_valley 31 = .ok (.iadd, 1) := by decide +kernel
theorem dX9_valley_32 : decode cX9_valley 32 = .ok (.iload 4, 2) := by decide +kernel
theorem dX9_valley_34 : decode cX9_valley 34 = .ok (.invokevirtual 187, 3) := by decide +kernel
theorem dX9_valley_37 : decode cX9_valley 37 = .ok (.ireturn, 1) := by decide +kernel
theorem dX9_rain_0 : decode cX9_rain 0 = .ok (.iload_n 1, 1) := by decide +kernel
theorem dX9_rain_1 : decode cX9_rain 1 = .ok (.invokestatic 180, 3) := by decide +kernel
theorem dX9_rain_4 : decode cX9_rain 4 = .ok (.ifCond .eq 27, 3) := by decide +kernel
theorem dX9_rain_7 : decode cX9_rain 7 = .ok (.aload_n 0, 1) := by decide +kernel
theorem dX9_rain_8 : decode cX9_rain 8 = .ok (.getfield 35, 3) := by decide +kernel
theorem dX9_rain_11 : decode cX9_rain 11 = .ok (.aload_n 0, 1) := by decide +kernel
theorem dX9_rain_12 : decode cX9_rain 12 = .ok (.invokevirtual 147, 3) := by decide +kernel
theorem dX9_rain_15 : decode cX9_rain 15 = .ok (.aload_n 0, 1) := by decide +kernel
theorem dX9_rain_16 : decode cX9_rain 16 = .ok (.getfield 35, 3) := by decide +kernel
theorem dX9_rain_19 : decode cX9_rain 19 = .ok (.getfield 183, 3) := by decide +kernel
theorem dX9_rain_22 : decode cX9_rain 22 = .ok (.iload_n 1, 1) := by decide +kernel
theorem dX9_rain_23 : decode cX9_rain 23 = .ok (.aaload, 1) := by decide +kernel
theorem dX9_rain_24 : decode cX9_rain 24 = .ok (.iload_n 2, 1) := by decide +kernel
theorem dX9_rain_25 : decode cX9_rain 25 = .ok (.invokevirtual 193, 3) := by decide +kernel
theorem dX9_rain_28 : decode cX9_rain 28 = .ok (.goto 4, 3) := by decide +kernel
theorem dX9_rain_31 : decode cX9_rain 31 = .ok (.iconst (-1), 1) := by decide +kernel
theorem dX9_rain_32 : decode cX9_rain 32 = .ok (.ireturn, 1) := by decide +kernel
theorem dX9_mean_0 : decode cX9_mean 0 = .ok (.iload_n 1, 1) := by decide +kernel
theorem dX9_mean_1 : decode cX9_mean 1 = .ok (.invokestatic 180, 3) := by decide +kernel
theorem dX9_mean_4 : decode cX9_mean 4 = .ok (.ifCond .ne 5, 3) := by decide +kernel
theorem dX9_mean_7 : decode cX9_mean 7 = .ok (.iconst (-1), 1) := by decide +kernel
theorem dX9_mean_8 : decode cX9_mean 8 = .ok (.ireturn, 1) := by decide +kernel
theorem dX9_mean_9 : decode cX9_mean 9 = .ok (.aload_n 0, 1) := by decide +kernel
theorem dX9_mean_10 : decode cX9_mean 10 = .ok (.getfield 35, 3) := by decide +kernel
theorem dX9_mean_13 : decode cX9_mean 13 = .ok (.getfield 183, 3) := by decide +kernel
theorem dX9_mean_16 : decode cX9_mean 16 = .ok (.iload_n 1, 1) := by decide +kernel
theorem dX9_mean_17 : decode cX9_mean 17 = .ok (.aaload, 1) := by decide +kernel
theorem dX9_mean_18 : decode cX9_mean 18 = .ok (.astore_n 3, 1) := by decide +kernel
theorem dX9_mean_19 : decode cX9_mean 19 = .ok (.aload_n 0, 1) := by decide +kernel
theorem dX9_mean_20 : decode cX9_mean 20 = .ok (.getfield 35, 3) := by decide +kernel
theorem dX9_mean_23 : decode cX9_mean 23 = .ok (.aload_n 0, 1) := by decide +kernel
theorem dX9_mean_24 : decode cX9_mean 24 = .ok (.invokevirtual 147, 3) := by decide +kernel
theorem dX9_mean_27 : decode cX9_mean 27 = .ok (.aload_n 3, 1) := by decide +kernel
theorem dX9_mean_28 : decode cX9_mean 28 = .ok (.iload_n 2, 1) := by decide +kernel
theorem dX9_mean_29 : decode cX9_mean 29 = .ok (.invokevirtual 193, 3) := by decide +kernel
theorem dX9_mean_32 : decode cX9_mean 32 = .ok (.istore 4, 2) := by decide +kernel
theorem dX9_mean_34 : decode cX9_mean 34 = .ok (.iload 4, 2) := by decide +kernel
theorem dX9_mean_36 : decode cX9_mean 36 = .ok (.iconst (-1), 1) := by decide +kernel
theorem dX9_mean_37 : decode cX9_mean 37 = .ok (.if_icmp .eq 11, 3) := by decide +kernel
theorem dX9_mean_40 : decode cX9_mean 40 = .ok (.aload_n 3, 1) := by decide +kernel
theorem dX9_mean_41 : decode cX9_mean 41 = .ok (.getfield 197, 3) := by decide +kernel
theorem dX9_mean_44 : decode cX9_mean 44 = .ok (.iconst 1, 1) := by decide +kernel
theorem dX9_mean_45 : decode cX9_mean 45 = .ok (.if_icmp .ge 7, 3) := by decide +kernel
theorem dX9_mean_48 : decode cX9_mean 48 = .ok (.iconst (-1), 1) := by decide +kernel
theorem dX9_mean_49 : decode cX9_mean 49 = .ok (.goto 14, 3) := by decide +kernel
theorem dX9_mean_52 : decode cX9_mean 52 = .ok (.iload 4, 2) := by decide +kernel
theorem dX9_mean_54 : decode cX9_mean 54 = .ok (.sipush 1000, 3) := by decide +kernel
theorem dX9_mean_57 : decode cX9_mean 57 = .ok (.imul, 1) := by decide +kernel
theorem dX9_mean_58 : decode cX9_mean 58 = .ok (.aload_n 3, 1) := by decide +kernel
theorem dX9_mean_59 : decode cX9_mean 59 = .ok (.getfield 197, 3) := by decide +kernel
theorem dX9_mean_62 : decode cX9_mean 62 = .ok (.idiv, 1) := by decide +kernel
theorem dX9_mean_63 : decode cX9_mean 63 = .ok (.ireturn, 1) := by decide +kernel
theorem dX9_flow_0 : decode cX9_flow 0 = .ok (.iload_n 1, 1) := by decide +kernel
theorem dX9_flow_1 : decode cX9_flow 1 = .ok (.invokestatic 180, 3) := by decide +kernel
theorem dX9_flow_4 : decode cX9_flow 4 = .ok (.ifCond .eq 13, 3) := by decide +kernel
theorem dX9_flow_7 : decode cX9_flow 7 = .ok (.iload_n 2, 1) := by decide +kernel
theorem dX9_flow_8 : decode cX9_flow 8 = .ok (.ifCond .lt 9, 3) := by decide +kernel
theorem dX9_flow_11 : decode cX9_flow 11 = .ok (.iload_n 2, 1) := by decide +kernel
theorem dX9_flow_12 : decode cX9_flow 12 = .ok (.bipush 64, 2) := by decide +kernel
theorem dX9_flow_14 : decode cX9_flow 14 = .ok (.if_icmp .lt 7, 3) := by decide +kernel
theorem dX9_flow_17 : decode cX9_flow 17 = .ok (.ldc2_w 200, 3) := by decide +kernel
theorem dX9_flow_20 : decode cX9_flow 20 = .ok (.lreturn, 1) := by decide +kernel
theorem dX9_flow_21 : decode cX9_flow 21 = .ok (.aload_n 0, 1) := by decide +kernel
theorem dX9_flow_22 : decode cX9_flow 22 = .ok (.getfield 35, 3) := by decide +kernel
theorem dX9_flow_25 : decode cX9_flow 25 = .ok (.aload_n 0, 1) := by decide +kernel
theorem dX9_flow_26 : decode cX9_flow 26 = .ok (.invokevirtual 147, 3) := by decide +kernel
theorem dX9_flow_29 : decode cX9_flow 29 = .ok (.aload_n 0, 1) := by decide +kernel
theorem dX9_flow_30 : decode cX9_flow 30 = .ok (.getfield 35, 3) := by decide +kernel
theorem dX9_flow_33 : decode cX9_flow 33 = .ok (.getfield 183, 3) := by decide +kernel
theorem dX9_flow_36 : decode cX9_flow 36 = .ok (.iload_n 1, 1) := by decide +kernel
theorem dX9_flow_37 : decode cX9_flow 37 = .ok (.aaload, 1) := by decide +kernel
theorem dX9_flow_38 : decode cX9_flow 38 = .ok (.iload_n 2, 1) := by decide +kernel
theorem dX9_flow_39 : decode cX9_flow 39 = .ok (.invokevirtual 202, 3) := by decide +kernel
theorem dX9_flow_42 : decode cX9_flow 42 = .ok (.lreturn, 1) := by decide +kernel
theorem dX9_ahead_0 : decode cX9_ahead 0 = .ok (.iload_n 1, 1) := by decide +kernel
theorem dX9_ahead_1 : decode cX9_ahead 1 = .ok (.invokestatic 180, 3) := by decide +kernel
theorem dX9_ahead_4 : decode cX9_ahead 4 = .ok (.ifCond .ne 5, 3) := by decide +kernel
theorem dX9_ahead_7 : decode cX9_ahead 7 = .ok (.iconst (-1), 1) := by decide +kernel
theorem dX9_ahead_8 : decode cX9_ahead 8 = .ok (.ireturn, 1) := by decide +kernel
theorem dX9_ahead_9 : decode cX9_ahead 9 = .ok (.aload_n 0, 1) := by decide +kernel
theorem dX9_ahead_10 : decode cX9_ahead 10 = .ok (.invokevirtual 147, 3) := by decide +kernel
theorem dX9_ahead_13 : decode cX9_ahead 13 = .ok (.astore 4, 2) := by decide +kernel
theorem dX9_ahead_15 : decode cX9_ahead 15 = .ok (.aload_n 0, 1) := by decide +kernel
theorem dX9_ahead_16 : decode cX9_ahead 16 = .ok (.getfield 10, 3) := by decide +kernel
theorem dX9_ahead_19 : decode cX9_ahead 19 = .ok (.getfield 67, 3) := by decide +kernel
theorem dX9_ahead_22 : decode cX9_ahead 22 = .ok (.istore 5, 2) := by decide +kernel
theorem dX9_ahead_24 : decode cX9_ahead 24 = .ok (.iload 5, 2) := by decide +kernel
theorem dX9_ahead_26 : decode cX9_ahead 26 = .ok (.bipush 64, 2) := by decide +kernel
theorem dX9_ahead_28 : decode cX9_ahead 28 = .ok (.if_icmp .ge 37, 3) := by decide +kernel
theorem dX9_ahead_31 : decode cX9_ahead 31 = .ok (.aload_n 0, 1) := by decide +kernel
theorem dX9_ahead_32 : decode cX9_ahead 32 = .ok (.getfield 35, 3) := by decide +kernel
theorem dX9_ahead_35 : decode cX9_ahead 35 = .ok (.aload 4, 2) := by decide +kernel
theorem dX9_ahead_37 : decode cX9_ahead 37 = .ok (.aload_n 0, 1) := by decide +kernel
theorem dX9_ahead_38 : decode cX9_ahead 38 = .ok (.getfield 35, 3) := by decide +kernel
theorem dX9_ahead_41 : decode cX9_ahead 41 = .ok (.getfield 183, 3) := by decide +kernel
theorem dX9_ahead_44 : decode cX9_ahead 44 = .ok (.iload_n 1, 1) := by decide +kernel
theorem dX9_ahead_45 : decode cX9_ahead 45 = .ok (.aaload, 1) := by decide +kernel
theorem dX9_ahead_46 : decode cX9_ahead 46 = .ok (.iload 5, 2) := by decide +kernel
theorem dX9_ahead_48 : decode cX9_ahead 48 = .ok (.invokevirtual 202, 3) := by decide +kernel
theorem dX9_ahead_51 : decode cX9_ahead 51 = .ok (.lload_n 2, 1) := by decide +kernel
theorem dX9_ahead_52 : decode cX9_ahead 52 = .ok (.lcmp, 1) := by decide +kernel
theorem dX9_ahead_53 : decode cX9_ahead 53 = .ok (.ifCond .le 6, 3) := by decide +kernel
theorem dX9_ahead_56 : decode cX9_ahead 56 = .ok (.iload 5, 2) := by decide +kernel
theorem dX9_ahead_58 : decode cX9_ahead 58 = .ok (.ireturn, 1) := by decide +kernel
theorem dX9_ahead_59 : decode cX9_ahead 59 = .ok (.iinc 5 1, 3) := by decide +kernel
theorem dX9_ahead_62 : decode cX9_ahead 62 = .ok (.goto (-38), 3) := by decide +kernel
theorem dX9_ahead_65 : decode cX9_ahead 65 = .ok (.iconst (-1), 1) := by decide +kernel
theorem dX9_ahead_66 : decode cX9_ahead 66 = .ok (.ireturn, 1) := by decide +kernel
theorem dX9_week_0 : decode cX9_week 0 = .ok (.aload_n 0, 1) := by decide +kernel
theorem dX9_week_1 : decode cX9_week 1 = .ok (.iload_n 1, 1) := by decide +kernel
theorem dX9_week_2 : decode cX9_week 2 = .ok (.invokevirtual 117, 3) := by decide +kernel
theorem dX9_week_5 : decode cX9_week 5 = .ok (.istore 4, 2) := by decide +kernel
theorem dX9_week_7 : decode cX9_week 7 = .ok (.iload 4, 2) := by decide +kernel
theorem dX9_week_9 : decode cX9_week 9 = .ok (.ifCond .eq 6, 3) := by decide +kernel
theorem dX9_week_12 : decode cX9_week 12 = .ok (.iload 4, 2) := by decide +kernel
theorem dX9_week_14 : decode cX9_week 14 = .ok (.ireturn, 1) := by decide +kernel
theorem dX9_week_15 : decode cX9_week 15 = .ok (.iload_n 2, 1) := by decide +kernel
theorem dX9_week_16 : decode cX9_week 16 = .ok (.ifCond .lt 18, 3) := by decide +kernel
theorem dX9_week_19 : decode cX9_week 19 = .ok (.iload_n 2, 1) := by decide +kernel
theorem dX9_week_20 : decode cX9_week 20 = .ok (.bipush 8, 2) := by decide +kernel
theorem dX9_week_22 : decode cX9_week 22 = .ok (.if_icmp .ge 12, 3) := by decide +kernel
theorem dX9_week_25 : decode cX9_week 25 = .ok (.iload_n 3, 1) := by decide +kernel
theorem dX9_week_26 : decode cX9_week 26 = .ok (.ifCond .lt 8, 3) := by decide +kernel
theorem dX9_week_29 : decode cX9_week 29 = .ok (.iload_n 3, 1) := by decide +kernel
theorem dX9_week_30 : decode cX9_week 30 = .ok (.iconst 1, 1) := by decide +kernel
theorem dX9_week_31 : decode cX9_week 31 = .ok (.if_icmp .le 5, 3) := by decide +kernel
theorem dX9_week_34 : decode cX9_week 34 = .ok (.iconst (-1), 1) := by decide +kernel
theorem dX9_week_35 : decode cX9_week 35 = .ok (.ireturn, 1) := by decide +kernel
theorem dX9_week_36 : decode cX9_week 36 = .ok (.aload_n 0, 1) := by decide +kernel
theorem dX9_week_37 : decode cX9_week 37 = .ok (.getfield 42, 3) := by decide +kernel
theorem dX9_week_40 : decode cX9_week 40 = .ok (.aload_n 0, 1) := by decide +kernel
theorem dX9_week_41 : decode cX9_week 41 = .ok (.invokevirtual 147, 3) := by decide +kernel
theorem dX9_week_44 : decode cX9_week 44 = .ok (.iload_n 1, 1) := by decide +kernel
theorem dX9_week_45 : decode cX9_week 45 = .ok (.invokevirtual 206, 3) := by decide +kernel
theorem dX9_week_48 : decode cX9_week 48 = .ok (.iload_n 3, 1) := by decide +kernel
theorem dX9_week_49 : decode cX9_week 49 = .ok (.ifCond .ne 15, 3) := by decide +kernel
theorem dX9_week_52 : decode cX9_week 52 = .ok (.aload_n 0, 1) := by decide +kernel
theorem dX9_week_53 : decode cX9_week 53 = .ok (.getfield 42, 3) := by decide +kernel
theorem dX9_week_56 : decode cX9_week 56 = .ok (.getfield 210, 3) := by decide +kernel
theorem dX9_week_59 : decode cX9_week 59 = .ok (.iload_n 2, 1) := by decide +kernel
theorem dX9_week_60 : decode cX9_week 60 = .ok (.iaload, 1) := by decide +kernel
theorem dX9_week_61 : decode cX9_week 61 = .ok (.goto 12, 3) := by decide +kernel
theorem dX9_week_64 : decode cX9_week 64 = .ok (.aload_n 0, 1) := by decide +kernel
theorem dX9_week_65 : decode cX9_week 65 = .ok (.getfield 42, 3) := by decide +kernel
theorem dX9_week_68 : decode cX9_week 68 = .ok (.getfield 213, 3) := by decide +kernel
theorem dX9_week_71 : decode cX9_week 71 = .ok (.iload_n 2, 1) := by decide +kernel
theorem dX9_week_72 : decode cX9_week 72 = .ok (.iaload, 1) := by decide +kernel
theorem dX9_week_73 : decode cX9_week 73 = .ok (.ireturn, 1) := by decide +kernel
theorem dX9_cleft_0 : decode cX9_cleft 0 = .ok (.aload_n 0, 1) := by decide +kernel
theorem dX9_cleft_1 : decode cX9_cleft 1 = .ok (.iload_n 1, 1) := by decide +kernel
theorem dX9_cleft_2 : decode cX9_cleft 2 = .ok (.invokevirtual 117, 3) := by decide +kernel
theorem dX9_cleft_5 : decode cX9_cleft 5 = .ok (.istore_n 2, 1) := by decide +kernel
theorem dX9_cleft_6 : decode cX9_cleft 6 = .ok (.iload_n 2, 1) := by decide +kernel
theorem dX9_cleft_7 : decode cX9_cleft 7 = .ok (.ifCond .eq 5, 3) := by decide +kernel
theorem dX9_cleft_10 : decode cX9_cleft 10 = .ok (.iload_n 2, 1) := by decide +kernel
theorem dX9_cleft_11 : decode cX9_cleft 11 = .ok (.ireturn, 1) := by decide +kernel
theorem dX9_cleft_12 : decode cX9_cleft 12 = .ok (.aload_n 0, 1) := by decide +kernel
theorem dX9_cleft_13 : decode cX9_cleft 13 = .ok (.getfield 42, 3) := by decide +kernel
theorem dX9_cleft_16 : decode cX9_cleft 16 = .ok (.aload_n 0, 1) := by decide +kernel
theorem dX9_cleft_17 : decode cX9_cleft 17 = .ok (.invokevirtual 147, 3) := by decide +kernel
theorem dX9_cleft_20 : decode cX9_cleft 20 = .ok (.iload_n 1, 1) := by decide +kernel
theorem dX9_cleft_21 : decode cX9_cleft 21 = .ok (.invokevirtual 206, 3) := by decide +kernel
theorem dX9_cleft_24 : decode cX9_cleft 24 = .ok (.aload_n 0, 1) := by decide +kernel
theorem dX9_cleft_25 : decode cX9_cleft 25 = .ok (.getfield 42, 3) := by decide +kernel
theorem dX9_cleft_28 : decode cX9_cleft 28 = .ok (.aload_n 0, 1) := by decide +kernel
theorem dX9_cleft_29 : decode cX9_cleft 29 = .ok (.getfield 10, 3) := by decide +kernel
theorem dX9_cleft_32 : decode cX9_cleft 32 = .ok (.invokevirtual 216, 3) := by decide +kernel
theorem dX9_cleft_35 : decode cX9_cleft 35 = .ok (.invokevirtual 220, 3) := by decide +kernel
theorem dX9_cleft_38 : decode cX9_cleft 38 = .ok (.ireturn, 1) := by decide +kernel
theorem dX9_misses_0 : decode cX9_misses 0 = .ok (.aload_n 0, 1) := by decide +kernel
theorem dX9_misses_1 : decode cX9_misses 1 = .ok (.iload_n 1, 1) := by decide +kernel
theorem dX9_misses_2 : decode cX9_misses 2 = .ok (.invokevirtual 117, 3) := by decide +kernel
theorem dX9_misses_5 : decode cX9_misses 5 = .ok (.istore_n 3, 1) := by decide +kernel
theorem dX9_misses_6 : decode cX9_misses 6 = .ok (.iload_n 3, 1) := by decide +kernel
theorem dX9_misses_7 : decode cX9_misses 7 = .ok (.ifCond .eq 6, 3) := by decide +kernel
theorem dX9_misses_10 : decode cX9_misses 10 = .ok (.iload_n 3, 1) := by decide +kernel
theorem dX9_misses_11 : decode cX9_misses 11 = .ok (.i2l, 1) := by decide +kernel
theorem dX9_misses_12 : decode cX9_misses 12 = .ok (.lreturn, 1) := by decide +kernel
theorem dX9_misses_13 : decode cX9_misses 13 = .ok (.iload_n 2, 1) := by decide +kernel
theorem dX9_misses_14 : decode cX9_misses 14 = .ok (.iconst 1, 1) := by decide +kernel
theorem dX9_misses_15 : decode cX9_misses 15 = .ok (.if_icmp .lt 14, 3) := by decide +kernel
theorem dX9_misses_18 : decode cX9_misses 18 = .ok (.iload_n 2, 1) := by decide +kernel
theorem dX9_misses_19 : decode cX9_misses 19 = .ok (.aload_n 0, 1) := by decide +kernel
theorem dX9_misses_20 : decode cX9_misses 20 = .ok (.getfield 10, 3) := by decide +kernel
theorem dX9_misses_23 : decode cX9_misses 23 = .ok (.invokevirtual 216, 3) := by decide +kernel
theorem dX9_misses_26 : decode cX9_misses 26 = .ok (.if_icmp .le 7, 3) := by decide +kernel
theorem dX9_misses_29 : decode cX9_misses 29 = .ok (.ldc2_w 200, 3) := by decide +kernel
theorem dX9_misses_32 : decode cX9_misses 32 = .ok (.lreturn, 1) := by decide +kernel
theorem dX9_misses_33 : decode cX9_misses 33 = .ok (.aload_n 0, 1) := by decide +kernel
theorem dX9_misses_34 : decode cX9_misses 34 = .ok (.getfield 42, 3) := by decide +kernel
theorem dX9_misses_37 : decode cX9_misses 37 = .ok (.aload_n 0, 1) := by decide +kernel
theorem dX9_misses_38 : decode cX9_misses 38 = .ok (.invokevirtual 147, 3) := by decide +kernel
theorem dX9_misses_41 : decode cX9_misses 41 = .ok (.iload_n 1, 1) := by decide +kernel
theorem dX9_misses_42 : decode cX9_misses 42 = .ok (.invokevirtual 206, 3) := by decide +kernel
theorem dX9_misses_45 : decode cX9_misses 45 = .ok (.aload_n 0, 1) := by decide +kernel
theorem dX9_misses_46 : decode cX9_misses 46 = .ok (.getfield 42, 3) := by decide +kernel
theorem dX9_misses_49 : decode cX9_misses 49 = .ok (.iload_n 2, 1) := by decide +kernel
theorem dX9_misses_50 : decode cX9_misses 50 = .ok (.aload_n 0, 1) := by decide +kernel
theorem dX9_misses_51 : decode cX9_misses 51 = .ok (.getfield 10, 3) := by decide +kernel
theorem dX9_misses_54 : decode cX9_misses 54 = .ok (.invokevirtual 216, 3) := by decide +kernel
theorem dX9_misses_57 : decode cX9_misses 57 = .ok (.invokevirtual 223, 3) := by decide +kernel
theorem dX9_misses_60 : decode cX9_misses 60 = .ok (.lreturn, 1) := by decide +kernel
theorem dX9_isPlace_0 : decode cX9_isPlace 0 = .ok (.iload_n 0, 1) := by decide +kernel
theorem dX9_isPlace_1 : decode cX9_isPlace 1 = .ok (.ifCond .lt 13, 3) := by decide +kernel
theorem dX9_isPlace_4 : decode cX9_isPlace 4 = .ok (.iload_n 0, 1) := by decide +kernel
theorem dX9_isPlace_5 : decode cX9_isPlace 5 = .ok (.bipush 16, 2) := by decide +kernel
theorem dX9_isPlace_7 : decode cX9_isPlace 7 = .ok (.if_icmp .ge 7, 3) := by decide +kernel
theorem dX9_isPlace_10 : decode cX9_isPlace 10 = .ok (.iconst 1, 1) := by decide +kernel
theorem dX9_isPlace_11 : decode cX9_isPlace 11 = .ok (.goto 4, 3) := by decide +kernel
theorem dX9_isPlace_14 : decode cX9_isPlace 14 = .ok (.iconst 0, 1) := by decide +kernel
theorem dX9_isPlace_15 : decode cX9_isPlace 15 = .ok (.ireturn, 1) := by decide +kernel
theorem dX9_isDay_0 : decode cX9_isDay 0 = .ok (.iload_n 0, 1) := by decide +kernel
theorem dX9_isDay_1 : decode cX9_isDay 1 = .ok (.ifCond .lt 13, 3) := by decide +kernel
theorem dX9_isDay_4 : decode cX9_isDay 4 = .ok (.iload_n 0, 1) := by decide +kernel
theorem dX9_isDay_5 : decode cX9_isDay 5 = .ok (.bipush 56, 2) := by decide +kernel
theorem dX9_isDay_7 : decode cX9_isDay 7 = .ok (.if_icmp .ge 7, 3) := by decide +kernel
theorem dX9_isDay_10 : decode cX9_isDay 10 = .ok (.iconst 1, 1) := by decide +kernel
theorem dX9_isDay_11 : decode cX9_isDay 11 = .ok (.goto 4, 3) := by decide +kernel
theorem dX9_isDay_14 : decode cX9_isDay 14 = .ok (.iconst 0, 1) := by decide +kernel
theorem dX9_isDay_15 : decode cX9_isDay 15 = .ok (.ireturn, 1) := by decide +kernel
theorem dX9_isSquare_0 : decode cX9_isSquare 0 = .ok (.iload_n 0, 1) := by decide +kernel
theorem dX9_isSquare_1 : decode cX9_isSquare 1 = .ok (.ifCond .lt 23, 3) := by decide +kernel
theorem dX9_isSquare_4 : decode cX9_isSquare 4 = .ok (.iload_n 0, 1) := by decide +kernel
theorem dX9_isSquare_5 : decode cX9_isSquare 5 = .ok (.bipush 10, 2) := by decide +kernel
theorem dX9_isSquare_7 : decode cX9_isSquare 7 = .ok (.if_icmp .ge 17, 3) := by decide +kernel
theorem dX9_isSquare_10 : decode cX9_isSquare 10 = .ok (.iload_n 1, 1) := by decide +kernel
theorem dX9_isSquare_11 : decode cX9_isSquare 11 = .ok (.ifCond .lt 13, 3) := by decide +kernel
theorem dX9_isSquare_14 : decode cX9_isSquare 14 = .ok (.iload_n 1, 1) := by decide +kernel
theorem dX9_isSquare_15 : decode cX9_isSquare 15 = .ok (.bipush 10, 2) := by decide +kernel
theorem dX9_isSquare_17 : decode cX9_isSquare 17 = .ok (.if_icmp .ge 7, 3) := by decide +kernel
theorem dX9_isSquare_20 : decode cX9_isSquare 20 = .ok (.iconst 1, 1) := by decide +kernel
theorem dX9_isSquare_21 : decode cX9_isSquare 21 = .ok (.goto 4, 3) := by decide +kernel
theorem dX9_isSquare_24 : decode cX9_isSquare 24 = .ok (.iconst 0, 1) := by decide +kernel
theorem dX9_isSquare_25 : decode cX9_isSquare 25 = .ok (.ireturn, 1) := by decide +kernel
theorem dX9_isValley_0 : decode cX9_isValley 0 = .ok (.iload_n 0, 1) := by decide +kernel
theorem dX9_isValley_1 : decode cX9_isValley 1 = .ok (.ifCond .lt 13, 3) := by decide +kernel
theorem dX9_isValley_4 : decode cX9_isValley 4 = .ok (.iload_n 0, 1) := by decide +kernel
theorem dX9_isValley_5 : decode cX9_isValley 5 = .ok (.bipush 8, 2) := by decide +kernel
theorem dX9_isValley_7 : decode cX9_isValley 7 = .ok (.if_icmp .ge 7, 3) := by decide +kernel
theorem dX9_isValley_10 : decode cX9_isValley 10 = .ok (.iconst 1, 1) := by decide +kernel
theorem dX9_isValley_11 : decode cX9_isValley 11 = .ok (.goto 4, 3) := by decide +kernel
theorem dX9_isValley_14 : decode cX9_isValley 14 = .ok (.iconst 0, 1) := by decide +kernel
theorem dX9_isValley_15 : decode cX9_isValley 15 = .ok (.ireturn, 1) := by decide +kernel
theorem dX9_hasSize_0 : decode cX9_hasSize 0 = .ok (.iload_n 0, 1) := by decide +kernel
theorem dX9_hasSize_1 : decode cX9_hasSize 1 = .ok (.iconst 1, 1) := by decide +kernel
theorem dX9_hasSize_2 : decode cX9_hasSize 2 = .ok (.if_icmp .eq 8, 3) := by decide +kernel
theorem dX9_hasSize_5 : decode cX9_hasSize 5 = .ok (.iload_n 0, 1) := by decide +kernel
theorem dX9_hasSize_6 : decode cX9_hasSize 6 = .ok (.iconst 4, 1) := by decide +kernel
theorem dX9_hasSize_7 : decode cX9_hasSize 7 = .ok (.if_icmp .ne 7, 3) := by decide +kernel
theorem dX9_hasSize_10 : decode cX9_hasSize 10 = .ok (.iconst 1, 1) := by decide +kernel
theorem dX9_hasSize_11 : decode cX9_hasSize 11 = .ok (.goto 4, 3) := by decide +kernel
theorem dX9_hasSize_14 : decode cX9_hasSize 14 = .ok (.iconst 0, 1) := by decide +kernel
theorem dX9_hasSize_15 : decode cX9_hasSize 15 = .ok (.ireturn, 1) := by decide +kernel
theorem dX9_squaredDistance_0 : decode cX9_squaredDistance 0 = .ok (.iload_n 0, 1) := by decide +kernel
theorem dX9_squaredDistance_1 : decode cX9_squaredDistance 1 = .ok (.aload_n 2, 1) := by decide +kernel
theorem dX9_squaredDistance_2 : decode cX9_squaredDistance 2 = .ok (.getfield 80, 3) := by decide +kernel
theorem dX9_squaredDistance_5 : decode cX9_squaredDistance 5 = .ok (.isub, 1) := by decide +kernel
theorem dX9_squaredDistance_6 : decode cX9_squaredDistance 6 = .ok (.iload_n 0, 1) := by decide +kernel
theorem dX9_squaredDistance_7 : decode cX9_squaredDistance 7 = .ok (.aload_n 2, 1) := by decide +kernel
theorem dX9_squaredDistance_8 : decode cX9_squaredDistance 8 = .ok (.getfield 80, 3) := by decide +kernel
theorem dX9_squaredDistance_11 : decode cX9_squaredDistance 11 = .ok (.isub, 1) := by decide +kernel
theorem dX9_squaredDistance_12 : decode cX9_squaredDistance 12 = .ok (.imul, 1) := by decide +kernel
theorem dX9_squaredDistance_13 : decode cX9_squaredDistance 13 = .ok (.iload_n 1, 1) := by decide +kernel
theorem dX9_squaredDistance_14 : decode cX9_squaredDistance 14 = .ok (.aload_n 2, 1) := by decide +kernel
theorem dX9_squaredDistance_15 : decode cX9_squaredDistance 15 = .ok (.getfield 83, 3) := by decide +kernel
theorem dX9_squaredDistance_18 : decode cX9_squaredDistance 18 = .ok (.isub, 1) := by decide +kernel
theorem dX9_squaredDistance_19 : decode cX9_squaredDistance 19 = .ok (.iload_n 1, 1) := by decide +kernel
theorem dX9_squaredDistance_20 : decode cX9_squaredDistance 20 = .ok (.aload_n 2, 1) := by decide +kernel
theorem dX9_squaredDistance_21 : decode cX9_squaredDistance 21 = .ok (.getfield 83, 3) := by decide +kernel
theorem dX9_squaredDistance_24 : decode cX9_squaredDistance 24 = .ok (.isub, 1) := by decide +kernel
theorem dX9_squaredDistance_25 : decode cX9_squaredDistance 25 = .ok (.imul, 1) := by decide +kernel
theorem dX9_squaredDistance_26 : decode cX9_squaredDistance 26 = .ok (.iadd, 1) := by decide +kernel
theorem dX9_squaredDistance_27 : decode cX9_squaredDistance 27 = .ok (.ireturn, 1) := by decide +kernel
theorem dX9_gaugeFault_0 : decode cX9_gaugeFault 0 = .ok (.iload_n 1, 1) := by decide +kernel
theorem dX9_gaugeFault_1 : decode cX9_gaugeFault 1 = .ok (.invokestatic 46, 3) := by decide +kernel
theorem dX9_gaugeFault_4 : decode cX9_gaugeFault 4 = .ok (.ifCond .eq 19, 3) := by decide +kernel
theorem dX9_gaugeFault_7 : decode cX9_gaugeFault 7 = .ok (.aload_n 0, 1) := by decide +kernel
theorem dX9_gaugeFault_8 : decode cX9_gaugeFault 8 = .ok (.getfield 10, 3) := by decide +kernel
theorem dX9_gaugeFault_11 : decode cX9_gaugeFault 11 = .ok (.getfield 57, 3) := by decide +kernel
theorem dX9_gaugeFault_14 : decode cX9_gaugeFault 14 = .ok (.iload_n 1, 1) := by decide +kernel
theorem dX9_gaugeFault_15 : decode cX9_gaugeFault 15 = .ok (.aaload, 1) := by decide +kernel
theorem dX9_gaugeFault_16 : decode cX9_gaugeFault 16 = .ok (.getfield 61, 3) := by decide +kernel
theorem dX9_gaugeFault_19 : decode cX9_gaugeFault 19 = .ok (.iconst (-1), 1) := by decide +kernel
theorem dX9_gaugeFault_20 : decode cX9_gaugeFault 20 = .ok (.if_icmp .ne 5, 3) := by decide +kernel
theorem dX9_gaugeFault_23 : decode cX9_gaugeFault 23 = .ok (.iconst (-1), 1) := by decide +kernel
theorem dX9_gaugeFault_24 : decode cX9_gaugeFault 24 = .ok (.ireturn, 1) := by decide +kernel
theorem dX9_gaugeFault_25 : decode cX9_gaugeFault 25 = .ok (.aload_n 0, 1) := by decide +kernel
theorem dX9_gaugeFault_26 : decode cX9_gaugeFault 26 = .ok (.getfield 10, 3) := by decide +kernel
theorem dX9_gaugeFault_29 : decode cX9_gaugeFault 29 = .ok (.getfield 57, 3) := by decide +kernel
theorem dX9_gaugeFault_32 : decode cX9_gaugeFault 32 = .ok (.iload_n 1, 1) := by decide +kernel
theorem dX9_gaugeFault_33 : decode cX9_gaugeFault 33 = .ok (.aaload, 1) := by decide +kernel
theorem dX9_gaugeFault_34 : decode cX9_gaugeFault 34 = .ok (.getfield 61, 3) := by decide +kernel
theorem dX9_gaugeFault_37 : decode cX9_gaugeFault 37 = .ok (.iconst 5, 1) := by decide +kernel
theorem dX9_gaugeFault_38 : decode cX9_gaugeFault 38 = .ok (.if_icmp .ne 8, 3) := by decide +kernel
theorem dX9_gaugeFault_41 : decode cX9_gaugeFault 41 = .ok (.bipush (-2), 2) := by decide +kernel
theorem dX9_gaugeFault_43 : decode cX9_gaugeFault 43 = .ok (.goto 4, 3) := by decide +kernel
theorem dX9_gaugeFault_46 : decode cX9_gaugeFault 46 = .ok (.iconst 0, 1) := by decide +kernel
theorem dX9_gaugeFault_47 : decode cX9_gaugeFault 47 = .ok (.ireturn, 1) := by decide +kernel
theorem dX9_gaugeDayFault_0 : decode cX9_gaugeDayFault 0 = .ok (.aload_n 0, 1) := by decide +kernel
theorem dX9_gaugeDayFault_1 : decode cX9_gaugeDayFault 1 = .ok (.iload_n 1, 1) := by decide +kernel
theorem dX9_gaugeDayFault_2 : decode cX9_gaugeDayFault 2 = .ok (.invokevirtual 95, 3) := by decide +kernel
theorem dX9_gaugeDayFault_5 : decode cX9_gaugeDayFault 5 = .ok (.istore_n 3, 1) := by decide +kernel
theorem dX9_gaugeDayFault_6 : decode cX9_gaugeDayFault 6 = .ok (.iload_n 3, 1) := by decide +kernel
theorem dX9_gaugeDayFault_7 : decode cX9_gaugeDayFault 7 = .ok (.ifCond .ne 14, 3) := by decide +kernel
theorem dX9_gaugeDayFault_10 : decode cX9_gaugeDayFault 10 = .ok (.iload_n 2, 1) := by decide +kernel
theorem dX9_gaugeDayFault_11 : decode cX9_gaugeDayFault 11 = .ok (.invokestatic 99, 3) := by decide +kernel
theorem dX9_gaugeDayFault_14 : decode cX9_gaugeDayFault 14 = .ok (.ifCond .ne 7, 3) := by decide +kernel
theorem dX9_gaugeDayFault_17 : decode cX9_gaugeDayFault 17 = .ok (.iconst (-1), 1) := by decide +kernel
theorem dX9_gaugeDayFault_18 : decode cX9_gaugeDayFault 18 = .ok (.goto 4, 3) := by decide +kernel
theorem dX9_gaugeDayFault_21 : decode cX9_gaugeDayFault 21 = .ok (.iload_n 3, 1) := by decide +kernel
theorem dX9_gaugeDayFault_22 : decode cX9_gaugeDayFault 22 = .ok (.ireturn, 1) := by decide +kernel
theorem dX9_dailyGaugeFault_0 : decode cX9_dailyGaugeFault 0 = .ok (.aload_n 0, 1) := by decide +kernel
theorem dX9_dailyGaugeFault_1 : decode cX9_dailyGaugeFault 1 = .ok (.iload_n 1, 1) := by decide +kernel
theorem dX9_dailyGaugeFault_2 : decode cX9_dailyGaugeFault 2 = .ok (.invokevirtual 95, 3) := by decide +kernel
theorem dX9_dailyGaugeFault_5 : decode cX9_dailyGaugeFault 5 = .ok (.istore_n 2, 1) := by decide +kernel
theorem dX9_dailyGaugeFault_6 : decode cX9_dailyGaugeFault 6 = .ok (.iload_n 2, 1) := by decide +kernel
theorem dX9_dailyGaugeFault_7 : decode cX9_dailyGaugeFault 7 = .ok (.ifCond .ne 24, 3) := by decide +kernel
theorem dX9_dailyGaugeFault_10 : decode cX9_dailyGaugeFault 10 = .ok (.aload_n 0, 1) := by decide +kernel
theorem dX9_dailyGaugeFault_11 : decode cX9_dailyGaugeFault 11 = .ok (.getfield 10, 3) := by decide +kernel
theorem dX9_dailyGaugeFault_14 : decode cX9_dailyGaugeFault 14 = .ok (.getfield 57, 3) := by decide +kernel
theorem dX9_dailyGaugeFault_17 : decode cX9_dailyGaugeFault 17 = .ok (.iload_n 1, 1) := by decide +kernel
theorem dX9_dailyGaugeFault_18 : decode cX9_dailyGaugeFault 18 = .ok (.aaload, 1) := by decide +kernel
theorem dX9_dailyGaugeFault_19 : decode cX9_dailyGaugeFault 19 = .ok (.getfield 61, 3) := by decide +kernel
theorem dX9_dailyGaugeFault_22 : decode cX9_dailyGaugeFault 22 = .ok (.iconst 3, 1) := by decide +kernel
theorem dX9_dailyGaugeFault_23 : decode cX9_dailyGaugeFault 23 = .ok (.if_icmp .ne 8, 3) := by decide +kernel
theorem dX9_dailyGaugeFault_26 : decode cX9_dailyGaugeFault 26 = .ok (.bipush (-2), 2) := by decide +kernel
theorem dX9_dailyGaugeFault_28 : decode cX9_dailyGaugeFault 28 = .ok (.goto 4, 3) := by decide +kernel
theorem dX9_dailyGaugeFault_31 : decode cX9_dailyGaugeFault 31 = .ok (.iload_n 2, 1) := by decide +kernel
theorem dX9_dailyGaugeFault_32 : decode cX9_dailyGaugeFault 32 = .ok (.ireturn, 1) := by decide +kernel
theorem dX9_kindFault_0 : decode cX9_kindFault 0 = .ok (.aload_n 0, 1) := by decide +kernel
theorem dX9_kindFault_1 : decode cX9_kindFault 1 = .ok (.iload_n 1, 1) := by decide +kernel
theorem dX9_kindFault_2 : decode cX9_kindFault 2 = .ok (.invokevirtual 95, 3) := by decide +kernel
theorem dX9_kindFault_5 : decode cX9_kindFault 5 = .ok (.istore_n 3, 1) := by decide +kernel
theorem dX9_kindFault_6 : decode cX9_kindFault 6 = .ok (.iload_n 3, 1) := by decide +kernel
theorem dX9_kindFault_7 : decode cX9_kindFault 7 = .ok (.ifCond .ne 24, 3) := by decide +kernel
theorem dX9_kindFault_10 : decode cX9_kindFault 10 = .ok (.aload_n 0, 1) := by decide +kernel
theorem dX9_kindFault_11 : decode cX9_kindFault 11 = .ok (.getfield 10, 3) := by decide +kernel
theorem dX9_kindFault_14 : decode cX9_kindFault 14 = .ok (.getfield 57, 3) := by decide +kernel
theorem dX9_kindFault_17 : decode cX9_kindFault 17 = .ok (.iload_n 1, 1) := by decide +kernel
theorem dX9_kindFault_18 : decode cX9_kindFault 18 = .ok (.aaload, 1) := by decide +kernel
theorem dX9_kindFault_19 : decode cX9_kindFault 19 = .ok (.getfield 61, 3) := by decide +kernel
theorem dX9_kindFault_22 : decode cX9_kindFault 22 = .ok (.iload_n 2, 1) := by decide +kernel
theorem dX9_kindFault_23 : decode cX9_kindFault 23 = .ok (.if_icmp .eq 8, 3) := by decide +kernel
theorem dX9_kindFault_26 : decode cX9_kindFault 26 = .ok (.bipush (-2), 2) := by decide +kernel
theorem dX9_kindFault_28 : decode cX9_kindFault 28 = .ok (.goto 4, 3) := by decide +kernel
theorem dX9_kindFault_31 : decode cX9_kindFault 31 = .ok (.iload_n 3, 1) := by decide +kernel
theorem dX9_kindFault_32 : decode cX9_kindFault 32 = .ok (.ireturn, 1) := by decide +kernel
theorem dX9_noteSecond_0 : decode cX9_noteSecond 0 = .ok (.iload_n 2, 1) := by decide +kernel
theorem dX9_noteSecond_1 : decode cX9_noteSecond 1 = .ok (.ifCond .lt 21, 3) := by decide +kernel
theorem dX9_noteSecond_4 : decode cX9_noteSecond 4 = .ok (.iload_n 2, 1) := by decide +kernel
theorem dX9_noteSecond_5 : decode cX9_noteSecond 5 = .ok (.iload_n 3, 1) := by decide +kernel
theorem dX9_noteSecond_6 : decode cX9_noteSecond 6 = .ok (.if_icmp .gt 16, 3) := by decide +kernel
theorem dX9_noteSecond_9 : decode cX9_noteSecond 9 = .ok (.aload_n 0, 1) := by decide +kernel
theorem dX9_noteSecond_10 : decode cX9_noteSecond 10 = .ok (.getfield 10, 3) := by decide +kernel
theorem dX9_noteSecond_13 : decode cX9_noteSecond 13 = .ok (.getfield 67, 3) := by decide +kernel
theorem dX9_noteSecond_16 : decode cX9_noteSecond 16 = .ok (.invokestatic 99, 3) := by decide +kernel
theorem dX9_noteSecond_19 : decode cX9_noteSecond 19 = .ok (.ifCond .ne 5, 3) := by decide +kernel
theorem dX9_noteSecond_22 : decode cX9_noteSecond 22 = .ok (.iconst (-1), 1) := by decide +kernel
theorem dX9_noteSecond_23 : decode cX9_noteSecond 23 = .ok (.ireturn, 1) := by decide +kernel
theorem dX9_noteSecond_24 : decode cX9_noteSecond 24 = .ok (.aload_n 0, 1) := by decide +kernel
theorem dX9_noteSecond_25 : decode cX9_noteSecond 25 = .ok (.getfield 10, 3) := by decide +kernel
theorem dX9_noteSecond_28 : decode cX9_noteSecond 28 = .ok (.getfield 57, 3) := by decide +kernel
theorem dX9_noteSecond_31 : decode cX9_noteSecond 31 = .ok (.iload_n 1, 1) := by decide +kernel
theorem dX9_noteSecond_32 : decode cX9_noteSecond 32 = .ok (.aaload, 1) := by decide +kernel
theorem dX9_noteSecond_33 : decode cX9_noteSecond 33 = .ok (.getfield 227, 3) := by decide +kernel
theorem dX9_noteSecond_36 : decode cX9_noteSecond 36 = .ok (.aload_n 0, 1) := by decide +kernel
theorem dX9_noteSecond_37 : decode cX9_noteSecond 37 = .ok (.getfield 10, 3) := by decide +kernel
theorem dX9_noteSecond_40 : decode cX9_noteSecond 40 = .ok (.getfield 67, 3) := by decide +kernel
theorem dX9_noteSecond_43 : decode cX9_noteSecond 43 = .ok (.iload_n 2, 1) := by decide +kernel
theorem dX9_noteSecond_44 : decode cX9_noteSecond 44 = .ok (.iastore, 1) := by decide +kernel
theorem dX9_noteSecond_45 : decode cX9_noteSecond 45 = .ok (.aload_n 0, 1) := by decide +kernel
theorem dX9_noteSecond_46 : decode cX9_noteSecond 46 = .ok (.getfield 10, 3) := by decide +kernel
theorem dX9_noteSecond_49 : decode cX9_noteSecond 49 = .ok (.dup, 1) := by decide +kernel
theorem dX9_noteSecond_50 : decode cX9_noteSecond 50 = .ok (.getfield 74, 3) := by decide +kernel
theorem dX9_noteSecond_53 : decode cX9_noteSecond 53 = .ok (.iconst 1, 1) := by decide +kernel
theorem dX9_noteSecond_54 : decode cX9_noteSecond 54 = .ok (.iadd, 1) := by decide +kernel
theorem dX9_noteSecond_55 : decode cX9_noteSecond 55 = .ok (.putfield 74, 3) := by decide +kernel
theorem dX9_noteSecond_58 : decode cX9_noteSecond 58 = .ok (.iconst 1, 1) := by decide +kernel
theorem dX9_noteSecond_59 : decode cX9_noteSecond 59 = .ok (.ireturn, 1) := by decide +kernel
theorem dX9_openBooks_0 : decode cX9_openBooks 0 = .ok (.aload_n 0, 1) := by decide +kernel
theorem dX9_openBooks_1 : decode cX9_openBooks 1 = .ok (.getfield 21, 3) := by decide +kernel
theorem dX9_openBooks_4 : decode cX9_openBooks 4 = .ok (.getfield 230, 3) := by decide +kernel
theorem dX9_openBooks_7 : decode cX9_openBooks 7 = .ok (.aload_n 0, 1) := by decide +kernel
theorem dX9_openBooks_8 : decode cX9_openBooks 8 = .ok (.getfield 10, 3) := by decide +kernel
theorem dX9_openBooks_11 : decode cX9_openBooks 11 = .ok (.getfield 74, 3) := by decide +kernel
theorem dX9_openBooks_14 : decode cX9_openBooks 14 = .ok (.if_icmp .eq 10, 3) := by decide +kernel
theorem dX9_openBooks_17 : decode cX9_openBooks 17 = .ok (.aload_n 0, 1) := by decide +kernel
theorem dX9_openBooks_18 : decode cX9_openBooks 18 = .ok (.getfield 21, 3) := by decide +kernel
theorem dX9_openBooks_21 : decode cX9_openBooks 21 = .ok (.invokevirtual 233, 3) := by decide +kernel
theorem dX9_openBooks_24 : decode cX9_openBooks 24 = .ok (.aload_n 0, 1) := by decide +kernel
theorem dX9_openBooks_25 : decode cX9_openBooks 25 = .ok (.getfield 21, 3) := by decide +kernel
theorem dX9_openBooks_28 : decode cX9_openBooks 28 = .ok (.areturn, 1) := by decide +kernel
theorem dX10_init_0 : decode cX10_init 0 = .ok (.aload_n 0, 1) := by decide +kernel
theorem dX10_init_1 : decode cX10_init 1 = .ok (.invokespecial 1, 3) := by decide +kernel
theorem dX10_init_4 : decode cX10_init 4 = .ok (.aload_n 0, 1) := by decide +kernel
theorem dX10_init_5 : decode cX10_init 5 = .ok (.bipush 16, 2) := by decide +kernel
theorem dX10_init_7 : decode cX10_init 7 = .ok (.newarray .int, 2) := by decide +kernel
theorem dX10_init_9 : decode cX10_init 9 = .ok (.dup, 1) := by decide +kernel
theorem dX10_init_10 : decode cX10_init 10 = .ok (.iconst 0, 1) := by decide +kernel
theorem dX10_init_11 : decode cX10_init 11 = .ok (.iconst (-1), 1) := by decide +kernel
theorem dX10_init_12 : decode cX10_init 12 = .ok (.iastore, 1) := by decide +kernel
theorem dX10_init_13 : decode cX10_init 13 = .ok (.dup, 1) := by decide +kernel
theorem dX10_init_14 : decode cX10_init 14 = .ok (.iconst 1, 1) := by decide +kernel
theorem dX10_init_15 : decode cX10_init 15 = .ok (.iconst (-1), 1) := by decide +kernel
theorem dX10_init_16 : decode cX10_init 16 = .ok (.iastore, 1) := by decide +kernel
theorem dX10_init_17 : decode cX10_init 17 = .ok (.dup, 1) := by decide +kernel
theorem dX10_init_18 : decode cX10_init 18 = .ok (.iconst 2, 1) := by decide +kernel
theorem dX10_init_19 : decode cX10_init 19 = .ok (.iconst (-1), 1) := by decide +kernel
theorem dX10_init_20 : decode cX10_init 20 = .ok (.iastore, 1) := by decide +kernel
theorem dX10_init_21 : decode cX10_init 21 = .ok (.dup, 1) := by decide +kernel
theorem dX10_init_22 : decode cX10_init 22 = .ok (.iconst 3, 1) := by decide +kernel
theorem dX10_init_23 : decode cX10_init 23 = .ok (.iconst (-1), 1) := by decide +kernel
theorem dX10_init_24 : decode cX10_init 24 = .ok (.iastore, 1) := by decide +kernel
theorem dX10_init_25 : decode cX10_init 25 = .ok (.dup, 1) := by decide +kernel
theorem dX10_init_26 : decode cX10_init 26 = .ok (.iconst 4, 1) := by decide +kernel
theorem dX10_init_27 : decode cX10_init 27 = .ok (.iconst (-1), 1) := by decide +kernel
theorem dX10_init_28 : decode cX10_init 28 = .ok (.iastore, 1) := by decide +kernel
theorem dX10_init_29 : decode cX10_init 29 = .ok (.dup, 1) := by decide +kernel
theorem dX10_init_30 : decode cX10_init 30 = .ok (.iconst 5, 1) := by decide +kernel
theorem dX10_init_31 : decode cX10_init 31 = .ok (.iconst (-1), 1) := by decide +kernel
theorem dX10_init_32 : decode cX10_init 32 = .ok (.iastore, 1) := by decide +kernel
theorem dX10_init_33 : decode cX10_init 33 = .ok (.dup, 1) := by decide +kernel
theorem dX10_init_34 : decode cX10_init 34 = .ok (.bipush 6, 2) := by decide +kernel
theorem dX10_init_36 : decode cX10_init 36 = .ok (.iconst (-1), 1) := by decide +kernel
theorem dX10_init_37 : decode cX10_init 37 = .ok (.iastore, 1) := by decide +kernel
theorem dX10_init_38 : decode cX10_init 38 = .ok (.dup, 1) := by decide +kernel
theorem dX10_init_39 : decode cX10_init 39 = .ok (.bipush 7, 2) := by decide +kernel
theorem dX10_init_41 : decode cX10_init 41 = .ok (.iconst (-1), 1) := by decide +kernel
theorem dX10_init_42 : decode cX10_init 42 = .ok (.iastore, 1) := by decide +kernel
theorem dX10_init_43 : decode cX10_init 43 = .ok (.dup, 1) := by decide +kernel
theorem dX10_init_44 : decode cX10_init 44 = .ok (.bipush 8, 2) := by decide +kernel
theorem dX10_init_46 : decode cX10_init 46 = .ok (.iconst (-1), 1) := by decide +kernel
theorem dX10_init_47 : decode cX10_init 47 = .ok (.iastore, 1) := by decide +kernel
theorem dX10_init_48 : decode cX10_init 48 = .ok (.dup, 1) := by decide +kernel
theorem dX10_init_49 : decode cX10_init 49 = .ok (.bipush 9, 2) := by decide +kernel
theorem dX10_init_51 : decode cX10_init 51 = .ok (.iconst (-1), 1) := by decide +kernel
theorem dX10_init_52 : decode cX10_init 52 = .ok (.iastore, 1) := by decide +kernel
theorem dX10_init_53 : decode cX10_init 53 = .ok (.dup, 1) := by decide +kernel
theorem dX10_init_54 : decode cX10_init 54 = .ok (.bipush 10, 2) := by decide +kernel
theorem dX10_init_56 : decode cX10_init 56 = .ok (.iconst (-1), 1) := by decide +kernel
theorem dX10_init_57 : decode cX10_init 57 = .ok (.iastore, 1) := by decide +kernel
theorem dX10_init_58 : decode cX10_init 58 = .ok (.dup, 1) := by decide +kernel
theorem dX10_init_59 : decode cX10_init 59 = .ok (.bipush 11, 2) := by decide +kernel
theorem dX10_init_61 : decode cX10_init 61 = .ok (.iconst (-1), 1) := by decide +kernel
theorem dX10_init_62 : decode cX10_init 62 = .ok (.iastore, 1) := by decide +kernel
theorem dX10_init_63 : decode cX10_init 63 = .ok (.dup, 1) := by decide +kernel
theorem dX10_init_64 : decode cX10_init 64 = .ok (.bipush 12, 2) := by decide +kernel
theorem dX10_init_66 : decode cX10_init 66 = .ok (.iconst (-1), 1) := by decide +kernel
theorem dX10_init_67 : decode cX10_init 67 = .ok (.iastore, 1) := by decide +kernel
theorem dX10_init_68 : decode cX10_init 68 = .ok (.dup, 1) := by decide +kernel
theorem dX10_init_69 : decode cX10_init 69 = .ok (.bipush 13, 2) := by decide +kernel
theorem dX10_init_71 : decode cX10_init 71 = .ok (.iconst (-1), 1) := by decide +kernel
theorem dX10_init_72 : decode cX10_init 72 = .ok (.iastore, 1) := by decide +kernel
theorem dX10_init_73 : decode cX10_init 73 = .ok (.dup, 1) := by decide +kernel
theorem dX10_init_74 : decode cX10_init 74 = .ok (.bipush 14, 2) := by decide +kernel
theorem dX10_init_76 : decode cX10_init 76 = .ok (.iconst (-1), 1) := by decide +kernel
theorem dX10_init_77 : decode cX10_init 77 = .ok (.iastore, 1) := by decide +kernel
theorem dX10_init_78 : decode cX10_init 78 = .ok (.dup, 1) := by decide +kernel
theorem dX10_init_79 : decode cX10_init 79 = .ok (.bipush 15, 2) := by decide +kernel
theorem dX10_init_81 : decode cX10_init 81 = .ok (.iconst (-1), 1) := by decide +kernel
theorem dX10_init_82 : decode cX10_init 82 = .ok (.iastore, 1) := by decide +kernel
theorem dX10_init_83 : decode cX10_init 83 = .ok (.putfield 9, 3) := by decide +kernel
theorem dX10_init_86 : decode cX10_init 86 = .ok (.aload_n 0, 1) := by decide +kernel
theorem dX10_init_87 : decode cX10_init 87 = .ok (.bipush 16, 2) := by decide +kernel
theorem dX10_init_89 : decode cX10_init 89 = .ok (.newarray .int, 2) := by decide +kernel
theorem dX10_init_91 : decode cX10_init 91 = .ok (.putfield 13, 3) := by decide +kernel
theorem dX10_init_94 : decode cX10_init 94 = .ok (.aload_n 0, 1) := by decide +kernel
theorem dX10_init_95 : decode cX10_init 95 = .ok (.bipush 16, 2) := by decide +kernel
theorem dX10_init_97 : decode cX10_init 97 = .ok (.newarray .int, 2) := by decide +kernel
theorem dX10_init_99 : decode cX10_init 99 = .ok (.putfield 16, 3) := by decide +kernel
theorem dX10_init_102 : decode cX10_init 102 = .ok (.aload_n 0, 1) := by decide +kernel
theorem dX10_init_103 : decode cX10_init 103 = .ok (.bipush 16, 2) := by decide +kernel
theorem dX10_init_105 : decode cX10_init 105 = .ok (.newarray .int, 2) := by decide +kernel
theorem dX10_init_107 : decode cX10_init 107 = .ok (.putfield 19, 3) := by decide +kernel
theorem dX10_init_110 : decode cX10_init 110 = .ok (.aload_n 0, 1) := by decide +kernel
theorem dX10_init_111 : decode cX10_init 111 = .ok (.bipush 16, 2) := by decide +kernel
theorem dX10_init_113 : decode cX10_init 113 = .ok (.newarray .int, 2) := by decide +kernel
theorem dX10_init_115 : decode cX10_init 115 = .ok (.putfield 22, 3) := by decide +kernel
theorem dX10_init_118 : decode cX10_init 118 = .ok (.aload_n 0, 1) := by decide +kernel
theorem dX10_init_119 : decode cX10_init 119 = .ok (.bipush 16, 2) := by decide +kernel
theorem dX10_init_121 : decode cX10_init 121 = .ok (.newarray .int, 2) := by decide +kernel
theorem dX10_init_123 : decode cX10_init 123 = .ok (.putfield 25, 3) := by decide +kernel
theorem dX10_init_126 : decode cX10_init 126 = .ok (.aload_n 0, 1) := by decide +kernel
theorem dX10_init_127 : decode cX10_init 127 = .ok (.sipush 896, 3) := by decide +kernel
theorem dX10_init_130 : decode cX10_init 130 = .ok (.newarray .int, 2) := by decide +kernel
theorem dX10_init_132 : decode cX10_init 132 = .ok (.putfield 28, 3) := by decide +kernel
theorem dX10_init_135 : decode cX10_init 135 = .ok (.aload_n 0, 1) := by decide +kernel
theorem dX10_init_136 : decode cX10_init 136 = .ok (.sipush 896, 3) := by decide +kernel
theorem dX10_init_139 : decode cX10_init 139 = .ok (.newarray .int, 2) := by decide +kernel
theorem dX10_init_141 : decode cX10_init 141 = .ok (.putfield 31, 3) := by decide +kernel
theorem dX10_init_144 : decode cX10_init 144 = .ok (.aload_n 0, 1) := by decide +kernel
theorem dX10_init_145 : decode cX10_init 145 = .ok (.sipush 896, 3) := by decide +kernel
theorem dX10_init_148 : decode cX10_init 148 = .ok (.newarray .int, 2) := by decide +kernel
theorem dX10_init_150 : decode cX10_init 150 = .ok (.putfield 34, 3) := by decide +kernel
theorem dX10_init_153 : decode cX10_init 153 = .ok (.aload_n 0, 1) := by decide +kernel
theorem dX10_init_154 : decode cX10_init 154 = .ok (.sipush 896, 3) := by decide +kernel
theorem dX10_init_157 : decode cX10_init 157 = .ok (.newarray .int, 2) := by decide +kernel
theorem dX10_init_159 : decode cX10_init 159 = .ok (.putfield 37, 3) := by decide +kernel
theorem dX10_init_162 : decode cX10_init 162 = .ok (.aload_n 0, 1) := by decide +kernel
theorem dX10_init_163 : decode cX10_init 163 = .ok (.bipush 100, 2) := by decide +kernel
theorem dX10_init_165 : decode cX10_init 165 = .ok (.newarray .int, 2) := by decide +kernel
theorem dX10_init_167 : decode cX10_init 167 = .ok (.putfield 40, 3) := by decide +kernel
theorem dX10_init_170 : decode cX10_init 170 = .ok (.aload_n 0, 1) := by decide +kernel
theorem dX10_init_171 : decode cX10_init 171 = .ok (.bipush 100, 2) := by decide +kernel
theorem dX10_init_173 : decode cX10_init 173 = .ok (.newarray .int, 2) := by decide +kernel
theorem dX10_init_175 : decode cX10_init 175 = .ok (.putfield 43, 3) := by decide +kernel
theorem dX10_init_178 : decode cX10_init 178 = .ok (.aload_n 0, 1) := by decide +kernel
theorem dX10_init_179 : decode cX10_init 179 = .ok (.bipush 100, 2) := by decide +kernel
theorem dX10_init_181 : decode cX10_init 181 = .ok (.newarray .int, 2) := by decide +kernel
theorem dX10_init_183 : decode cX10_init 183 = .ok (.putfield 46, 3) := by decide +kernel
theorem dX10_init_186 : decode cX10_init 186 = .ok (.aload_n 0, 1) := by decide +kernel
theorem dX10_init_187 : decode cX10_init 187 = .ok (.bipush 100, 2) := by decide +kernel
theorem dX10_init_189 : decode cX10_init 189 = .ok (.newarray .int, 2) := by decide +kernel
theorem dX10_init_191 : decode cX10_init 191 = .ok (.putfield 49, 3) := by decide +kernel
theorem dX10_init_194 : decode cX10_init 194 = .ok (.aload_n 0, 1) := by decide +kernel
theorem dX10_init_195 : decode cX10_init 195 = .ok (.sipush 2000, 3) := by decide +kernel
theorem dX10_init_198 : decode cX10_init 198 = .ok (.putfield 52, 3) := by decide +kernel
theorem dX10_init_201 : decode cX10_init 201 = .ok (.aload_n 0, 1) := by decide +kernel
theorem dX10_init_202 : decode cX10_init 202 = .ok (.iconst 4, 1) := by decide +kernel
theorem dX10_init_203 : decode cX10_init 203 = .ok (.putfield 56, 3) := by decide +kernel
theorem dX10_init_206 : decode cX10_init 206 = .ok (.aload_n 0, 1) := by decide +kernel
theorem dX10_init_207 : decode cX10_init 207 = .ok (.bipush 10, 2) := by decide +kernel
theorem dX10_init_209 : decode cX10_init 209 = .ok (.putfield 59, 3) := by decide +kernel
theorem dX10_init_212 : decode cX10_init 212 = .ok (.aload_n 0, 1) := by decide +kernel
theorem dX10_init_213 : decode cX10_init 213 = .ok (.bipush 20, 2) := by decide +kernel
theorem dX10_init_215 : decode cX10_init 215 = .ok (.putfield 62, 3) := by decide +kernel
theorem dX10_init_218 : decode cX10_init 218 = .ok (.aload_n 0, 1) := by decide +kernel
theorem dX10_init_219 : decode cX10_init 219 = .ok (.bipush 8, 2) := by decide +kernel
theorem dX10_init_221 : decode cX10_init 221 = .ok (.newarray .int, 2) := by decide +kernel
theorem dX10_init_223 : decode cX10_init 223 = .ok (.dup, 1) := by decide +kernel
theorem dX10_init_224 : decode cX10_init 224 = .ok (.iconst 0, 1) := by decide +kernel
theorem dX10_init_225 : decode cX10_init 225 = .ok (.iconst 1, 1) := by decide +kernel
theorem dX10_init_226 : decode cX10_init 226 = .ok (.iastore, 1) := by decide +kernel
theorem dX10_init_227 : decode cX10_init 227 = .ok (.dup, 1) := by decide +kernel
theorem dX10_init_228 : decode cX10_init 228 = .ok (.iconst 1, 1) := by decide +kernel
theorem dX10_init_229 : decode cX10_init 229 = .ok (.iconst 0, 1) := by decide +kernel
theorem dX10_init_230 : decode cX10_init 230 = .ok (.iastore, 1) := by decide +kernel
theorem dX10_init_231 : decode cX10_init 231 = .ok (.dup, 1) := by decide +kernel
theorem dX10_init_232 : decode cX10_init 232 = .ok (.iconst 2, 1) := by decide +kernel
theorem dX10_init_233 : decode cX10_init 233 = .ok (.iconst 0, 1) := by decide +kernel
theorem dX10_init_234 : decode cX10_init 234 = .ok (.iastore, 1) := by decide +kernel
theorem dX10_init_235 : decode cX10_init 235 = .ok (.dup, 1) := by decide +kernel
theorem dX10_init_236 : decode cX10_init 236 = .ok (.iconst 3, 1) := by decide +kernel
theorem dX10_init_237 : decode cX10_init 237 = .ok (.iconst 0, 1) := by decide +kernel
theorem dX10_init_238 : decode cX10_init 238 = .ok (.iastore, 1) := by decide +kernel
theorem dX10_init_239 : decode cX10_init 239 = .ok (.dup, 1) := by decide +kernel
theorem dX10_init_240 : decode cX10_init 240 = .ok (.iconst 4, 1) := by decide +kernel
theorem dX10_init_241 : decode cX10_init 241 = .ok (.iconst 0, 1) := by decide +kernel
theorem dX10_init_242 : decode cX10_init 242 = .ok (.iastore, 1) := by decide +kernel
theorem dX10_init_243 : decode cX10_init 243 = .ok (.dup, 1) := by decide +kernel
theorem dX10_init_244 : decode cX10_init 244 = .ok (.iconst 5, 1) := by decide +kernel
theorem dX10_init_245 : decode cX10_init 245 = .ok (.iconst 0, 1) := by decide +kernel
theorem dX10_init_246 : decode cX10_init 246 = .ok (.iastore, 1) := by decide +kernel
theorem dX10_init_247 : decode cX10_init 247 = .ok (.dup, 1) := by decide +kernel
theorem dX10_init_248 : decode cX10_init 248 = .ok (.bipush 6, 2) := by decide +kernel
theorem dX10_init_250 : decode cX10_init 250 = .ok (.iconst 0, 1) := by decide +kernel
theorem dX10_init_251 : decode cX10_init 251 = .ok (.iastore, 1) := by decide +kernel
theorem dX10_init_252 : decode cX10_init 252 = .ok (.dup, 1) := by decide +kernel
theorem dX10_init_253 : decode cX10_init 253 = .ok (.bipush 7, 2) := by decide +kernel
theorem dX10_init_255 : decode cX10_init 255 = .ok (.iconst 0, 1) := by decide +kernel
theorem dX10_init_256 : decode cX10_init 256 = .ok (.iastore, 1) := by decide +kernel
theorem dX10_init_257 : decode cX10_init 257 = .ok (.putfield 65, 3) := by decide +kernel
theorem dX10_init_260 : decode cX10_init 260 = .ok (.aload_n 0, 1) := by decide +kernel
theorem dX10_init_261 : decode cX10_init 261 = .ok (.sipush 800, 3) := by decide +kernel
theorem dX10_init_264 : decode cX10_init 264 = .ok (.newarray .boolean, 2) := by decide +kernel
theorem dX10_init_266 : decode cX10_init 266 = .ok (.putfield 68, 3) := by decide +kernel
theorem dX10_init_269 : decode cX10_init 269 = .ok (.aload_n 0, 1) := by decide +kernel
theorem dX10_init_270 : decode cX10_init 270 = .ok (.bipush 16, 2) := by decide +kernel
theorem dX10_init_272 : decode cX10_init 272 = .ok (.newarray .int, 2) := by decide +kernel
theorem dX10_init_274 : decode cX10_init 274 = .ok (.putfield 72, 3) := by decide +kernel
theorem dX10_init_277 : decode cX10_init 277 = .ok (.aload_n 0, 1) := by decide +kernel
theorem dX10_init_278 : decode cX10_init 278 = .ok (.iconst 4, 1) := by decide +kernel
theorem dX10_init_279 : decode cX10_init 279 = .ok (.newarray .int, 2) := by decide +kernel
theorem dX10_init_281 : decode cX10_init 281 = .ok (.putfield 75, 3) := by decide +kernel
theorem dX10_init_284 : decode cX10_init 284 = .ok (.aload_n 0, 1) := by decide +kernel
theorem dX10_init_285 : decode cX10_init 285 = .ok (.bipush 8, 2) := by decide +kernel
theorem dX10_init_287 : decode cX10_init 287 = .ok (.newarray .long, 2) := by decide +kernel
theorem dX10_init_289 : decode cX10_init 289 = .ok (.putfield 78, 3) := by decide +kernel
theorem dX10_init_292 : decode cX10_init 292 = .ok (.aload_n 0, 1) := by decide +kernel
theorem dX10_init_293 : decode cX10_init 293 = .ok (.bipush 8, 2) := by decide +kernel
theorem dX10_init_295 : decode cX10_init 295 = .ok (.newarray .long, 2) := by decide +kernel
theorem dX10_init_297 : decode cX10_init 297 = .ok (.putfield 82, 3) := by decide +kernel
theorem dX10_init_300 : decode cX10_init 300 = .ok (.return_, 1) := by decide +kernel
theorem dX10_isIn_0 : decode cX10_isIn 0 = .ok (.iload_n 0, 1) := by decide +kernel
theorem dX10_isIn_1 : decode cX10_isIn 1 = .ok (.iload_n 1, 1) := by decide +kernel
theorem dX10_isIn_2 : decode cX10_isIn 2 = .ok (.if_icmp .lt 12, 3) := by decide +kernel
theorem dX10_isIn_5 : decode cX10_isIn 5 = .ok (.iload_n 0, 1) := by decide +kernel
theorem dX10_isIn_6 : decode cX10_isIn 6 = .ok (.iload_n 2, 1) := by decide +kernel
theorem dX10_isIn_7 : decode cX10_isIn 7 = .ok (.if_icmp .gt 7, 3) := by decide +kernel
theorem dX10_isIn_10 : decode cX10_isIn 10 = .ok (.iconst 1, 1) := by decide +kernel
theorem dX10_isIn_11 : decode cX10_isIn 11 = .ok (.goto 4, 3) := by decide +kernel
theorem dX10_isIn_14 : decode cX10_isIn 14 = .ok (.iconst 0, 1) := by decide +kernel
theorem dX10_isIn_15 : decode cX10_isIn 15 = .ok (.ireturn, 1) := by decide +kernel
theorem dX10_at_0 : decode cX10_at 0 = .ok (.bipush 56, 2) := by decide +kernel
theorem dX10_at_2 : decode cX10_at 2 = .ok (.iload_n 0, 1) := by decide +kernel
theorem dX10_at_3 : decode cX10_at 3 = .ok (.imul, 1) := by decide +kernel
theorem dX10_at_4 : decode cX10_at 4 = .ok (.iload_n 1, 1) := by decide +kernel
theorem dX10_at_5 : decode cX10_at 5 = .ok (.iadd, 1) := by decide +kernel
theorem dX10_at_6 : decode cX10_at 6 = .ok (.ireturn, 1) := by decide +kernel
theorem dX10_isGauge_0 : decode cX10_isGauge 0 = .ok (.aload_n 0, 1) := by decide +kernel
theorem dX10_isGauge_1 : decode cX10_isGauge 1 = .ok (.getfield 9, 3) := by decide +kernel
theorem dX10_isGauge_4 : decode cX10_isGauge 4 = .ok (.iload_n 1, 1) := by decide +kernel
theorem dX10_isGauge_5 : decode cX10_isGauge 5 = .ok (.iaload, 1) := by decide +kernel
theorem dX10_isGauge_6 : decode cX10_isGauge 6 = .ok (.iconst (-1), 1) := by decide +kernel
theorem dX10_isGauge_7 : decode cX10_isGauge 7 = .ok (.if_icmp .eq 17, 3) := by decide +kernel
theorem dX10_isGauge_10 : decode cX10_isGauge 10 = .ok (.aload_n 0, 1) := by decide +kernel
theorem dX10_isGauge_11 : decode cX10_isGauge 11 = .ok (.getfield 9, 3) := by decide +kernel
theorem dX10_isGauge_14 : decode cX10_isGauge 14 = .ok (.iload_n 1, 1) := by decide +kernel
theorem dX10_isGauge_15 : decode cX10_isGauge 15 = .ok (.iaload, 1) := by decide +kernel
theorem dX10_isGauge_16 : decode cX10_isGauge 16 = .ok (.iconst 5, 1) := by decide +kernel
theorem dX10_isGauge_17 : decode cX10_isGauge 17 = .ok (.if_icmp .eq 7, 3) := by decide +kernel
theorem dX10_isGauge_20 : decode cX10_isGauge 20 = .ok (.iconst 1, 1) := by decide +kernel
theorem dX10_isGauge_21 : decode cX10_isGauge 21 = .ok (.goto 4, 3) := by decide +kernel
theorem dX10_isGauge_24 : decode cX10_isGauge 24 = .ok (.iconst 0, 1) := by decide +kernel
theorem dX10_isGauge_25 : decode cX10_isGauge 25 = .ok (.ireturn, 1) := by decide +kernel
theorem dX10_fails_0 : decode cX10_fails 0 = .ok (.iload_n 1, 1) := by decide +kernel
theorem dX10_fails_1 : decode cX10_fails 1 = .ok (.iconst 0, 1) := by decide +kernel
theorem dX10_fails_2 : decode cX10_fails 2 = .ok (.bipush 15, 2) := by decide +kernel
theorem dX10_fails_4 : decode cX10_fails 4 = .ok (.invokestatic 85, 3) := by decide +kernel
theorem dX10_fails_7 : decode cX10_fails 7 = .ok (.ifCond .eq 13, 3) := by decide +kernel
theorem dX10_fails_10 : decode cX10_fails 10 = .ok (.aload_n 0, 1) := by decide +kernel
theorem dX10_fails_11 : decode cX10_fails 11 = .ok (.getfield 9, 3) := by decide +kernel
theorem dX10_fails_14 : decode cX10_fails 14 = .ok (.iload_n 1, 1) := by decide +kernel
theorem dX10_fails_15 : decode cX10_fails 15 = .ok (.iaload, 1) := by decide +kernel
theorem dX10_fails_16 : decode cX10_fails 16 = .ok (.iconst (-1), 1) := by decide +kernel
theorem dX10_fails_17 : decode cX10_fails 17 = .ok (.if_icmp .ne 5, 3) := by decide +kernel
theorem dX10_fails_20 : decode cX10_fails 20 = .ok (.iconst (-1), 1) := by decide +kernel
theorem dX10_fails_21 : decode cX10_fails 21 = .ok (.ireturn, 1) := by decide +kernel
theorem dX10_fails_22 : decode cX10_fails 22 = .ok (.aload_n 0, 1) := by decide +kernel
theorem dX10_fails_23 : decode cX10_fails 23 = .ok (.getfield 9, 3) := by decide +kernel
theorem dX10_fails_26 : decode cX10_fails 26 = .ok (.iload_n 1, 1) := by decide +kernel
theorem dX10_fails_27 : decode cX10_fails 27 = .ok (.iaload, 1) := by decide +kernel
theorem dX10_fails_28 : decode cX10_fails 28 = .ok (.iload_n 2, 1) := by decide +kernel
theorem dX10_fails_29 : decode cX10_fails 29 = .ok (.iload_n 3, 1) := by decide +kernel
theorem dX10_fails_30 : decode cX10_fails 30 = .ok (.invokestatic 85, 3) := by decide +kernel
theorem dX10_fails_33 : decode cX10_fails 33 = .ok (.ifCond .eq 7, 3) := by decide +kernel
theorem dX10_fails_36 : decode cX10_fails 36 = .ok (.iconst 0, 1) := by decide +kernel
theorem dX10_fails_37 : decode cX10_fails 37 = .ok (.goto 5, 3) := by decide +kernel
theorem dX10_fails_40 : decode cX10_fails 40 = .ok (.bipush (-2), 2) := by decide +kernel
theorem dX10_fails_42 : decode cX10_fails 42 = .ok (.ireturn, 1) := by decide +kernel
theorem dX10_put_0 : decode cX10_put 0 = .ok (.iload_n 2, 1) := by decide +kernel
theorem dX10_put_1 : decode cX10_put 1 = .ok (.iconst 1, 1) := by decide +kernel
theorem dX10_put_2 : decode cX10_put 2 = .ok (.if_icmp .eq 8, 3) := by decide +kernel
theorem dX10_put_5 : decode cX10_put 5 = .ok (.iload_n 2, 1) := by decide +kernel
theorem dX10_put_6 : decode cX10_put 6 = .ok (.iconst 4, 1) := by decide +kernel
theorem dX10_put_7 : decode cX10_put 7 = .ok (.if_icmp .ne 7, 3) := by decide +kernel
theorem dX10_put_10 : decode cX10_put 10 = .ok (.iconst 1, 1) := by decide +kernel
theorem dX10_put_11 : decode cX10_put 11 = .ok (.goto 4, 3) := by decide +kernel
theorem dX10_put_14 : decode cX10_put 14 = .ok (.iconst 0, 1) := by decide +kernel
theorem dX10_put_15 : decode cX10_put 15 = .ok (.istore 6, 2) := by decide +kernel
theorem dX10_put_17 : decode cX10_put 17 = .ok (.iload_n 1, 1) := by decide +kernel
theorem dX10_put_18 : decode cX10_put 18 = .ok (.iconst 0, 1) := by decide +kernel
theorem dX10_put_19 : decode cX10_put 19 = .ok (.bipush 15, 2) := by decide +kernel
theorem dX10_put_21 : decode cX10_put 21 = .ok (.invokestatic 85, 3) := by decide +kernel
theorem dX10_put_24 : decode cX10_put 24 = .ok (.ifCond .eq 59, 3) := by decide +kernel
theorem dX10_put_27 : decode cX10_put 27 = .ok (.aload_n 0, 1) := by decide +kernel
theorem dX10_put_28 : decode cX10_put 28 = .ok (.getfield 9, 3) := by decide +kernel
theorem dX10_put_31 : decode cX10_put 31 = .ok (.iload_n 1, 1) := by decide +kernel
theorem dX10_put_32 : decode cX10_put 32 = .ok (.iaload, 1) := by decide +kernel
theorem dX10_put_33 : decode cX10_put 33 = .ok (.iconst (-1), 1) := by decide +kernel
theorem dX10_put_34 : decode cX10_put 34 = .ok (.if_icmp .ne 49, 3) := by decide +kernel
theorem dX10_put_37 : decode cX10_put 37 = .ok (.iload_n 2, 1) := by decide +kernel
theorem dX10_put_38 : decode cX10_put 38 = .ok (.iconst 0, 1) := by decide +kernel
theorem dX10_put_39 : decode cX10_put 39 = .ok (.iconst 5, 1) := by decide +kernel
theorem dX10_put_40 : decode cX10_put 40 = .ok (.invokestatic 85, 3) := by decide +kernel
theorem dX10_put_43 : decode cX10_put 43 = .ok (.ifCond .eq 40, 3) := by decide +kernel
theorem dX10_put_46 : decode cX10_put 46 = .ok (.iload_n 3, 1) := by decide +kernel
theorem dX10_put_47 : decode cX10_put 47 = .ok (.iconst 0, 1) := by decide +kernel
theorem dX10_put_48 : decode cX10_put 48 = .ok (.bipush 9, 2) := by decide +kernel
theorem dX10_put_50 : decode cX10_put 50 = .ok (.invokestatic 85, 3) := by decide +kernel
theorem dX10_put_53 : decode cX10_put 53 = .ok (.ifCond .eq 30, 3) := by decide +kernel
theorem dX10_put_56 : decode cX10_put 56 = .ok (.iload 4, 2) := by decide +kernel
theorem dX10_put_58 : decode cX10_put 58 = .ok (.iconst 0, 1) := by decide +kernel
theorem dX10_put_59 : decode cX10_put 59 = .ok (.bipush 9, 2) := by decide +kernel
theorem dX10_put_61 : decode cX10_put 61 = .ok (.invokestatic 85, 3) := by decide +kernel
theorem dX10_put_64 : decode cX10_put 64 = .ok (.ifCond .eq 19, 3) := by decide +kernel
theorem dX10_put_67 : decode cX10_put 67 = .ok (.iload 6, 2) := by decide +kernel
theorem dX10_put_69 : decode cX10_put 69 = .ok (.ifCond .eq 16, 3) := by decide +kernel
theorem dX10_put_72 : decode cX10_put 72 = .ok (.iload 5, 2) := by decide +kernel
theorem dX10_put_74 : decode cX10_put 74 = .ok (.iconst 1, 1) := by decide +kernel
theorem dX10_put_75 : decode cX10_put 75 = .ok (.bipush 20, 2) := by decide +kernel
theorem dX10_put_77 : decode cX10_put 77 = .ok (.invokestatic 85, 3) := by decide +kernel
theorem dX10_put_80 : decode cX10_put 80 = .ok (.ifCond .ne 5, 3) := by decide +kernel
theorem dX10_put_83 : decode cX10_put 83 = .ok (.iconst (-1), 1) := by decide +kernel
theorem dX10_put_84 : decode cX10_put 84 = .ok (.ireturn, 1) := by decide +kernel
theorem dX10_put_85 : decode cX10_put 85 = .ok (.aload_n 0, 1) := by decide +kernel
theorem dX10_put_86 : decode cX10_put 86 = .ok (.getfield 9, 3) := by decide +kernel
theorem dX10_put_89 : decode cX10_put 89 = .ok (.iload_n 1, 1) := by decide +kernel
theorem dX10_put_90 : decode cX10_put 90 = .ok (.iload_n 2, 1) := by decide +kernel
theorem dX10_put_91 : decode cX10_put 91 = .ok (.iastore, 1) := by decide +kernel
theorem dX10_put_92 : decode cX10_put 92 = .ok (.aload_n 0, 1) := by decide +kernel
theorem dX10_put_93 : decode cX10_put 93 = .ok (.getfield 13, 3) := by decide +kernel
theorem dX10_put_96 : decode cX10_put 96 = .ok (.iload_n 1, 1) := by decide +kernel
theorem dX10_put_97 : decode cX10_put 97 = .ok (.iload_n 3, 1) := by decide +kernel
theorem dX10_put_98 : decode cX10_put 98 = .ok (.iastore, 1) := by decide +kernel
theorem dX10_put_99 : decode cX10_put 99 = .ok (.aload_n 0, 1) := by decide +kernel
theorem dX10_put_100 : decode cX10_put 100 = .ok (.getfield 16, 3) := by decide +kernel
theorem dX10_put_103 : decode cX10_put 103 = .ok (.iload_n 1, 1) := by decide +kernel
theorem dX10_put_104 : decode cX10_put 104 = .ok (.iload 4, 2) := by decide +kernel
theorem dX10_put_106 : decode cX10_put 106 = .ok (.iastore, 1) := by decide +kernel
theorem dX10_put_107 : decode cX10_put 107 = .ok (.aload_n 0, 1) := by decide +kernel
theorem dX10_put_108 : decode cX10_put 108 = .ok (.getfield 19, 3) := by decide +kernel
theorem dX10_put_111 : decode cX10_put 111 = .ok (.iload_n 1, 1) := by decide +kernel
theorem dX10_put_112 : decode cX10_put 112 = .ok (.iload 6, 2) := by decide +kernel
theorem dX10_put_114 : decode cX10_put 114 = .ok (.ifCond .eq 8, 3) := by decide +kernel
theorem dX10_put_117 : decode cX10_put 117 = .ok (.iload 5, 2) := by decide +kernel
theorem dX10_put_119 : decode cX10_put 119 = .ok (.goto 4, 3) := by decide +kernel
theorem dX10_put_122 : decode cX10_put 122 = .ok (.iconst 0, 1) := by decide +kernel
theorem dX10_put_123 : decode cX10_put 123 = .ok (.iastore, 1) := by decide +kernel
theorem dX10_put_124 : decode cX10_put 124 = .ok (.aload_n 0, 1) := by decide +kernel
theorem dX10_put_125 : decode cX10_put 125 = .ok (.getfield 22, 3) := by decide +kernel
theorem dX10_put_128 : decode cX10_put 128 = .ok (.iload_n 1, 1) := by decide +kernel
theorem dX10_put_129 : decode cX10_put 129 = .ok (.iload_n 2, 1) := by decide +kernel
theorem dX10_put_130 : decode cX10_put 130 = .ok (.iconst 5, 1) := by decide +kernel
theorem dX10_put_131 : decode cX10_put 131 = .ok (.if_icmp .ne 7, 3) := by decide +kernel
theorem dX10_put_134 : decode cX10_put 134 = .ok (.iconst 0, 1) := by decide +kernel
theorem dX10_put_135 : decode cX10_put 135 = .ok (.goto 7, 3) := by decide +kernel
theorem dX10_put_138 : decode cX10_put 138 = .ok (.aload_n 0, 1) := by decide +kernel
theorem dX10_put_139 : decode cX10_put 139 = .ok (.getfield 89, 3) := by decide +kernel
theorem dX10_put_142 : decode cX10_put 142 = .ok (.iastore, 1) := by decide +kernel
theorem dX10_put_143 : decode cX10_put 143 = .ok (.aload_n 0, 1) := by decide +kernel
theorem dX10_put_144 : decode cX10_put 144 = .ok (.getfield 25, 3) := by decide +kernel
theorem dX10_put_147 : decode cX10_put 147 = .ok (.iload_n 1, 1) := by decide +kernel
theorem dX10_put_148 : decode cX10_put 148 = .ok (.iconst 0, 1) := by decide +kernel
theorem dX10_put_149 : decode cX10_put 149 = .ok (.iastore, 1) := by decide +kernel
theorem dX10_put_150 : decode cX10_put 150 = .ok (.iconst 0, 1) := by decide +kernel
theorem dX10_put_151 : decode cX10_put 151 = .ok (.istore 7, 2) := by decide +kernel
theorem dX10_put_153 : decode cX10_put 153 = .ok (.iload 7, 2) := by decide +kernel
theorem dX10_put_155 : decode cX10_put 155 = .ok (.bipush 56, 2) := by decide +kernel
theorem dX10_put_157 : decode cX10_put 157 = .ok (.if_icmp .ge 57, 3) := by decide +kernel
theorem dX10_put_160 : decode cX10_put 160 = .ok (.aload_n 0, 1) := by decide +kernel
theorem dX10_put_161 : decode cX10_put 161 = .ok (.getfield 28, 3) := by decide +kernel
theorem dX10_put_164 : decode cX10_put 164 = .ok (.iload_n 1, 1) := by decide +kernel
theorem dX10_put_165 : decode cX10_put 165 = .ok (.iload 7, 2) := by decide +kernel
theorem dX10_put_167 : decode cX10_put 167 = .ok (.invokestatic 92, 3) := by decide +kernel
theorem dX10_put_170 : decode cX10_put 170 = .ok (.iconst (-1), 1) := by decide +kernel
theorem dX10_put_171 : decode cX10_put 171 = .ok (.iastore, 1) := by decide +kernel
theorem dX10_put_172 : decode cX10_put 172 = .ok (.aload_n 0, 1) := by decide +kernel
theorem dX10_put_173 : decode cX10_put 173 = .ok (.getfield 31, 3) := by decide +kernel
theorem dX10_put_176 : decode cX10_put 176 = .ok (.iload_n 1, 1) := by decide +kernel
theorem dX10_put_177 : decode cX10_put 177 = .ok (.iload 7, 2) := by decide +kernel
theorem dX10_put_179 : decode cX10_put 179 = .ok (.invokestatic 92, 3) := by decide +kernel
theorem dX10_put_182 : decode cX10_put 182 = .ok (.iconst (-1), 1) := by decide +kernel
theorem dX10_put_183 : decode cX10_put 183 = .ok (.iastore, 1) := by decide +kernel
theorem dX10_put_184 : decode cX10_put 184 = .ok (.aload_n 0, 1) := by decide +kernel
theorem dX10_put_185 : decode cX10_put 185 = .ok (.getfield 34, 3) := by decide +kernel
theorem dX10_put_188 : decode cX10_put 188 = .ok (.iload_n 1, 1) := by decide +kernel
theorem dX10_put_189 : decode cX10_put 189 = .ok (.iload 7, 2) := by decide +kernel
theorem dX10_put_191 : decode cX10_put 191 = .ok (.invokestatic 92, 3) := by decide +kernel
theorem dX10_put_194 : decode cX10_put 194 = .ok (.iconst (-1), 1) := by decide +kernel
theorem dX10_put_195 : decode cX10_put 195 = .ok (.iastore, 1) := by decide +kernel
theorem dX10_put_196 : decode cX10_put 196 = .ok (.aload_n 0, 1) := by decide +kernel
theorem dX10_put_197 : decode cX10_put 197 = .ok (.getfield 37, 3) := by decide +kernel
theorem dX10_put_200 : decode cX10_put 200 = .ok (.iload_n 1, 1) := by decide +kernel
theorem dX10_put_201 : decode cX10_put 201 = .ok (.iload 7, 2) := by decide +kernel
theorem dX10_put_203 : decode cX10_put 203 = .ok (.invokestatic 92, 3) := by decide +kernel
theorem dX10_put_206 : decode cX10_put 206 = .ok (.iconst (-1), 1) := by decide +kernel
theorem dX10_put_207 : decode cX10_put 207 = .ok (.iastore, 1) := by decide +kernel
theorem dX10_put_208 : decode cX10_put 208 = .ok (.iinc 7 1, 3) := by decide +kernel
theorem dX10_put_211 : decode cX10_put 211 = .ok (.goto (-58), 3) := by decide +kernel
theorem dX10_put_214 : decode cX10_put 214 = .ok (.iload_n 1, 1) := by decide +kernel
theorem dX10_put_215 : decode cX10_put 215 = .ok (.ireturn, 1) := by decide +kernel
theorem dX10_lift_0 : decode cX10_lift 0 = .ok (.aload_n 0, 1) := by decide +kernel
theorem dX10_lift_1 : decode cX10_lift 1 = .ok (.iload_n 1, 1) := by decide +kernel
theorem dX10_lift_2 : decode cX10_lift 2 = .ok (.iconst 0, 1) := by decide +kernel
theorem dX10_lift_3 : decode cX10_lift 3 = .ok (.iconst 5, 1) := by decide +kernel
theorem dX10_lift_4 : decode cX10_lift 4 = .ok (.invokevirtual 96, 3) := by decide +kernel
theorem dX10_lift_7 : decode cX10_lift 7 = .ok (.ifCond .eq 5, 3) := by decide +kernel
theorem dX10_lift_10 : decode cX10_lift 10 = .ok (.iconst (-1), 1) := by decide +kernel
theorem dX10_lift_11 : decode cX10_lift 11 = .ok (.ireturn, 1) := by decide +kernel
theorem dX10_lift_12 : decode cX10_lift 12 = .ok (.aload_n 0, 1) := by decide +kernel
theorem dX10_lift_13 : decode cX10_lift 13 = .ok (.getfield 9, 3) := by decide +kernel
theorem dX10_lift_16 : decode cX10_lift 16 = .ok (.iload_n 1, 1) := by decide +kernel
theorem dX10_lift_17 : decode cX10_lift 17 = .ok (.iaload, 1) := by decide +kernel
theorem dX10_lift_18 : decode cX10_lift 18 = .ok (.istore_n 2, 1) := by decide +kernel
theorem dX10_lift_19 : decode cX10_lift 19 = .ok (.aload_n 0, 1) := by decide +kernel
theorem dX10_lift_20 : decode cX10_lift 20 = .ok (.getfield 9, 3) := by decide +kernel
theorem dX10_lift_23 : decode cX10_lift 23 = .ok (.iload_n 1, 1) := by decide +kernel
theorem dX10_lift_24 : decode cX10_lift 24 = .ok (.iconst (-1), 1) := by decide +kernel
theorem dX10_lift_25 : decode cX10_lift 25 = .ok (.iastore, 1) := by decide +kernel
theorem dX10_lift_26 : decode cX10_lift 26 = .ok (.iconst 0, 1) := by decide +kernel
theorem dX10_lift_27 : decode cX10_lift 27 = .ok (.istore_n 3, 1) := by decide +kernel
theorem dX10_lift_28 : decode cX10_lift 28 = .ok (.iload_n 3, 1) := by decide +kernel
theorem dX10_lift_29 : decode cX10_lift 29 = .ok (.aload_n 0, 1) := by decide +kernel
theorem dX10_lift_30 : decode cX10_lift 30 = .ok (.getfield 100, 3) := by decide +kernel
theorem dX10_lift_33 : decode cX10_lift 33 = .ok (.if_icmp .ge 26, 3) := by decide +kernel
theorem dX10_lift_36 : decode cX10_lift 36 = .ok (.aload_n 0, 1) := by decide +kernel
theorem dX10_lift_37 : decode cX10_lift 37 = .ok (.getfield 40, 3) := by decide +kernel
theorem dX10_lift_40 : decode cX10_lift 40 = .ok (.iload_n 3, 1) := by decide +kernel
theorem dX10_lift_41 : decode cX10_lift 41 = .ok (.iaload, 1) := by decide +kernel
theorem dX10_lift_42 : decode cX10_lift 42 = .ok (.iload_n 1, 1) := by decide +kernel
theorem dX10_lift_43 : decode cX10_lift 43 = .ok (.if_icmp .ne 10, 3) := by decide +kernel
theorem dX10_lift_46 : decode cX10_lift 46 = .ok (.aload_n 0, 1) := by decide +kernel
theorem dX10_lift_47 : decode cX10_lift 47 = .ok (.getfield 40, 3) := by decide +kernel
theorem dX10_lift_50 : decode cX10_lift 50 = .ok (.iload_n 3, 1) := by decide +kernel
theorem dX10_lift_51 : decode cX10_lift 51 = .ok (.iconst (-1), 1) := by decide +kernel
theorem dX10_lift_52 : decode cX10_lift 52 = .ok (.iastore, 1) := by decide +kernel
theorem dX10_lift_53 : decode cX10_lift 53 = .ok (.iinc 3 1, 3) := by decide +kernel
end
section
theorem dX10_lift_56 : decode cX10_lift 56 = .ok (.goto (-28), 3) := by decide +kernel
theorem dX10_lift_59 : decode cX10_lift 59 = .ok (.iload_n 2, 1) := by decide +kernel
theorem dX10_lift_60 : decode cX10_lift 60 = .ok (.ireturn, 1) := by decide +kernel
theorem dX10_look_0 : decode cX10_look 0 = .ok (.aload_n 0, 1) := by decide +kernel
theorem dX10_look_1 : decode cX10_look 1 = .ok (.iload_n 1, 1) := by decide +kernel
theorem dX10_look_2 : decode cX10_look 2 = .ok (.iconst 0, 1) := by decide +kernel
theorem dX10_look_3 : decode cX10_look 3 = .ok (.iconst 5, 1) := by decide +kernel
theorem dX10_look_4 : decode cX10_look 4 = .ok (.invokevirtual 96, 3) := by decide +kernel
theorem dX10_look_7 : decode cX10_look 7 = .ok (.ifCond .eq 5, 3) := by decide +kernel
theorem dX10_look_10 : decode cX10_look 10 = .ok (.iconst (-1), 1) := by decide +kernel
theorem dX10_look_11 : decode cX10_look 11 = .ok (.ireturn, 1) := by decide +kernel
theorem dX10_look_12 : decode cX10_look 12 = .ok (.iload_n 2, 1) := by decide +kernel
theorem dX10_look_13 : decode cX10_look 13 = .ok (.tableswitch 81 0 5 #[39, 46, 53, 60, 67, 74], 39) := by decide +kernel
theorem dX10_look_52 : decode cX10_look 52 = .ok (.aload_n 0, 1) := by decide +kernel
theorem dX10_look_53 : decode cX10_look 53 = .ok (.getfield 9, 3) := by decide +kernel
theorem dX10_look_56 : decode cX10_look 56 = .ok (.iload_n 1, 1) := by decide +kernel
theorem dX10_look_57 : decode cX10_look 57 = .ok (.iaload, 1) := by decide +kernel
theorem dX10_look_58 : decode cX10_look 58 = .ok (.ireturn, 1) := by decide +kernel
theorem dX10_look_59 : decode cX10_look 59 = .ok (.aload_n 0, 1) := by decide +kernel
theorem dX10_look_60 : decode cX10_look 60 = .ok (.getfield 13, 3) := by decide +kernel
theorem dX10_look_63 : decode cX10_look 63 = .ok (.iload_n 1, 1) := by decide +kernel
theorem dX10_look_64 : decode cX10_look 64 = .ok (.iaload, 1) := by decide +kernel
theorem dX10_look_65 : decode cX10_look 65 = .ok (.ireturn, 1) := by decide +kernel
theorem dX10_look_66 : decode cX10_look 66 = .ok (.aload_n 0, 1) := by decide +kernel
theorem dX10_look_67 : decode cX10_look 67 = .ok (.getfield 16, 3) := by decide +kernel
theorem dX10_look_70 : decode cX10_look 70 = .ok (.iload_n 1, 1) := by decide +kernel
theorem dX10_look_71 : decode cX10_look 71 = .ok (.iaload, 1) := by decide +kernel
theorem dX10_look_72 : decode cX10_look 72 = .ok (.ireturn, 1) := by decide +kernel
theorem dX10_look_73 : decode cX10_look 73 = .ok (.aload_n 0, 1) := by decide +kernel
theorem dX10_look_74 : decode cX10_look 74 = .ok (.getfield 19, 3) := by decide +kernel
theorem dX10_look_77 : decode cX10_look 77 = .ok (.iload_n 1, 1) := by decide +kernel
theorem dX10_look_78 : decode cX10_look 78 = .ok (.iaload, 1) := by decide +kernel
theorem dX10_look_79 : decode cX10_look 79 = .ok (.ireturn, 1) := by decide +kernel
theorem dX10_look_80 : decode cX10_look 80 = .ok (.aload_n 0, 1) := by decide +kernel
theorem dX10_look_81 : decode cX10_look 81 = .ok (.getfield 22, 3) := by decide +kernel
theorem dX10_look_84 : decode cX10_look 84 = .ok (.iload_n 1, 1) := by decide +kernel
theorem dX10_look_85 : decode cX10_look 85 = .ok (.iaload, 1) := by decide +kernel
theorem dX10_look_86 : decode cX10_look 86 = .ok (.ireturn, 1) := by decide +kernel
theorem dX10_look_87 : decode cX10_look 87 = .ok (.aload_n 0, 1) := by decide +kernel
theorem dX10_look_88 : decode cX10_look 88 = .ok (.getfield 25, 3) := by decide +kernel
theorem dX10_look_91 : decode cX10_look 91 = .ok (.iload_n 1, 1) := by decide +kernel
theorem dX10_look_92 : decode cX10_look 92 = .ok (.iaload, 1) := by decide +kernel
theorem dX10_look_93 : decode cX10_look 93 = .ok (.ireturn, 1) := by decide +kernel
theorem dX10_look_94 : decode cX10_look 94 = .ok (.iconst (-1), 1) := by decide +kernel
theorem dX10_look_95 : decode cX10_look 95 = .ok (.ireturn, 1) := by decide +kernel
theorem dX10_read_0 : decode cX10_read 0 = .ok (.aload_n 0, 1) := by decide +kernel
theorem dX10_read_1 : decode cX10_read 1 = .ok (.iload_n 1, 1) := by decide +kernel
theorem dX10_read_2 : decode cX10_read 2 = .ok (.iconst 0, 1) := by decide +kernel
theorem dX10_read_3 : decode cX10_read 3 = .ok (.iconst 4, 1) := by decide +kernel
theorem dX10_read_4 : decode cX10_read 4 = .ok (.invokevirtual 96, 3) := by decide +kernel
theorem dX10_read_7 : decode cX10_read 7 = .ok (.istore_n 3, 1) := by decide +kernel
theorem dX10_read_8 : decode cX10_read 8 = .ok (.iload_n 3, 1) := by decide +kernel
theorem dX10_read_9 : decode cX10_read 9 = .ok (.ifCond .eq 5, 3) := by decide +kernel
theorem dX10_read_12 : decode cX10_read 12 = .ok (.iload_n 3, 1) := by decide +kernel
theorem dX10_read_13 : decode cX10_read 13 = .ok (.ireturn, 1) := by decide +kernel
theorem dX10_read_14 : decode cX10_read 14 = .ok (.aload_n 0, 1) := by decide +kernel
theorem dX10_read_15 : decode cX10_read 15 = .ok (.getfield 9, 3) := by decide +kernel
theorem dX10_read_18 : decode cX10_read 18 = .ok (.iload_n 1, 1) := by decide +kernel
theorem dX10_read_19 : decode cX10_read 19 = .ok (.iaload, 1) := by decide +kernel
theorem dX10_read_20 : decode cX10_read 20 = .ok (.iconst 1, 1) := by decide +kernel
theorem dX10_read_21 : decode cX10_read 21 = .ok (.if_icmp .eq 13, 3) := by decide +kernel
theorem dX10_read_24 : decode cX10_read 24 = .ok (.aload_n 0, 1) := by decide +kernel
theorem dX10_read_25 : decode cX10_read 25 = .ok (.getfield 9, 3) := by decide +kernel
theorem dX10_read_28 : decode cX10_read 28 = .ok (.iload_n 1, 1) := by decide +kernel
theorem dX10_read_29 : decode cX10_read 29 = .ok (.iaload, 1) := by decide +kernel
theorem dX10_read_30 : decode cX10_read 30 = .ok (.iconst 4, 1) := by decide +kernel
theorem dX10_read_31 : decode cX10_read 31 = .ok (.if_icmp .ne 7, 3) := by decide +kernel
theorem dX10_read_34 : decode cX10_read 34 = .ok (.iconst 1, 1) := by decide +kernel
theorem dX10_read_35 : decode cX10_read 35 = .ok (.goto 4, 3) := by decide +kernel
theorem dX10_read_38 : decode cX10_read 38 = .ok (.iconst 0, 1) := by decide +kernel
theorem dX10_read_39 : decode cX10_read 39 = .ok (.istore 4, 2) := by decide +kernel
theorem dX10_read_41 : decode cX10_read 41 = .ok (.aload_n 0, 1) := by decide +kernel
theorem dX10_read_42 : decode cX10_read 42 = .ok (.getfield 89, 3) := by decide +kernel
theorem dX10_read_45 : decode cX10_read 45 = .ok (.bipush 56, 2) := by decide +kernel
theorem dX10_read_47 : decode cX10_read 47 = .ok (.if_icmp .eq 25, 3) := by decide +kernel
theorem dX10_read_50 : decode cX10_read 50 = .ok (.iload_n 2, 1) := by decide +kernel
theorem dX10_read_51 : decode cX10_read 51 = .ok (.iconst 0, 1) := by decide +kernel
theorem dX10_read_52 : decode cX10_read 52 = .ok (.iload 4, 2) := by decide +kernel
theorem dX10_read_54 : decode cX10_read 54 = .ok (.ifCond .eq 9, 3) := by decide +kernel
theorem dX10_read_57 : decode cX10_read 57 = .ok (.sipush 250, 3) := by decide +kernel
theorem dX10_read_60 : decode cX10_read 60 = .ok (.goto 6, 3) := by decide +kernel
theorem dX10_read_63 : decode cX10_read 63 = .ok (.sipush 5000, 3) := by decide +kernel
theorem dX10_read_66 : decode cX10_read 66 = .ok (.invokestatic 85, 3) := by decide +kernel
theorem dX10_read_69 : decode cX10_read 69 = .ok (.ifCond .ne 5, 3) := by decide +kernel
theorem dX10_read_72 : decode cX10_read 72 = .ok (.iconst (-1), 1) := by decide +kernel
theorem dX10_read_73 : decode cX10_read 73 = .ok (.ireturn, 1) := by decide +kernel
theorem dX10_read_74 : decode cX10_read 74 = .ok (.aload_n 0, 1) := by decide +kernel
theorem dX10_read_75 : decode cX10_read 75 = .ok (.getfield 28, 3) := by decide +kernel
theorem dX10_read_78 : decode cX10_read 78 = .ok (.iload_n 1, 1) := by decide +kernel
theorem dX10_read_79 : decode cX10_read 79 = .ok (.aload_n 0, 1) := by decide +kernel
theorem dX10_read_80 : decode cX10_read 80 = .ok (.getfield 89, 3) := by decide +kernel
theorem dX10_read_83 : decode cX10_read 83 = .ok (.invokestatic 92, 3) := by decide +kernel
theorem dX10_read_86 : decode cX10_read 86 = .ok (.iload_n 2, 1) := by decide +kernel
theorem dX10_read_87 : decode cX10_read 87 = .ok (.iastore, 1) := by decide +kernel
theorem dX10_read_88 : decode cX10_read 88 = .ok (.aload_n 0, 1) := by decide +kernel
theorem dX10_read_89 : decode cX10_read 89 = .ok (.getfield 9, 3) := by decide +kernel
theorem dX10_read_92 : decode cX10_read 92 = .ok (.iload_n 1, 1) := by decide +kernel
theorem dX10_read_93 : decode cX10_read 93 = .ok (.iaload, 1) := by decide +kernel
theorem dX10_read_94 : decode cX10_read 94 = .ok (.iconst 2, 1) := by decide +kernel
theorem dX10_read_95 : decode cX10_read 95 = .ok (.if_icmp .ne 13, 3) := by decide +kernel
theorem dX10_read_98 : decode cX10_read 98 = .ok (.aload_n 0, 1) := by decide +kernel
theorem dX10_read_99 : decode cX10_read 99 = .ok (.getfield 25, 3) := by decide +kernel
theorem dX10_read_102 : decode cX10_read 102 = .ok (.iload_n 1, 1) := by decide +kernel
theorem dX10_read_103 : decode cX10_read 103 = .ok (.dup2, 1) := by decide +kernel
theorem dX10_read_104 : decode cX10_read 104 = .ok (.iaload, 1) := by decide +kernel
theorem dX10_read_105 : decode cX10_read 105 = .ok (.iload_n 2, 1) := by decide +kernel
theorem dX10_read_106 : decode cX10_read 106 = .ok (.iadd, 1) := by decide +kernel
theorem dX10_read_107 : decode cX10_read 107 = .ok (.iastore, 1) := by decide +kernel
theorem dX10_read_108 : decode cX10_read 108 = .ok (.iconst 1, 1) := by decide +kernel
theorem dX10_read_109 : decode cX10_read 109 = .ok (.ireturn, 1) := by decide +kernel
theorem dX10_full_0 : decode cX10_full 0 = .ok (.aload_n 0, 1) := by decide +kernel
theorem dX10_full_1 : decode cX10_full 1 = .ok (.iload_n 1, 1) := by decide +kernel
theorem dX10_full_2 : decode cX10_full 2 = .ok (.iconst 1, 1) := by decide +kernel
theorem dX10_full_3 : decode cX10_full 3 = .ok (.iconst 1, 1) := by decide +kernel
theorem dX10_full_4 : decode cX10_full 4 = .ok (.invokevirtual 96, 3) := by decide +kernel
theorem dX10_full_7 : decode cX10_full 7 = .ok (.istore_n 3, 1) := by decide +kernel
theorem dX10_full_8 : decode cX10_full 8 = .ok (.iload_n 3, 1) := by decide +kernel
theorem dX10_full_9 : decode cX10_full 9 = .ok (.ifCond .eq 5, 3) := by decide +kernel
theorem dX10_full_12 : decode cX10_full 12 = .ok (.iload_n 3, 1) := by decide +kernel
theorem dX10_full_13 : decode cX10_full 13 = .ok (.ireturn, 1) := by decide +kernel
theorem dX10_full_14 : decode cX10_full 14 = .ok (.aload_n 0, 1) := by decide +kernel
theorem dX10_full_15 : decode cX10_full 15 = .ok (.getfield 89, 3) := by decide +kernel
theorem dX10_full_18 : decode cX10_full 18 = .ok (.bipush 56, 2) := by decide +kernel
theorem dX10_full_20 : decode cX10_full 20 = .ok (.if_icmp .eq 13, 3) := by decide +kernel
theorem dX10_full_23 : decode cX10_full 23 = .ok (.iload_n 2, 1) := by decide +kernel
theorem dX10_full_24 : decode cX10_full 24 = .ok (.iconst 0, 1) := by decide +kernel
theorem dX10_full_25 : decode cX10_full 25 = .ok (.bipush 7, 2) := by decide +kernel
theorem dX10_full_27 : decode cX10_full 27 = .ok (.invokestatic 85, 3) := by decide +kernel
theorem dX10_full_30 : decode cX10_full 30 = .ok (.ifCond .ne 5, 3) := by decide +kernel
theorem dX10_full_33 : decode cX10_full 33 = .ok (.iconst (-1), 1) := by decide +kernel
theorem dX10_full_34 : decode cX10_full 34 = .ok (.ireturn, 1) := by decide +kernel
theorem dX10_full_35 : decode cX10_full 35 = .ok (.aload_n 0, 1) := by decide +kernel
theorem dX10_full_36 : decode cX10_full 36 = .ok (.getfield 31, 3) := by decide +kernel
theorem dX10_full_39 : decode cX10_full 39 = .ok (.iload_n 1, 1) := by decide +kernel
theorem dX10_full_40 : decode cX10_full 40 = .ok (.aload_n 0, 1) := by decide +kernel
theorem dX10_full_41 : decode cX10_full 41 = .ok (.getfield 89, 3) := by decide +kernel
theorem dX10_full_44 : decode cX10_full 44 = .ok (.invokestatic 92, 3) := by decide +kernel
theorem dX10_full_47 : decode cX10_full 47 = .ok (.iload_n 2, 1) := by decide +kernel
theorem dX10_full_48 : decode cX10_full 48 = .ok (.iastore, 1) := by decide +kernel
theorem dX10_full_49 : decode cX10_full 49 = .ok (.iconst 1, 1) := by decide +kernel
theorem dX10_full_50 : decode cX10_full 50 = .ok (.ireturn, 1) := by decide +kernel
theorem dX10_melt_0 : decode cX10_melt 0 = .ok (.aload_n 0, 1) := by decide +kernel
theorem dX10_melt_1 : decode cX10_melt 1 = .ok (.iload_n 1, 1) := by decide +kernel
theorem dX10_melt_2 : decode cX10_melt 2 = .ok (.iconst 2, 1) := by decide +kernel
theorem dX10_melt_3 : decode cX10_melt 3 = .ok (.iconst 2, 1) := by decide +kernel
theorem dX10_melt_4 : decode cX10_melt 4 = .ok (.invokevirtual 96, 3) := by decide +kernel
theorem dX10_melt_7 : decode cX10_melt 7 = .ok (.istore_n 3, 1) := by decide +kernel
theorem dX10_melt_8 : decode cX10_melt 8 = .ok (.iload_n 3, 1) := by decide +kernel
theorem dX10_melt_9 : decode cX10_melt 9 = .ok (.ifCond .eq 5, 3) := by decide +kernel
theorem dX10_melt_12 : decode cX10_melt 12 = .ok (.iload_n 3, 1) := by decide +kernel
theorem dX10_melt_13 : decode cX10_melt 13 = .ok (.ireturn, 1) := by decide +kernel
theorem dX10_melt_14 : decode cX10_melt 14 = .ok (.aload_n 0, 1) := by decide +kernel
theorem dX10_melt_15 : decode cX10_melt 15 = .ok (.getfield 89, 3) := by decide +kernel
theorem dX10_melt_18 : decode cX10_melt 18 = .ok (.bipush 56, 2) := by decide +kernel
theorem dX10_melt_20 : decode cX10_melt 20 = .ok (.if_icmp .eq 24, 3) := by decide +kernel
theorem dX10_melt_23 : decode cX10_melt 23 = .ok (.iload_n 2, 1) := by decide +kernel
theorem dX10_melt_24 : decode cX10_melt 24 = .ok (.iconst 1, 1) := by decide +kernel
theorem dX10_melt_25 : decode cX10_melt 25 = .ok (.sipush 5000, 3) := by decide +kernel
theorem dX10_melt_28 : decode cX10_melt 28 = .ok (.invokestatic 85, 3) := by decide +kernel
theorem dX10_melt_31 : decode cX10_melt 31 = .ok (.ifCond .eq 13, 3) := by decide +kernel
theorem dX10_melt_34 : decode cX10_melt 34 = .ok (.iload_n 2, 1) := by decide +kernel
theorem dX10_melt_35 : decode cX10_melt 35 = .ok (.aload_n 0, 1) := by decide +kernel
theorem dX10_melt_36 : decode cX10_melt 36 = .ok (.getfield 25, 3) := by decide +kernel
theorem dX10_melt_39 : decode cX10_melt 39 = .ok (.iload_n 1, 1) := by decide +kernel
theorem dX10_melt_40 : decode cX10_melt 40 = .ok (.iaload, 1) := by decide +kernel
theorem dX10_melt_41 : decode cX10_melt 41 = .ok (.if_icmp .le 5, 3) := by decide +kernel
theorem dX10_melt_44 : decode cX10_melt 44 = .ok (.iconst (-1), 1) := by decide +kernel
theorem dX10_melt_45 : decode cX10_melt 45 = .ok (.ireturn, 1) := by decide +kernel
theorem dX10_melt_46 : decode cX10_melt 46 = .ok (.aload_n 0, 1) := by decide +kernel
theorem dX10_melt_47 : decode cX10_melt 47 = .ok (.getfield 34, 3) := by decide +kernel
theorem dX10_melt_50 : decode cX10_melt 50 = .ok (.iload_n 1, 1) := by decide +kernel
theorem dX10_melt_51 : decode cX10_melt 51 = .ok (.aload_n 0, 1) := by decide +kernel
theorem dX10_melt_52 : decode cX10_melt 52 = .ok (.getfield 89, 3) := by decide +kernel
theorem dX10_melt_55 : decode cX10_melt 55 = .ok (.invokestatic 92, 3) := by decide +kernel
theorem dX10_melt_58 : decode cX10_melt 58 = .ok (.iaload, 1) := by decide +kernel
theorem dX10_melt_59 : decode cX10_melt 59 = .ok (.iconst (-1), 1) := by decide +kernel
theorem dX10_melt_60 : decode cX10_melt 60 = .ok (.if_icmp .ne 7, 3) := by decide +kernel
theorem dX10_melt_63 : decode cX10_melt 63 = .ok (.iconst 0, 1) := by decide +kernel
theorem dX10_melt_64 : decode cX10_melt 64 = .ok (.goto 16, 3) := by decide +kernel
theorem dX10_melt_67 : decode cX10_melt 67 = .ok (.aload_n 0, 1) := by decide +kernel
theorem dX10_melt_68 : decode cX10_melt 68 = .ok (.getfield 34, 3) := by decide +kernel
theorem dX10_melt_71 : decode cX10_melt 71 = .ok (.iload_n 1, 1) := by decide +kernel
theorem dX10_melt_72 : decode cX10_melt 72 = .ok (.aload_n 0, 1) := by decide +kernel
theorem dX10_melt_73 : decode cX10_melt 73 = .ok (.getfield 89, 3) := by decide +kernel
theorem dX10_melt_76 : decode cX10_melt 76 = .ok (.invokestatic 92, 3) := by decide +kernel
theorem dX10_melt_79 : decode cX10_melt 79 = .ok (.iaload, 1) := by decide +kernel
theorem dX10_melt_80 : decode cX10_melt 80 = .ok (.istore 4, 2) := by decide +kernel
theorem dX10_melt_82 : decode cX10_melt 82 = .ok (.iload 4, 2) := by decide +kernel
theorem dX10_melt_84 : decode cX10_melt 84 = .ok (.iload_n 2, 1) := by decide +kernel
theorem dX10_melt_85 : decode cX10_melt 85 = .ok (.iadd, 1) := by decide +kernel
theorem dX10_melt_86 : decode cX10_melt 86 = .ok (.sipush 5000, 3) := by decide +kernel
theorem dX10_melt_89 : decode cX10_melt 89 = .ok (.if_icmp .le 5, 3) := by decide +kernel
theorem dX10_melt_92 : decode cX10_melt 92 = .ok (.iconst (-1), 1) := by decide +kernel
theorem dX10_melt_93 : decode cX10_melt 93 = .ok (.ireturn, 1) := by decide +kernel
theorem dX10_melt_94 : decode cX10_melt 94 = .ok (.aload_n 0, 1) := by decide +kernel
theorem dX10_melt_95 : decode cX10_melt 95 = .ok (.getfield 25, 3) := by decide +kernel
theorem dX10_melt_98 : decode cX10_melt 98 = .ok (.iload_n 1, 1) := by decide +kernel
theorem dX10_melt_99 : decode cX10_melt 99 = .ok (.dup2, 1) := by decide +kernel
theorem dX10_melt_100 : decode cX10_melt 100 = .ok (.iaload, 1) := by decide +kernel
theorem dX10_melt_101 : decode cX10_melt 101 = .ok (.iload_n 2, 1) := by decide +kernel
theorem dX10_melt_102 : decode cX10_melt 102 = .ok (.isub, 1) := by decide +kernel
theorem dX10_melt_103 : decode cX10_melt 103 = .ok (.iastore, 1) := by decide +kernel
theorem dX10_melt_104 : decode cX10_melt 104 = .ok (.aload_n 0, 1) := by decide +kernel
theorem dX10_melt_105 : decode cX10_melt 105 = .ok (.getfield 34, 3) := by decide +kernel
theorem dX10_melt_108 : decode cX10_melt 108 = .ok (.iload_n 1, 1) := by decide +kernel
theorem dX10_melt_109 : decode cX10_melt 109 = .ok (.aload_n 0, 1) := by decide +kernel
theorem dX10_melt_110 : decode cX10_melt 110 = .ok (.getfield 89, 3) := by decide +kernel
theorem dX10_melt_113 : decode cX10_melt 113 = .ok (.invokestatic 92, 3) := by decide +kernel
theorem dX10_melt_116 : decode cX10_melt 116 = .ok (.iload 4, 2) := by decide +kernel
theorem dX10_melt_118 : decode cX10_melt 118 = .ok (.iload_n 2, 1) := by decide +kernel
theorem dX10_melt_119 : decode cX10_melt 119 = .ok (.iadd, 1) := by decide +kernel
theorem dX10_melt_120 : decode cX10_melt 120 = .ok (.iastore, 1) := by decide +kernel
theorem dX10_melt_121 : decode cX10_melt 121 = .ok (.aload_n 0, 1) := by decide +kernel
theorem dX10_melt_122 : decode cX10_melt 122 = .ok (.getfield 25, 3) := by decide +kernel
theorem dX10_melt_125 : decode cX10_melt 125 = .ok (.iload_n 1, 1) := by decide +kernel
theorem dX10_melt_126 : decode cX10_melt 126 = .ok (.iaload, 1) := by decide +kernel
theorem dX10_melt_127 : decode cX10_melt 127 = .ok (.ireturn, 1) := by decide +kernel
theorem dX10_other_0 : decode cX10_other 0 = .ok (.aload_n 0, 1) := by decide +kernel
theorem dX10_other_1 : decode cX10_other 1 = .ok (.iload_n 1, 1) := by decide +kernel
theorem dX10_other_2 : decode cX10_other 2 = .ok (.iconst 4, 1) := by decide +kernel
theorem dX10_other_3 : decode cX10_other 3 = .ok (.iconst 4, 1) := by decide +kernel
theorem dX10_other_4 : decode cX10_other 4 = .ok (.invokevirtual 96, 3) := by decide +kernel
theorem dX10_other_7 : decode cX10_other 7 = .ok (.istore_n 3, 1) := by decide +kernel
theorem dX10_other_8 : decode cX10_other 8 = .ok (.iload_n 3, 1) := by decide +kernel
theorem dX10_other_9 : decode cX10_other 9 = .ok (.ifCond .eq 5, 3) := by decide +kernel
theorem dX10_other_12 : decode cX10_other 12 = .ok (.iload_n 3, 1) := by decide +kernel
theorem dX10_other_13 : decode cX10_other 13 = .ok (.ireturn, 1) := by decide +kernel
theorem dX10_other_14 : decode cX10_other 14 = .ok (.aload_n 0, 1) := by decide +kernel
theorem dX10_other_15 : decode cX10_other 15 = .ok (.getfield 89, 3) := by decide +kernel
theorem dX10_other_18 : decode cX10_other 18 = .ok (.bipush 56, 2) := by decide +kernel
theorem dX10_other_20 : decode cX10_other 20 = .ok (.if_icmp .eq 14, 3) := by decide +kernel
theorem dX10_other_23 : decode cX10_other 23 = .ok (.iload_n 2, 1) := by decide +kernel
theorem dX10_other_24 : decode cX10_other 24 = .ok (.iconst 0, 1) := by decide +kernel
theorem dX10_other_25 : decode cX10_other 25 = .ok (.sipush 250, 3) := by decide +kernel
theorem dX10_other_28 : decode cX10_other 28 = .ok (.invokestatic 85, 3) := by decide +kernel
theorem dX10_other_31 : decode cX10_other 31 = .ok (.ifCond .ne 5, 3) := by decide +kernel
theorem dX10_other_34 : decode cX10_other 34 = .ok (.iconst (-1), 1) := by decide +kernel
theorem dX10_other_35 : decode cX10_other 35 = .ok (.ireturn, 1) := by decide +kernel
theorem dX10_other_36 : decode cX10_other 36 = .ok (.aload_n 0, 1) := by decide +kernel
theorem dX10_other_37 : decode cX10_other 37 = .ok (.getfield 37, 3) := by decide +kernel
theorem dX10_other_40 : decode cX10_other 40 = .ok (.iload_n 1, 1) := by decide +kernel
theorem dX10_other_41 : decode cX10_other 41 = .ok (.aload_n 0, 1) := by decide +kernel
theorem dX10_other_42 : decode cX10_other 42 = .ok (.getfield 89, 3) := by decide +kernel
theorem dX10_other_45 : decode cX10_other 45 = .ok (.invokestatic 92, 3) := by decide +kernel
theorem dX10_other_48 : decode cX10_other 48 = .ok (.iload_n 2, 1) := by decide +kernel
theorem dX10_other_49 : decode cX10_other 49 = .ok (.iastore, 1) := by decide +kernel
theorem dX10_other_50 : decode cX10_other 50 = .ok (.iconst 1, 1) := by decide +kernel
theorem dX10_other_51 : decode cX10_other 51 = .ok (.ireturn, 1) := by decide +kernel
theorem dX10_hand_0 : decode cX10_hand 0 = .ok (.aload_n 0, 1) := by decide +kernel
theorem dX10_hand_1 : decode cX10_hand 1 = .ok (.iload_n 1, 1) := by decide +kernel
theorem dX10_hand_2 : decode cX10_hand 2 = .ok (.iconst 0, 1) := by decide +kernel
theorem dX10_hand_3 : decode cX10_hand 3 = .ok (.iconst 5, 1) := by decide +kernel
theorem dX10_hand_4 : decode cX10_hand 4 = .ok (.invokevirtual 96, 3) := by decide +kernel
theorem dX10_hand_7 : decode cX10_hand 7 = .ok (.istore 4, 2) := by decide +kernel
theorem dX10_hand_9 : decode cX10_hand 9 = .ok (.iload 4, 2) := by decide +kernel
theorem dX10_hand_11 : decode cX10_hand 11 = .ok (.ifCond .ne 27, 3) := by decide +kernel
theorem dX10_hand_14 : decode cX10_hand 14 = .ok (.aload_n 0, 1) := by decide +kernel
theorem dX10_hand_15 : decode cX10_hand 15 = .ok (.getfield 9, 3) := by decide +kernel
theorem dX10_hand_18 : decode cX10_hand 18 = .ok (.iload_n 1, 1) := by decide +kernel
theorem dX10_hand_19 : decode cX10_hand 19 = .ok (.iaload, 1) := by decide +kernel
theorem dX10_hand_20 : decode cX10_hand 20 = .ok (.iconst 3, 1) := by decide +kernel
theorem dX10_hand_21 : decode cX10_hand 21 = .ok (.if_icmp .eq 13, 3) := by decide +kernel
theorem dX10_hand_24 : decode cX10_hand 24 = .ok (.aload_n 0, 1) := by decide +kernel
theorem dX10_hand_25 : decode cX10_hand 25 = .ok (.getfield 9, 3) := by decide +kernel
theorem dX10_hand_28 : decode cX10_hand 28 = .ok (.iload_n 1, 1) := by decide +kernel
theorem dX10_hand_29 : decode cX10_hand 29 = .ok (.iaload, 1) := by decide +kernel
theorem dX10_hand_30 : decode cX10_hand 30 = .ok (.iconst 5, 1) := by decide +kernel
theorem dX10_hand_31 : decode cX10_hand 31 = .ok (.if_icmp .ne 7, 3) := by decide +kernel
theorem dX10_hand_34 : decode cX10_hand 34 = .ok (.bipush (-2), 2) := by decide +kernel
theorem dX10_hand_36 : decode cX10_hand 36 = .ok (.istore 4, 2) := by decide +kernel
theorem dX10_hand_38 : decode cX10_hand 38 = .ok (.iload 4, 2) := by decide +kernel
theorem dX10_hand_40 : decode cX10_hand 40 = .ok (.ifCond .eq 6, 3) := by decide +kernel
theorem dX10_hand_43 : decode cX10_hand 43 = .ok (.iload 4, 2) := by decide +kernel
theorem dX10_hand_45 : decode cX10_hand 45 = .ok (.ireturn, 1) := by decide +kernel
theorem dX10_hand_46 : decode cX10_hand 46 = .ok (.iload_n 2, 1) := by decide +kernel
theorem dX10_hand_47 : decode cX10_hand 47 = .ok (.aload_n 0, 1) := by decide +kernel
theorem dX10_hand_48 : decode cX10_hand 48 = .ok (.getfield 22, 3) := by decide +kernel
theorem dX10_hand_51 : decode cX10_hand 51 = .ok (.iload_n 1, 1) := by decide +kernel
theorem dX10_hand_52 : decode cX10_hand 52 = .ok (.iaload, 1) := by decide +kernel
theorem dX10_hand_53 : decode cX10_hand 53 = .ok (.aload_n 0, 1) := by decide +kernel
theorem dX10_hand_54 : decode cX10_hand 54 = .ok (.getfield 89, 3) := by decide +kernel
theorem dX10_hand_57 : decode cX10_hand 57 = .ok (.bipush 55, 2) := by decide +kernel
theorem dX10_hand_59 : decode cX10_hand 59 = .ok (.if_icmp .ge 10, 3) := by decide +kernel
theorem dX10_hand_62 : decode cX10_hand 62 = .ok (.aload_n 0, 1) := by decide +kernel
theorem dX10_hand_63 : decode cX10_hand 63 = .ok (.getfield 89, 3) := by decide +kernel
theorem dX10_hand_66 : decode cX10_hand 66 = .ok (.goto 5, 3) := by decide +kernel
theorem dX10_hand_69 : decode cX10_hand 69 = .ok (.bipush 55, 2) := by decide +kernel
theorem dX10_hand_71 : decode cX10_hand 71 = .ok (.invokestatic 85, 3) := by decide +kernel
theorem dX10_hand_74 : decode cX10_hand 74 = .ok (.ifCond .eq 23, 3) := by decide +kernel
theorem dX10_hand_77 : decode cX10_hand 77 = .ok (.iload_n 3, 1) := by decide +kernel
theorem dX10_hand_78 : decode cX10_hand 78 = .ok (.iconst (-1), 1) := by decide +kernel
theorem dX10_hand_79 : decode cX10_hand 79 = .ok (.sipush 5000, 3) := by decide +kernel
theorem dX10_hand_82 : decode cX10_hand 82 = .ok (.invokestatic 85, 3) := by decide +kernel
theorem dX10_hand_85 : decode cX10_hand 85 = .ok (.ifCond .eq 12, 3) := by decide +kernel
theorem dX10_hand_88 : decode cX10_hand 88 = .ok (.aload_n 0, 1) := by decide +kernel
theorem dX10_hand_89 : decode cX10_hand 89 = .ok (.getfield 100, 3) := by decide +kernel
theorem dX10_hand_92 : decode cX10_hand 92 = .ok (.bipush 100, 2) := by decide +kernel
theorem dX10_hand_94 : decode cX10_hand 94 = .ok (.if_icmp .ne 5, 3) := by decide +kernel
theorem dX10_hand_97 : decode cX10_hand 97 = .ok (.iconst (-1), 1) := by decide +kernel
theorem dX10_hand_98 : decode cX10_hand 98 = .ok (.ireturn, 1) := by decide +kernel
theorem dX10_hand_99 : decode cX10_hand 99 = .ok (.aload_n 0, 1) := by decide +kernel
theorem dX10_hand_100 : decode cX10_hand 100 = .ok (.getfield 40, 3) := by decide +kernel
theorem dX10_hand_103 : decode cX10_hand 103 = .ok (.aload_n 0, 1) := by decide +kernel
theorem dX10_hand_104 : decode cX10_hand 104 = .ok (.getfield 100, 3) := by decide +kernel
theorem dX10_hand_107 : decode cX10_hand 107 = .ok (.iload_n 1, 1) := by decide +kernel
theorem dX10_hand_108 : decode cX10_hand 108 = .ok (.iastore, 1) := by decide +kernel
theorem dX10_hand_109 : decode cX10_hand 109 = .ok (.aload_n 0, 1) := by decide +kernel
theorem dX10_hand_110 : decode cX10_hand 110 = .ok (.getfield 43, 3) := by decide +kernel
theorem dX10_hand_113 : decode cX10_hand 113 = .ok (.aload_n 0, 1) := by decide +kernel
theorem dX10_hand_114 : decode cX10_hand 114 = .ok (.getfield 100, 3) := by decide +kernel
theorem dX10_hand_117 : decode cX10_hand 117 = .ok (.iload_n 2, 1) := by decide +kernel
theorem dX10_hand_118 : decode cX10_hand 118 = .ok (.iastore, 1) := by decide +kernel
theorem dX10_hand_119 : decode cX10_hand 119 = .ok (.aload_n 0, 1) := by decide +kernel
theorem dX10_hand_120 : decode cX10_hand 120 = .ok (.getfield 46, 3) := by decide +kernel
theorem dX10_hand_123 : decode cX10_hand 123 = .ok (.aload_n 0, 1) := by decide +kernel
theorem dX10_hand_124 : decode cX10_hand 124 = .ok (.getfield 100, 3) := by decide +kernel
theorem dX10_hand_127 : decode cX10_hand 127 = .ok (.iload_n 3, 1) := by decide +kernel
theorem dX10_hand_128 : decode cX10_hand 128 = .ok (.iastore, 1) := by decide +kernel
theorem dX10_hand_129 : decode cX10_hand 129 = .ok (.aload_n 0, 1) := by decide +kernel
theorem dX10_hand_130 : decode cX10_hand 130 = .ok (.getfield 49, 3) := by decide +kernel
theorem dX10_hand_133 : decode cX10_hand 133 = .ok (.aload_n 0, 1) := by decide +kernel
theorem dX10_hand_134 : decode cX10_hand 134 = .ok (.getfield 100, 3) := by decide +kernel
theorem dX10_hand_137 : decode cX10_hand 137 = .ok (.aload_n 0, 1) := by decide +kernel
theorem dX10_hand_138 : decode cX10_hand 138 = .ok (.getfield 89, 3) := by decide +kernel
theorem dX10_hand_141 : decode cX10_hand 141 = .ok (.iastore, 1) := by decide +kernel
theorem dX10_hand_142 : decode cX10_hand 142 = .ok (.aload_n 0, 1) := by decide +kernel
theorem dX10_hand_143 : decode cX10_hand 143 = .ok (.dup, 1) := by decide +kernel
theorem dX10_hand_144 : decode cX10_hand 144 = .ok (.getfield 100, 3) := by decide +kernel
theorem dX10_hand_147 : decode cX10_hand 147 = .ok (.iconst 1, 1) := by decide +kernel
theorem dX10_hand_148 : decode cX10_hand 148 = .ok (.iadd, 1) := by decide +kernel
theorem dX10_hand_149 : decode cX10_hand 149 = .ok (.putfield 100, 3) := by decide +kernel
theorem dX10_hand_152 : decode cX10_hand 152 = .ok (.aload_n 0, 1) := by decide +kernel
theorem dX10_hand_153 : decode cX10_hand 153 = .ok (.getfield 100, 3) := by decide +kernel
theorem dX10_hand_156 : decode cX10_hand 156 = .ok (.ireturn, 1) := by decide +kernel
theorem dX10_close_0 : decode cX10_close 0 = .ok (.aload_n 0, 1) := by decide +kernel
theorem dX10_close_1 : decode cX10_close 1 = .ok (.getfield 89, 3) := by decide +kernel
theorem dX10_close_4 : decode cX10_close 4 = .ok (.bipush 56, 2) := by decide +kernel
theorem dX10_close_6 : decode cX10_close 6 = .ok (.if_icmp .ne 5, 3) := by decide +kernel
theorem dX10_close_9 : decode cX10_close 9 = .ok (.iconst (-1), 1) := by decide +kernel
theorem dX10_close_10 : decode cX10_close 10 = .ok (.ireturn, 1) := by decide +kernel
theorem dX10_close_11 : decode cX10_close 11 = .ok (.aload_n 0, 1) := by decide +kernel
theorem dX10_close_12 : decode cX10_close 12 = .ok (.dup, 1) := by decide +kernel
theorem dX10_close_13 : decode cX10_close 13 = .ok (.getfield 89, 3) := by decide +kernel
theorem dX10_close_16 : decode cX10_close 16 = .ok (.iconst 1, 1) := by decide +kernel
theorem dX10_close_17 : decode cX10_close 17 = .ok (.iadd, 1) := by decide +kernel
theorem dX10_close_18 : decode cX10_close 18 = .ok (.putfield 89, 3) := by decide +kernel
theorem dX10_close_21 : decode cX10_close 21 = .ok (.aload_n 0, 1) := by decide +kernel
theorem dX10_close_22 : decode cX10_close 22 = .ok (.getfield 89, 3) := by decide +kernel
theorem dX10_close_25 : decode cX10_close 25 = .ok (.ireturn, 1) := by decide +kernel
theorem dX10_today_0 : decode cX10_today 0 = .ok (.aload_n 0, 1) := by decide +kernel
theorem dX10_today_1 : decode cX10_today 1 = .ok (.getfield 89, 3) := by decide +kernel
theorem dX10_today_4 : decode cX10_today 4 = .ok (.ireturn, 1) := by decide +kernel
theorem dX10_set_0 : decode cX10_set 0 = .ok (.iload_n 1, 1) := by decide +kernel
theorem dX10_set_1 : decode cX10_set 1 = .ok (.ifCond .ne 22, 3) := by decide +kernel
theorem dX10_set_4 : decode cX10_set 4 = .ok (.iload_n 2, 1) := by decide +kernel
theorem dX10_set_5 : decode cX10_set 5 = .ok (.iconst 0, 1) := by decide +kernel
theorem dX10_set_6 : decode cX10_set 6 = .ok (.sipush 5000, 3) := by decide +kernel
theorem dX10_set_9 : decode cX10_set 9 = .ok (.invokestatic 85, 3) := by decide +kernel
theorem dX10_set_12 : decode cX10_set 12 = .ok (.ifCond .eq 11, 3) := by decide +kernel
theorem dX10_set_15 : decode cX10_set 15 = .ok (.aload_n 0, 1) := by decide +kernel
theorem dX10_set_16 : decode cX10_set 16 = .ok (.iload_n 2, 1) := by decide +kernel
theorem dX10_set_17 : decode cX10_set 17 = .ok (.putfield 52, 3) := by decide +kernel
theorem dX10_set_20 : decode cX10_set 20 = .ok (.goto 109, 3) := by decide +kernel
theorem dX10_set_23 : decode cX10_set 23 = .ok (.iload_n 1, 1) := by decide +kernel
theorem dX10_set_24 : decode cX10_set 24 = .ok (.iconst 1, 1) := by decide +kernel
theorem dX10_set_25 : decode cX10_set 25 = .ok (.if_icmp .ne 22, 3) := by decide +kernel
theorem dX10_set_28 : decode cX10_set 28 = .ok (.iload_n 2, 1) := by decide +kernel
theorem dX10_set_29 : decode cX10_set 29 = .ok (.iconst 0, 1) := by decide +kernel
theorem dX10_set_30 : decode cX10_set 30 = .ok (.sipush 200, 3) := by decide +kernel
theorem dX10_set_33 : decode cX10_set 33 = .ok (.invokestatic 85, 3) := by decide +kernel
theorem dX10_set_36 : decode cX10_set 36 = .ok (.ifCond .eq 11, 3) := by decide +kernel
theorem dX10_set_39 : decode cX10_set 39 = .ok (.aload_n 0, 1) := by decide +kernel
theorem dX10_set_40 : decode cX10_set 40 = .ok (.iload_n 2, 1) := by decide +kernel
theorem dX10_set_41 : decode cX10_set 41 = .ok (.putfield 56, 3) := by decide +kernel
theorem dX10_set_44 : decode cX10_set 44 = .ok (.goto 85, 3) := by decide +kernel
theorem dX10_set_47 : decode cX10_set 47 = .ok (.iload_n 1, 1) := by decide +kernel
theorem dX10_set_48 : decode cX10_set 48 = .ok (.iconst 2, 1) := by decide +kernel
theorem dX10_set_49 : decode cX10_set 49 = .ok (.if_icmp .ne 22, 3) := by decide +kernel
theorem dX10_set_52 : decode cX10_set 52 = .ok (.iload_n 2, 1) := by decide +kernel
theorem dX10_set_53 : decode cX10_set 53 = .ok (.iconst 1, 1) := by decide +kernel
theorem dX10_set_54 : decode cX10_set 54 = .ok (.sipush 5000, 3) := by decide +kernel
theorem dX10_set_57 : decode cX10_set 57 = .ok (.invokestatic 85, 3) := by decide +kernel
theorem dX10_set_60 : decode cX10_set 60 = .ok (.ifCond .eq 11, 3) := by decide +kernel
theorem dX10_set_63 : decode cX10_set 63 = .ok (.aload_n 0, 1) := by decide +kernel
theorem dX10_set_64 : decode cX10_set 64 = .ok (.iload_n 2, 1) := by decide +kernel
theorem dX10_set_65 : decode cX10_set 65 = .ok (.putfield 59, 3) := by decide +kernel
theorem dX10_set_68 : decode cX10_set 68 = .ok (.goto 61, 3) := by decide +kernel
theorem dX10_set_71 : decode cX10_set 71 = .ok (.iload_n 1, 1) := by decide +kernel
theorem dX10_set_72 : decode cX10_set 72 = .ok (.iconst 3, 1) := by decide +kernel
theorem dX10_set_73 : decode cX10_set 73 = .ok (.if_icmp .ne 21, 3) := by decide +kernel
theorem dX10_set_76 : decode cX10_set 76 = .ok (.iload_n 2, 1) := by decide +kernel
theorem dX10_set_77 : decode cX10_set 77 = .ok (.iconst 0, 1) := by decide +kernel
theorem dX10_set_78 : decode cX10_set 78 = .ok (.bipush 100, 2) := by decide +kernel
theorem dX10_set_80 : decode cX10_set 80 = .ok (.invokestatic 85, 3) := by decide +kernel
theorem dX10_set_83 : decode cX10_set 83 = .ok (.ifCond .eq 11, 3) := by decide +kernel
theorem dX10_set_86 : decode cX10_set 86 = .ok (.aload_n 0, 1) := by decide +kernel
theorem dX10_set_87 : decode cX10_set 87 = .ok (.iload_n 2, 1) := by decide +kernel
theorem dX10_set_88 : decode cX10_set 88 = .ok (.putfield 62, 3) := by decide +kernel
theorem dX10_set_91 : decode cX10_set 91 = .ok (.goto 38, 3) := by decide +kernel
theorem dX10_set_94 : decode cX10_set 94 = .ok (.iload_n 1, 1) := by decide +kernel
theorem dX10_set_95 : decode cX10_set 95 = .ok (.iconst 4, 1) := by decide +kernel
theorem dX10_set_96 : decode cX10_set 96 = .ok (.bipush 11, 2) := by decide +kernel
theorem dX10_set_98 : decode cX10_set 98 = .ok (.invokestatic 85, 3) := by decide +kernel
theorem dX10_set_101 : decode cX10_set 101 = .ok (.ifCond .eq 26, 3) := by decide +kernel
theorem dX10_set_104 : decode cX10_set 104 = .ok (.iload_n 2, 1) := by decide +kernel
theorem dX10_set_105 : decode cX10_set 105 = .ok (.iconst 0, 1) := by decide +kernel
theorem dX10_set_106 : decode cX10_set 106 = .ok (.sipush 1000, 3) := by decide +kernel
theorem dX10_set_109 : decode cX10_set 109 = .ok (.invokestatic 85, 3) := by decide +kernel
theorem dX10_set_112 : decode cX10_set 112 = .ok (.ifCond .eq 15, 3) := by decide +kernel
theorem dX10_set_115 : decode cX10_set 115 = .ok (.aload_n 0, 1) := by decide +kernel
theorem dX10_set_116 : decode cX10_set 116 = .ok (.getfield 65, 3) := by decide +kernel
theorem dX10_set_119 : decode cX10_set 119 = .ok (.iload_n 1, 1) := by decide +kernel
theorem dX10_set_120 : decode cX10_set 120 = .ok (.iconst 4, 1) := by decide +kernel
theorem dX10_set_121 : decode cX10_set 121 = .ok (.isub, 1) := by decide +kernel
theorem dX10_set_122 : decode cX10_set 122 = .ok (.iload_n 2, 1) := by decide +kernel
theorem dX10_set_123 : decode cX10_set 123 = .ok (.iastore, 1) := by decide +kernel
theorem dX10_set_124 : decode cX10_set 124 = .ok (.goto 5, 3) := by decide +kernel
theorem dX10_set_127 : decode cX10_set 127 = .ok (.iconst 0, 1) := by decide +kernel
theorem dX10_set_128 : decode cX10_set 128 = .ok (.ireturn, 1) := by decide +kernel
theorem dX10_set_129 : decode cX10_set 129 = .ok (.iconst 1, 1) := by decide +kernel
theorem dX10_set_130 : decode cX10_set 130 = .ok (.ireturn, 1) := by decide +kernel
theorem dX10_byHand_0 : decode cX10_byHand 0 = .ok (.iconst (-1), 1) := by decide +kernel
theorem dX10_byHand_1 : decode cX10_byHand 1 = .ok (.istore 4, 2) := by decide +kernel
theorem dX10_byHand_3 : decode cX10_byHand 3 = .ok (.iconst 0, 1) := by decide +kernel
theorem dX10_byHand_4 : decode cX10_byHand 4 = .ok (.istore 5, 2) := by decide +kernel
theorem dX10_byHand_6 : decode cX10_byHand 6 = .ok (.iload 5, 2) := by decide +kernel
theorem dX10_byHand_8 : decode cX10_byHand 8 = .ok (.aload_n 0, 1) := by decide +kernel
theorem dX10_byHand_9 : decode cX10_byHand 9 = .ok (.getfield 100, 3) := by decide +kernel
theorem dX10_byHand_12 : decode cX10_byHand 12 = .ok (.if_icmp .ge 46, 3) := by decide +kernel
theorem dX10_byHand_15 : decode cX10_byHand 15 = .ok (.aload_n 0, 1) := by decide +kernel
theorem dX10_byHand_16 : decode cX10_byHand 16 = .ok (.getfield 40, 3) := by decide +kernel
theorem dX10_byHand_19 : decode cX10_byHand 19 = .ok (.iload 5, 2) := by decide +kernel
theorem dX10_byHand_21 : decode cX10_byHand 21 = .ok (.iaload, 1) := by decide +kernel
theorem dX10_byHand_22 : decode cX10_byHand 22 = .ok (.iload_n 1, 1) := by decide +kernel
theorem dX10_byHand_23 : decode cX10_byHand 23 = .ok (.if_icmp .ne 29, 3) := by decide +kernel
theorem dX10_byHand_26 : decode cX10_byHand 26 = .ok (.aload_n 0, 1) := by decide +kernel
theorem dX10_byHand_27 : decode cX10_byHand 27 = .ok (.getfield 43, 3) := by decide +kernel
theorem dX10_byHand_30 : decode cX10_byHand 30 = .ok (.iload 5, 2) := by decide +kernel
theorem dX10_byHand_32 : decode cX10_byHand 32 = .ok (.iaload, 1) := by decide +kernel
theorem dX10_byHand_33 : decode cX10_byHand 33 = .ok (.iload_n 2, 1) := by decide +kernel
theorem dX10_byHand_34 : decode cX10_byHand 34 = .ok (.if_icmp .ne 18, 3) := by decide +kernel
theorem dX10_byHand_37 : decode cX10_byHand 37 = .ok (.aload_n 0, 1) := by decide +kernel
theorem dX10_byHand_38 : decode cX10_byHand 38 = .ok (.getfield 49, 3) := by decide +kernel
theorem dX10_byHand_41 : decode cX10_byHand 41 = .ok (.iload 5, 2) := by decide +kernel
theorem dX10_byHand_43 : decode cX10_byHand 43 = .ok (.iaload, 1) := by decide +kernel
theorem dX10_byHand_44 : decode cX10_byHand 44 = .ok (.iload_n 3, 1) := by decide +kernel
theorem dX10_byHand_45 : decode cX10_byHand 45 = .ok (.if_icmp .gt 7, 3) := by decide +kernel
theorem dX10_byHand_48 : decode cX10_byHand 48 = .ok (.iload 5, 2) := by decide +kernel
theorem dX10_byHand_50 : decode cX10_byHand 50 = .ok (.istore 4, 2) := by decide +kernel
theorem dX10_byHand_52 : decode cX10_byHand 52 = .ok (.iinc 5 1, 3) := by decide +kernel
theorem dX10_byHand_55 : decode cX10_byHand 55 = .ok (.goto (-49), 3) := by decide +kernel
theorem dX10_byHand_58 : decode cX10_byHand 58 = .ok (.iload 4, 2) := by decide +kernel
theorem dX10_byHand_60 : decode cX10_byHand 60 = .ok (.ireturn, 1) := by decide +kernel
theorem dX10_rawAt_0 : decode cX10_rawAt 0 = .ok (.aload_n 0, 1) := by decide +kernel
theorem dX10_rawAt_1 : decode cX10_rawAt 1 = .ok (.iload_n 1, 1) := by decide +kernel
theorem dX10_rawAt_2 : decode cX10_rawAt 2 = .ok (.invokevirtual 103, 3) := by decide +kernel
theorem dX10_rawAt_5 : decode cX10_rawAt 5 = .ok (.ifCond .eq 41, 3) := by decide +kernel
theorem dX10_rawAt_8 : decode cX10_rawAt 8 = .ok (.aload_n 0, 1) := by decide +kernel
theorem dX10_rawAt_9 : decode cX10_rawAt 9 = .ok (.getfield 9, 3) := by decide +kernel
theorem dX10_rawAt_12 : decode cX10_rawAt 12 = .ok (.iload_n 1, 1) := by decide +kernel
theorem dX10_rawAt_13 : decode cX10_rawAt 13 = .ok (.iaload, 1) := by decide +kernel
theorem dX10_rawAt_14 : decode cX10_rawAt 14 = .ok (.iconst 3, 1) := by decide +kernel
theorem dX10_rawAt_15 : decode cX10_rawAt 15 = .ok (.if_icmp .eq 31, 3) := by decide +kernel
theorem dX10_rawAt_18 : decode cX10_rawAt 18 = .ok (.iload_n 2, 1) := by decide +kernel
theorem dX10_rawAt_19 : decode cX10_rawAt 19 = .ok (.aload_n 0, 1) := by decide +kernel
theorem dX10_rawAt_20 : decode cX10_rawAt 20 = .ok (.getfield 22, 3) := by decide +kernel
theorem dX10_rawAt_23 : decode cX10_rawAt 23 = .ok (.iload_n 1, 1) := by decide +kernel
theorem dX10_rawAt_24 : decode cX10_rawAt 24 = .ok (.iaload, 1) := by decide +kernel
theorem dX10_rawAt_25 : decode cX10_rawAt 25 = .ok (.bipush 55, 2) := by decide +kernel
theorem dX10_rawAt_27 : decode cX10_rawAt 27 = .ok (.invokestatic 85, 3) := by decide +kernel
theorem dX10_rawAt_30 : decode cX10_rawAt 30 = .ok (.ifCond .eq 16, 3) := by decide +kernel
theorem dX10_rawAt_33 : decode cX10_rawAt 33 = .ok (.iload_n 2, 1) := by decide +kernel
theorem dX10_rawAt_34 : decode cX10_rawAt 34 = .ok (.iload_n 3, 1) := by decide +kernel
theorem dX10_rawAt_35 : decode cX10_rawAt 35 = .ok (.if_icmp .gt 11, 3) := by decide +kernel
theorem dX10_rawAt_38 : decode cX10_rawAt 38 = .ok (.iload_n 2, 1) := by decide +kernel
theorem dX10_rawAt_39 : decode cX10_rawAt 39 = .ok (.aload_n 0, 1) := by decide +kernel
theorem dX10_rawAt_40 : decode cX10_rawAt 40 = .ok (.getfield 89, 3) := by decide +kernel
theorem dX10_rawAt_43 : decode cX10_rawAt 43 = .ok (.if_icmp .le 5, 3) := by decide +kernel
theorem dX10_rawAt_46 : decode cX10_rawAt 46 = .ok (.iconst (-1), 1) := by decide +kernel
theorem dX10_rawAt_47 : decode cX10_rawAt 47 = .ok (.ireturn, 1) := by decide +kernel
theorem dX10_rawAt_48 : decode cX10_rawAt 48 = .ok (.aload_n 0, 1) := by decide +kernel
theorem dX10_rawAt_49 : decode cX10_rawAt 49 = .ok (.iload_n 1, 1) := by decide +kernel
theorem dX10_rawAt_50 : decode cX10_rawAt 50 = .ok (.iload_n 2, 1) := by decide +kernel
theorem dX10_rawAt_51 : decode cX10_rawAt 51 = .ok (.iload_n 3, 1) := by decide +kernel
theorem dX10_rawAt_52 : decode cX10_rawAt 52 = .ok (.invokevirtual 107, 3) := by decide +kernel
theorem dX10_rawAt_55 : decode cX10_rawAt 55 = .ok (.istore 4, 2) := by decide +kernel
theorem dX10_rawAt_57 : decode cX10_rawAt 57 = .ok (.iload 4, 2) := by decide +kernel
theorem dX10_rawAt_59 : decode cX10_rawAt 59 = .ok (.iconst (-1), 1) := by decide +kernel
theorem dX10_rawAt_60 : decode cX10_rawAt 60 = .ok (.if_icmp .eq 11, 3) := by decide +kernel
theorem dX10_rawAt_63 : decode cX10_rawAt 63 = .ok (.aload_n 0, 1) := by decide +kernel
theorem dX10_rawAt_64 : decode cX10_rawAt 64 = .ok (.getfield 46, 3) := by decide +kernel
theorem dX10_rawAt_67 : decode cX10_rawAt 67 = .ok (.iload 4, 2) := by decide +kernel
theorem dX10_rawAt_69 : decode cX10_rawAt 69 = .ok (.iaload, 1) := by decide +kernel
theorem dX10_rawAt_70 : decode cX10_rawAt 70 = .ok (.ireturn, 1) := by decide +kernel
theorem dX10_rawAt_71 : decode cX10_rawAt 71 = .ok (.iload_n 1, 1) := by decide +kernel
theorem dX10_rawAt_72 : decode cX10_rawAt 72 = .ok (.iload_n 2, 1) := by decide +kernel
theorem dX10_rawAt_73 : decode cX10_rawAt 73 = .ok (.invokestatic 92, 3) := by decide +kernel
theorem dX10_rawAt_76 : decode cX10_rawAt 76 = .ok (.istore 5, 2) := by decide +kernel
theorem dX10_rawAt_78 : decode cX10_rawAt 78 = .ok (.aload_n 0, 1) := by decide +kernel
theorem dX10_rawAt_79 : decode cX10_rawAt 79 = .ok (.getfield 28, 3) := by decide +kernel
theorem dX10_rawAt_82 : decode cX10_rawAt 82 = .ok (.iload 5, 2) := by decide +kernel
theorem dX10_rawAt_84 : decode cX10_rawAt 84 = .ok (.iaload, 1) := by decide +kernel
theorem dX10_rawAt_85 : decode cX10_rawAt 85 = .ok (.istore 6, 2) := by decide +kernel
theorem dX10_rawAt_87 : decode cX10_rawAt 87 = .ok (.aload_n 0, 1) := by decide +kernel
theorem dX10_rawAt_88 : decode cX10_rawAt 88 = .ok (.getfield 9, 3) := by decide +kernel
theorem dX10_rawAt_91 : decode cX10_rawAt 91 = .ok (.iload_n 1, 1) := by decide +kernel
theorem dX10_rawAt_92 : decode cX10_rawAt 92 = .ok (.iaload, 1) := by decide +kernel
theorem dX10_rawAt_93 : decode cX10_rawAt 93 = .ok (.tableswitch 91 0 2 #[27, 30, 47], 27) := by decide +kernel
theorem dX10_rawAt_120 : decode cX10_rawAt 120 = .ok (.iload 6, 2) := by decide +kernel
theorem dX10_rawAt_122 : decode cX10_rawAt 122 = .ok (.ireturn, 1) := by decide +kernel
theorem dX10_rawAt_123 : decode cX10_rawAt 123 = .ok (.iload 6, 2) := by decide +kernel
theorem dX10_rawAt_125 : decode cX10_rawAt 125 = .ok (.iconst (-1), 1) := by decide +kernel
theorem dX10_rawAt_126 : decode cX10_rawAt 126 = .ok (.if_icmp .ne 7, 3) := by decide +kernel
theorem dX10_rawAt_129 : decode cX10_rawAt 129 = .ok (.iconst (-1), 1) := by decide +kernel
theorem dX10_rawAt_130 : decode cX10_rawAt 130 = .ok (.goto 9, 3) := by decide +kernel
theorem dX10_rawAt_133 : decode cX10_rawAt 133 = .ok (.aload_n 0, 1) := by decide +kernel
theorem dX10_rawAt_134 : decode cX10_rawAt 134 = .ok (.iload_n 1, 1) := by decide +kernel
theorem dX10_rawAt_135 : decode cX10_rawAt 135 = .ok (.iload_n 2, 1) := by decide +kernel
theorem dX10_rawAt_136 : decode cX10_rawAt 136 = .ok (.invokevirtual 110, 3) := by decide +kernel
theorem dX10_rawAt_139 : decode cX10_rawAt 139 = .ok (.ireturn, 1) := by decide +kernel
theorem dX10_rawAt_140 : decode cX10_rawAt 140 = .ok (.iload 6, 2) := by decide +kernel
theorem dX10_rawAt_142 : decode cX10_rawAt 142 = .ok (.iconst (-1), 1) := by decide +kernel
theorem dX10_rawAt_143 : decode cX10_rawAt 143 = .ok (.if_icmp .ne 18, 3) := by decide +kernel
theorem dX10_rawAt_146 : decode cX10_rawAt 146 = .ok (.aload_n 0, 1) := by decide +kernel
theorem dX10_rawAt_147 : decode cX10_rawAt 147 = .ok (.getfield 34, 3) := by decide +kernel
theorem dX10_rawAt_150 : decode cX10_rawAt 150 = .ok (.iload 5, 2) := by decide +kernel
theorem dX10_rawAt_152 : decode cX10_rawAt 152 = .ok (.iaload, 1) := by decide +kernel
theorem dX10_rawAt_153 : decode cX10_rawAt 153 = .ok (.iconst (-1), 1) := by decide +kernel
theorem dX10_rawAt_154 : decode cX10_rawAt 154 = .ok (.if_icmp .ne 7, 3) := by decide +kernel
theorem dX10_rawAt_157 : decode cX10_rawAt 157 = .ok (.iconst (-1), 1) := by decide +kernel
theorem dX10_rawAt_158 : decode cX10_rawAt 158 = .ok (.goto 25, 3) := by decide +kernel
theorem dX10_rawAt_161 : decode cX10_rawAt 161 = .ok (.aload_n 0, 1) := by decide +kernel
theorem dX10_rawAt_162 : decode cX10_rawAt 162 = .ok (.getfield 34, 3) := by decide +kernel
theorem dX10_rawAt_165 : decode cX10_rawAt 165 = .ok (.iload 5, 2) := by decide +kernel
theorem dX10_rawAt_167 : decode cX10_rawAt 167 = .ok (.iaload, 1) := by decide +kernel
theorem dX10_rawAt_168 : decode cX10_rawAt 168 = .ok (.iconst (-1), 1) := by decide +kernel
theorem dX10_rawAt_169 : decode cX10_rawAt 169 = .ok (.if_icmp .ne 7, 3) := by decide +kernel
theorem dX10_rawAt_172 : decode cX10_rawAt 172 = .ok (.iconst 0, 1) := by decide +kernel
theorem dX10_rawAt_173 : decode cX10_rawAt 173 = .ok (.goto 10, 3) := by decide +kernel
theorem dX10_rawAt_176 : decode cX10_rawAt 176 = .ok (.aload_n 0, 1) := by decide +kernel
theorem dX10_rawAt_177 : decode cX10_rawAt 177 = .ok (.getfield 34, 3) := by decide +kernel
theorem dX10_rawAt_180 : decode cX10_rawAt 180 = .ok (.iload 5, 2) := by decide +kernel
theorem dX10_rawAt_182 : decode cX10_rawAt 182 = .ok (.iaload, 1) := by decide +kernel
theorem dX10_rawAt_183 : decode cX10_rawAt 183 = .ok (.ireturn, 1) := by decide +kernel
theorem dX10_rawAt_184 : decode cX10_rawAt 184 = .ok (.iload 6, 2) := by decide +kernel
theorem dX10_rawAt_186 : decode cX10_rawAt 186 = .ok (.iconst (-1), 1) := by decide +kernel
theorem dX10_rawAt_187 : decode cX10_rawAt 187 = .ok (.if_icmp .eq 14, 3) := by decide +kernel
theorem dX10_rawAt_190 : decode cX10_rawAt 190 = .ok (.aload_n 0, 1) := by decide +kernel
theorem dX10_rawAt_191 : decode cX10_rawAt 191 = .ok (.getfield 37, 3) := by decide +kernel
theorem dX10_rawAt_194 : decode cX10_rawAt 194 = .ok (.iload 5, 2) := by decide +kernel
theorem dX10_rawAt_196 : decode cX10_rawAt 196 = .ok (.iaload, 1) := by decide +kernel
theorem dX10_rawAt_197 : decode cX10_rawAt 197 = .ok (.iconst (-1), 1) := by decide +kernel
theorem dX10_rawAt_198 : decode cX10_rawAt 198 = .ok (.if_icmp .ne 7, 3) := by decide +kernel
theorem dX10_rawAt_201 : decode cX10_rawAt 201 = .ok (.iconst (-1), 1) := by decide +kernel
theorem dX10_rawAt_202 : decode cX10_rawAt 202 = .ok (.goto 22, 3) := by decide +kernel
theorem dX10_rawAt_205 : decode cX10_rawAt 205 = .ok (.iload 6, 2) := by decide +kernel
theorem dX10_rawAt_207 : decode cX10_rawAt 207 = .ok (.aload_n 0, 1) := by decide +kernel
theorem dX10_rawAt_208 : decode cX10_rawAt 208 = .ok (.getfield 37, 3) := by decide +kernel
theorem dX10_rawAt_211 : decode cX10_rawAt 211 = .ok (.iload 5, 2) := by decide +kernel
theorem dX10_rawAt_213 : decode cX10_rawAt 213 = .ok (.iaload, 1) := by decide +kernel
theorem dX10_rawAt_214 : decode cX10_rawAt 214 = .ok (.iadd, 1) := by decide +kernel
theorem dX10_rawAt_215 : decode cX10_rawAt 215 = .ok (.aload_n 0, 1) := by decide +kernel
theorem dX10_rawAt_216 : decode cX10_rawAt 216 = .ok (.getfield 19, 3) := by decide +kernel
theorem dX10_rawAt_219 : decode cX10_rawAt 219 = .ok (.iload_n 1, 1) := by decide +kernel
theorem dX10_rawAt_220 : decode cX10_rawAt 220 = .ok (.iaload, 1) := by decide +kernel
theorem dX10_rawAt_221 : decode cX10_rawAt 221 = .ok (.imul, 1) := by decide +kernel
theorem dX10_rawAt_222 : decode cX10_rawAt 222 = .ok (.iconst 2, 1) := by decide +kernel
theorem dX10_rawAt_223 : decode cX10_rawAt 223 = .ok (.idiv, 1) := by decide +kernel
theorem dX10_rawAt_224 : decode cX10_rawAt 224 = .ok (.ireturn, 1) := by decide +kernel
theorem dX10_tipped_0 : decode cX10_tipped 0 = .ok (.aload_n 0, 1) := by decide +kernel
theorem dX10_tipped_1 : decode cX10_tipped 1 = .ok (.getfield 28, 3) := by decide +kernel
theorem dX10_tipped_4 : decode cX10_tipped 4 = .ok (.iload_n 1, 1) := by decide +kernel
theorem dX10_tipped_5 : decode cX10_tipped 5 = .ok (.iload_n 2, 1) := by decide +kernel
theorem dX10_tipped_6 : decode cX10_tipped 6 = .ok (.invokestatic 92, 3) := by decide +kernel
theorem dX10_tipped_9 : decode cX10_tipped 9 = .ok (.iaload, 1) := by decide +kernel
theorem dX10_tipped_10 : decode cX10_tipped 10 = .ok (.aload_n 0, 1) := by decide +kernel
theorem dX10_tipped_11 : decode cX10_tipped 11 = .ok (.getfield 19, 3) := by decide +kernel
theorem dX10_tipped_14 : decode cX10_tipped 14 = .ok (.iload_n 1, 1) := by decide +kernel
theorem dX10_tipped_15 : decode cX10_tipped 15 = .ok (.iaload, 1) := by decide +kernel
theorem dX10_tipped_16 : decode cX10_tipped 16 = .ok (.imul, 1) := by decide +kernel
theorem dX10_tipped_17 : decode cX10_tipped 17 = .ok (.istore_n 3, 1) := by decide +kernel
theorem dX10_tipped_18 : decode cX10_tipped 18 = .ok (.iload_n 2, 1) := by decide +kernel
theorem dX10_tipped_19 : decode cX10_tipped 19 = .ok (.ifCond .le 69, 3) := by decide +kernel
theorem dX10_tipped_22 : decode cX10_tipped 22 = .ok (.aload_n 0, 1) := by decide +kernel
theorem dX10_tipped_23 : decode cX10_tipped 23 = .ok (.getfield 31, 3) := by decide +kernel
theorem dX10_tipped_26 : decode cX10_tipped 26 = .ok (.iload_n 1, 1) := by decide +kernel
theorem dX10_tipped_27 : decode cX10_tipped 27 = .ok (.iload_n 2, 1) := by decide +kernel
theorem dX10_tipped_28 : decode cX10_tipped 28 = .ok (.invokestatic 92, 3) := by decide +kernel
theorem dX10_tipped_31 : decode cX10_tipped 31 = .ok (.iaload, 1) := by decide +kernel
theorem dX10_tipped_32 : decode cX10_tipped 32 = .ok (.iconst (-1), 1) := by decide +kernel
theorem dX10_tipped_33 : decode cX10_tipped 33 = .ok (.if_icmp .eq 55, 3) := by decide +kernel
theorem dX10_tipped_36 : decode cX10_tipped 36 = .ok (.aload_n 0, 1) := by decide +kernel
theorem dX10_tipped_37 : decode cX10_tipped 37 = .ok (.getfield 31, 3) := by decide +kernel
theorem dX10_tipped_40 : decode cX10_tipped 40 = .ok (.iload_n 1, 1) := by decide +kernel
theorem dX10_tipped_41 : decode cX10_tipped 41 = .ok (.iload_n 2, 1) := by decide +kernel
theorem dX10_tipped_42 : decode cX10_tipped 42 = .ok (.iconst 1, 1) := by decide +kernel
theorem dX10_tipped_43 : decode cX10_tipped 43 = .ok (.isub, 1) := by decide +kernel
theorem dX10_tipped_44 : decode cX10_tipped 44 = .ok (.invokestatic 92, 3) := by decide +kernel
theorem dX10_tipped_47 : decode cX10_tipped 47 = .ok (.iaload, 1) := by decide +kernel
theorem dX10_tipped_48 : decode cX10_tipped 48 = .ok (.iconst (-1), 1) := by decide +kernel
theorem dX10_tipped_49 : decode cX10_tipped 49 = .ok (.if_icmp .eq 39, 3) := by decide +kernel
theorem dX10_tipped_52 : decode cX10_tipped 52 = .ok (.iload_n 3, 1) := by decide +kernel
theorem dX10_tipped_53 : decode cX10_tipped 53 = .ok (.aload_n 0, 1) := by decide +kernel
theorem dX10_tipped_54 : decode cX10_tipped 54 = .ok (.getfield 19, 3) := by decide +kernel
theorem dX10_tipped_57 : decode cX10_tipped 57 = .ok (.iload_n 1, 1) := by decide +kernel
theorem dX10_tipped_58 : decode cX10_tipped 58 = .ok (.iaload, 1) := by decide +kernel
theorem dX10_tipped_59 : decode cX10_tipped 59 = .ok (.aload_n 0, 1) := by decide +kernel
theorem dX10_tipped_60 : decode cX10_tipped 60 = .ok (.getfield 31, 3) := by decide +kernel
theorem dX10_tipped_63 : decode cX10_tipped 63 = .ok (.iload_n 1, 1) := by decide +kernel
theorem dX10_tipped_64 : decode cX10_tipped 64 = .ok (.iload_n 2, 1) := by decide +kernel
theorem dX10_tipped_65 : decode cX10_tipped 65 = .ok (.invokestatic 92, 3) := by decide +kernel
theorem dX10_tipped_68 : decode cX10_tipped 68 = .ok (.iaload, 1) := by decide +kernel
theorem dX10_tipped_69 : decode cX10_tipped 69 = .ok (.aload_n 0, 1) := by decide +kernel
theorem dX10_tipped_70 : decode cX10_tipped 70 = .ok (.getfield 31, 3) := by decide +kernel
theorem dX10_tipped_73 : decode cX10_tipped 73 = .ok (.iload_n 1, 1) := by decide +kernel
theorem dX10_tipped_74 : decode cX10_tipped 74 = .ok (.iload_n 2, 1) := by decide +kernel
theorem dX10_tipped_75 : decode cX10_tipped 75 = .ok (.iconst 1, 1) := by decide +kernel
theorem dX10_tipped_76 : decode cX10_tipped 76 = .ok (.isub, 1) := by decide +kernel
theorem dX10_tipped_77 : decode cX10_tipped 77 = .ok (.invokestatic 92, 3) := by decide +kernel
theorem dX10_tipped_80 : decode cX10_tipped 80 = .ok (.iaload, 1) := by decide +kernel
theorem dX10_tipped_81 : decode cX10_tipped 81 = .ok (.isub, 1) := by decide +kernel
theorem dX10_tipped_82 : decode cX10_tipped 82 = .ok (.imul, 1) := by decide +kernel
theorem dX10_tipped_83 : decode cX10_tipped 83 = .ok (.bipush 8, 2) := by decide +kernel
theorem dX10_tipped_85 : decode cX10_tipped 85 = .ok (.idiv, 1) := by decide +kernel
theorem dX10_tipped_86 : decode cX10_tipped 86 = .ok (.iadd, 1) := by decide +kernel
theorem dX10_tipped_87 : decode cX10_tipped 87 = .ok (.istore_n 3, 1) := by decide +kernel
theorem dX10_tipped_88 : decode cX10_tipped 88 = .ok (.iload_n 3, 1) := by decide +kernel
theorem dX10_tipped_89 : decode cX10_tipped 89 = .ok (.ifCond .ge 7, 3) := by decide +kernel
theorem dX10_tipped_92 : decode cX10_tipped 92 = .ok (.iconst 0, 1) := by decide +kernel
theorem dX10_tipped_93 : decode cX10_tipped 93 = .ok (.goto 4, 3) := by decide +kernel
theorem dX10_tipped_96 : decode cX10_tipped 96 = .ok (.iload_n 3, 1) := by decide +kernel
theorem dX10_tipped_97 : decode cX10_tipped 97 = .ok (.ireturn, 1) := by decide +kernel
theorem dX10_raw0_0 : decode cX10_raw0 0 = .ok (.aload_n 0, 1) := by decide +kernel
theorem dX10_raw0_1 : decode cX10_raw0 1 = .ok (.iload_n 1, 1) := by decide +kernel
theorem dX10_raw0_2 : decode cX10_raw0 2 = .ok (.iload_n 2, 1) := by decide +kernel
theorem dX10_raw0_3 : decode cX10_raw0 3 = .ok (.bipush 99, 2) := by decide +kernel
theorem dX10_raw0_5 : decode cX10_raw0 5 = .ok (.invokevirtual 113, 3) := by decide +kernel
theorem dX10_raw0_8 : decode cX10_raw0 8 = .ok (.ireturn, 1) := by decide +kernel
theorem dX10_raw_0 : decode cX10_raw 0 = .ok (.aload_n 0, 1) := by decide +kernel
theorem dX10_raw_1 : decode cX10_raw 1 = .ok (.iload_n 1, 1) := by decide +kernel
theorem dX10_raw_2 : decode cX10_raw 2 = .ok (.iconst 0, 1) := by decide +kernel
theorem dX10_raw_3 : decode cX10_raw 3 = .ok (.iconst 4, 1) := by decide +kernel
theorem dX10_raw_4 : decode cX10_raw 4 = .ok (.invokevirtual 96, 3) := by decide +kernel
theorem dX10_raw_7 : decode cX10_raw 7 = .ok (.istore_n 3, 1) := by decide +kernel
theorem dX10_raw_8 : decode cX10_raw 8 = .ok (.iload_n 3, 1) := by decide +kernel
theorem dX10_raw_9 : decode cX10_raw 9 = .ok (.ifCond .eq 7, 3) := by decide +kernel
theorem dX10_raw_12 : decode cX10_raw 12 = .ok (.iload_n 3, 1) := by decide +kernel
theorem dX10_raw_13 : decode cX10_raw 13 = .ok (.goto 9, 3) := by decide +kernel
theorem dX10_raw_16 : decode cX10_raw 16 = .ok (.aload_n 0, 1) := by decide +kernel
theorem dX10_raw_17 : decode cX10_raw 17 = .ok (.iload_n 1, 1) := by decide +kernel
theorem dX10_raw_18 : decode cX10_raw 18 = .ok (.iload_n 2, 1) := by decide +kernel
theorem dX10_raw_19 : decode cX10_raw 19 = .ok (.invokevirtual 116, 3) := by decide +kernel
theorem dX10_raw_22 : decode cX10_raw 22 = .ok (.ireturn, 1) := by decide +kernel
theorem dX10_known_0 : decode cX10_known 0 = .ok (.aload_n 0, 1) := by decide +kernel
theorem dX10_known_1 : decode cX10_known 1 = .ok (.iload_n 1, 1) := by decide +kernel
theorem dX10_known_2 : decode cX10_known 2 = .ok (.iconst 0, 1) := by decide +kernel
theorem dX10_known_3 : decode cX10_known 3 = .ok (.iconst 4, 1) := by decide +kernel
theorem dX10_known_4 : decode cX10_known 4 = .ok (.invokevirtual 96, 3) := by decide +kernel
theorem dX10_known_7 : decode cX10_known 7 = .ok (.istore 4, 2) := by decide +kernel
theorem dX10_known_9 : decode cX10_known 9 = .ok (.iload 4, 2) := by decide +kernel
theorem dX10_known_11 : decode cX10_known 11 = .ok (.ifCond .eq 6, 3) := by decide +kernel
theorem dX10_known_14 : decode cX10_known 14 = .ok (.iload 4, 2) := by decide +kernel
theorem dX10_known_16 : decode cX10_known 16 = .ok (.ireturn, 1) := by decide +kernel
theorem dX10_known_17 : decode cX10_known 17 = .ok (.iload_n 3, 1) := by decide +kernel
theorem dX10_known_18 : decode cX10_known 18 = .ok (.ifCond .ge 7, 3) := by decide +kernel
theorem dX10_known_21 : decode cX10_known 21 = .ok (.iconst (-1), 1) := by decide +kernel
theorem dX10_known_22 : decode cX10_known 22 = .ok (.goto 23, 3) := by decide +kernel
theorem dX10_known_25 : decode cX10_known 25 = .ok (.aload_n 0, 1) := by decide +kernel
theorem dX10_known_26 : decode cX10_known 26 = .ok (.iload_n 1, 1) := by decide +kernel
theorem dX10_known_27 : decode cX10_known 27 = .ok (.iload_n 2, 1) := by decide +kernel
theorem dX10_known_28 : decode cX10_known 28 = .ok (.iload_n 3, 1) := by decide +kernel
theorem dX10_known_29 : decode cX10_known 29 = .ok (.aload_n 0, 1) := by decide +kernel
theorem dX10_known_30 : decode cX10_known 30 = .ok (.getfield 89, 3) := by decide +kernel
theorem dX10_known_33 : decode cX10_known 33 = .ok (.if_icmp .lt 8, 3) := by decide +kernel
theorem dX10_known_36 : decode cX10_known 36 = .ok (.bipush 99, 2) := by decide +kernel
theorem dX10_known_38 : decode cX10_known 38 = .ok (.goto 4, 3) := by decide +kernel
theorem dX10_known_41 : decode cX10_known 41 = .ok (.iload_n 3, 1) := by decide +kernel
theorem dX10_known_42 : decode cX10_known 42 = .ok (.invokevirtual 113, 3) := by decide +kernel
theorem dX10_known_45 : decode cX10_known 45 = .ok (.ireturn, 1) := by decide +kernel
theorem dX10_far_0 : decode cX10_far 0 = .ok (.aload_n 0, 1) := by decide +kernel
theorem dX10_far_1 : decode cX10_far 1 = .ok (.getfield 13, 3) := by decide +kernel
theorem dX10_far_4 : decode cX10_far 4 = .ok (.iload_n 1, 1) := by decide +kernel
theorem dX10_far_5 : decode cX10_far 5 = .ok (.iaload, 1) := by decide +kernel
theorem dX10_far_6 : decode cX10_far 6 = .ok (.iload_n 2, 1) := by decide +kernel
theorem dX10_far_7 : decode cX10_far 7 = .ok (.isub, 1) := by decide +kernel
theorem dX10_far_8 : decode cX10_far 8 = .ok (.aload_n 0, 1) := by decide +kernel
theorem dX10_far_9 : decode cX10_far 9 = .ok (.getfield 13, 3) := by decide +kernel
theorem dX10_far_12 : decode cX10_far 12 = .ok (.iload_n 1, 1) := by decide +kernel
theorem dX10_far_13 : decode cX10_far 13 = .ok (.iaload, 1) := by decide +kernel
theorem dX10_far_14 : decode cX10_far 14 = .ok (.iload_n 2, 1) := by decide +kernel
theorem dX10_far_15 : decode cX10_far 15 = .ok (.isub, 1) := by decide +kernel
theorem dX10_far_16 : decode cX10_far 16 = .ok (.imul, 1) := by decide +kernel
theorem dX10_far_17 : decode cX10_far 17 = .ok (.aload_n 0, 1) := by decide +kernel
theorem dX10_far_18 : decode cX10_far 18 = .ok (.getfield 16, 3) := by decide +kernel
theorem dX10_far_21 : decode cX10_far 21 = .ok (.iload_n 1, 1) := by decide +kernel
theorem dX10_far_22 : decode cX10_far 22 = .ok (.iaload, 1) := by decide +kernel
theorem dX10_far_23 : decode cX10_far 23 = .ok (.iload_n 3, 1) := by decide +kernel
theorem dX10_far_24 : decode cX10_far 24 = .ok (.isub, 1) := by decide +kernel
theorem dX10_far_25 : decode cX10_far 25 = .ok (.aload_n 0, 1) := by decide +kernel
theorem dX10_far_26 : decode cX10_far 26 = .ok (.getfield 16, 3) := by decide +kernel
theorem dX10_far_29 : decode cX10_far 29 = .ok (.iload_n 1, 1) := by decide +kernel
theorem dX10_far_30 : decode cX10_far 30 = .ok (.iaload, 1) := by decide +kernel
theorem dX10_far_31 : decode cX10_far 31 = .ok (.iload_n 3, 1) := by decide +kernel
theorem dX10_far_32 : decode cX10_far 32 = .ok (.isub, 1) := by decide +kernel
theorem dX10_far_33 : decode cX10_far 33 = .ok (.imul, 1) := by decide +kernel
theorem dX10_far_34 : decode cX10_far 34 = .ok (.iadd, 1) := by decide +kernel
theorem dX10_far_35 : decode cX10_far 35 = .ok (.ireturn, 1) := by decide +kernel
theorem dX10_doubt_0 : decode cX10_doubt 0 = .ok (.aload_n 0, 1) := by decide +kernel
theorem dX10_doubt_1 : decode cX10_doubt 1 = .ok (.iload_n 1, 1) := by decide +kernel
theorem dX10_doubt_2 : decode cX10_doubt 2 = .ok (.iload_n 2, 1) := by decide +kernel
theorem dX10_doubt_3 : decode cX10_doubt 3 = .ok (.invokevirtual 116, 3) := by decide +kernel
theorem dX10_doubt_6 : decode cX10_doubt 6 = .ok (.istore_n 3, 1) := by decide +kernel
theorem dX10_doubt_7 : decode cX10_doubt 7 = .ok (.iload_n 3, 1) := by decide +kernel
theorem dX10_doubt_8 : decode cX10_doubt 8 = .ok (.iconst (-1), 1) := by decide +kernel
theorem dX10_doubt_9 : decode cX10_doubt 9 = .ok (.if_icmp .ne 5, 3) := by decide +kernel
theorem dX10_doubt_12 : decode cX10_doubt 12 = .ok (.iconst 0, 1) := by decide +kernel
theorem dX10_doubt_13 : decode cX10_doubt 13 = .ok (.ireturn, 1) := by decide +kernel
theorem dX10_doubt_14 : decode cX10_doubt 14 = .ok (.iload_n 3, 1) := by decide +kernel
theorem dX10_doubt_15 : decode cX10_doubt 15 = .ok (.aload_n 0, 1) := by decide +kernel
theorem dX10_doubt_16 : decode cX10_doubt 16 = .ok (.getfield 52, 3) := by decide +kernel
theorem dX10_doubt_19 : decode cX10_doubt 19 = .ok (.if_icmp .le 5, 3) := by decide +kernel
theorem dX10_doubt_22 : decode cX10_doubt 22 = .ok (.iconst 1, 1) := by decide +kernel
theorem dX10_doubt_23 : decode cX10_doubt 23 = .ok (.ireturn, 1) := by decide +kernel
theorem dX10_doubt_24 : decode cX10_doubt 24 = .ok (.iconst 0, 1) := by decide +kernel
theorem dX10_doubt_25 : decode cX10_doubt 25 = .ok (.istore 4, 2) := by decide +kernel
theorem dX10_doubt_27 : decode cX10_doubt 27 = .ok (.iconst 1, 1) := by decide +kernel
theorem dX10_doubt_28 : decode cX10_doubt 28 = .ok (.istore 5, 2) := by decide +kernel
theorem dX10_doubt_30 : decode cX10_doubt 30 = .ok (.iconst 0, 1) := by decide +kernel
theorem dX10_doubt_31 : decode cX10_doubt 31 = .ok (.istore 6, 2) := by decide +kernel
theorem dX10_doubt_33 : decode cX10_doubt 33 = .ok (.iload 6, 2) := by decide +kernel
theorem dX10_doubt_35 : decode cX10_doubt 35 = .ok (.bipush 16, 2) := by decide +kernel
theorem dX10_doubt_37 : decode cX10_doubt 37 = .ok (.if_icmp .ge 92, 3) := by decide +kernel
theorem dX10_doubt_40 : decode cX10_doubt 40 = .ok (.iload 6, 2) := by decide +kernel
theorem dX10_doubt_42 : decode cX10_doubt 42 = .ok (.iload_n 1, 1) := by decide +kernel
theorem dX10_doubt_43 : decode cX10_doubt 43 = .ok (.if_icmp .eq 80, 3) := by decide +kernel
theorem dX10_doubt_46 : decode cX10_doubt 46 = .ok (.aload_n 0, 1) := by decide +kernel
theorem dX10_doubt_47 : decode cX10_doubt 47 = .ok (.iload 6, 2) := by decide +kernel
theorem dX10_doubt_49 : decode cX10_doubt 49 = .ok (.invokevirtual 103, 3) := by decide +kernel
theorem dX10_doubt_52 : decode cX10_doubt 52 = .ok (.ifCond .eq 71, 3) := by decide +kernel
theorem dX10_doubt_55 : decode cX10_doubt 55 = .ok (.aload_n 0, 1) := by decide +kernel
theorem dX10_doubt_56 : decode cX10_doubt 56 = .ok (.iload 6, 2) := by decide +kernel
theorem dX10_doubt_58 : decode cX10_doubt 58 = .ok (.aload_n 0, 1) := by decide +kernel
theorem dX10_doubt_59 : decode cX10_doubt 59 = .ok (.getfield 13, 3) := by decide +kernel
theorem dX10_doubt_62 : decode cX10_doubt 62 = .ok (.iload_n 1, 1) := by decide +kernel
theorem dX10_doubt_63 : decode cX10_doubt 63 = .ok (.iaload, 1) := by decide +kernel
theorem dX10_doubt_64 : decode cX10_doubt 64 = .ok (.aload_n 0, 1) := by decide +kernel
theorem dX10_doubt_65 : decode cX10_doubt 65 = .ok (.getfield 16, 3) := by decide +kernel
theorem dX10_doubt_68 : decode cX10_doubt 68 = .ok (.iload_n 1, 1) := by decide +kernel
theorem dX10_doubt_69 : decode cX10_doubt 69 = .ok (.iaload, 1) := by decide +kernel
theorem dX10_doubt_70 : decode cX10_doubt 70 = .ok (.invokevirtual 119, 3) := by decide +kernel
theorem dX10_doubt_73 : decode cX10_doubt 73 = .ok (.aload_n 0, 1) := by decide +kernel
theorem dX10_doubt_74 : decode cX10_doubt 74 = .ok (.getfield 56, 3) := by decide +kernel
theorem dX10_doubt_77 : decode cX10_doubt 77 = .ok (.if_icmp .gt 46, 3) := by decide +kernel
theorem dX10_doubt_80 : decode cX10_doubt 80 = .ok (.aload_n 0, 1) := by decide +kernel
theorem dX10_doubt_81 : decode cX10_doubt 81 = .ok (.iload 6, 2) := by decide +kernel
theorem dX10_doubt_83 : decode cX10_doubt 83 = .ok (.iload_n 2, 1) := by decide +kernel
theorem dX10_doubt_84 : decode cX10_doubt 84 = .ok (.invokevirtual 116, 3) := by decide +kernel
theorem dX10_doubt_87 : decode cX10_doubt 87 = .ok (.iconst (-1), 1) := by decide +kernel
theorem dX10_doubt_88 : decode cX10_doubt 88 = .ok (.if_icmp .ne 6, 3) := by decide +kernel
theorem dX10_doubt_91 : decode cX10_doubt 91 = .ok (.goto 32, 3) := by decide +kernel
theorem dX10_doubt_94 : decode cX10_doubt 94 = .ok (.iinc 4 1, 3) := by decide +kernel
theorem dX10_doubt_97 : decode cX10_doubt 97 = .ok (.iload 5, 2) := by decide +kernel
theorem dX10_doubt_99 : decode cX10_doubt 99 = .ok (.ifCond .eq 21, 3) := by decide +kernel
theorem dX10_doubt_102 : decode cX10_doubt 102 = .ok (.aload_n 0, 1) := by decide +kernel
theorem dX10_doubt_103 : decode cX10_doubt 103 = .ok (.iload 6, 2) := by decide +kernel
theorem dX10_doubt_105 : decode cX10_doubt 105 = .ok (.iload_n 2, 1) := by decide +kernel
theorem dX10_doubt_106 : decode cX10_doubt 106 = .ok (.invokevirtual 116, 3) := by decide +kernel
theorem dX10_doubt_109 : decode cX10_doubt 109 = .ok (.aload_n 0, 1) := by decide +kernel
theorem dX10_doubt_110 : decode cX10_doubt 110 = .ok (.getfield 59, 3) := by decide +kernel
theorem dX10_doubt_113 : decode cX10_doubt 113 = .ok (.if_icmp .lt 7, 3) := by decide +kernel
theorem dX10_doubt_116 : decode cX10_doubt 116 = .ok (.iconst 1, 1) := by decide +kernel
theorem dX10_doubt_117 : decode cX10_doubt 117 = .ok (.goto 4, 3) := by decide +kernel
theorem dX10_doubt_120 : decode cX10_doubt 120 = .ok (.iconst 0, 1) := by decide +kernel
theorem dX10_doubt_121 : decode cX10_doubt 121 = .ok (.istore 5, 2) := by decide +kernel
theorem dX10_doubt_123 : decode cX10_doubt 123 = .ok (.iinc 6 1, 3) := by decide +kernel
theorem dX10_doubt_126 : decode cX10_doubt 126 = .ok (.goto (-93), 3) := by decide +kernel
theorem dX10_doubt_129 : decode cX10_doubt 129 = .ok (.iload_n 3, 1) := by decide +kernel
theorem dX10_doubt_130 : decode cX10_doubt 130 = .ok (.ifCond .ne 16, 3) := by decide +kernel
theorem dX10_doubt_133 : decode cX10_doubt 133 = .ok (.iload 4, 2) := by decide +kernel
theorem dX10_doubt_135 : decode cX10_doubt 135 = .ok (.iconst 1, 1) := by decide +kernel
theorem dX10_doubt_136 : decode cX10_doubt 136 = .ok (.if_icmp .le 10, 3) := by decide +kernel
theorem dX10_doubt_139 : decode cX10_doubt 139 = .ok (.iload 5, 2) := by decide +kernel
theorem dX10_doubt_141 : decode cX10_doubt 141 = .ok (.ifCond .eq 5, 3) := by decide +kernel
theorem dX10_doubt_144 : decode cX10_doubt 144 = .ok (.iconst 2, 1) := by decide +kernel
theorem dX10_doubt_145 : decode cX10_doubt 145 = .ok (.ireturn, 1) := by decide +kernel
theorem dX10_doubt_146 : decode cX10_doubt 146 = .ok (.aload_n 0, 1) := by decide +kernel
theorem dX10_doubt_147 : decode cX10_doubt 147 = .ok (.getfield 9, 3) := by decide +kernel
theorem dX10_doubt_150 : decode cX10_doubt 150 = .ok (.iload_n 1, 1) := by decide +kernel
theorem dX10_doubt_151 : decode cX10_doubt 151 = .ok (.iaload, 1) := by decide +kernel
theorem dX10_doubt_152 : decode cX10_doubt 152 = .ok (.iconst 4, 1) := by decide +kernel
theorem dX10_doubt_153 : decode cX10_doubt 153 = .ok (.if_icmp .ne 15, 3) := by decide +kernel
theorem dX10_doubt_156 : decode cX10_doubt 156 = .ok (.aload_n 0, 1) := by decide +kernel
theorem dX10_doubt_157 : decode cX10_doubt 157 = .ok (.iload_n 1, 1) := by decide +kernel
theorem dX10_doubt_158 : decode cX10_doubt 158 = .ok (.iload_n 2, 1) := by decide +kernel
theorem dX10_doubt_159 : decode cX10_doubt 159 = .ok (.bipush 99, 2) := by decide +kernel
theorem dX10_doubt_161 : decode cX10_doubt 161 = .ok (.invokevirtual 107, 3) := by decide +kernel
theorem dX10_doubt_164 : decode cX10_doubt 164 = .ok (.iconst (-1), 1) := by decide +kernel
theorem dX10_doubt_165 : decode cX10_doubt 165 = .ok (.if_icmp .eq 5, 3) := by decide +kernel
theorem dX10_doubt_168 : decode cX10_doubt 168 = .ok (.iconst 0, 1) := by decide +kernel
theorem dX10_doubt_169 : decode cX10_doubt 169 = .ok (.ireturn, 1) := by decide +kernel
theorem dX10_doubt_170 : decode cX10_doubt 170 = .ok (.aload_n 0, 1) := by decide +kernel
theorem dX10_doubt_171 : decode cX10_doubt 171 = .ok (.getfield 28, 3) := by decide +kernel
theorem dX10_doubt_174 : decode cX10_doubt 174 = .ok (.iload_n 1, 1) := by decide +kernel
theorem dX10_doubt_175 : decode cX10_doubt 175 = .ok (.iload_n 2, 1) := by decide +kernel
theorem dX10_doubt_176 : decode cX10_doubt 176 = .ok (.invokestatic 92, 3) := by decide +kernel
theorem dX10_doubt_179 : decode cX10_doubt 179 = .ok (.iaload, 1) := by decide +kernel
theorem dX10_doubt_180 : decode cX10_doubt 180 = .ok (.istore 6, 2) := by decide +kernel
theorem dX10_doubt_182 : decode cX10_doubt 182 = .ok (.aload_n 0, 1) := by decide +kernel
theorem dX10_doubt_183 : decode cX10_doubt 183 = .ok (.getfield 37, 3) := by decide +kernel
theorem dX10_doubt_186 : decode cX10_doubt 186 = .ok (.iload_n 1, 1) := by decide +kernel
theorem dX10_doubt_187 : decode cX10_doubt 187 = .ok (.iload_n 2, 1) := by decide +kernel
theorem dX10_doubt_188 : decode cX10_doubt 188 = .ok (.invokestatic 92, 3) := by decide +kernel
theorem dX10_doubt_191 : decode cX10_doubt 191 = .ok (.iaload, 1) := by decide +kernel
theorem dX10_doubt_192 : decode cX10_doubt 192 = .ok (.istore 7, 2) := by decide +kernel
theorem dX10_doubt_194 : decode cX10_doubt 194 = .ok (.iload 6, 2) := by decide +kernel
theorem dX10_doubt_196 : decode cX10_doubt 196 = .ok (.iload 7, 2) := by decide +kernel
theorem dX10_doubt_198 : decode cX10_doubt 198 = .ok (.if_icmp .le 8, 3) := by decide +kernel
theorem dX10_doubt_201 : decode cX10_doubt 201 = .ok (.iload 6, 2) := by decide +kernel
theorem dX10_doubt_203 : decode cX10_doubt 203 = .ok (.goto 5, 3) := by decide +kernel
theorem dX10_doubt_206 : decode cX10_doubt 206 = .ok (.iload 7, 2) := by decide +kernel
theorem dX10_doubt_208 : decode cX10_doubt 208 = .ok (.istore 8, 2) := by decide +kernel
theorem dX10_doubt_210 : decode cX10_doubt 210 = .ok (.iload 6, 2) := by decide +kernel
theorem dX10_doubt_212 : decode cX10_doubt 212 = .ok (.iload 7, 2) := by decide +kernel
theorem dX10_doubt_214 : decode cX10_doubt 214 = .ok (.if_icmp .le 8, 3) := by decide +kernel
theorem dX10_doubt_217 : decode cX10_doubt 217 = .ok (.iload 7, 2) := by decide +kernel
theorem dX10_doubt_219 : decode cX10_doubt 219 = .ok (.goto 5, 3) := by decide +kernel
theorem dX10_doubt_222 : decode cX10_doubt 222 = .ok (.iload 6, 2) := by decide +kernel
theorem dX10_doubt_224 : decode cX10_doubt 224 = .ok (.istore 9, 2) := by decide +kernel
theorem dX10_doubt_226 : decode cX10_doubt 226 = .ok (.bipush 100, 2) := by decide +kernel
theorem dX10_doubt_228 : decode cX10_doubt 228 = .ok (.iload 8, 2) := by decide +kernel
theorem dX10_doubt_230 : decode cX10_doubt 230 = .ok (.iload 9, 2) := by decide +kernel
theorem dX10_doubt_232 : decode cX10_doubt 232 = .ok (.isub, 1) := by decide +kernel
theorem dX10_doubt_233 : decode cX10_doubt 233 = .ok (.imul, 1) := by decide +kernel
theorem dX10_doubt_234 : decode cX10_doubt 234 = .ok (.aload_n 0, 1) := by decide +kernel
theorem dX10_doubt_235 : decode cX10_doubt 235 = .ok (.getfield 62, 3) := by decide +kernel
theorem dX10_doubt_238 : decode cX10_doubt 238 = .ok (.iload 8, 2) := by decide +kernel
theorem dX10_doubt_240 : decode cX10_doubt 240 = .ok (.imul, 1) := by decide +kernel
theorem dX10_doubt_241 : decode cX10_doubt 241 = .ok (.if_icmp .le 7, 3) := by decide +kernel
theorem dX10_doubt_244 : decode cX10_doubt 244 = .ok (.iconst 3, 1) := by decide +kernel
theorem dX10_doubt_245 : decode cX10_doubt 245 = .ok (.goto 4, 3) := by decide +kernel
theorem dX10_doubt_248 : decode cX10_doubt 248 = .ok (.iconst 0, 1) := by decide +kernel
theorem dX10_doubt_249 : decode cX10_doubt 249 = .ok (.ireturn, 1) := by decide +kernel
theorem dX10_trusted_0 : decode cX10_trusted 0 = .ok (.aload_n 0, 1) := by decide +kernel
theorem dX10_trusted_1 : decode cX10_trusted 1 = .ok (.iload_n 1, 1) := by decide +kernel
theorem dX10_trusted_2 : decode cX10_trusted 2 = .ok (.iload_n 2, 1) := by decide +kernel
theorem dX10_trusted_3 : decode cX10_trusted 3 = .ok (.invokevirtual 116, 3) := by decide +kernel
theorem dX10_trusted_6 : decode cX10_trusted 6 = .ok (.iconst (-1), 1) := by decide +kernel
theorem dX10_trusted_7 : decode cX10_trusted 7 = .ok (.if_icmp .eq 21, 3) := by decide +kernel
theorem dX10_trusted_10 : decode cX10_trusted 10 = .ok (.aload_n 0, 1) := by decide +kernel
theorem dX10_trusted_11 : decode cX10_trusted 11 = .ok (.iload_n 1, 1) := by decide +kernel
theorem dX10_trusted_12 : decode cX10_trusted 12 = .ok (.iload_n 2, 1) := by decide +kernel
theorem dX10_trusted_13 : decode cX10_trusted 13 = .ok (.invokevirtual 122, 3) := by decide +kernel
theorem dX10_trusted_16 : decode cX10_trusted 16 = .ok (.ifCond .ne 12, 3) := by decide +kernel
theorem dX10_trusted_19 : decode cX10_trusted 19 = .ok (.aload_n 0, 1) := by decide +kernel
theorem dX10_trusted_20 : decode cX10_trusted 20 = .ok (.iload_n 1, 1) := by decide +kernel
theorem dX10_trusted_21 : decode cX10_trusted 21 = .ok (.iload_n 2, 1) := by decide +kernel
theorem dX10_trusted_22 : decode cX10_trusted 22 = .ok (.invokevirtual 116, 3) := by decide +kernel
theorem dX10_trusted_25 : decode cX10_trusted 25 = .ok (.goto 4, 3) := by decide +kernel
theorem dX10_trusted_28 : decode cX10_trusted 28 = .ok (.iconst (-1), 1) := by decide +kernel
theorem dX10_trusted_29 : decode cX10_trusted 29 = .ok (.ireturn, 1) := by decide +kernel
theorem dX10_why_0 : decode cX10_why 0 = .ok (.aload_n 0, 1) := by decide +kernel
theorem dX10_why_1 : decode cX10_why 1 = .ok (.iload_n 1, 1) := by decide +kernel
theorem dX10_why_2 : decode cX10_why 2 = .ok (.iconst 0, 1) := by decide +kernel
theorem dX10_why_3 : decode cX10_why 3 = .ok (.iconst 4, 1) := by decide +kernel
theorem dX10_why_4 : decode cX10_why 4 = .ok (.invokevirtual 96, 3) := by decide +kernel
theorem dX10_why_7 : decode cX10_why 7 = .ok (.istore_n 3, 1) := by decide +kernel
theorem dX10_why_8 : decode cX10_why 8 = .ok (.iload_n 3, 1) := by decide +kernel
theorem dX10_why_9 : decode cX10_why 9 = .ok (.ifCond .eq 7, 3) := by decide +kernel
theorem dX10_why_12 : decode cX10_why 12 = .ok (.iload_n 3, 1) := by decide +kernel
theorem dX10_why_13 : decode cX10_why 13 = .ok (.goto 23, 3) := by decide +kernel
theorem dX10_why_16 : decode cX10_why 16 = .ok (.iload_n 2, 1) := by decide +kernel
theorem dX10_why_17 : decode cX10_why 17 = .ok (.iconst 0, 1) := by decide +kernel
theorem dX10_why_18 : decode cX10_why 18 = .ok (.bipush 55, 2) := by decide +kernel
theorem dX10_why_20 : decode cX10_why 20 = .ok (.invokestatic 85, 3) := by decide +kernel
theorem dX10_why_23 : decode cX10_why 23 = .ok (.ifCond .eq 12, 3) := by decide +kernel
theorem dX10_why_26 : decode cX10_why 26 = .ok (.aload_n 0, 1) := by decide +kernel
theorem dX10_why_27 : decode cX10_why 27 = .ok (.iload_n 1, 1) := by decide +kernel
theorem dX10_why_28 : decode cX10_why 28 = .ok (.iload_n 2, 1) := by decide +kernel
theorem dX10_why_29 : decode cX10_why 29 = .ok (.invokevirtual 122, 3) := by decide +kernel
theorem dX10_why_32 : decode cX10_why 32 = .ok (.goto 4, 3) := by decide +kernel
theorem dX10_why_35 : decode cX10_why 35 = .ok (.iconst (-1), 1) := by decide +kernel
theorem dX10_why_36 : decode cX10_why 36 = .ok (.ireturn, 1) := by decide +kernel
theorem dX10_rows_0 : decode cX10_rows 0 = .ok (.iconst 0, 1) := by decide +kernel
theorem dX10_rows_1 : decode cX10_rows 1 = .ok (.istore_n 2, 1) := by decide +kernel
theorem dX10_rows_2 : decode cX10_rows 2 = .ok (.iconst 0, 1) := by decide +kernel
theorem dX10_rows_3 : decode cX10_rows 3 = .ok (.istore_n 3, 1) := by decide +kernel
theorem dX10_rows_4 : decode cX10_rows 4 = .ok (.iload_n 3, 1) := by decide +kernel
theorem dX10_rows_5 : decode cX10_rows 5 = .ok (.bipush 16, 2) := by decide +kernel
theorem dX10_rows_7 : decode cX10_rows 7 = .ok (.if_icmp .ge 111, 3) := by decide +kernel
theorem dX10_rows_10 : decode cX10_rows 10 = .ok (.iload_n 3, 1) := by decide +kernel
theorem dX10_rows_11 : decode cX10_rows 11 = .ok (.iload_n 1, 1) := by decide +kernel
theorem dX10_rows_12 : decode cX10_rows 12 = .ok (.if_icmp .eq 100, 3) := by decide +kernel
theorem dX10_rows_15 : decode cX10_rows 15 = .ok (.aload_n 0, 1) := by decide +kernel
theorem dX10_rows_16 : decode cX10_rows 16 = .ok (.iload_n 3, 1) := by decide +kernel
theorem dX10_rows_17 : decode cX10_rows 17 = .ok (.invokevirtual 103, 3) := by decide +kernel
theorem dX10_rows_20 : decode cX10_rows 20 = .ok (.ifCond .ne 6, 3) := by decide +kernel
theorem dX10_rows_23 : decode cX10_rows 23 = .ok (.goto 89, 3) := by decide +kernel
theorem dX10_rows_26 : decode cX10_rows 26 = .ok (.iload_n 2, 1) := by decide +kernel
theorem dX10_rows_27 : decode cX10_rows 27 = .ok (.istore 4, 2) := by decide +kernel
theorem dX10_rows_29 : decode cX10_rows 29 = .ok (.iload 4, 2) := by decide +kernel
theorem dX10_rows_31 : decode cX10_rows 31 = .ok (.ifCond .le 70, 3) := by decide +kernel
theorem dX10_rows_34 : decode cX10_rows 34 = .ok (.aload_n 0, 1) := by decide +kernel
theorem dX10_rows_35 : decode cX10_rows 35 = .ok (.aload_n 0, 1) := by decide +kernel
theorem dX10_rows_36 : decode cX10_rows 36 = .ok (.getfield 72, 3) := by decide +kernel
theorem dX10_rows_39 : decode cX10_rows 39 = .ok (.iload 4, 2) := by decide +kernel
theorem dX10_rows_41 : decode cX10_rows 41 = .ok (.iconst 1, 1) := by decide +kernel
theorem dX10_rows_42 : decode cX10_rows 42 = .ok (.isub, 1) := by decide +kernel
theorem dX10_rows_43 : decode cX10_rows 43 = .ok (.iaload, 1) := by decide +kernel
theorem dX10_rows_44 : decode cX10_rows 44 = .ok (.aload_n 0, 1) := by decide +kernel
theorem dX10_rows_45 : decode cX10_rows 45 = .ok (.getfield 13, 3) := by decide +kernel
theorem dX10_rows_48 : decode cX10_rows 48 = .ok (.iload_n 1, 1) := by decide +kernel
theorem dX10_rows_49 : decode cX10_rows 49 = .ok (.iaload, 1) := by decide +kernel
theorem dX10_rows_50 : decode cX10_rows 50 = .ok (.aload_n 0, 1) := by decide +kernel
theorem dX10_rows_51 : decode cX10_rows 51 = .ok (.getfield 16, 3) := by decide +kernel
theorem dX10_rows_54 : decode cX10_rows 54 = .ok (.iload_n 1, 1) := by decide +kernel
theorem dX10_rows_55 : decode cX10_rows 55 = .ok (.iaload, 1) := by decide +kernel
theorem dX10_rows_56 : decode cX10_rows 56 = .ok (.invokevirtual 119, 3) := by decide +kernel
theorem dX10_rows_59 : decode cX10_rows 59 = .ok (.aload_n 0, 1) := by decide +kernel
theorem dX10_rows_60 : decode cX10_rows 60 = .ok (.iload_n 3, 1) := by decide +kernel
theorem dX10_rows_61 : decode cX10_rows 61 = .ok (.aload_n 0, 1) := by decide +kernel
theorem dX10_rows_62 : decode cX10_rows 62 = .ok (.getfield 13, 3) := by decide +kernel
theorem dX10_rows_65 : decode cX10_rows 65 = .ok (.iload_n 1, 1) := by decide +kernel
theorem dX10_rows_66 : decode cX10_rows 66 = .ok (.iaload, 1) := by decide +kernel
theorem dX10_rows_67 : decode cX10_rows 67 = .ok (.aload_n 0, 1) := by decide +kernel
theorem dX10_rows_68 : decode cX10_rows 68 = .ok (.getfield 16, 3) := by decide +kernel
theorem dX10_rows_71 : decode cX10_rows 71 = .ok (.iload_n 1, 1) := by decide +kernel
theorem dX10_rows_72 : decode cX10_rows 72 = .ok (.iaload, 1) := by decide +kernel
theorem dX10_rows_73 : decode cX10_rows 73 = .ok (.invokevirtual 119, 3) := by decide +kernel
theorem dX10_rows_76 : decode cX10_rows 76 = .ok (.if_icmp .le 25, 3) := by decide +kernel
theorem dX10_rows_79 : decode cX10_rows 79 = .ok (.aload_n 0, 1) := by decide +kernel
theorem dX10_rows_80 : decode cX10_rows 80 = .ok (.getfield 72, 3) := by decide +kernel
theorem dX10_rows_83 : decode cX10_rows 83 = .ok (.iload 4, 2) := by decide +kernel
theorem dX10_rows_85 : decode cX10_rows 85 = .ok (.aload_n 0, 1) := by decide +kernel
theorem dX10_rows_86 : decode cX10_rows 86 = .ok (.getfield 72, 3) := by decide +kernel
theorem dX10_rows_89 : decode cX10_rows 89 = .ok (.iload 4, 2) := by decide +kernel
theorem dX10_rows_91 : decode cX10_rows 91 = .ok (.iconst 1, 1) := by decide +kernel
theorem dX10_rows_92 : decode cX10_rows 92 = .ok (.isub, 1) := by decide +kernel
theorem dX10_rows_93 : decode cX10_rows 93 = .ok (.iaload, 1) := by decide +kernel
theorem dX10_rows_94 : decode cX10_rows 94 = .ok (.iastore, 1) := by decide +kernel
theorem dX10_rows_95 : decode cX10_rows 95 = .ok (.iinc 4 (-1), 3) := by decide +kernel
theorem dX10_rows_98 : decode cX10_rows 98 = .ok (.goto (-69), 3) := by decide +kernel
theorem dX10_rows_101 : decode cX10_rows 101 = .ok (.aload_n 0, 1) := by decide +kernel
theorem dX10_rows_102 : decode cX10_rows 102 = .ok (.getfield 72, 3) := by decide +kernel
theorem dX10_rows_105 : decode cX10_rows 105 = .ok (.iload 4, 2) := by decide +kernel
theorem dX10_rows_107 : decode cX10_rows 107 = .ok (.iload_n 3, 1) := by decide +kernel
theorem dX10_rows_108 : decode cX10_rows 108 = .ok (.iastore, 1) := by decide +kernel
theorem dX10_rows_109 : decode cX10_rows 109 = .ok (.iinc 2 1, 3) := by decide +kernel
theorem dX10_rows_112 : decode cX10_rows 112 = .ok (.iinc 3 1, 3) := by decide +kernel
theorem dX10_rows_115 : decode cX10_rows 115 = .ok (.goto (-111), 3) := by decide +kernel
theorem dX10_rows_118 : decode cX10_rows 118 = .ok (.iload_n 2, 1) := by decide +kernel
theorem dX10_rows_119 : decode cX10_rows 119 = .ok (.ireturn, 1) := by decide +kernel
theorem dX10_bys_0 : decode cX10_bys 0 = .ok (.aload_n 0, 1) := by decide +kernel
theorem dX10_bys_1 : decode cX10_bys 1 = .ok (.iload_n 1, 1) := by decide +kernel
theorem dX10_bys_2 : decode cX10_bys 2 = .ok (.invokevirtual 125, 3) := by decide +kernel
theorem dX10_bys_5 : decode cX10_bys 5 = .ok (.istore_n 3, 1) := by decide +kernel
theorem dX10_bys_6 : decode cX10_bys 6 = .ok (.iconst 0, 1) := by decide +kernel
theorem dX10_bys_7 : decode cX10_bys 7 = .ok (.istore 4, 2) := by decide +kernel
theorem dX10_bys_9 : decode cX10_bys 9 = .ok (.iconst 0, 1) := by decide +kernel
theorem dX10_bys_10 : decode cX10_bys 10 = .ok (.istore 5, 2) := by decide +kernel
theorem dX10_bys_12 : decode cX10_bys 12 = .ok (.iload 5, 2) := by decide +kernel
theorem dX10_bys_14 : decode cX10_bys 14 = .ok (.iload_n 3, 1) := by decide +kernel
theorem dX10_bys_15 : decode cX10_bys 15 = .ok (.if_icmp .ge 51, 3) := by decide +kernel
theorem dX10_bys_18 : decode cX10_bys 18 = .ok (.iload 4, 2) := by decide +kernel
theorem dX10_bys_20 : decode cX10_bys 20 = .ok (.iconst 4, 1) := by decide +kernel
theorem dX10_bys_21 : decode cX10_bys 21 = .ok (.if_icmp .ge 45, 3) := by decide +kernel
theorem dX10_bys_24 : decode cX10_bys 24 = .ok (.aload_n 0, 1) := by decide +kernel
theorem dX10_bys_25 : decode cX10_bys 25 = .ok (.aload_n 0, 1) := by decide +kernel
theorem dX10_bys_26 : decode cX10_bys 26 = .ok (.getfield 72, 3) := by decide +kernel
theorem dX10_bys_29 : decode cX10_bys 29 = .ok (.iload 5, 2) := by decide +kernel
theorem dX10_bys_31 : decode cX10_bys 31 = .ok (.iaload, 1) := by decide +kernel
theorem dX10_bys_32 : decode cX10_bys 32 = .ok (.iload_n 2, 1) := by decide +kernel
theorem dX10_bys_33 : decode cX10_bys 33 = .ok (.invokevirtual 129, 3) := by decide +kernel
theorem dX10_bys_36 : decode cX10_bys 36 = .ok (.iconst (-1), 1) := by decide +kernel
theorem dX10_bys_37 : decode cX10_bys 37 = .ok (.if_icmp .ne 6, 3) := by decide +kernel
theorem dX10_bys_40 : decode cX10_bys 40 = .ok (.goto 20, 3) := by decide +kernel
theorem dX10_bys_43 : decode cX10_bys 43 = .ok (.aload_n 0, 1) := by decide +kernel
theorem dX10_bys_44 : decode cX10_bys 44 = .ok (.getfield 75, 3) := by decide +kernel
theorem dX10_bys_47 : decode cX10_bys 47 = .ok (.iload 4, 2) := by decide +kernel
theorem dX10_bys_49 : decode cX10_bys 49 = .ok (.aload_n 0, 1) := by decide +kernel
theorem dX10_bys_50 : decode cX10_bys 50 = .ok (.getfield 72, 3) := by decide +kernel
theorem dX10_bys_53 : decode cX10_bys 53 = .ok (.iload 5, 2) := by decide +kernel
theorem dX10_bys_55 : decode cX10_bys 55 = .ok (.iaload, 1) := by decide +kernel
theorem dX10_bys_56 : decode cX10_bys 56 = .ok (.iastore, 1) := by decide +kernel
theorem dX10_bys_57 : decode cX10_bys 57 = .ok (.iinc 4 1, 3) := by decide +kernel
theorem dX10_bys_60 : decode cX10_bys 60 = .ok (.iinc 5 1, 3) := by decide +kernel
theorem dX10_bys_63 : decode cX10_bys 63 = .ok (.goto (-51), 3) := by decide +kernel
theorem dX10_bys_66 : decode cX10_bys 66 = .ok (.iload 4, 2) := by decide +kernel
theorem dX10_bys_68 : decode cX10_bys 68 = .ok (.ireturn, 1) := by decide +kernel
theorem dX10_mayMend_0 : decode cX10_mayMend 0 = .ok (.aload_n 0, 1) := by decide +kernel
theorem dX10_mayMend_1 : decode cX10_mayMend 1 = .ok (.getfield 9, 3) := by decide +kernel
theorem dX10_mayMend_4 : decode cX10_mayMend 4 = .ok (.iload_n 1, 1) := by decide +kernel
theorem dX10_mayMend_5 : decode cX10_mayMend 5 = .ok (.iaload, 1) := by decide +kernel
theorem dX10_mayMend_6 : decode cX10_mayMend 6 = .ok (.iconst 3, 1) := by decide +kernel
theorem dX10_mayMend_7 : decode cX10_mayMend 7 = .ok (.if_icmp .eq 40, 3) := by decide +kernel
theorem dX10_mayMend_10 : decode cX10_mayMend 10 = .ok (.iload_n 2, 1) := by decide +kernel
theorem dX10_mayMend_11 : decode cX10_mayMend 11 = .ok (.aload_n 0, 1) := by decide +kernel
theorem dX10_mayMend_12 : decode cX10_mayMend 12 = .ok (.getfield 22, 3) := by decide +kernel
theorem dX10_mayMend_15 : decode cX10_mayMend 15 = .ok (.iload_n 1, 1) := by decide +kernel
theorem dX10_mayMend_16 : decode cX10_mayMend 16 = .ok (.iaload, 1) := by decide +kernel
theorem dX10_mayMend_17 : decode cX10_mayMend 17 = .ok (.bipush 55, 2) := by decide +kernel
theorem dX10_mayMend_19 : decode cX10_mayMend 19 = .ok (.invokestatic 85, 3) := by decide +kernel
theorem dX10_mayMend_22 : decode cX10_mayMend 22 = .ok (.ifCond .eq 25, 3) := by decide +kernel
theorem dX10_mayMend_25 : decode cX10_mayMend 25 = .ok (.iload_n 2, 1) := by decide +kernel
theorem dX10_mayMend_26 : decode cX10_mayMend 26 = .ok (.aload_n 0, 1) := by decide +kernel
theorem dX10_mayMend_27 : decode cX10_mayMend 27 = .ok (.getfield 89, 3) := by decide +kernel
theorem dX10_mayMend_30 : decode cX10_mayMend 30 = .ok (.if_icmp .gt 17, 3) := by decide +kernel
theorem dX10_mayMend_33 : decode cX10_mayMend 33 = .ok (.aload_n 0, 1) := by decide +kernel
theorem dX10_mayMend_34 : decode cX10_mayMend 34 = .ok (.iload_n 1, 1) := by decide +kernel
theorem dX10_mayMend_35 : decode cX10_mayMend 35 = .ok (.iload_n 2, 1) := by decide +kernel
theorem dX10_mayMend_36 : decode cX10_mayMend 36 = .ok (.invokevirtual 129, 3) := by decide +kernel
theorem dX10_mayMend_39 : decode cX10_mayMend 39 = .ok (.iconst (-1), 1) := by decide +kernel
theorem dX10_mayMend_40 : decode cX10_mayMend 40 = .ok (.if_icmp .ne 7, 3) := by decide +kernel
theorem dX10_mayMend_43 : decode cX10_mayMend 43 = .ok (.iconst 1, 1) := by decide +kernel
theorem dX10_mayMend_44 : decode cX10_mayMend 44 = .ok (.goto 4, 3) := by decide +kernel
theorem dX10_mayMend_47 : decode cX10_mayMend 47 = .ok (.iconst 0, 1) := by decide +kernel
theorem dX10_mayMend_48 : decode cX10_mayMend 48 = .ok (.ireturn, 1) := by decide +kernel
theorem dX10_mended_0 : decode cX10_mended 0 = .ok (.aload_n 0, 1) := by decide +kernel
theorem dX10_mended_1 : decode cX10_mended 1 = .ok (.iload_n 1, 1) := by decide +kernel
theorem dX10_mended_2 : decode cX10_mended 2 = .ok (.iload_n 2, 1) := by decide +kernel
theorem dX10_mended_3 : decode cX10_mended 3 = .ok (.invokevirtual 132, 3) := by decide +kernel
theorem dX10_mended_6 : decode cX10_mended 6 = .ok (.ifCond .ne 5, 3) := by decide +kernel
theorem dX10_mended_9 : decode cX10_mended 9 = .ok (.iconst (-1), 1) := by decide +kernel
theorem dX10_mended_10 : decode cX10_mended 10 = .ok (.ireturn, 1) := by decide +kernel
theorem dX10_mended_11 : decode cX10_mended 11 = .ok (.aload_n 0, 1) := by decide +kernel
theorem dX10_mended_12 : decode cX10_mended 12 = .ok (.iload_n 1, 1) := by decide +kernel
theorem dX10_mended_13 : decode cX10_mended 13 = .ok (.iload_n 2, 1) := by decide +kernel
theorem dX10_mended_14 : decode cX10_mended 14 = .ok (.invokevirtual 136, 3) := by decide +kernel
theorem dX10_mended_17 : decode cX10_mended 17 = .ok (.istore_n 3, 1) := by decide +kernel
theorem dX10_mended_18 : decode cX10_mended 18 = .ok (.iload_n 3, 1) := by decide +kernel
theorem dX10_mended_19 : decode cX10_mended 19 = .ok (.ifCond .ne 5, 3) := by decide +kernel
theorem dX10_mended_22 : decode cX10_mended 22 = .ok (.iconst (-1), 1) := by decide +kernel
theorem dX10_mended_23 : decode cX10_mended 23 = .ok (.ireturn, 1) := by decide +kernel
theorem dX10_mended_24 : decode cX10_mended 24 = .ok (.lconst 0, 1) := by decide +kernel
theorem dX10_mended_25 : decode cX10_mended 25 = .ok (.lstore 4, 2) := by decide +kernel
theorem dX10_mended_27 : decode cX10_mended 27 = .ok (.lconst 0, 1) := by decide +kernel
theorem dX10_mended_28 : decode cX10_mended 28 = .ok (.lstore 6, 2) := by decide +kernel
theorem dX10_mended_30 : decode cX10_mended 30 = .ok (.iconst 0, 1) := by decide +kernel
theorem dX10_mended_31 : decode cX10_mended 31 = .ok (.istore 8, 2) := by decide +kernel
theorem dX10_mended_33 : decode cX10_mended 33 = .ok (.iload 8, 2) := by decide +kernel
theorem dX10_mended_35 : decode cX10_mended 35 = .ok (.iload_n 3, 1) := by decide +kernel
theorem dX10_mended_36 : decode cX10_mended 36 = .ok (.if_icmp .ge 217, 3) := by decide +kernel
theorem dX10_mended_39 : decode cX10_mended 39 = .ok (.aload_n 0, 1) := by decide +kernel
theorem dX10_mended_40 : decode cX10_mended 40 = .ok (.getfield 75, 3) := by decide +kernel
theorem dX10_mended_43 : decode cX10_mended 43 = .ok (.iload 8, 2) := by decide +kernel
theorem dX10_mended_45 : decode cX10_mended 45 = .ok (.iaload, 1) := by decide +kernel
theorem dX10_mended_46 : decode cX10_mended 46 = .ok (.istore 9, 2) := by decide +kernel
theorem dX10_mended_48 : decode cX10_mended 48 = .ok (.lconst 0, 1) := by decide +kernel
theorem dX10_mended_49 : decode cX10_mended 49 = .ok (.lstore 10, 2) := by decide +kernel
theorem dX10_mended_51 : decode cX10_mended 51 = .ok (.lconst 0, 1) := by decide +kernel
theorem dX10_mended_52 : decode cX10_mended 52 = .ok (.lstore 12, 2) := by decide +kernel
theorem dX10_mended_54 : decode cX10_mended 54 = .ok (.iconst 0, 1) := by decide +kernel
theorem dX10_mended_55 : decode cX10_mended 55 = .ok (.istore 14, 2) := by decide +kernel
theorem dX10_mended_57 : decode cX10_mended 57 = .ok (.iload 14, 2) := by decide +kernel
theorem dX10_mended_59 : decode cX10_mended 59 = .ok (.aload_n 0, 1) := by decide +kernel
theorem dX10_mended_60 : decode cX10_mended 60 = .ok (.getfield 89, 3) := by decide +kernel
theorem dX10_mended_63 : decode cX10_mended 63 = .ok (.if_icmp .ge 83, 3) := by decide +kernel
theorem dX10_mended_66 : decode cX10_mended 66 = .ok (.iload 14, 2) := by decide +kernel
theorem dX10_mended_68 : decode cX10_mended 68 = .ok (.bipush 56, 2) := by decide +kernel
theorem dX10_mended_70 : decode cX10_mended 70 = .ok (.if_icmp .ge 76, 3) := by decide +kernel
theorem dX10_mended_73 : decode cX10_mended 73 = .ok (.aload_n 0, 1) := by decide +kernel
theorem dX10_mended_74 : decode cX10_mended 74 = .ok (.iload_n 1, 1) := by decide +kernel
theorem dX10_mended_75 : decode cX10_mended 75 = .ok (.iload 14, 2) := by decide +kernel
theorem dX10_mended_77 : decode cX10_mended 77 = .ok (.invokevirtual 129, 3) := by decide +kernel
theorem dX10_mended_80 : decode cX10_mended 80 = .ok (.istore 15, 2) := by decide +kernel
theorem dX10_mended_82 : decode cX10_mended 82 = .ok (.aload_n 0, 1) := by decide +kernel
theorem dX10_mended_83 : decode cX10_mended 83 = .ok (.iload 9, 2) := by decide +kernel
theorem dX10_mended_85 : decode cX10_mended 85 = .ok (.iload 14, 2) := by decide +kernel
theorem dX10_mended_87 : decode cX10_mended 87 = .ok (.invokevirtual 129, 3) := by decide +kernel
theorem dX10_mended_90 : decode cX10_mended 90 = .ok (.istore 16, 2) := by decide +kernel
theorem dX10_mended_92 : decode cX10_mended 92 = .ok (.lload 10, 2) := by decide +kernel
theorem dX10_mended_94 : decode cX10_mended 94 = .ok (.iload 15, 2) := by decide +kernel
theorem dX10_mended_96 : decode cX10_mended 96 = .ok (.iconst (-1), 1) := by decide +kernel
theorem dX10_mended_97 : decode cX10_mended 97 = .ok (.if_icmp .eq 9, 3) := by decide +kernel
theorem dX10_mended_100 : decode cX10_mended 100 = .ok (.iload 16, 2) := by decide +kernel
theorem dX10_mended_102 : decode cX10_mended 102 = .ok (.iconst (-1), 1) := by decide +kernel
theorem dX10_mended_103 : decode cX10_mended 103 = .ok (.if_icmp .ne 7, 3) := by decide +kernel
theorem dX10_mended_106 : decode cX10_mended 106 = .ok (.lconst 0, 1) := by decide +kernel
theorem dX10_mended_107 : decode cX10_mended 107 = .ok (.goto 6, 3) := by decide +kernel
theorem dX10_mended_110 : decode cX10_mended 110 = .ok (.iload 15, 2) := by decide +kernel
theorem dX10_mended_112 : decode cX10_mended 112 = .ok (.i2l, 1) := by decide +kernel
theorem dX10_mended_113 : decode cX10_mended 113 = .ok (.ladd, 1) := by decide +kernel
theorem dX10_mended_114 : decode cX10_mended 114 = .ok (.lstore 10, 2) := by decide +kernel
theorem dX10_mended_116 : decode cX10_mended 116 = .ok (.lload 12, 2) := by decide +kernel
theorem dX10_mended_118 : decode cX10_mended 118 = .ok (.iload 15, 2) := by decide +kernel
theorem dX10_mended_120 : decode cX10_mended 120 = .ok (.iconst (-1), 1) := by decide +kernel
theorem dX10_mended_121 : decode cX10_mended 121 = .ok (.if_icmp .eq 9, 3) := by decide +kernel
theorem dX10_mended_124 : decode cX10_mended 124 = .ok (.iload 16, 2) := by decide +kernel
theorem dX10_mended_126 : decode cX10_mended 126 = .ok (.iconst (-1), 1) := by decide +kernel
theorem dX10_mended_127 : decode cX10_mended 127 = .ok (.if_icmp .ne 7, 3) := by decide +kernel
theorem dX10_mended_130 : decode cX10_mended 130 = .ok (.lconst 0, 1) := by decide +kernel
theorem dX10_mended_131 : decode cX10_mended 131 = .ok (.goto 6, 3) := by decide +kernel
theorem dX10_mended_134 : decode cX10_mended 134 = .ok (.iload 16, 2) := by decide +kernel
theorem dX10_mended_136 : decode cX10_mended 136 = .ok (.i2l, 1) := by decide +kernel
theorem dX10_mended_137 : decode cX10_mended 137 = .ok (.ladd, 1) := by decide +kernel
theorem dX10_mended_138 : decode cX10_mended 138 = .ok (.lstore 12, 2) := by decide +kernel
theorem dX10_mended_140 : decode cX10_mended 140 = .ok (.iinc 14 1, 3) := by decide +kernel
theorem dX10_mended_143 : decode cX10_mended 143 = .ok (.goto (-86), 3) := by decide +kernel
theorem dX10_mended_146 : decode cX10_mended 146 = .ok (.lload 12, 2) := by decide +kernel
theorem dX10_mended_148 : decode cX10_mended 148 = .ok (.lconst 0, 1) := by decide +kernel
theorem dX10_mended_149 : decode cX10_mended 149 = .ok (.lcmp, 1) := by decide +kernel
theorem dX10_mended_150 : decode cX10_mended 150 = .ok (.ifCond .ne 9, 3) := by decide +kernel
theorem dX10_mended_153 : decode cX10_mended 153 = .ok (.lconst 1, 1) := by decide +kernel
theorem dX10_mended_154 : decode cX10_mended 154 = .ok (.lstore 10, 2) := by decide +kernel
theorem dX10_mended_156 : decode cX10_mended 156 = .ok (.lconst 1, 1) := by decide +kernel
theorem dX10_mended_157 : decode cX10_mended 157 = .ok (.lstore 12, 2) := by decide +kernel
theorem dX10_mended_159 : decode cX10_mended 159 = .ok (.aload_n 0, 1) := by decide +kernel
theorem dX10_mended_160 : decode cX10_mended 160 = .ok (.iload 9, 2) := by decide +kernel
theorem dX10_mended_162 : decode cX10_mended 162 = .ok (.aload_n 0, 1) := by decide +kernel
theorem dX10_mended_163 : decode cX10_mended 163 = .ok (.getfield 13, 3) := by decide +kernel
theorem dX10_mended_166 : decode cX10_mended 166 = .ok (.iload_n 1, 1) := by decide +kernel
theorem dX10_mended_167 : decode cX10_mended 167 = .ok (.iaload, 1) := by decide +kernel
theorem dX10_mended_168 : decode cX10_mended 168 = .ok (.aload_n 0, 1) := by decide +kernel
theorem dX10_mended_169 : decode cX10_mended 169 = .ok (.getfield 16, 3) := by decide +kernel
theorem dX10_mended_172 : decode cX10_mended 172 = .ok (.iload_n 1, 1) := by decide +kernel
theorem dX10_mended_173 : decode cX10_mended 173 = .ok (.iaload, 1) := by decide +kernel
theorem dX10_mended_174 : decode cX10_mended 174 = .ok (.invokevirtual 119, 3) := by decide +kernel
theorem dX10_mended_177 : decode cX10_mended 177 = .ok (.istore 14, 2) := by decide +kernel
theorem dX10_mended_179 : decode cX10_mended 179 = .ok (.iload 14, 2) := by decide +kernel
theorem dX10_mended_181 : decode cX10_mended 181 = .ok (.ifCond .ne 9, 3) := by decide +kernel
theorem dX10_mended_184 : decode cX10_mended 184 = .ok (.sipush 288, 3) := by decide +kernel
theorem dX10_mended_187 : decode cX10_mended 187 = .ok (.goto 23, 3) := by decide +kernel
theorem dX10_mended_190 : decode cX10_mended 190 = .ok (.sipush 144, 3) := by decide +kernel
theorem dX10_mended_193 : decode cX10_mended 193 = .ok (.iload 14, 2) := by decide +kernel
theorem dX10_mended_195 : decode cX10_mended 195 = .ok (.idiv, 1) := by decide +kernel
theorem dX10_mended_196 : decode cX10_mended 196 = .ok (.iconst 1, 1) := by decide +kernel
theorem dX10_mended_197 : decode cX10_mended 197 = .ok (.if_icmp .ge 7, 3) := by decide +kernel
theorem dX10_mended_200 : decode cX10_mended 200 = .ok (.iconst 1, 1) := by decide +kernel
theorem dX10_mended_201 : decode cX10_mended 201 = .ok (.goto 9, 3) := by decide +kernel
theorem dX10_mended_204 : decode cX10_mended 204 = .ok (.sipush 144, 3) := by decide +kernel
theorem dX10_mended_207 : decode cX10_mended 207 = .ok (.iload 14, 2) := by decide +kernel
theorem dX10_mended_209 : decode cX10_mended 209 = .ok (.idiv, 1) := by decide +kernel
theorem dX10_mended_210 : decode cX10_mended 210 = .ok (.istore 15, 2) := by decide +kernel
theorem dX10_mended_212 : decode cX10_mended 212 = .ok (.lload 4, 2) := by decide +kernel
theorem dX10_mended_214 : decode cX10_mended 214 = .ok (.aload_n 0, 1) := by decide +kernel
theorem dX10_mended_215 : decode cX10_mended 215 = .ok (.iload 9, 2) := by decide +kernel
theorem dX10_mended_217 : decode cX10_mended 217 = .ok (.iload_n 2, 1) := by decide +kernel
theorem dX10_mended_218 : decode cX10_mended 218 = .ok (.invokevirtual 129, 3) := by decide +kernel
theorem dX10_mended_221 : decode cX10_mended 221 = .ok (.i2l, 1) := by decide +kernel
theorem dX10_mended_222 : decode cX10_mended 222 = .ok (.lload 10, 2) := by decide +kernel
theorem dX10_mended_224 : decode cX10_mended 224 = .ok (.lmul, 1) := by decide +kernel
theorem dX10_mended_225 : decode cX10_mended 225 = .ok (.ldc2_w 139, 3) := by decide +kernel
theorem dX10_mended_228 : decode cX10_mended 228 = .ok (.lmul, 1) := by decide +kernel
theorem dX10_mended_229 : decode cX10_mended 229 = .ok (.lload 12, 2) := by decide +kernel
theorem dX10_mended_231 : decode cX10_mended 231 = .ok (.ldiv, 1) := by decide +kernel
theorem dX10_mended_232 : decode cX10_mended 232 = .ok (.iload 15, 2) := by decide +kernel
theorem dX10_mended_234 : decode cX10_mended 234 = .ok (.i2l, 1) := by decide +kernel
theorem dX10_mended_235 : decode cX10_mended 235 = .ok (.lmul, 1) := by decide +kernel
theorem dX10_mended_236 : decode cX10_mended 236 = .ok (.ladd, 1) := by decide +kernel
theorem dX10_mended_237 : decode cX10_mended 237 = .ok (.lstore 4, 2) := by decide +kernel
theorem dX10_mended_239 : decode cX10_mended 239 = .ok (.lload 6, 2) := by decide +kernel
theorem dX10_mended_241 : decode cX10_mended 241 = .ok (.iload 15, 2) := by decide +kernel
theorem dX10_mended_243 : decode cX10_mended 243 = .ok (.i2l, 1) := by decide +kernel
theorem dX10_mended_244 : decode cX10_mended 244 = .ok (.ladd, 1) := by decide +kernel
theorem dX10_mended_245 : decode cX10_mended 245 = .ok (.lstore 6, 2) := by decide +kernel
theorem dX10_mended_247 : decode cX10_mended 247 = .ok (.iinc 8 1, 3) := by decide +kernel
theorem dX10_mended_250 : decode cX10_mended 250 = .ok (.goto (-217), 3) := by decide +kernel
theorem dX10_mended_253 : decode cX10_mended 253 = .ok (.lload 4, 2) := by decide +kernel
theorem dX10_mended_255 : decode cX10_mended 255 = .ok (.lload 6, 2) := by decide +kernel
theorem dX10_mended_257 : decode cX10_mended 257 = .ok (.ldc2_w 139, 3) := by decide +kernel
theorem dX10_mended_260 : decode cX10_mended 260 = .ok (.lmul, 1) := by decide +kernel
theorem dX10_mended_261 : decode cX10_mended 261 = .ok (.ldiv, 1) := by decide +kernel
theorem dX10_mended_262 : decode cX10_mended 262 = .ok (.l2i, 1) := by decide +kernel
theorem dX10_mended_263 : decode cX10_mended 263 = .ok (.ireturn, 1) := by decide +kernel
theorem dX10_from_0 : decode cX10_from 0 = .ok (.aload_n 0, 1) := by decide +kernel
theorem dX10_from_1 : decode cX10_from 1 = .ok (.iload_n 1, 1) := by decide +kernel
theorem dX10_from_2 : decode cX10_from 2 = .ok (.iconst 0, 1) := by decide +kernel
theorem dX10_from_3 : decode cX10_from 3 = .ok (.iconst 4, 1) := by decide +kernel
theorem dX10_from_4 : decode cX10_from 4 = .ok (.invokevirtual 96, 3) := by decide +kernel
theorem dX10_from_7 : decode cX10_from 7 = .ok (.istore 4, 2) := by decide +kernel
theorem dX10_from_9 : decode cX10_from 9 = .ok (.iload 4, 2) := by decide +kernel
theorem dX10_from_11 : decode cX10_from 11 = .ok (.ifCond .ne 17, 3) := by decide +kernel
theorem dX10_from_14 : decode cX10_from 14 = .ok (.aload_n 0, 1) := by decide +kernel
theorem dX10_from_15 : decode cX10_from 15 = .ok (.getfield 9, 3) := by decide +kernel
theorem dX10_from_18 : decode cX10_from 18 = .ok (.iload_n 1, 1) := by decide +kernel
theorem dX10_from_19 : decode cX10_from 19 = .ok (.iaload, 1) := by decide +kernel
theorem dX10_from_20 : decode cX10_from 20 = .ok (.iconst 3, 1) := by decide +kernel
theorem dX10_from_21 : decode cX10_from 21 = .ok (.if_icmp .ne 7, 3) := by decide +kernel
theorem dX10_from_24 : decode cX10_from 24 = .ok (.bipush (-2), 2) := by decide +kernel
theorem dX10_from_26 : decode cX10_from 26 = .ok (.istore 4, 2) := by decide +kernel
theorem dX10_from_28 : decode cX10_from 28 = .ok (.iload 4, 2) := by decide +kernel
theorem dX10_from_30 : decode cX10_from 30 = .ok (.ifCond .eq 6, 3) := by decide +kernel
theorem dX10_from_33 : decode cX10_from 33 = .ok (.iload 4, 2) := by decide +kernel
theorem dX10_from_35 : decode cX10_from 35 = .ok (.ireturn, 1) := by decide +kernel
theorem dX10_from_36 : decode cX10_from 36 = .ok (.iload_n 2, 1) := by decide +kernel
theorem dX10_from_37 : decode cX10_from 37 = .ok (.aload_n 0, 1) := by decide +kernel
theorem dX10_from_38 : decode cX10_from 38 = .ok (.getfield 22, 3) := by decide +kernel
theorem dX10_from_41 : decode cX10_from 41 = .ok (.iload_n 1, 1) := by decide +kernel
theorem dX10_from_42 : decode cX10_from 42 = .ok (.iaload, 1) := by decide +kernel
theorem dX10_from_43 : decode cX10_from 43 = .ok (.bipush 55, 2) := by decide +kernel
theorem dX10_from_45 : decode cX10_from 45 = .ok (.invokestatic 85, 3) := by decide +kernel
theorem dX10_from_48 : decode cX10_from 48 = .ok (.ifCond .eq 11, 3) := by decide +kernel
theorem dX10_from_51 : decode cX10_from 51 = .ok (.iload_n 2, 1) := by decide +kernel
theorem dX10_from_52 : decode cX10_from 52 = .ok (.aload_n 0, 1) := by decide +kernel
theorem dX10_from_53 : decode cX10_from 53 = .ok (.getfield 89, 3) := by decide +kernel
theorem dX10_from_56 : decode cX10_from 56 = .ok (.if_icmp .le 5, 3) := by decide +kernel
theorem dX10_from_59 : decode cX10_from 59 = .ok (.iconst (-1), 1) := by decide +kernel
theorem dX10_from_60 : decode cX10_from 60 = .ok (.ireturn, 1) := by decide +kernel
theorem dX10_from_61 : decode cX10_from 61 = .ok (.iload_n 3, 1) := by decide +kernel
theorem dX10_from_62 : decode cX10_from 62 = .ok (.iconst 0, 1) := by decide +kernel
theorem dX10_from_63 : decode cX10_from 63 = .ok (.aload_n 0, 1) := by decide +kernel
theorem dX10_from_64 : decode cX10_from 64 = .ok (.iload_n 1, 1) := by decide +kernel
theorem dX10_from_65 : decode cX10_from 65 = .ok (.iload_n 2, 1) := by decide +kernel
theorem dX10_from_66 : decode cX10_from 66 = .ok (.invokevirtual 136, 3) := by decide +kernel
theorem dX10_from_69 : decode cX10_from 69 = .ok (.iconst 1, 1) := by decide +kernel
theorem dX10_from_70 : decode cX10_from 70 = .ok (.isub, 1) := by decide +kernel
theorem dX10_from_71 : decode cX10_from 71 = .ok (.invokestatic 85, 3) := by decide +kernel
theorem dX10_from_74 : decode cX10_from 74 = .ok (.ifCond .eq 12, 3) := by decide +kernel
theorem dX10_from_77 : decode cX10_from 77 = .ok (.aload_n 0, 1) := by decide +kernel
theorem dX10_from_78 : decode cX10_from 78 = .ok (.getfield 75, 3) := by decide +kernel
theorem dX10_from_81 : decode cX10_from 81 = .ok (.iload_n 3, 1) := by decide +kernel
theorem dX10_from_82 : decode cX10_from 82 = .ok (.iaload, 1) := by decide +kernel
theorem dX10_from_83 : decode cX10_from 83 = .ok (.goto 4, 3) := by decide +kernel
theorem dX10_from_86 : decode cX10_from 86 = .ok (.iconst (-1), 1) := by decide +kernel
theorem dX10_from_87 : decode cX10_from 87 = .ok (.ireturn, 1) := by decide +kernel
theorem dX10_readOn_0 : decode cX10_readOn 0 = .ok (.aload_n 0, 1) := by decide +kernel
theorem dX10_readOn_1 : decode cX10_readOn 1 = .ok (.getfield 9, 3) := by decide +kernel
theorem dX10_readOn_4 : decode cX10_readOn 4 = .ok (.iload_n 1, 1) := by decide +kernel
theorem dX10_readOn_5 : decode cX10_readOn 5 = .ok (.iaload, 1) := by decide +kernel
theorem dX10_readOn_6 : decode cX10_readOn 6 = .ok (.iconst 3, 1) := by decide +kernel
theorem dX10_readOn_7 : decode cX10_readOn 7 = .ok (.if_icmp .ne 18, 3) := by decide +kernel
theorem dX10_readOn_10 : decode cX10_readOn 10 = .ok (.iload_n 2, 1) := by decide +kernel
theorem dX10_readOn_11 : decode cX10_readOn 11 = .ok (.aload_n 0, 1) := by decide +kernel
theorem dX10_readOn_12 : decode cX10_readOn 12 = .ok (.getfield 22, 3) := by decide +kernel
theorem dX10_readOn_15 : decode cX10_readOn 15 = .ok (.iload_n 1, 1) := by decide +kernel
theorem dX10_readOn_16 : decode cX10_readOn 16 = .ok (.iaload, 1) := by decide +kernel
theorem dX10_readOn_17 : decode cX10_readOn 17 = .ok (.bipush 55, 2) := by decide +kernel
theorem dX10_readOn_19 : decode cX10_readOn 19 = .ok (.invokestatic 85, 3) := by decide +kernel
theorem dX10_readOn_22 : decode cX10_readOn 22 = .ok (.ifCond .ne 5, 3) := by decide +kernel
theorem dX10_readOn_25 : decode cX10_readOn 25 = .ok (.iconst (-1), 1) := by decide +kernel
theorem dX10_readOn_26 : decode cX10_readOn 26 = .ok (.ireturn, 1) := by decide +kernel
theorem dX10_readOn_27 : decode cX10_readOn 27 = .ok (.iload_n 2, 1) := by decide +kernel
theorem dX10_readOn_28 : decode cX10_readOn 28 = .ok (.istore_n 3, 1) := by decide +kernel
theorem dX10_readOn_29 : decode cX10_readOn 29 = .ok (.iload_n 3, 1) := by decide +kernel
theorem dX10_readOn_30 : decode cX10_readOn 30 = .ok (.bipush 56, 2) := by decide +kernel
theorem dX10_readOn_32 : decode cX10_readOn 32 = .ok (.if_icmp .ge 25, 3) := by decide +kernel
theorem dX10_readOn_35 : decode cX10_readOn 35 = .ok (.aload_n 0, 1) := by decide +kernel
theorem dX10_readOn_36 : decode cX10_readOn 36 = .ok (.getfield 28, 3) := by decide +kernel
theorem dX10_readOn_39 : decode cX10_readOn 39 = .ok (.iload_n 1, 1) := by decide +kernel
theorem dX10_readOn_40 : decode cX10_readOn 40 = .ok (.iload_n 3, 1) := by decide +kernel
theorem dX10_readOn_41 : decode cX10_readOn 41 = .ok (.invokestatic 92, 3) := by decide +kernel
theorem dX10_readOn_44 : decode cX10_readOn 44 = .ok (.iaload, 1) := by decide +kernel
theorem dX10_readOn_45 : decode cX10_readOn 45 = .ok (.iconst (-1), 1) := by decide +kernel
theorem dX10_readOn_46 : decode cX10_readOn 46 = .ok (.if_icmp .eq 5, 3) := by decide +kernel
theorem dX10_readOn_49 : decode cX10_readOn 49 = .ok (.iload_n 3, 1) := by decide +kernel
theorem dX10_readOn_50 : decode cX10_readOn 50 = .ok (.ireturn, 1) := by decide +kernel
theorem dX10_readOn_51 : decode cX10_readOn 51 = .ok (.iinc 3 1, 3) := by decide +kernel
theorem dX10_readOn_54 : decode cX10_readOn 54 = .ok (.goto (-25), 3) := by decide +kernel
theorem dX10_readOn_57 : decode cX10_readOn 57 = .ok (.iconst (-1), 1) := by decide +kernel
theorem dX10_readOn_58 : decode cX10_readOn 58 = .ok (.ireturn, 1) := by decide +kernel
theorem dX10_spread_0 : decode cX10_spread 0 = .ok (.aload_n 0, 1) := by decide +kernel
theorem dX10_spread_1 : decode cX10_spread 1 = .ok (.iload_n 1, 1) := by decide +kernel
theorem dX10_spread_2 : decode cX10_spread 2 = .ok (.iload_n 2, 1) := by decide +kernel
theorem dX10_spread_3 : decode cX10_spread 3 = .ok (.invokevirtual 141, 3) := by decide +kernel
theorem dX10_spread_6 : decode cX10_spread 6 = .ok (.istore_n 3, 1) := by decide +kernel
theorem dX10_spread_7 : decode cX10_spread 7 = .ok (.iload_n 3, 1) := by decide +kernel
theorem dX10_spread_8 : decode cX10_spread 8 = .ok (.iconst (-1), 1) := by decide +kernel
theorem dX10_spread_9 : decode cX10_spread 9 = .ok (.if_icmp .ne 5, 3) := by decide +kernel
theorem dX10_spread_12 : decode cX10_spread 12 = .ok (.iconst (-1), 1) := by decide +kernel
theorem dX10_spread_13 : decode cX10_spread 13 = .ok (.ireturn, 1) := by decide +kernel
theorem dX10_spread_14 : decode cX10_spread 14 = .ok (.aload_n 0, 1) := by decide +kernel
theorem dX10_spread_15 : decode cX10_spread 15 = .ok (.getfield 22, 3) := by decide +kernel
theorem dX10_spread_18 : decode cX10_spread 18 = .ok (.iload_n 1, 1) := by decide +kernel
theorem dX10_spread_19 : decode cX10_spread 19 = .ok (.iaload, 1) := by decide +kernel
theorem dX10_spread_20 : decode cX10_spread 20 = .ok (.istore 4, 2) := by decide +kernel
theorem dX10_spread_22 : decode cX10_spread 22 = .ok (.aload_n 0, 1) := by decide +kernel
theorem dX10_spread_23 : decode cX10_spread 23 = .ok (.getfield 22, 3) := by decide +kernel
theorem dX10_spread_26 : decode cX10_spread 26 = .ok (.iload_n 1, 1) := by decide +kernel
theorem dX10_spread_27 : decode cX10_spread 27 = .ok (.iaload, 1) := by decide +kernel
theorem dX10_spread_28 : decode cX10_spread 28 = .ok (.istore 5, 2) := by decide +kernel
theorem dX10_spread_30 : decode cX10_spread 30 = .ok (.iload 5, 2) := by decide +kernel
theorem dX10_spread_32 : decode cX10_spread 32 = .ok (.iload_n 3, 1) := by decide +kernel
theorem dX10_spread_33 : decode cX10_spread 33 = .ok (.if_icmp .ge 30, 3) := by decide +kernel
theorem dX10_spread_36 : decode cX10_spread 36 = .ok (.aload_n 0, 1) := by decide +kernel
theorem dX10_spread_37 : decode cX10_spread 37 = .ok (.getfield 28, 3) := by decide +kernel
theorem dX10_spread_40 : decode cX10_spread 40 = .ok (.iload_n 1, 1) := by decide +kernel
theorem dX10_spread_41 : decode cX10_spread 41 = .ok (.iload 5, 2) := by decide +kernel
theorem dX10_spread_43 : decode cX10_spread 43 = .ok (.invokestatic 92, 3) := by decide +kernel
theorem dX10_spread_46 : decode cX10_spread 46 = .ok (.iaload, 1) := by decide +kernel
theorem dX10_spread_47 : decode cX10_spread 47 = .ok (.iconst (-1), 1) := by decide +kernel
theorem dX10_spread_48 : decode cX10_spread 48 = .ok (.if_icmp .eq 9, 3) := by decide +kernel
theorem dX10_spread_51 : decode cX10_spread 51 = .ok (.iload 5, 2) := by decide +kernel
theorem dX10_spread_53 : decode cX10_spread 53 = .ok (.iconst 1, 1) := by decide +kernel
theorem dX10_spread_54 : decode cX10_spread 54 = .ok (.iadd, 1) := by decide +kernel
theorem dX10_spread_55 : decode cX10_spread 55 = .ok (.istore 4, 2) := by decide +kernel
theorem dX10_spread_57 : decode cX10_spread 57 = .ok (.iinc 5 1, 3) := by decide +kernel
theorem dX10_spread_60 : decode cX10_spread 60 = .ok (.goto (-30), 3) := by decide +kernel
theorem dX10_spread_63 : decode cX10_spread 63 = .ok (.aload_n 0, 1) := by decide +kernel
theorem dX10_spread_64 : decode cX10_spread 64 = .ok (.getfield 28, 3) := by decide +kernel
theorem dX10_spread_67 : decode cX10_spread 67 = .ok (.iload_n 1, 1) := by decide +kernel
theorem dX10_spread_68 : decode cX10_spread 68 = .ok (.iload_n 3, 1) := by decide +kernel
theorem dX10_spread_69 : decode cX10_spread 69 = .ok (.invokestatic 92, 3) := by decide +kernel
theorem dX10_spread_72 : decode cX10_spread 72 = .ok (.iaload, 1) := by decide +kernel
theorem dX10_spread_73 : decode cX10_spread 73 = .ok (.istore 5, 2) := by decide +kernel
theorem dX10_spread_75 : decode cX10_spread 75 = .ok (.aload_n 0, 1) := by decide +kernel
theorem dX10_spread_76 : decode cX10_spread 76 = .ok (.iload_n 1, 1) := by decide +kernel
theorem dX10_spread_77 : decode cX10_spread 77 = .ok (.invokevirtual 125, 3) := by decide +kernel
theorem dX10_spread_80 : decode cX10_spread 80 = .ok (.istore 6, 2) := by decide +kernel
theorem dX10_spread_82 : decode cX10_spread 82 = .ok (.iconst (-1), 1) := by decide +kernel
theorem dX10_spread_83 : decode cX10_spread 83 = .ok (.istore 7, 2) := by decide +kernel
theorem dX10_spread_85 : decode cX10_spread 85 = .ok (.iload 6, 2) := by decide +kernel
theorem dX10_spread_87 : decode cX10_spread 87 = .ok (.iconst 1, 1) := by decide +kernel
theorem dX10_spread_88 : decode cX10_spread 88 = .ok (.isub, 1) := by decide +kernel
theorem dX10_spread_89 : decode cX10_spread 89 = .ok (.istore 8, 2) := by decide +kernel
theorem dX10_spread_91 : decode cX10_spread 91 = .ok (.iload 8, 2) := by decide +kernel
theorem dX10_spread_93 : decode cX10_spread 93 = .ok (.ifCond .lt 76, 3) := by decide +kernel
theorem dX10_spread_96 : decode cX10_spread 96 = .ok (.iconst 1, 1) := by decide +kernel
theorem dX10_spread_97 : decode cX10_spread 97 = .ok (.istore 9, 2) := by decide +kernel
theorem dX10_spread_99 : decode cX10_spread 99 = .ok (.iload 4, 2) := by decide +kernel
theorem dX10_spread_101 : decode cX10_spread 101 = .ok (.istore 10, 2) := by decide +kernel
theorem dX10_spread_103 : decode cX10_spread 103 = .ok (.iload 10, 2) := by decide +kernel
theorem dX10_spread_105 : decode cX10_spread 105 = .ok (.iload_n 3, 1) := by decide +kernel
theorem dX10_spread_106 : decode cX10_spread 106 = .ok (.if_icmp .gt 38, 3) := by decide +kernel
theorem dX10_spread_109 : decode cX10_spread 109 = .ok (.iload 9, 2) := by decide +kernel
theorem dX10_spread_111 : decode cX10_spread 111 = .ok (.ifCond .eq 33, 3) := by decide +kernel
theorem dX10_spread_114 : decode cX10_spread 114 = .ok (.aload_n 0, 1) := by decide +kernel
theorem dX10_spread_115 : decode cX10_spread 115 = .ok (.aload_n 0, 1) := by decide +kernel
theorem dX10_spread_116 : decode cX10_spread 116 = .ok (.getfield 72, 3) := by decide +kernel
theorem dX10_spread_119 : decode cX10_spread 119 = .ok (.iload 8, 2) := by decide +kernel
theorem dX10_spread_121 : decode cX10_spread 121 = .ok (.iaload, 1) := by decide +kernel
theorem dX10_spread_122 : decode cX10_spread 122 = .ok (.iload 10, 2) := by decide +kernel
theorem dX10_spread_124 : decode cX10_spread 124 = .ok (.invokevirtual 129, 3) := by decide +kernel
theorem dX10_spread_127 : decode cX10_spread 127 = .ok (.iconst (-1), 1) := by decide +kernel
theorem dX10_spread_128 : decode cX10_spread 128 = .ok (.if_icmp .eq 7, 3) := by decide +kernel
theorem dX10_spread_131 : decode cX10_spread 131 = .ok (.iconst 1, 1) := by decide +kernel
theorem dX10_spread_132 : decode cX10_spread 132 = .ok (.goto 4, 3) := by decide +kernel
theorem dX10_spread_135 : decode cX10_spread 135 = .ok (.iconst 0, 1) := by decide +kernel
theorem dX10_spread_136 : decode cX10_spread 136 = .ok (.istore 9, 2) := by decide +kernel
theorem dX10_spread_138 : decode cX10_spread 138 = .ok (.iinc 10 1, 3) := by decide +kernel
theorem dX10_spread_141 : decode cX10_spread 141 = .ok (.goto (-38), 3) := by decide +kernel
theorem dX10_spread_144 : decode cX10_spread 144 = .ok (.iload 9, 2) := by decide +kernel
theorem dX10_spread_146 : decode cX10_spread 146 = .ok (.ifCond .eq 13, 3) := by decide +kernel
theorem dX10_spread_149 : decode cX10_spread 149 = .ok (.aload_n 0, 1) := by decide +kernel
theorem dX10_spread_150 : decode cX10_spread 150 = .ok (.getfield 72, 3) := by decide +kernel
theorem dX10_spread_153 : decode cX10_spread 153 = .ok (.iload 8, 2) := by decide +kernel
theorem dX10_spread_155 : decode cX10_spread 155 = .ok (.iaload, 1) := by decide +kernel
theorem dX10_spread_156 : decode cX10_spread 156 = .ok (.goto 5, 3) := by decide +kernel
theorem dX10_spread_159 : decode cX10_spread 159 = .ok (.iload 7, 2) := by decide +kernel
theorem dX10_spread_161 : decode cX10_spread 161 = .ok (.istore 7, 2) := by decide +kernel
theorem dX10_spread_163 : decode cX10_spread 163 = .ok (.iinc 8 (-1), 3) := by decide +kernel
theorem dX10_spread_166 : decode cX10_spread 166 = .ok (.goto (-75), 3) := by decide +kernel
theorem dX10_spread_169 : decode cX10_spread 169 = .ok (.iconst 0, 1) := by decide +kernel
theorem dX10_spread_170 : decode cX10_spread 170 = .ok (.istore 8, 2) := by decide +kernel
theorem dX10_spread_172 : decode cX10_spread 172 = .ok (.iload 4, 2) := by decide +kernel
theorem dX10_spread_174 : decode cX10_spread 174 = .ok (.istore 9, 2) := by decide +kernel
theorem dX10_spread_176 : decode cX10_spread 176 = .ok (.iload 9, 2) := by decide +kernel
theorem dX10_spread_178 : decode cX10_spread 178 = .ok (.iload_n 3, 1) := by decide +kernel
theorem dX10_spread_179 : decode cX10_spread 179 = .ok (.if_icmp .gt 28, 3) := by decide +kernel
theorem dX10_spread_182 : decode cX10_spread 182 = .ok (.iload 7, 2) := by decide +kernel
theorem dX10_spread_184 : decode cX10_spread 184 = .ok (.iconst (-1), 1) := by decide +kernel
theorem dX10_spread_185 : decode cX10_spread 185 = .ok (.if_icmp .eq 22, 3) := by decide +kernel
theorem dX10_spread_188 : decode cX10_spread 188 = .ok (.iload 8, 2) := by decide +kernel
theorem dX10_spread_190 : decode cX10_spread 190 = .ok (.aload_n 0, 1) := by decide +kernel
theorem dX10_spread_191 : decode cX10_spread 191 = .ok (.iload 7, 2) := by decide +kernel
theorem dX10_spread_193 : decode cX10_spread 193 = .ok (.iload 9, 2) := by decide +kernel
theorem dX10_spread_195 : decode cX10_spread 195 = .ok (.invokevirtual 129, 3) := by decide +kernel
theorem dX10_spread_198 : decode cX10_spread 198 = .ok (.iadd, 1) := by decide +kernel
theorem dX10_spread_199 : decode cX10_spread 199 = .ok (.istore 8, 2) := by decide +kernel
theorem dX10_spread_201 : decode cX10_spread 201 = .ok (.iinc 9 1, 3) := by decide +kernel
theorem dX10_spread_204 : decode cX10_spread 204 = .ok (.goto (-28), 3) := by decide +kernel
theorem dX10_spread_207 : decode cX10_spread 207 = .ok (.iload 8, 2) := by decide +kernel
theorem dX10_spread_209 : decode cX10_spread 209 = .ok (.ifCond .ne 15, 3) := by decide +kernel
theorem dX10_spread_212 : decode cX10_spread 212 = .ok (.iload_n 2, 1) := by decide +kernel
theorem dX10_spread_213 : decode cX10_spread 213 = .ok (.iload_n 3, 1) := by decide +kernel
theorem dX10_spread_214 : decode cX10_spread 214 = .ok (.if_icmp .ne 8, 3) := by decide +kernel
theorem dX10_spread_217 : decode cX10_spread 217 = .ok (.iload 5, 2) := by decide +kernel
theorem dX10_spread_219 : decode cX10_spread 219 = .ok (.goto 4, 3) := by decide +kernel
theorem dX10_spread_222 : decode cX10_spread 222 = .ok (.iconst 0, 1) := by decide +kernel
theorem dX10_spread_223 : decode cX10_spread 223 = .ok (.ireturn, 1) := by decide +kernel
theorem dX10_spread_224 : decode cX10_spread 224 = .ok (.iload 5, 2) := by decide +kernel
theorem dX10_spread_226 : decode cX10_spread 226 = .ok (.istore 9, 2) := by decide +kernel
theorem dX10_spread_228 : decode cX10_spread 228 = .ok (.iload 4, 2) := by decide +kernel
theorem dX10_spread_230 : decode cX10_spread 230 = .ok (.istore 10, 2) := by decide +kernel
theorem dX10_spread_232 : decode cX10_spread 232 = .ok (.iload 10, 2) := by decide +kernel
theorem dX10_spread_234 : decode cX10_spread 234 = .ok (.iload_n 3, 1) := by decide +kernel
theorem dX10_spread_235 : decode cX10_spread 235 = .ok (.if_icmp .gt 28, 3) := by decide +kernel
theorem dX10_spread_238 : decode cX10_spread 238 = .ok (.iload 9, 2) := by decide +kernel
theorem dX10_spread_240 : decode cX10_spread 240 = .ok (.iload 5, 2) := by decide +kernel
theorem dX10_spread_242 : decode cX10_spread 242 = .ok (.aload_n 0, 1) := by decide +kernel
theorem dX10_spread_243 : decode cX10_spread 243 = .ok (.iload 7, 2) := by decide +kernel
theorem dX10_spread_245 : decode cX10_spread 245 = .ok (.iload 10, 2) := by decide +kernel
theorem dX10_spread_247 : decode cX10_spread 247 = .ok (.invokevirtual 129, 3) := by decide +kernel
theorem dX10_spread_250 : decode cX10_spread 250 = .ok (.imul, 1) := by decide +kernel
theorem dX10_spread_251 : decode cX10_spread 251 = .ok (.iload 8, 2) := by decide +kernel
theorem dX10_spread_253 : decode cX10_spread 253 = .ok (.idiv, 1) := by decide +kernel
theorem dX10_spread_254 : decode cX10_spread 254 = .ok (.isub, 1) := by decide +kernel
theorem dX10_spread_255 : decode cX10_spread 255 = .ok (.istore 9, 2) := by decide +kernel
theorem dX10_spread_257 : decode cX10_spread 257 = .ok (.iinc 10 1, 3) := by decide +kernel
theorem dX10_spread_260 : decode cX10_spread 260 = .ok (.goto (-28), 3) := by decide +kernel
theorem dX10_spread_263 : decode cX10_spread 263 = .ok (.iload 5, 2) := by decide +kernel
theorem dX10_spread_265 : decode cX10_spread 265 = .ok (.aload_n 0, 1) := by decide +kernel
theorem dX10_spread_266 : decode cX10_spread 266 = .ok (.iload 7, 2) := by decide +kernel
theorem dX10_spread_268 : decode cX10_spread 268 = .ok (.iload_n 2, 1) := by decide +kernel
theorem dX10_spread_269 : decode cX10_spread 269 = .ok (.invokevirtual 129, 3) := by decide +kernel
theorem dX10_spread_272 : decode cX10_spread 272 = .ok (.imul, 1) := by decide +kernel
theorem dX10_spread_273 : decode cX10_spread 273 = .ok (.iload 8, 2) := by decide +kernel
theorem dX10_spread_275 : decode cX10_spread 275 = .ok (.irem, 1) := by decide +kernel
theorem dX10_spread_276 : decode cX10_spread 276 = .ok (.istore 10, 2) := by decide +kernel
theorem dX10_spread_278 : decode cX10_spread 278 = .ok (.iconst 0, 1) := by decide +kernel
theorem dX10_spread_279 : decode cX10_spread 279 = .ok (.istore 11, 2) := by decide +kernel
theorem dX10_spread_281 : decode cX10_spread 281 = .ok (.iload 4, 2) := by decide +kernel
theorem dX10_spread_283 : decode cX10_spread 283 = .ok (.istore 12, 2) := by decide +kernel
theorem dX10_spread_285 : decode cX10_spread 285 = .ok (.iload 12, 2) := by decide +kernel
theorem dX10_spread_287 : decode cX10_spread 287 = .ok (.iload_n 3, 1) := by decide +kernel
theorem dX10_spread_288 : decode cX10_spread 288 = .ok (.if_icmp .gt 55, 3) := by decide +kernel
theorem dX10_spread_291 : decode cX10_spread 291 = .ok (.iload 5, 2) := by decide +kernel
theorem dX10_spread_293 : decode cX10_spread 293 = .ok (.aload_n 0, 1) := by decide +kernel
theorem dX10_spread_294 : decode cX10_spread 294 = .ok (.iload 7, 2) := by decide +kernel
theorem dX10_spread_296 : decode cX10_spread 296 = .ok (.iload 12, 2) := by decide +kernel
theorem dX10_spread_298 : decode cX10_spread 298 = .ok (.invokevirtual 129, 3) := by decide +kernel
theorem dX10_spread_301 : decode cX10_spread 301 = .ok (.imul, 1) := by decide +kernel
theorem dX10_spread_302 : decode cX10_spread 302 = .ok (.iload 8, 2) := by decide +kernel
theorem dX10_spread_304 : decode cX10_spread 304 = .ok (.irem, 1) := by decide +kernel
theorem dX10_spread_305 : decode cX10_spread 305 = .ok (.istore 13, 2) := by decide +kernel
theorem dX10_spread_307 : decode cX10_spread 307 = .ok (.iload 11, 2) := by decide +kernel
theorem dX10_spread_309 : decode cX10_spread 309 = .ok (.iload 13, 2) := by decide +kernel
theorem dX10_spread_311 : decode cX10_spread 311 = .ok (.iload 10, 2) := by decide +kernel
theorem dX10_spread_313 : decode cX10_spread 313 = .ok (.if_icmp .gt 16, 3) := by decide +kernel
theorem dX10_spread_316 : decode cX10_spread 316 = .ok (.iload 13, 2) := by decide +kernel
theorem dX10_spread_318 : decode cX10_spread 318 = .ok (.iload 10, 2) := by decide +kernel
theorem dX10_spread_320 : decode cX10_spread 320 = .ok (.if_icmp .ne 13, 3) := by decide +kernel
theorem dX10_spread_323 : decode cX10_spread 323 = .ok (.iload 12, 2) := by decide +kernel
theorem dX10_spread_325 : decode cX10_spread 325 = .ok (.iload_n 2, 1) := by decide +kernel
theorem dX10_spread_326 : decode cX10_spread 326 = .ok (.if_icmp .ge 7, 3) := by decide +kernel
theorem dX10_spread_329 : decode cX10_spread 329 = .ok (.iconst 1, 1) := by decide +kernel
theorem dX10_spread_330 : decode cX10_spread 330 = .ok (.goto 4, 3) := by decide +kernel
theorem dX10_spread_333 : decode cX10_spread 333 = .ok (.iconst 0, 1) := by decide +kernel
theorem dX10_spread_334 : decode cX10_spread 334 = .ok (.iadd, 1) := by decide +kernel
theorem dX10_spread_335 : decode cX10_spread 335 = .ok (.istore 11, 2) := by decide +kernel
theorem dX10_spread_337 : decode cX10_spread 337 = .ok (.iinc 12 1, 3) := by decide +kernel
theorem dX10_spread_340 : decode cX10_spread 340 = .ok (.goto (-55), 3) := by decide +kernel
theorem dX10_spread_343 : decode cX10_spread 343 = .ok (.iload 5, 2) := by decide +kernel
theorem dX10_spread_345 : decode cX10_spread 345 = .ok (.aload_n 0, 1) := by decide +kernel
theorem dX10_spread_346 : decode cX10_spread 346 = .ok (.iload 7, 2) := by decide +kernel
theorem dX10_spread_348 : decode cX10_spread 348 = .ok (.iload_n 2, 1) := by decide +kernel
theorem dX10_spread_349 : decode cX10_spread 349 = .ok (.invokevirtual 129, 3) := by decide +kernel
theorem dX10_spread_352 : decode cX10_spread 352 = .ok (.imul, 1) := by decide +kernel
theorem dX10_spread_353 : decode cX10_spread 353 = .ok (.iload 8, 2) := by decide +kernel
theorem dX10_spread_355 : decode cX10_spread 355 = .ok (.idiv, 1) := by decide +kernel
theorem dX10_spread_356 : decode cX10_spread 356 = .ok (.iload 11, 2) := by decide +kernel
theorem dX10_spread_358 : decode cX10_spread 358 = .ok (.iload 9, 2) := by decide +kernel
theorem dX10_spread_360 : decode cX10_spread 360 = .ok (.if_icmp .ge 7, 3) := by decide +kernel
theorem dX10_spread_363 : decode cX10_spread 363 = .ok (.iconst 1, 1) := by decide +kernel
theorem dX10_spread_364 : decode cX10_spread 364 = .ok (.goto 4, 3) := by decide +kernel
theorem dX10_spread_367 : decode cX10_spread 367 = .ok (.iconst 0, 1) := by decide +kernel
theorem dX10_spread_368 : decode cX10_spread 368 = .ok (.iadd, 1) := by decide +kernel
theorem dX10_spread_369 : decode cX10_spread 369 = .ok (.ireturn, 1) := by decide +kernel
theorem dX10_tells_0 : decode cX10_tells 0 = .ok (.aload_n 0, 1) := by decide +kernel
theorem dX10_tells_1 : decode cX10_tells 1 = .ok (.iload_n 1, 1) := by decide +kernel
theorem dX10_tells_2 : decode cX10_tells 2 = .ok (.invokevirtual 103, 3) := by decide +kernel
theorem dX10_tells_5 : decode cX10_tells 5 = .ok (.ifCond .eq 40, 3) := by decide +kernel
theorem dX10_tells_8 : decode cX10_tells 8 = .ok (.aload_n 0, 1) := by decide +kernel
theorem dX10_tells_9 : decode cX10_tells 9 = .ok (.getfield 9, 3) := by decide +kernel
theorem dX10_tells_12 : decode cX10_tells 12 = .ok (.iload_n 1, 1) := by decide +kernel
theorem dX10_tells_13 : decode cX10_tells 13 = .ok (.iaload, 1) := by decide +kernel
theorem dX10_tells_14 : decode cX10_tells 14 = .ok (.iconst 3, 1) := by decide +kernel
theorem dX10_tells_15 : decode cX10_tells 15 = .ok (.if_icmp .ne 16, 3) := by decide +kernel
theorem dX10_tells_18 : decode cX10_tells 18 = .ok (.aload_n 0, 1) := by decide +kernel
theorem dX10_tells_19 : decode cX10_tells 19 = .ok (.iload_n 1, 1) := by decide +kernel
theorem dX10_tells_20 : decode cX10_tells 20 = .ok (.iload_n 2, 1) := by decide +kernel
theorem dX10_tells_21 : decode cX10_tells 21 = .ok (.invokevirtual 141, 3) := by decide +kernel
theorem dX10_tells_24 : decode cX10_tells 24 = .ok (.iconst (-1), 1) := by decide +kernel
theorem dX10_tells_25 : decode cX10_tells 25 = .ok (.if_icmp .eq 20, 3) := by decide +kernel
theorem dX10_tells_28 : decode cX10_tells 28 = .ok (.goto 13, 3) := by decide +kernel
theorem dX10_tells_31 : decode cX10_tells 31 = .ok (.aload_n 0, 1) := by decide +kernel
theorem dX10_tells_32 : decode cX10_tells 32 = .ok (.iload_n 1, 1) := by decide +kernel
theorem dX10_tells_33 : decode cX10_tells 33 = .ok (.iload_n 2, 1) := by decide +kernel
theorem dX10_tells_34 : decode cX10_tells 34 = .ok (.invokevirtual 129, 3) := by decide +kernel
theorem dX10_tells_37 : decode cX10_tells 37 = .ok (.iconst (-1), 1) := by decide +kernel
theorem dX10_tells_38 : decode cX10_tells 38 = .ok (.if_icmp .eq 7, 3) := by decide +kernel
theorem dX10_tells_41 : decode cX10_tells 41 = .ok (.iconst 1, 1) := by decide +kernel
theorem dX10_tells_42 : decode cX10_tells 42 = .ok (.goto 4, 3) := by decide +kernel
theorem dX10_tells_45 : decode cX10_tells 45 = .ok (.iconst 0, 1) := by decide +kernel
theorem dX10_tells_46 : decode cX10_tells 46 = .ok (.ireturn, 1) := by decide +kernel
theorem dX10_state_0 : decode cX10_state 0 = .ok (.aload_n 0, 1) := by decide +kernel
theorem dX10_state_1 : decode cX10_state 1 = .ok (.iload_n 1, 1) := by decide +kernel
theorem dX10_state_2 : decode cX10_state 2 = .ok (.iconst 0, 1) := by decide +kernel
theorem dX10_state_3 : decode cX10_state 3 = .ok (.iconst 4, 1) := by decide +kernel
theorem dX10_state_4 : decode cX10_state 4 = .ok (.invokevirtual 96, 3) := by decide +kernel
theorem dX10_state_7 : decode cX10_state 7 = .ok (.istore_n 3, 1) := by decide +kernel
theorem dX10_state_8 : decode cX10_state 8 = .ok (.iload_n 3, 1) := by decide +kernel
theorem dX10_state_9 : decode cX10_state 9 = .ok (.ifCond .eq 5, 3) := by decide +kernel
theorem dX10_state_12 : decode cX10_state 12 = .ok (.iload_n 3, 1) := by decide +kernel
theorem dX10_state_13 : decode cX10_state 13 = .ok (.ireturn, 1) := by decide +kernel
theorem dX10_state_14 : decode cX10_state 14 = .ok (.iload_n 2, 1) := by decide +kernel
theorem dX10_state_15 : decode cX10_state 15 = .ok (.iconst 0, 1) := by decide +kernel
theorem dX10_state_16 : decode cX10_state 16 = .ok (.bipush 55, 2) := by decide +kernel
theorem dX10_state_18 : decode cX10_state 18 = .ok (.invokestatic 85, 3) := by decide +kernel
theorem dX10_state_21 : decode cX10_state 21 = .ok (.ifCond .ne 5, 3) := by decide +kernel
theorem dX10_state_24 : decode cX10_state 24 = .ok (.iconst (-1), 1) := by decide +kernel
theorem dX10_state_25 : decode cX10_state 25 = .ok (.ireturn, 1) := by decide +kernel
theorem dX10_state_26 : decode cX10_state 26 = .ok (.aload_n 0, 1) := by decide +kernel
theorem dX10_state_27 : decode cX10_state 27 = .ok (.getfield 9, 3) := by decide +kernel
theorem dX10_state_30 : decode cX10_state 30 = .ok (.iload_n 1, 1) := by decide +kernel
theorem dX10_state_31 : decode cX10_state 31 = .ok (.iaload, 1) := by decide +kernel
theorem dX10_state_32 : decode cX10_state 32 = .ok (.iconst 3, 1) := by decide +kernel
theorem dX10_state_33 : decode cX10_state 33 = .ok (.if_icmp .ne 19, 3) := by decide +kernel
theorem dX10_state_36 : decode cX10_state 36 = .ok (.aload_n 0, 1) := by decide +kernel
theorem dX10_state_37 : decode cX10_state 37 = .ok (.iload_n 1, 1) := by decide +kernel
theorem dX10_state_38 : decode cX10_state 38 = .ok (.iload_n 2, 1) := by decide +kernel
theorem dX10_state_39 : decode cX10_state 39 = .ok (.invokevirtual 141, 3) := by decide +kernel
theorem dX10_state_42 : decode cX10_state 42 = .ok (.iconst (-1), 1) := by decide +kernel
theorem dX10_state_43 : decode cX10_state 43 = .ok (.if_icmp .ne 7, 3) := by decide +kernel
theorem dX10_state_46 : decode cX10_state 46 = .ok (.iconst 0, 1) := by decide +kernel
theorem dX10_state_47 : decode cX10_state 47 = .ok (.goto 4, 3) := by decide +kernel
theorem dX10_state_50 : decode cX10_state 50 = .ok (.iconst 4, 1) := by decide +kernel
theorem dX10_state_51 : decode cX10_state 51 = .ok (.ireturn, 1) := by decide +kernel
theorem dX10_state_52 : decode cX10_state 52 = .ok (.aload_n 0, 1) := by decide +kernel
theorem dX10_state_53 : decode cX10_state 53 = .ok (.iload_n 1, 1) := by decide +kernel
theorem dX10_state_54 : decode cX10_state 54 = .ok (.iload_n 2, 1) := by decide +kernel
theorem dX10_state_55 : decode cX10_state 55 = .ok (.invokevirtual 129, 3) := by decide +kernel
theorem dX10_state_58 : decode cX10_state 58 = .ok (.iconst (-1), 1) := by decide +kernel
theorem dX10_state_59 : decode cX10_state 59 = .ok (.if_icmp .eq 5, 3) := by decide +kernel
theorem dX10_state_62 : decode cX10_state 62 = .ok (.iconst 1, 1) := by decide +kernel
theorem dX10_state_63 : decode cX10_state 63 = .ok (.ireturn, 1) := by decide +kernel
theorem dX10_state_64 : decode cX10_state 64 = .ok (.aload_n 0, 1) := by decide +kernel
theorem dX10_state_65 : decode cX10_state 65 = .ok (.iload_n 1, 1) := by decide +kernel
theorem dX10_state_66 : decode cX10_state 66 = .ok (.iload_n 2, 1) := by decide +kernel
theorem dX10_state_67 : decode cX10_state 67 = .ok (.invokevirtual 144, 3) := by decide +kernel
theorem dX10_state_70 : decode cX10_state 70 = .ok (.iconst (-1), 1) := by decide +kernel
theorem dX10_state_71 : decode cX10_state 71 = .ok (.if_icmp .eq 7, 3) := by decide +kernel
theorem dX10_state_74 : decode cX10_state 74 = .ok (.iconst 3, 1) := by decide +kernel
theorem dX10_state_75 : decode cX10_state 75 = .ok (.goto 18, 3) := by decide +kernel
theorem dX10_state_78 : decode cX10_state 78 = .ok (.aload_n 0, 1) := by decide +kernel
theorem dX10_state_79 : decode cX10_state 79 = .ok (.iload_n 1, 1) := by decide +kernel
theorem dX10_state_80 : decode cX10_state 80 = .ok (.iload_n 2, 1) := by decide +kernel
theorem dX10_state_81 : decode cX10_state 81 = .ok (.invokevirtual 116, 3) := by decide +kernel
theorem dX10_state_84 : decode cX10_state 84 = .ok (.iconst (-1), 1) := by decide +kernel
theorem dX10_state_85 : decode cX10_state 85 = .ok (.if_icmp .ne 7, 3) := by decide +kernel
theorem dX10_state_88 : decode cX10_state 88 = .ok (.iconst 0, 1) := by decide +kernel
theorem dX10_state_89 : decode cX10_state 89 = .ok (.goto 4, 3) := by decide +kernel
theorem dX10_state_92 : decode cX10_state 92 = .ok (.iconst 2, 1) := by decide +kernel
theorem dX10_state_93 : decode cX10_state 93 = .ok (.ireturn, 1) := by decide +kernel
theorem dX10_number0_0 : decode cX10_number0 0 = .ok (.aload_n 0, 1) := by decide +kernel
theorem dX10_number0_1 : decode cX10_number0 1 = .ok (.getfield 9, 3) := by decide +kernel
theorem dX10_number0_4 : decode cX10_number0 4 = .ok (.iload_n 1, 1) := by decide +kernel
theorem dX10_number0_5 : decode cX10_number0 5 = .ok (.iaload, 1) := by decide +kernel
theorem dX10_number0_6 : decode cX10_number0 6 = .ok (.iconst 3, 1) := by decide +kernel
theorem dX10_number0_7 : decode cX10_number0 7 = .ok (.if_icmp .ne 10, 3) := by decide +kernel
theorem dX10_number0_10 : decode cX10_number0 10 = .ok (.aload_n 0, 1) := by decide +kernel
theorem dX10_number0_11 : decode cX10_number0 11 = .ok (.iload_n 1, 1) := by decide +kernel
theorem dX10_number0_12 : decode cX10_number0 12 = .ok (.iload_n 2, 1) := by decide +kernel
theorem dX10_number0_13 : decode cX10_number0 13 = .ok (.invokevirtual 147, 3) := by decide +kernel
theorem dX10_number0_16 : decode cX10_number0 16 = .ok (.ireturn, 1) := by decide +kernel
theorem dX10_number0_17 : decode cX10_number0 17 = .ok (.aload_n 0, 1) := by decide +kernel
theorem dX10_number0_18 : decode cX10_number0 18 = .ok (.iload_n 1, 1) := by decide +kernel
theorem dX10_number0_19 : decode cX10_number0 19 = .ok (.iload_n 2, 1) := by decide +kernel
theorem dX10_number0_20 : decode cX10_number0 20 = .ok (.invokevirtual 129, 3) := by decide +kernel
theorem dX10_number0_23 : decode cX10_number0 23 = .ok (.istore_n 3, 1) := by decide +kernel
theorem dX10_number0_24 : decode cX10_number0 24 = .ok (.iload_n 3, 1) := by decide +kernel
theorem dX10_number0_25 : decode cX10_number0 25 = .ok (.iconst (-1), 1) := by decide +kernel
theorem dX10_number0_26 : decode cX10_number0 26 = .ok (.if_icmp .eq 5, 3) := by decide +kernel
theorem dX10_number0_29 : decode cX10_number0 29 = .ok (.iload_n 3, 1) := by decide +kernel
theorem dX10_number0_30 : decode cX10_number0 30 = .ok (.ireturn, 1) := by decide +kernel
theorem dX10_number0_31 : decode cX10_number0 31 = .ok (.aload_n 0, 1) := by decide +kernel
theorem dX10_number0_32 : decode cX10_number0 32 = .ok (.iload_n 1, 1) := by decide +kernel
theorem dX10_number0_33 : decode cX10_number0 33 = .ok (.iload_n 2, 1) := by decide +kernel
theorem dX10_number0_34 : decode cX10_number0 34 = .ok (.invokevirtual 144, 3) := by decide +kernel
theorem dX10_number0_37 : decode cX10_number0 37 = .ok (.istore_n 3, 1) := by decide +kernel
theorem dX10_number0_38 : decode cX10_number0 38 = .ok (.iload_n 3, 1) := by decide +kernel
theorem dX10_number0_39 : decode cX10_number0 39 = .ok (.iconst (-1), 1) := by decide +kernel
theorem dX10_number0_40 : decode cX10_number0 40 = .ok (.if_icmp .eq 7, 3) := by decide +kernel
theorem dX10_number0_43 : decode cX10_number0 43 = .ok (.iload_n 3, 1) := by decide +kernel
theorem dX10_number0_44 : decode cX10_number0 44 = .ok (.goto 9, 3) := by decide +kernel
theorem dX10_number0_47 : decode cX10_number0 47 = .ok (.aload_n 0, 1) := by decide +kernel
theorem dX10_number0_48 : decode cX10_number0 48 = .ok (.iload_n 1, 1) := by decide +kernel
theorem dX10_number0_49 : decode cX10_number0 49 = .ok (.iload_n 2, 1) := by decide +kernel
theorem dX10_number0_50 : decode cX10_number0 50 = .ok (.invokevirtual 116, 3) := by decide +kernel
theorem dX10_number0_53 : decode cX10_number0 53 = .ok (.ireturn, 1) := by decide +kernel
theorem dX10_number_0 : decode cX10_number 0 = .ok (.aload_n 0, 1) := by decide +kernel
theorem dX10_number_1 : decode cX10_number 1 = .ok (.iload_n 1, 1) := by decide +kernel
theorem dX10_number_2 : decode cX10_number 2 = .ok (.iconst 0, 1) := by decide +kernel
theorem dX10_number_3 : decode cX10_number 3 = .ok (.iconst 4, 1) := by decide +kernel
theorem dX10_number_4 : decode cX10_number 4 = .ok (.invokevirtual 96, 3) := by decide +kernel
theorem dX10_number_7 : decode cX10_number 7 = .ok (.istore_n 3, 1) := by decide +kernel
theorem dX10_number_8 : decode cX10_number 8 = .ok (.iload_n 3, 1) := by decide +kernel
theorem dX10_number_9 : decode cX10_number 9 = .ok (.ifCond .eq 7, 3) := by decide +kernel
theorem dX10_number_12 : decode cX10_number 12 = .ok (.iload_n 3, 1) := by decide +kernel
theorem dX10_number_13 : decode cX10_number 13 = .ok (.goto 23, 3) := by decide +kernel
theorem dX10_number_16 : decode cX10_number 16 = .ok (.iload_n 2, 1) := by decide +kernel
theorem dX10_number_17 : decode cX10_number 17 = .ok (.iconst 0, 1) := by decide +kernel
theorem dX10_number_18 : decode cX10_number 18 = .ok (.bipush 55, 2) := by decide +kernel
theorem dX10_number_20 : decode cX10_number 20 = .ok (.invokestatic 85, 3) := by decide +kernel
theorem dX10_number_23 : decode cX10_number 23 = .ok (.ifCond .eq 12, 3) := by decide +kernel
theorem dX10_number_26 : decode cX10_number 26 = .ok (.aload_n 0, 1) := by decide +kernel
theorem dX10_number_27 : decode cX10_number 27 = .ok (.iload_n 1, 1) := by decide +kernel
theorem dX10_number_28 : decode cX10_number 28 = .ok (.iload_n 2, 1) := by decide +kernel
theorem dX10_number_29 : decode cX10_number 29 = .ok (.invokevirtual 150, 3) := by decide +kernel
theorem dX10_number_32 : decode cX10_number 32 = .ok (.goto 4, 3) := by decide +kernel
theorem dX10_number_35 : decode cX10_number 35 = .ok (.iconst (-1), 1) := by decide +kernel
theorem dX10_number_36 : decode cX10_number 36 = .ok (.ireturn, 1) := by decide +kernel
theorem dX10_owner_0 : decode cX10_owner 0 = .ok (.iconst (-1), 1) := by decide +kernel
theorem dX10_owner_1 : decode cX10_owner 1 = .ok (.istore 4, 2) := by decide +kernel
theorem dX10_owner_3 : decode cX10_owner 3 = .ok (.iconst 0, 1) := by decide +kernel
theorem dX10_owner_4 : decode cX10_owner 4 = .ok (.istore 5, 2) := by decide +kernel
theorem dX10_owner_6 : decode cX10_owner 6 = .ok (.iload 5, 2) := by decide +kernel
theorem dX10_owner_8 : decode cX10_owner 8 = .ok (.bipush 16, 2) := by decide +kernel
theorem dX10_owner_10 : decode cX10_owner 10 = .ok (.if_icmp .ge 48, 3) := by decide +kernel
theorem dX10_owner_13 : decode cX10_owner 13 = .ok (.aload_n 0, 1) := by decide +kernel
theorem dX10_owner_14 : decode cX10_owner 14 = .ok (.iload 5, 2) := by decide +kernel
theorem dX10_owner_16 : decode cX10_owner 16 = .ok (.iload_n 3, 1) := by decide +kernel
theorem dX10_owner_17 : decode cX10_owner 17 = .ok (.invokevirtual 153, 3) := by decide +kernel
theorem dX10_owner_20 : decode cX10_owner 20 = .ok (.ifCond .eq 32, 3) := by decide +kernel
theorem dX10_owner_23 : decode cX10_owner 23 = .ok (.iload 4, 2) := by decide +kernel
theorem dX10_owner_25 : decode cX10_owner 25 = .ok (.iconst (-1), 1) := by decide +kernel
theorem dX10_owner_26 : decode cX10_owner 26 = .ok (.if_icmp .eq 22, 3) := by decide +kernel
theorem dX10_owner_29 : decode cX10_owner 29 = .ok (.aload_n 0, 1) := by decide +kernel
theorem dX10_owner_30 : decode cX10_owner 30 = .ok (.iload 5, 2) := by decide +kernel
theorem dX10_owner_32 : decode cX10_owner 32 = .ok (.iload_n 1, 1) := by decide +kernel
theorem dX10_owner_33 : decode cX10_owner 33 = .ok (.iload_n 2, 1) := by decide +kernel
theorem dX10_owner_34 : decode cX10_owner 34 = .ok (.invokevirtual 119, 3) := by decide +kernel
theorem dX10_owner_37 : decode cX10_owner 37 = .ok (.aload_n 0, 1) := by decide +kernel
theorem dX10_owner_38 : decode cX10_owner 38 = .ok (.iload 4, 2) := by decide +kernel
theorem dX10_owner_40 : decode cX10_owner 40 = .ok (.iload_n 1, 1) := by decide +kernel
theorem dX10_owner_41 : decode cX10_owner 41 = .ok (.iload_n 2, 1) := by decide +kernel
theorem dX10_owner_42 : decode cX10_owner 42 = .ok (.invokevirtual 119, 3) := by decide +kernel
theorem dX10_owner_45 : decode cX10_owner 45 = .ok (.if_icmp .ge 7, 3) := by decide +kernel
theorem dX10_owner_48 : decode cX10_owner 48 = .ok (.iload 5, 2) := by decide +kernel
theorem dX10_owner_50 : decode cX10_owner 50 = .ok (.istore 4, 2) := by decide +kernel
theorem dX10_owner_52 : decode cX10_owner 52 = .ok (.iinc 5 1, 3) := by decide +kernel
theorem dX10_owner_55 : decode cX10_owner 55 = .ok (.goto (-49), 3) := by decide +kernel
theorem dX10_owner_58 : decode cX10_owner 58 = .ok (.iload 4, 2) := by decide +kernel
theorem dX10_owner_60 : decode cX10_owner 60 = .ok (.ireturn, 1) := by decide +kernel
theorem dX10_part_0 : decode cX10_part 0 = .ok (.iload_n 1, 1) := by decide +kernel
theorem dX10_part_1 : decode cX10_part 1 = .ok (.iconst 0, 1) := by decide +kernel
theorem dX10_part_2 : decode cX10_part 2 = .ok (.bipush 9, 2) := by decide +kernel
theorem dX10_part_4 : decode cX10_part 4 = .ok (.invokestatic 85, 3) := by decide +kernel
theorem dX10_part_7 : decode cX10_part 7 = .ok (.ifCond .eq 33, 3) := by decide +kernel
theorem dX10_part_10 : decode cX10_part 10 = .ok (.iload_n 2, 1) := by decide +kernel
theorem dX10_part_11 : decode cX10_part 11 = .ok (.iconst 0, 1) := by decide +kernel
theorem dX10_part_12 : decode cX10_part 12 = .ok (.bipush 9, 2) := by decide +kernel
theorem dX10_part_14 : decode cX10_part 14 = .ok (.invokestatic 85, 3) := by decide +kernel
theorem dX10_part_17 : decode cX10_part 17 = .ok (.ifCond .eq 23, 3) := by decide +kernel
theorem dX10_part_20 : decode cX10_part 20 = .ok (.iload_n 3, 1) := by decide +kernel
theorem dX10_part_21 : decode cX10_part 21 = .ok (.iconst 0, 1) := by decide +kernel
theorem dX10_part_22 : decode cX10_part 22 = .ok (.bipush 55, 2) := by decide +kernel
theorem dX10_part_24 : decode cX10_part 24 = .ok (.invokestatic 85, 3) := by decide +kernel
theorem dX10_part_27 : decode cX10_part 27 = .ok (.ifCond .eq 13, 3) := by decide +kernel
theorem dX10_part_30 : decode cX10_part 30 = .ok (.aload_n 0, 1) := by decide +kernel
theorem dX10_part_31 : decode cX10_part 31 = .ok (.iload_n 1, 1) := by decide +kernel
theorem dX10_part_32 : decode cX10_part 32 = .ok (.iload_n 2, 1) := by decide +kernel
theorem dX10_part_33 : decode cX10_part 33 = .ok (.iload_n 3, 1) := by decide +kernel
theorem dX10_part_34 : decode cX10_part 34 = .ok (.invokevirtual 156, 3) := by decide +kernel
theorem dX10_part_37 : decode cX10_part 37 = .ok (.goto 4, 3) := by decide +kernel
theorem dX10_part_40 : decode cX10_part 40 = .ok (.iconst (-1), 1) := by decide +kernel
theorem dX10_part_41 : decode cX10_part 41 = .ok (.ireturn, 1) := by decide +kernel
theorem dX10_squares_0 : decode cX10_squares 0 = .ok (.aload_n 0, 1) := by decide +kernel
theorem dX10_squares_1 : decode cX10_squares 1 = .ok (.iload_n 1, 1) := by decide +kernel
theorem dX10_squares_2 : decode cX10_squares 2 = .ok (.iconst 0, 1) := by decide +kernel
theorem dX10_squares_3 : decode cX10_squares 3 = .ok (.iconst 4, 1) := by decide +kernel
theorem dX10_squares_4 : decode cX10_squares 4 = .ok (.invokevirtual 96, 3) := by decide +kernel
end
section
theorem dX10_squares_7 : decode cX10_squares 7 = .ok (.istore_n 3, 1) := by decide +kernel
theorem dX10_squares_8 : decode cX10_squares 8 = .ok (.iload_n 3, 1) := by decide +kernel
theorem dX10_squares_9 : decode cX10_squares 9 = .ok (.ifCond .eq 5, 3) := by decide +kernel
theorem dX10_squares_12 : decode cX10_squares 12 = .ok (.iload_n 3, 1) := by decide +kernel
theorem dX10_squares_13 : decode cX10_squares 13 = .ok (.ireturn, 1) := by decide +kernel
theorem dX10_squares_14 : decode cX10_squares 14 = .ok (.iload_n 2, 1) := by decide +kernel
theorem dX10_squares_15 : decode cX10_squares 15 = .ok (.iconst 0, 1) := by decide +kernel
theorem dX10_squares_16 : decode cX10_squares 16 = .ok (.bipush 55, 2) := by decide +kernel
theorem dX10_squares_18 : decode cX10_squares 18 = .ok (.invokestatic 85, 3) := by decide +kernel
theorem dX10_squares_21 : decode cX10_squares 21 = .ok (.ifCond .ne 5, 3) := by decide +kernel
theorem dX10_squares_24 : decode cX10_squares 24 = .ok (.iconst (-1), 1) := by decide +kernel
theorem dX10_squares_25 : decode cX10_squares 25 = .ok (.ireturn, 1) := by decide +kernel
theorem dX10_squares_26 : decode cX10_squares 26 = .ok (.iconst 0, 1) := by decide +kernel
theorem dX10_squares_27 : decode cX10_squares 27 = .ok (.istore 4, 2) := by decide +kernel
theorem dX10_squares_29 : decode cX10_squares 29 = .ok (.iconst 0, 1) := by decide +kernel
theorem dX10_squares_30 : decode cX10_squares 30 = .ok (.istore 5, 2) := by decide +kernel
theorem dX10_squares_32 : decode cX10_squares 32 = .ok (.iload 5, 2) := by decide +kernel
theorem dX10_squares_34 : decode cX10_squares 34 = .ok (.bipush 100, 2) := by decide +kernel
theorem dX10_squares_36 : decode cX10_squares 36 = .ok (.if_icmp .ge 38, 3) := by decide +kernel
theorem dX10_squares_39 : decode cX10_squares 39 = .ok (.iload 4, 2) := by decide +kernel
theorem dX10_squares_41 : decode cX10_squares 41 = .ok (.aload_n 0, 1) := by decide +kernel
theorem dX10_squares_42 : decode cX10_squares 42 = .ok (.iload 5, 2) := by decide +kernel
theorem dX10_squares_44 : decode cX10_squares 44 = .ok (.bipush 10, 2) := by decide +kernel
theorem dX10_squares_46 : decode cX10_squares 46 = .ok (.idiv, 1) := by decide +kernel
theorem dX10_squares_47 : decode cX10_squares 47 = .ok (.iload 5, 2) := by decide +kernel
theorem dX10_squares_49 : decode cX10_squares 49 = .ok (.bipush 10, 2) := by decide +kernel
theorem dX10_squares_51 : decode cX10_squares 51 = .ok (.irem, 1) := by decide +kernel
theorem dX10_squares_52 : decode cX10_squares 52 = .ok (.iload_n 2, 1) := by decide +kernel
theorem dX10_squares_53 : decode cX10_squares 53 = .ok (.invokevirtual 156, 3) := by decide +kernel
theorem dX10_squares_56 : decode cX10_squares 56 = .ok (.iload_n 1, 1) := by decide +kernel
theorem dX10_squares_57 : decode cX10_squares 57 = .ok (.if_icmp .ne 7, 3) := by decide +kernel
theorem dX10_squares_60 : decode cX10_squares 60 = .ok (.iconst 1, 1) := by decide +kernel
theorem dX10_squares_61 : decode cX10_squares 61 = .ok (.goto 4, 3) := by decide +kernel
theorem dX10_squares_64 : decode cX10_squares 64 = .ok (.iconst 0, 1) := by decide +kernel
theorem dX10_squares_65 : decode cX10_squares 65 = .ok (.iadd, 1) := by decide +kernel
theorem dX10_squares_66 : decode cX10_squares 66 = .ok (.istore 4, 2) := by decide +kernel
theorem dX10_squares_68 : decode cX10_squares 68 = .ok (.iinc 5 1, 3) := by decide +kernel
theorem dX10_squares_71 : decode cX10_squares 71 = .ok (.goto (-39), 3) := by decide +kernel
theorem dX10_squares_74 : decode cX10_squares 74 = .ok (.iload 4, 2) := by decide +kernel
theorem dX10_squares_76 : decode cX10_squares 76 = .ok (.ireturn, 1) := by decide +kernel
theorem dX10_many_0 : decode cX10_many 0 = .ok (.iconst 0, 1) := by decide +kernel
theorem dX10_many_1 : decode cX10_many 1 = .ok (.istore_n 2, 1) := by decide +kernel
theorem dX10_many_2 : decode cX10_many 2 = .ok (.iconst 0, 1) := by decide +kernel
theorem dX10_many_3 : decode cX10_many 3 = .ok (.istore_n 3, 1) := by decide +kernel
theorem dX10_many_4 : decode cX10_many 4 = .ok (.iload_n 3, 1) := by decide +kernel
theorem dX10_many_5 : decode cX10_many 5 = .ok (.bipush 100, 2) := by decide +kernel
theorem dX10_many_7 : decode cX10_many 7 = .ok (.if_icmp .ge 31, 3) := by decide +kernel
theorem dX10_many_10 : decode cX10_many 10 = .ok (.iload_n 2, 1) := by decide +kernel
theorem dX10_many_11 : decode cX10_many 11 = .ok (.aload_n 0, 1) := by decide +kernel
theorem dX10_many_12 : decode cX10_many 12 = .ok (.getfield 68, 3) := by decide +kernel
theorem dX10_many_15 : decode cX10_many 15 = .ok (.bipush 100, 2) := by decide +kernel
theorem dX10_many_17 : decode cX10_many 17 = .ok (.iload_n 1, 1) := by decide +kernel
theorem dX10_many_18 : decode cX10_many 18 = .ok (.imul, 1) := by decide +kernel
theorem dX10_many_19 : decode cX10_many 19 = .ok (.iload_n 3, 1) := by decide +kernel
theorem dX10_many_20 : decode cX10_many 20 = .ok (.iadd, 1) := by decide +kernel
theorem dX10_many_21 : decode cX10_many 21 = .ok (.baload, 1) := by decide +kernel
theorem dX10_many_22 : decode cX10_many 22 = .ok (.ifCond .eq 7, 3) := by decide +kernel
theorem dX10_many_25 : decode cX10_many 25 = .ok (.iconst 1, 1) := by decide +kernel
theorem dX10_many_26 : decode cX10_many 26 = .ok (.goto 4, 3) := by decide +kernel
theorem dX10_many_29 : decode cX10_many 29 = .ok (.iconst 0, 1) := by decide +kernel
theorem dX10_many_30 : decode cX10_many 30 = .ok (.iadd, 1) := by decide +kernel
theorem dX10_many_31 : decode cX10_many 31 = .ok (.istore_n 2, 1) := by decide +kernel
theorem dX10_many_32 : decode cX10_many 32 = .ok (.iinc 3 1, 3) := by decide +kernel
theorem dX10_many_35 : decode cX10_many 35 = .ok (.goto (-31), 3) := by decide +kernel
theorem dX10_many_38 : decode cX10_many 38 = .ok (.iload_n 2, 1) := by decide +kernel
theorem dX10_many_39 : decode cX10_many 39 = .ok (.ireturn, 1) := by decide +kernel
theorem dX10_valley_0 : decode cX10_valley 0 = .ok (.iload_n 1, 1) := by decide +kernel
theorem dX10_valley_1 : decode cX10_valley 1 = .ok (.iconst 0, 1) := by decide +kernel
theorem dX10_valley_2 : decode cX10_valley 2 = .ok (.bipush 7, 2) := by decide +kernel
theorem dX10_valley_4 : decode cX10_valley 4 = .ok (.invokestatic 85, 3) := by decide +kernel
theorem dX10_valley_7 : decode cX10_valley 7 = .ok (.ifCond .eq 23, 3) := by decide +kernel
theorem dX10_valley_10 : decode cX10_valley 10 = .ok (.iload_n 2, 1) := by decide +kernel
theorem dX10_valley_11 : decode cX10_valley 11 = .ok (.iconst 0, 1) := by decide +kernel
theorem dX10_valley_12 : decode cX10_valley 12 = .ok (.bipush 9, 2) := by decide +kernel
theorem dX10_valley_14 : decode cX10_valley 14 = .ok (.invokestatic 85, 3) := by decide +kernel
theorem dX10_valley_17 : decode cX10_valley 17 = .ok (.ifCond .eq 13, 3) := by decide +kernel
theorem dX10_valley_20 : decode cX10_valley 20 = .ok (.iload_n 3, 1) := by decide +kernel
theorem dX10_valley_21 : decode cX10_valley 21 = .ok (.iconst 0, 1) := by decide +kernel
theorem dX10_valley_22 : decode cX10_valley 22 = .ok (.bipush 9, 2) := by decide +kernel
theorem dX10_valley_24 : decode cX10_valley 24 = .ok (.invokestatic 85, 3) := by decide +kernel
theorem dX10_valley_27 : decode cX10_valley 27 = .ok (.ifCond .ne 5, 3) := by decide +kernel
theorem dX10_valley_30 : decode cX10_valley 30 = .ok (.iconst (-1), 1) := by decide +kernel
theorem dX10_valley_31 : decode cX10_valley 31 = .ok (.ireturn, 1) := by decide +kernel
theorem dX10_valley_32 : decode cX10_valley 32 = .ok (.aload_n 0, 1) := by decide +kernel
theorem dX10_valley_33 : decode cX10_valley 33 = .ok (.getfield 68, 3) := by decide +kernel
theorem dX10_valley_36 : decode cX10_valley 36 = .ok (.bipush 100, 2) := by decide +kernel
theorem dX10_valley_38 : decode cX10_valley 38 = .ok (.iload_n 1, 1) := by decide +kernel
theorem dX10_valley_39 : decode cX10_valley 39 = .ok (.imul, 1) := by decide +kernel
theorem dX10_valley_40 : decode cX10_valley 40 = .ok (.bipush 10, 2) := by decide +kernel
theorem dX10_valley_42 : decode cX10_valley 42 = .ok (.iload_n 2, 1) := by decide +kernel
theorem dX10_valley_43 : decode cX10_valley 43 = .ok (.imul, 1) := by decide +kernel
theorem dX10_valley_44 : decode cX10_valley 44 = .ok (.iadd, 1) := by decide +kernel
theorem dX10_valley_45 : decode cX10_valley 45 = .ok (.iload_n 3, 1) := by decide +kernel
theorem dX10_valley_46 : decode cX10_valley 46 = .ok (.iadd, 1) := by decide +kernel
theorem dX10_valley_47 : decode cX10_valley 47 = .ok (.iload 4, 2) := by decide +kernel
theorem dX10_valley_49 : decode cX10_valley 49 = .ok (.bastore, 1) := by decide +kernel
theorem dX10_valley_50 : decode cX10_valley 50 = .ok (.aload_n 0, 1) := by decide +kernel
theorem dX10_valley_51 : decode cX10_valley 51 = .ok (.iload_n 1, 1) := by decide +kernel
theorem dX10_valley_52 : decode cX10_valley 52 = .ok (.invokevirtual 159, 3) := by decide +kernel
theorem dX10_valley_55 : decode cX10_valley 55 = .ok (.ireturn, 1) := by decide +kernel
theorem dX10_isTold_0 : decode cX10_isTold 0 = .ok (.iconst 0, 1) := by decide +kernel
theorem dX10_isTold_1 : decode cX10_isTold 1 = .ok (.istore_n 2, 1) := by decide +kernel
theorem dX10_isTold_2 : decode cX10_isTold 2 = .ok (.iconst 0, 1) := by decide +kernel
theorem dX10_isTold_3 : decode cX10_isTold 3 = .ok (.istore_n 3, 1) := by decide +kernel
theorem dX10_isTold_4 : decode cX10_isTold 4 = .ok (.iload_n 3, 1) := by decide +kernel
theorem dX10_isTold_5 : decode cX10_isTold 5 = .ok (.bipush 16, 2) := by decide +kernel
theorem dX10_isTold_7 : decode cX10_isTold 7 = .ok (.if_icmp .ge 28, 3) := by decide +kernel
theorem dX10_isTold_10 : decode cX10_isTold 10 = .ok (.iload_n 2, 1) := by decide +kernel
theorem dX10_isTold_11 : decode cX10_isTold 11 = .ok (.ifCond .ne 12, 3) := by decide +kernel
theorem dX10_isTold_14 : decode cX10_isTold 14 = .ok (.aload_n 0, 1) := by decide +kernel
theorem dX10_isTold_15 : decode cX10_isTold 15 = .ok (.iload_n 3, 1) := by decide +kernel
theorem dX10_isTold_16 : decode cX10_isTold 16 = .ok (.iload_n 1, 1) := by decide +kernel
theorem dX10_isTold_17 : decode cX10_isTold 17 = .ok (.invokevirtual 153, 3) := by decide +kernel
theorem dX10_isTold_20 : decode cX10_isTold 20 = .ok (.ifCond .eq 7, 3) := by decide +kernel
theorem dX10_isTold_23 : decode cX10_isTold 23 = .ok (.iconst 1, 1) := by decide +kernel
theorem dX10_isTold_24 : decode cX10_isTold 24 = .ok (.goto 4, 3) := by decide +kernel
theorem dX10_isTold_27 : decode cX10_isTold 27 = .ok (.iconst 0, 1) := by decide +kernel
theorem dX10_isTold_28 : decode cX10_isTold 28 = .ok (.istore_n 2, 1) := by decide +kernel
theorem dX10_isTold_29 : decode cX10_isTold 29 = .ok (.iinc 3 1, 3) := by decide +kernel
theorem dX10_isTold_32 : decode cX10_isTold 32 = .ok (.goto (-28), 3) := by decide +kernel
theorem dX10_isTold_35 : decode cX10_isTold 35 = .ok (.iload_n 2, 1) := by decide +kernel
theorem dX10_isTold_36 : decode cX10_isTold 36 = .ok (.ireturn, 1) := by decide +kernel
theorem dX10_rain0_0 : decode cX10_rain0 0 = .ok (.iload_n 2, 1) := by decide +kernel
theorem dX10_rain0_1 : decode cX10_rain0 1 = .ok (.iconst 0, 1) := by decide +kernel
theorem dX10_rain0_2 : decode cX10_rain0 2 = .ok (.bipush 55, 2) := by decide +kernel
theorem dX10_rain0_4 : decode cX10_rain0 4 = .ok (.invokestatic 85, 3) := by decide +kernel
theorem dX10_rain0_7 : decode cX10_rain0 7 = .ok (.ifCond .eq 19, 3) := by decide +kernel
theorem dX10_rain0_10 : decode cX10_rain0 10 = .ok (.aload_n 0, 1) := by decide +kernel
theorem dX10_rain0_11 : decode cX10_rain0 11 = .ok (.iload_n 1, 1) := by decide +kernel
theorem dX10_rain0_12 : decode cX10_rain0 12 = .ok (.invokevirtual 159, 3) := by decide +kernel
theorem dX10_rain0_15 : decode cX10_rain0 15 = .ok (.ifCond .eq 11, 3) := by decide +kernel
theorem dX10_rain0_18 : decode cX10_rain0 18 = .ok (.aload_n 0, 1) := by decide +kernel
theorem dX10_rain0_19 : decode cX10_rain0 19 = .ok (.iload_n 2, 1) := by decide +kernel
theorem dX10_rain0_20 : decode cX10_rain0 20 = .ok (.invokevirtual 162, 3) := by decide +kernel
theorem dX10_rain0_23 : decode cX10_rain0 23 = .ok (.ifCond .ne 5, 3) := by decide +kernel
theorem dX10_rain0_26 : decode cX10_rain0 26 = .ok (.iconst (-1), 1) := by decide +kernel
theorem dX10_rain0_27 : decode cX10_rain0 27 = .ok (.ireturn, 1) := by decide +kernel
theorem dX10_rain0_28 : decode cX10_rain0 28 = .ok (.iconst 0, 1) := by decide +kernel
theorem dX10_rain0_29 : decode cX10_rain0 29 = .ok (.istore_n 3, 1) := by decide +kernel
theorem dX10_rain0_30 : decode cX10_rain0 30 = .ok (.iconst 0, 1) := by decide +kernel
theorem dX10_rain0_31 : decode cX10_rain0 31 = .ok (.istore 4, 2) := by decide +kernel
theorem dX10_rain0_33 : decode cX10_rain0 33 = .ok (.iload 4, 2) := by decide +kernel
theorem dX10_rain0_35 : decode cX10_rain0 35 = .ok (.bipush 100, 2) := by decide +kernel
theorem dX10_rain0_37 : decode cX10_rain0 37 = .ok (.if_icmp .ge 47, 3) := by decide +kernel
theorem dX10_rain0_40 : decode cX10_rain0 40 = .ok (.aload_n 0, 1) := by decide +kernel
theorem dX10_rain0_41 : decode cX10_rain0 41 = .ok (.getfield 68, 3) := by decide +kernel
theorem dX10_rain0_44 : decode cX10_rain0 44 = .ok (.bipush 100, 2) := by decide +kernel
theorem dX10_rain0_46 : decode cX10_rain0 46 = .ok (.iload_n 1, 1) := by decide +kernel
theorem dX10_rain0_47 : decode cX10_rain0 47 = .ok (.imul, 1) := by decide +kernel
theorem dX10_rain0_48 : decode cX10_rain0 48 = .ok (.iload 4, 2) := by decide +kernel
theorem dX10_rain0_50 : decode cX10_rain0 50 = .ok (.iadd, 1) := by decide +kernel
theorem dX10_rain0_51 : decode cX10_rain0 51 = .ok (.baload, 1) := by decide +kernel
theorem dX10_rain0_52 : decode cX10_rain0 52 = .ok (.ifCond .eq 26, 3) := by decide +kernel
theorem dX10_rain0_55 : decode cX10_rain0 55 = .ok (.iload_n 3, 1) := by decide +kernel
theorem dX10_rain0_56 : decode cX10_rain0 56 = .ok (.aload_n 0, 1) := by decide +kernel
theorem dX10_rain0_57 : decode cX10_rain0 57 = .ok (.aload_n 0, 1) := by decide +kernel
theorem dX10_rain0_58 : decode cX10_rain0 58 = .ok (.iload 4, 2) := by decide +kernel
theorem dX10_rain0_60 : decode cX10_rain0 60 = .ok (.bipush 10, 2) := by decide +kernel
theorem dX10_rain0_62 : decode cX10_rain0 62 = .ok (.idiv, 1) := by decide +kernel
theorem dX10_rain0_63 : decode cX10_rain0 63 = .ok (.iload 4, 2) := by decide +kernel
theorem dX10_rain0_65 : decode cX10_rain0 65 = .ok (.bipush 10, 2) := by decide +kernel
theorem dX10_rain0_67 : decode cX10_rain0 67 = .ok (.irem, 1) := by decide +kernel
theorem dX10_rain0_68 : decode cX10_rain0 68 = .ok (.iload_n 2, 1) := by decide +kernel
theorem dX10_rain0_69 : decode cX10_rain0 69 = .ok (.invokevirtual 156, 3) := by decide +kernel
theorem dX10_rain0_72 : decode cX10_rain0 72 = .ok (.iload_n 2, 1) := by decide +kernel
theorem dX10_rain0_73 : decode cX10_rain0 73 = .ok (.invokevirtual 150, 3) := by decide +kernel
theorem dX10_rain0_76 : decode cX10_rain0 76 = .ok (.iadd, 1) := by decide +kernel
theorem dX10_rain0_77 : decode cX10_rain0 77 = .ok (.istore_n 3, 1) := by decide +kernel
theorem dX10_rain0_78 : decode cX10_rain0 78 = .ok (.iinc 4 1, 3) := by decide +kernel
theorem dX10_rain0_81 : decode cX10_rain0 81 = .ok (.goto (-48), 3) := by decide +kernel
theorem dX10_rain0_84 : decode cX10_rain0 84 = .ok (.iload_n 3, 1) := by decide +kernel
theorem dX10_rain0_85 : decode cX10_rain0 85 = .ok (.ireturn, 1) := by decide +kernel
theorem dX10_rain_0 : decode cX10_rain 0 = .ok (.iload_n 1, 1) := by decide +kernel
theorem dX10_rain_1 : decode cX10_rain 1 = .ok (.iconst 0, 1) := by decide +kernel
theorem dX10_rain_2 : decode cX10_rain 2 = .ok (.bipush 7, 2) := by decide +kernel
theorem dX10_rain_4 : decode cX10_rain 4 = .ok (.invokestatic 85, 3) := by decide +kernel
theorem dX10_rain_7 : decode cX10_rain 7 = .ok (.ifCond .eq 12, 3) := by decide +kernel
theorem dX10_rain_10 : decode cX10_rain 10 = .ok (.aload_n 0, 1) := by decide +kernel
theorem dX10_rain_11 : decode cX10_rain 11 = .ok (.iload_n 1, 1) := by decide +kernel
theorem dX10_rain_12 : decode cX10_rain 12 = .ok (.iload_n 2, 1) := by decide +kernel
theorem dX10_rain_13 : decode cX10_rain 13 = .ok (.invokevirtual 165, 3) := by decide +kernel
theorem dX10_rain_16 : decode cX10_rain 16 = .ok (.goto 4, 3) := by decide +kernel
theorem dX10_rain_19 : decode cX10_rain 19 = .ok (.iconst (-1), 1) := by decide +kernel
theorem dX10_rain_20 : decode cX10_rain 20 = .ok (.ireturn, 1) := by decide +kernel
theorem dX10_mean_0 : decode cX10_mean 0 = .ok (.iload_n 1, 1) := by decide +kernel
theorem dX10_mean_1 : decode cX10_mean 1 = .ok (.iconst 0, 1) := by decide +kernel
theorem dX10_mean_2 : decode cX10_mean 2 = .ok (.bipush 7, 2) := by decide +kernel
theorem dX10_mean_4 : decode cX10_mean 4 = .ok (.invokestatic 85, 3) := by decide +kernel
theorem dX10_mean_7 : decode cX10_mean 7 = .ok (.ifCond .eq 13, 3) := by decide +kernel
theorem dX10_mean_10 : decode cX10_mean 10 = .ok (.aload_n 0, 1) := by decide +kernel
theorem dX10_mean_11 : decode cX10_mean 11 = .ok (.iload_n 1, 1) := by decide +kernel
theorem dX10_mean_12 : decode cX10_mean 12 = .ok (.iload_n 2, 1) := by decide +kernel
theorem dX10_mean_13 : decode cX10_mean 13 = .ok (.invokevirtual 165, 3) := by decide +kernel
theorem dX10_mean_16 : decode cX10_mean 16 = .ok (.iconst (-1), 1) := by decide +kernel
theorem dX10_mean_17 : decode cX10_mean 17 = .ok (.if_icmp .ne 5, 3) := by decide +kernel
theorem dX10_mean_20 : decode cX10_mean 20 = .ok (.iconst (-1), 1) := by decide +kernel
theorem dX10_mean_21 : decode cX10_mean 21 = .ok (.ireturn, 1) := by decide +kernel
theorem dX10_mean_22 : decode cX10_mean 22 = .ok (.aload_n 0, 1) := by decide +kernel
theorem dX10_mean_23 : decode cX10_mean 23 = .ok (.iload_n 1, 1) := by decide +kernel
theorem dX10_mean_24 : decode cX10_mean 24 = .ok (.iload_n 2, 1) := by decide +kernel
theorem dX10_mean_25 : decode cX10_mean 25 = .ok (.invokevirtual 165, 3) := by decide +kernel
theorem dX10_mean_28 : decode cX10_mean 28 = .ok (.i2l, 1) := by decide +kernel
theorem dX10_mean_29 : decode cX10_mean 29 = .ok (.ldc2_w 139, 3) := by decide +kernel
theorem dX10_mean_32 : decode cX10_mean 32 = .ok (.lmul, 1) := by decide +kernel
theorem dX10_mean_33 : decode cX10_mean 33 = .ok (.aload_n 0, 1) := by decide +kernel
theorem dX10_mean_34 : decode cX10_mean 34 = .ok (.iload_n 1, 1) := by decide +kernel
theorem dX10_mean_35 : decode cX10_mean 35 = .ok (.invokevirtual 159, 3) := by decide +kernel
theorem dX10_mean_38 : decode cX10_mean 38 = .ok (.i2l, 1) := by decide +kernel
theorem dX10_mean_39 : decode cX10_mean 39 = .ok (.ldiv, 1) := by decide +kernel
theorem dX10_mean_40 : decode cX10_mean 40 = .ok (.l2i, 1) := by decide +kernel
theorem dX10_mean_41 : decode cX10_mean 41 = .ok (.ireturn, 1) := by decide +kernel
theorem dX10_flow0_0 : decode cX10_flow0 0 = .ok (.lconst 0, 1) := by decide +kernel
theorem dX10_flow0_1 : decode cX10_flow0 1 = .ok (.lstore_n 3, 1) := by decide +kernel
theorem dX10_flow0_2 : decode cX10_flow0 2 = .ok (.iconst 0, 1) := by decide +kernel
theorem dX10_flow0_3 : decode cX10_flow0 3 = .ok (.istore 5, 2) := by decide +kernel
theorem dX10_flow0_5 : decode cX10_flow0 5 = .ok (.iload 5, 2) := by decide +kernel
theorem dX10_flow0_7 : decode cX10_flow0 7 = .ok (.bipush 8, 2) := by decide +kernel
theorem dX10_flow0_9 : decode cX10_flow0 9 = .ok (.if_icmp .ge 59, 3) := by decide +kernel
theorem dX10_flow0_12 : decode cX10_flow0 12 = .ok (.aload_n 0, 1) := by decide +kernel
theorem dX10_flow0_13 : decode cX10_flow0 13 = .ok (.getfield 65, 3) := by decide +kernel
theorem dX10_flow0_16 : decode cX10_flow0 16 = .ok (.iload 5, 2) := by decide +kernel
theorem dX10_flow0_18 : decode cX10_flow0 18 = .ok (.iaload, 1) := by decide +kernel
theorem dX10_flow0_19 : decode cX10_flow0 19 = .ok (.ifCond .ne 7, 3) := by decide +kernel
theorem dX10_flow0_22 : decode cX10_flow0 22 = .ok (.iconst (-1), 1) := by decide +kernel
theorem dX10_flow0_23 : decode cX10_flow0 23 = .ok (.goto 12, 3) := by decide +kernel
theorem dX10_flow0_26 : decode cX10_flow0 26 = .ok (.aload_n 0, 1) := by decide +kernel
theorem dX10_flow0_27 : decode cX10_flow0 27 = .ok (.iload_n 1, 1) := by decide +kernel
theorem dX10_flow0_28 : decode cX10_flow0 28 = .ok (.iload_n 2, 1) := by decide +kernel
theorem dX10_flow0_29 : decode cX10_flow0 29 = .ok (.iload 5, 2) := by decide +kernel
theorem dX10_flow0_31 : decode cX10_flow0 31 = .ok (.isub, 1) := by decide +kernel
theorem dX10_flow0_32 : decode cX10_flow0 32 = .ok (.invokevirtual 165, 3) := by decide +kernel
theorem dX10_flow0_35 : decode cX10_flow0 35 = .ok (.istore 6, 2) := by decide +kernel
theorem dX10_flow0_37 : decode cX10_flow0 37 = .ok (.lload_n 3, 1) := by decide +kernel
theorem dX10_flow0_38 : decode cX10_flow0 38 = .ok (.iload 6, 2) := by decide +kernel
theorem dX10_flow0_40 : decode cX10_flow0 40 = .ok (.iconst (-1), 1) := by decide +kernel
theorem dX10_flow0_41 : decode cX10_flow0 41 = .ok (.if_icmp .ne 7, 3) := by decide +kernel
theorem dX10_flow0_44 : decode cX10_flow0 44 = .ok (.lconst 0, 1) := by decide +kernel
theorem dX10_flow0_45 : decode cX10_flow0 45 = .ok (.goto 15, 3) := by decide +kernel
theorem dX10_flow0_48 : decode cX10_flow0 48 = .ok (.iload 6, 2) := by decide +kernel
theorem dX10_flow0_50 : decode cX10_flow0 50 = .ok (.i2l, 1) := by decide +kernel
theorem dX10_flow0_51 : decode cX10_flow0 51 = .ok (.aload_n 0, 1) := by decide +kernel
theorem dX10_flow0_52 : decode cX10_flow0 52 = .ok (.getfield 65, 3) := by decide +kernel
theorem dX10_flow0_55 : decode cX10_flow0 55 = .ok (.iload 5, 2) := by decide +kernel
theorem dX10_flow0_57 : decode cX10_flow0 57 = .ok (.iaload, 1) := by decide +kernel
theorem dX10_flow0_58 : decode cX10_flow0 58 = .ok (.i2l, 1) := by decide +kernel
theorem dX10_flow0_59 : decode cX10_flow0 59 = .ok (.lmul, 1) := by decide +kernel
theorem dX10_flow0_60 : decode cX10_flow0 60 = .ok (.ladd, 1) := by decide +kernel
theorem dX10_flow0_61 : decode cX10_flow0 61 = .ok (.lstore_n 3, 1) := by decide +kernel
theorem dX10_flow0_62 : decode cX10_flow0 62 = .ok (.iinc 5 1, 3) := by decide +kernel
theorem dX10_flow0_65 : decode cX10_flow0 65 = .ok (.goto (-60), 3) := by decide +kernel
theorem dX10_flow0_68 : decode cX10_flow0 68 = .ok (.lload_n 3, 1) := by decide +kernel
theorem dX10_flow0_69 : decode cX10_flow0 69 = .ok (.lreturn, 1) := by decide +kernel
theorem dX10_flow_0 : decode cX10_flow 0 = .ok (.iload_n 1, 1) := by decide +kernel
theorem dX10_flow_1 : decode cX10_flow 1 = .ok (.iconst 0, 1) := by decide +kernel
theorem dX10_flow_2 : decode cX10_flow 2 = .ok (.bipush 7, 2) := by decide +kernel
theorem dX10_flow_4 : decode cX10_flow 4 = .ok (.invokestatic 85, 3) := by decide +kernel
theorem dX10_flow_7 : decode cX10_flow 7 = .ok (.ifCond .eq 22, 3) := by decide +kernel
theorem dX10_flow_10 : decode cX10_flow 10 = .ok (.iload_n 2, 1) := by decide +kernel
theorem dX10_flow_11 : decode cX10_flow 11 = .ok (.iconst 0, 1) := by decide +kernel
theorem dX10_flow_12 : decode cX10_flow 12 = .ok (.bipush 63, 2) := by decide +kernel
theorem dX10_flow_14 : decode cX10_flow 14 = .ok (.invokestatic 85, 3) := by decide +kernel
theorem dX10_flow_17 : decode cX10_flow 17 = .ok (.ifCond .eq 12, 3) := by decide +kernel
theorem dX10_flow_20 : decode cX10_flow 20 = .ok (.aload_n 0, 1) := by decide +kernel
theorem dX10_flow_21 : decode cX10_flow 21 = .ok (.iload_n 1, 1) := by decide +kernel
theorem dX10_flow_22 : decode cX10_flow 22 = .ok (.iload_n 2, 1) := by decide +kernel
theorem dX10_flow_23 : decode cX10_flow 23 = .ok (.invokevirtual 168, 3) := by decide +kernel
theorem dX10_flow_26 : decode cX10_flow 26 = .ok (.goto 6, 3) := by decide +kernel
theorem dX10_flow_29 : decode cX10_flow 29 = .ok (.ldc2_w 172, 3) := by decide +kernel
theorem dX10_flow_32 : decode cX10_flow 32 = .ok (.lreturn, 1) := by decide +kernel
theorem dX10_ahead_0 : decode cX10_ahead 0 = .ok (.iload_n 1, 1) := by decide +kernel
theorem dX10_ahead_1 : decode cX10_ahead 1 = .ok (.iconst 0, 1) := by decide +kernel
theorem dX10_ahead_2 : decode cX10_ahead 2 = .ok (.bipush 7, 2) := by decide +kernel
theorem dX10_ahead_4 : decode cX10_ahead 4 = .ok (.invokestatic 85, 3) := by decide +kernel
theorem dX10_ahead_7 : decode cX10_ahead 7 = .ok (.ifCond .ne 5, 3) := by decide +kernel
theorem dX10_ahead_10 : decode cX10_ahead 10 = .ok (.iconst (-1), 1) := by decide +kernel
theorem dX10_ahead_11 : decode cX10_ahead 11 = .ok (.ireturn, 1) := by decide +kernel
theorem dX10_ahead_12 : decode cX10_ahead 12 = .ok (.aload_n 0, 1) := by decide +kernel
theorem dX10_ahead_13 : decode cX10_ahead 13 = .ok (.getfield 89, 3) := by decide +kernel
theorem dX10_ahead_16 : decode cX10_ahead 16 = .ok (.istore 4, 2) := by decide +kernel
theorem dX10_ahead_18 : decode cX10_ahead 18 = .ok (.iload 4, 2) := by decide +kernel
theorem dX10_ahead_20 : decode cX10_ahead 20 = .ok (.bipush 64, 2) := by decide +kernel
theorem dX10_ahead_22 : decode cX10_ahead 22 = .ok (.if_icmp .ge 24, 3) := by decide +kernel
theorem dX10_ahead_25 : decode cX10_ahead 25 = .ok (.aload_n 0, 1) := by decide +kernel
theorem dX10_ahead_26 : decode cX10_ahead 26 = .ok (.iload_n 1, 1) := by decide +kernel
theorem dX10_ahead_27 : decode cX10_ahead 27 = .ok (.iload 4, 2) := by decide +kernel
theorem dX10_ahead_29 : decode cX10_ahead 29 = .ok (.invokevirtual 168, 3) := by decide +kernel
theorem dX10_ahead_32 : decode cX10_ahead 32 = .ok (.lload_n 2, 1) := by decide +kernel
theorem dX10_ahead_33 : decode cX10_ahead 33 = .ok (.lcmp, 1) := by decide +kernel
theorem dX10_ahead_34 : decode cX10_ahead 34 = .ok (.ifCond .le 6, 3) := by decide +kernel
theorem dX10_ahead_37 : decode cX10_ahead 37 = .ok (.iload 4, 2) := by decide +kernel
theorem dX10_ahead_39 : decode cX10_ahead 39 = .ok (.ireturn, 1) := by decide +kernel
theorem dX10_ahead_40 : decode cX10_ahead 40 = .ok (.iinc 4 1, 3) := by decide +kernel
theorem dX10_ahead_43 : decode cX10_ahead 43 = .ok (.goto (-25), 3) := by decide +kernel
theorem dX10_ahead_46 : decode cX10_ahead 46 = .ok (.iconst (-1), 1) := by decide +kernel
theorem dX10_ahead_47 : decode cX10_ahead 47 = .ok (.ireturn, 1) := by decide +kernel
theorem dX10_weekOf_0 : decode cX10_weekOf 0 = .ok (.lconst 0, 1) := by decide +kernel
theorem dX10_weekOf_1 : decode cX10_weekOf 1 = .ok (.lstore 4, 2) := by decide +kernel
theorem dX10_weekOf_3 : decode cX10_weekOf 3 = .ok (.bipush 7, 2) := by decide +kernel
theorem dX10_weekOf_5 : decode cX10_weekOf 5 = .ok (.iload_n 2, 1) := by decide +kernel
theorem dX10_weekOf_6 : decode cX10_weekOf 6 = .ok (.imul, 1) := by decide +kernel
theorem dX10_weekOf_7 : decode cX10_weekOf 7 = .ok (.istore 6, 2) := by decide +kernel
theorem dX10_weekOf_9 : decode cX10_weekOf 9 = .ok (.iload 6, 2) := by decide +kernel
theorem dX10_weekOf_11 : decode cX10_weekOf 11 = .ok (.bipush 7, 2) := by decide +kernel
theorem dX10_weekOf_13 : decode cX10_weekOf 13 = .ok (.iload_n 2, 1) := by decide +kernel
theorem dX10_weekOf_14 : decode cX10_weekOf 14 = .ok (.imul, 1) := by decide +kernel
theorem dX10_weekOf_15 : decode cX10_weekOf 15 = .ok (.bipush 7, 2) := by decide +kernel
theorem dX10_weekOf_17 : decode cX10_weekOf 17 = .ok (.iadd, 1) := by decide +kernel
theorem dX10_weekOf_18 : decode cX10_weekOf 18 = .ok (.if_icmp .ge 152, 3) := by decide +kernel
theorem dX10_weekOf_21 : decode cX10_weekOf 21 = .ok (.aload_n 0, 1) := by decide +kernel
theorem dX10_weekOf_22 : decode cX10_weekOf 22 = .ok (.iload_n 1, 1) := by decide +kernel
theorem dX10_weekOf_23 : decode cX10_weekOf 23 = .ok (.invokevirtual 125, 3) := by decide +kernel
theorem dX10_weekOf_26 : decode cX10_weekOf 26 = .ok (.istore 7, 2) := by decide +kernel
theorem dX10_weekOf_28 : decode cX10_weekOf 28 = .ok (.iconst 0, 1) := by decide +kernel
theorem dX10_weekOf_29 : decode cX10_weekOf 29 = .ok (.istore 8, 2) := by decide +kernel
theorem dX10_weekOf_31 : decode cX10_weekOf 31 = .ok (.aload_n 0, 1) := by decide +kernel
theorem dX10_weekOf_32 : decode cX10_weekOf 32 = .ok (.iload_n 1, 1) := by decide +kernel
theorem dX10_weekOf_33 : decode cX10_weekOf 33 = .ok (.iload 6, 2) := by decide +kernel
theorem dX10_weekOf_35 : decode cX10_weekOf 35 = .ok (.invokevirtual 129, 3) := by decide +kernel
theorem dX10_weekOf_38 : decode cX10_weekOf 38 = .ok (.iconst (-1), 1) := by decide +kernel
theorem dX10_weekOf_39 : decode cX10_weekOf 39 = .ok (.if_icmp .eq 7, 3) := by decide +kernel
theorem dX10_weekOf_42 : decode cX10_weekOf 42 = .ok (.iconst 1, 1) := by decide +kernel
theorem dX10_weekOf_43 : decode cX10_weekOf 43 = .ok (.goto 4, 3) := by decide +kernel
theorem dX10_weekOf_46 : decode cX10_weekOf 46 = .ok (.iconst 0, 1) := by decide +kernel
theorem dX10_weekOf_47 : decode cX10_weekOf 47 = .ok (.istore 9, 2) := by decide +kernel
theorem dX10_weekOf_49 : decode cX10_weekOf 49 = .ok (.lconst 0, 1) := by decide +kernel
theorem dX10_weekOf_50 : decode cX10_weekOf 50 = .ok (.lstore 10, 2) := by decide +kernel
theorem dX10_weekOf_52 : decode cX10_weekOf 52 = .ok (.iconst 0, 1) := by decide +kernel
theorem dX10_weekOf_53 : decode cX10_weekOf 53 = .ok (.istore 12, 2) := by decide +kernel
theorem dX10_weekOf_55 : decode cX10_weekOf 55 = .ok (.iload 12, 2) := by decide +kernel
theorem dX10_weekOf_57 : decode cX10_weekOf 57 = .ok (.iload 7, 2) := by decide +kernel
theorem dX10_weekOf_59 : decode cX10_weekOf 59 = .ok (.if_icmp .ge 78, 3) := by decide +kernel
theorem dX10_weekOf_62 : decode cX10_weekOf 62 = .ok (.iload 8, 2) := by decide +kernel
theorem dX10_weekOf_64 : decode cX10_weekOf 64 = .ok (.iconst 4, 1) := by decide +kernel
theorem dX10_weekOf_65 : decode cX10_weekOf 65 = .ok (.if_icmp .ge 72, 3) := by decide +kernel
theorem dX10_weekOf_68 : decode cX10_weekOf 68 = .ok (.aload_n 0, 1) := by decide +kernel
theorem dX10_weekOf_69 : decode cX10_weekOf 69 = .ok (.getfield 9, 3) := by decide +kernel
theorem dX10_weekOf_72 : decode cX10_weekOf 72 = .ok (.aload_n 0, 1) := by decide +kernel
theorem dX10_weekOf_73 : decode cX10_weekOf 73 = .ok (.getfield 72, 3) := by decide +kernel
theorem dX10_weekOf_76 : decode cX10_weekOf 76 = .ok (.iload 12, 2) := by decide +kernel
theorem dX10_weekOf_78 : decode cX10_weekOf 78 = .ok (.iaload, 1) := by decide +kernel
theorem dX10_weekOf_79 : decode cX10_weekOf 79 = .ok (.iaload, 1) := by decide +kernel
theorem dX10_weekOf_80 : decode cX10_weekOf 80 = .ok (.iconst 3, 1) := by decide +kernel
theorem dX10_weekOf_81 : decode cX10_weekOf 81 = .ok (.if_icmp .ne 6, 3) := by decide +kernel
theorem dX10_weekOf_84 : decode cX10_weekOf 84 = .ok (.goto 47, 3) := by decide +kernel
theorem dX10_weekOf_87 : decode cX10_weekOf 87 = .ok (.iinc 8 1, 3) := by decide +kernel
theorem dX10_weekOf_90 : decode cX10_weekOf 90 = .ok (.aload_n 0, 1) := by decide +kernel
theorem dX10_weekOf_91 : decode cX10_weekOf 91 = .ok (.aload_n 0, 1) := by decide +kernel
theorem dX10_weekOf_92 : decode cX10_weekOf 92 = .ok (.getfield 72, 3) := by decide +kernel
theorem dX10_weekOf_95 : decode cX10_weekOf 95 = .ok (.iload 12, 2) := by decide +kernel
theorem dX10_weekOf_97 : decode cX10_weekOf 97 = .ok (.iaload, 1) := by decide +kernel
theorem dX10_weekOf_98 : decode cX10_weekOf 98 = .ok (.iload 6, 2) := by decide +kernel
theorem dX10_weekOf_100 : decode cX10_weekOf 100 = .ok (.invokevirtual 129, 3) := by decide +kernel
theorem dX10_weekOf_103 : decode cX10_weekOf 103 = .ok (.istore 13, 2) := by decide +kernel
theorem dX10_weekOf_105 : decode cX10_weekOf 105 = .ok (.iload 9, 2) := by decide +kernel
theorem dX10_weekOf_107 : decode cX10_weekOf 107 = .ok (.ifCond .eq 13, 3) := by decide +kernel
theorem dX10_weekOf_110 : decode cX10_weekOf 110 = .ok (.iload 13, 2) := by decide +kernel
theorem dX10_weekOf_112 : decode cX10_weekOf 112 = .ok (.iconst (-1), 1) := by decide +kernel
theorem dX10_weekOf_113 : decode cX10_weekOf 113 = .ok (.if_icmp .eq 7, 3) := by decide +kernel
theorem dX10_weekOf_116 : decode cX10_weekOf 116 = .ok (.iconst 1, 1) := by decide +kernel
theorem dX10_weekOf_117 : decode cX10_weekOf 117 = .ok (.goto 4, 3) := by decide +kernel
theorem dX10_weekOf_120 : decode cX10_weekOf 120 = .ok (.iconst 0, 1) := by decide +kernel
theorem dX10_weekOf_121 : decode cX10_weekOf 121 = .ok (.istore 9, 2) := by decide +kernel
theorem dX10_weekOf_123 : decode cX10_weekOf 123 = .ok (.lload 10, 2) := by decide +kernel
theorem dX10_weekOf_125 : decode cX10_weekOf 125 = .ok (.iload 13, 2) := by decide +kernel
theorem dX10_weekOf_127 : decode cX10_weekOf 127 = .ok (.i2l, 1) := by decide +kernel
theorem dX10_weekOf_128 : decode cX10_weekOf 128 = .ok (.ladd, 1) := by decide +kernel
theorem dX10_weekOf_129 : decode cX10_weekOf 129 = .ok (.lstore 10, 2) := by decide +kernel
theorem dX10_weekOf_131 : decode cX10_weekOf 131 = .ok (.iinc 12 1, 3) := by decide +kernel
theorem dX10_weekOf_134 : decode cX10_weekOf 134 = .ok (.goto (-79), 3) := by decide +kernel
theorem dX10_weekOf_137 : decode cX10_weekOf 137 = .ok (.iload 9, 2) := by decide +kernel
theorem dX10_weekOf_139 : decode cX10_weekOf 139 = .ok (.ifCond .eq 25, 3) := by decide +kernel
theorem dX10_weekOf_142 : decode cX10_weekOf 142 = .ok (.lload 4, 2) := by decide +kernel
theorem dX10_weekOf_144 : decode cX10_weekOf 144 = .ok (.iload_n 3, 1) := by decide +kernel
theorem dX10_weekOf_145 : decode cX10_weekOf 145 = .ok (.ifCond .eq 14, 3) := by decide +kernel
theorem dX10_weekOf_148 : decode cX10_weekOf 148 = .ok (.aload_n 0, 1) := by decide +kernel
theorem dX10_weekOf_149 : decode cX10_weekOf 149 = .ok (.iload_n 1, 1) := by decide +kernel
theorem dX10_weekOf_150 : decode cX10_weekOf 150 = .ok (.iload 6, 2) := by decide +kernel
theorem dX10_weekOf_152 : decode cX10_weekOf 152 = .ok (.invokevirtual 129, 3) := by decide +kernel
theorem dX10_weekOf_155 : decode cX10_weekOf 155 = .ok (.i2l, 1) := by decide +kernel
theorem dX10_weekOf_156 : decode cX10_weekOf 156 = .ok (.goto 5, 3) := by decide +kernel
theorem dX10_weekOf_159 : decode cX10_weekOf 159 = .ok (.lload 10, 2) := by decide +kernel
theorem dX10_weekOf_161 : decode cX10_weekOf 161 = .ok (.ladd, 1) := by decide +kernel
theorem dX10_weekOf_162 : decode cX10_weekOf 162 = .ok (.lstore 4, 2) := by decide +kernel
theorem dX10_weekOf_164 : decode cX10_weekOf 164 = .ok (.iinc 6 1, 3) := by decide +kernel
theorem dX10_weekOf_167 : decode cX10_weekOf 167 = .ok (.goto (-158), 3) := by decide +kernel
theorem dX10_weekOf_170 : decode cX10_weekOf 170 = .ok (.lload 4, 2) := by decide +kernel
theorem dX10_weekOf_172 : decode cX10_weekOf 172 = .ok (.lreturn, 1) := by decide +kernel
theorem dX10_failsStore_0 : decode cX10_failsStore 0 = .ok (.aload_n 0, 1) := by decide +kernel
theorem dX10_failsStore_1 : decode cX10_failsStore 1 = .ok (.iload_n 1, 1) := by decide +kernel
theorem dX10_failsStore_2 : decode cX10_failsStore 2 = .ok (.iconst 0, 1) := by decide +kernel
theorem dX10_failsStore_3 : decode cX10_failsStore 3 = .ok (.iconst 4, 1) := by decide +kernel
theorem dX10_failsStore_4 : decode cX10_failsStore 4 = .ok (.invokevirtual 96, 3) := by decide +kernel
theorem dX10_failsStore_7 : decode cX10_failsStore 7 = .ok (.istore_n 2, 1) := by decide +kernel
theorem dX10_failsStore_8 : decode cX10_failsStore 8 = .ok (.iload_n 2, 1) := by decide +kernel
theorem dX10_failsStore_9 : decode cX10_failsStore 9 = .ok (.ifCond .ne 18, 3) := by decide +kernel
theorem dX10_failsStore_12 : decode cX10_failsStore 12 = .ok (.aload_n 0, 1) := by decide +kernel
theorem dX10_failsStore_13 : decode cX10_failsStore 13 = .ok (.getfield 9, 3) := by decide +kernel
theorem dX10_failsStore_16 : decode cX10_failsStore 16 = .ok (.iload_n 1, 1) := by decide +kernel
theorem dX10_failsStore_17 : decode cX10_failsStore 17 = .ok (.iaload, 1) := by decide +kernel
theorem dX10_failsStore_18 : decode cX10_failsStore 18 = .ok (.iconst 3, 1) := by decide +kernel
theorem dX10_failsStore_19 : decode cX10_failsStore 19 = .ok (.if_icmp .ne 8, 3) := by decide +kernel
theorem dX10_failsStore_22 : decode cX10_failsStore 22 = .ok (.bipush (-2), 2) := by decide +kernel
theorem dX10_failsStore_24 : decode cX10_failsStore 24 = .ok (.goto 4, 3) := by decide +kernel
theorem dX10_failsStore_27 : decode cX10_failsStore 27 = .ok (.iload_n 2, 1) := by decide +kernel
theorem dX10_failsStore_28 : decode cX10_failsStore 28 = .ok (.ireturn, 1) := by decide +kernel
theorem dX10_week_0 : decode cX10_week 0 = .ok (.aload_n 0, 1) := by decide +kernel
theorem dX10_week_1 : decode cX10_week 1 = .ok (.iload_n 1, 1) := by decide +kernel
theorem dX10_week_2 : decode cX10_week 2 = .ok (.invokevirtual 174, 3) := by decide +kernel
theorem dX10_week_5 : decode cX10_week 5 = .ok (.istore 4, 2) := by decide +kernel
theorem dX10_week_7 : decode cX10_week 7 = .ok (.iload 4, 2) := by decide +kernel
theorem dX10_week_9 : decode cX10_week 9 = .ok (.ifCond .eq 6, 3) := by decide +kernel
theorem dX10_week_12 : decode cX10_week 12 = .ok (.iload 4, 2) := by decide +kernel
theorem dX10_week_14 : decode cX10_week 14 = .ok (.ireturn, 1) := by decide +kernel
theorem dX10_week_15 : decode cX10_week 15 = .ok (.iload_n 2, 1) := by decide +kernel
theorem dX10_week_16 : decode cX10_week 16 = .ok (.iconst 0, 1) := by decide +kernel
theorem dX10_week_17 : decode cX10_week 17 = .ok (.bipush 7, 2) := by decide +kernel
theorem dX10_week_19 : decode cX10_week 19 = .ok (.invokestatic 85, 3) := by decide +kernel
theorem dX10_week_22 : decode cX10_week 22 = .ok (.ifCond .eq 31, 3) := by decide +kernel
theorem dX10_week_25 : decode cX10_week 25 = .ok (.iload_n 3, 1) := by decide +kernel
theorem dX10_week_26 : decode cX10_week 26 = .ok (.iconst 0, 1) := by decide +kernel
theorem dX10_week_27 : decode cX10_week 27 = .ok (.iconst 1, 1) := by decide +kernel
theorem dX10_week_28 : decode cX10_week 28 = .ok (.invokestatic 85, 3) := by decide +kernel
theorem dX10_week_31 : decode cX10_week 31 = .ok (.ifCond .eq 22, 3) := by decide +kernel
theorem dX10_week_34 : decode cX10_week 34 = .ok (.aload_n 0, 1) := by decide +kernel
theorem dX10_week_35 : decode cX10_week 35 = .ok (.iload_n 1, 1) := by decide +kernel
theorem dX10_week_36 : decode cX10_week 36 = .ok (.iload_n 2, 1) := by decide +kernel
theorem dX10_week_37 : decode cX10_week 37 = .ok (.iload_n 3, 1) := by decide +kernel
theorem dX10_week_38 : decode cX10_week 38 = .ok (.ifCond .ne 7, 3) := by decide +kernel
theorem dX10_week_41 : decode cX10_week 41 = .ok (.iconst 1, 1) := by decide +kernel
theorem dX10_week_42 : decode cX10_week 42 = .ok (.goto 4, 3) := by decide +kernel
theorem dX10_week_45 : decode cX10_week 45 = .ok (.iconst 0, 1) := by decide +kernel
theorem dX10_week_46 : decode cX10_week 46 = .ok (.invokevirtual 177, 3) := by decide +kernel
theorem dX10_week_49 : decode cX10_week 49 = .ok (.l2i, 1) := by decide +kernel
theorem dX10_week_50 : decode cX10_week 50 = .ok (.goto 4, 3) := by decide +kernel
theorem dX10_week_53 : decode cX10_week 53 = .ok (.iconst (-1), 1) := by decide +kernel
theorem dX10_week_54 : decode cX10_week 54 = .ok (.ireturn, 1) := by decide +kernel
theorem dX10_apart_0 : decode cX10_apart 0 = .ok (.lconst 0, 1) := by decide +kernel
theorem dX10_apart_1 : decode cX10_apart 1 = .ok (.lstore_n 3, 1) := by decide +kernel
theorem dX10_apart_2 : decode cX10_apart 2 = .ok (.lconst 0, 1) := by decide +kernel
theorem dX10_apart_3 : decode cX10_apart 3 = .ok (.lstore 5, 2) := by decide +kernel
theorem dX10_apart_5 : decode cX10_apart 5 = .ok (.iload_n 1, 1) := by decide +kernel
theorem dX10_apart_6 : decode cX10_apart 6 = .ok (.istore 7, 2) := by decide +kernel
theorem dX10_apart_8 : decode cX10_apart 8 = .ok (.iload 7, 2) := by decide +kernel
theorem dX10_apart_10 : decode cX10_apart 10 = .ok (.iload_n 2, 1) := by decide +kernel
theorem dX10_apart_11 : decode cX10_apart 11 = .ok (.if_icmp .ge 31, 3) := by decide +kernel
theorem dX10_apart_14 : decode cX10_apart 14 = .ok (.lload_n 3, 1) := by decide +kernel
theorem dX10_apart_15 : decode cX10_apart 15 = .ok (.aload_n 0, 1) := by decide +kernel
theorem dX10_apart_16 : decode cX10_apart 16 = .ok (.getfield 78, 3) := by decide +kernel
theorem dX10_apart_19 : decode cX10_apart 19 = .ok (.iload 7, 2) := by decide +kernel
theorem dX10_apart_21 : decode cX10_apart 21 = .ok (.laload, 1) := by decide +kernel
theorem dX10_apart_22 : decode cX10_apart 22 = .ok (.ladd, 1) := by decide +kernel
theorem dX10_apart_23 : decode cX10_apart 23 = .ok (.lstore_n 3, 1) := by decide +kernel
theorem dX10_apart_24 : decode cX10_apart 24 = .ok (.lload 5, 2) := by decide +kernel
theorem dX10_apart_26 : decode cX10_apart 26 = .ok (.aload_n 0, 1) := by decide +kernel
theorem dX10_apart_27 : decode cX10_apart 27 = .ok (.getfield 82, 3) := by decide +kernel
theorem dX10_apart_30 : decode cX10_apart 30 = .ok (.iload 7, 2) := by decide +kernel
theorem dX10_apart_32 : decode cX10_apart 32 = .ok (.laload, 1) := by decide +kernel
theorem dX10_apart_33 : decode cX10_apart 33 = .ok (.ladd, 1) := by decide +kernel
theorem dX10_apart_34 : decode cX10_apart 34 = .ok (.lstore 5, 2) := by decide +kernel
theorem dX10_apart_36 : decode cX10_apart 36 = .ok (.iinc 7 1, 3) := by decide +kernel
theorem dX10_apart_39 : decode cX10_apart 39 = .ok (.goto (-31), 3) := by decide +kernel
theorem dX10_apart_42 : decode cX10_apart 42 = .ok (.lconst 0, 1) := by decide +kernel
theorem dX10_apart_43 : decode cX10_apart 43 = .ok (.lstore 7, 2) := by decide +kernel
theorem dX10_apart_45 : decode cX10_apart 45 = .ok (.iload_n 1, 1) := by decide +kernel
theorem dX10_apart_46 : decode cX10_apart 46 = .ok (.istore 9, 2) := by decide +kernel
theorem dX10_apart_48 : decode cX10_apart 48 = .ok (.iload 9, 2) := by decide +kernel
theorem dX10_apart_50 : decode cX10_apart 50 = .ok (.iload_n 2, 1) := by decide +kernel
theorem dX10_apart_51 : decode cX10_apart 51 = .ok (.if_icmp .ge 68, 3) := by decide +kernel
theorem dX10_apart_54 : decode cX10_apart 54 = .ok (.lload 5, 2) := by decide +kernel
theorem dX10_apart_56 : decode cX10_apart 56 = .ok (.lconst 0, 1) := by decide +kernel
theorem dX10_apart_57 : decode cX10_apart 57 = .ok (.lcmp, 1) := by decide +kernel
theorem dX10_apart_58 : decode cX10_apart 58 = .ok (.ifCond .ne 13, 3) := by decide +kernel
theorem dX10_apart_61 : decode cX10_apart 61 = .ok (.aload_n 0, 1) := by decide +kernel
theorem dX10_apart_62 : decode cX10_apart 62 = .ok (.getfield 78, 3) := by decide +kernel
theorem dX10_apart_65 : decode cX10_apart 65 = .ok (.iload 9, 2) := by decide +kernel
theorem dX10_apart_67 : decode cX10_apart 67 = .ok (.laload, 1) := by decide +kernel
theorem dX10_apart_68 : decode cX10_apart 68 = .ok (.goto 23, 3) := by decide +kernel
theorem dX10_apart_71 : decode cX10_apart 71 = .ok (.aload_n 0, 1) := by decide +kernel
theorem dX10_apart_72 : decode cX10_apart 72 = .ok (.getfield 78, 3) := by decide +kernel
theorem dX10_apart_75 : decode cX10_apart 75 = .ok (.iload 9, 2) := by decide +kernel
theorem dX10_apart_77 : decode cX10_apart 77 = .ok (.laload, 1) := by decide +kernel
theorem dX10_apart_78 : decode cX10_apart 78 = .ok (.lload 5, 2) := by decide +kernel
theorem dX10_apart_80 : decode cX10_apart 80 = .ok (.lmul, 1) := by decide +kernel
theorem dX10_apart_81 : decode cX10_apart 81 = .ok (.aload_n 0, 1) := by decide +kernel
theorem dX10_apart_82 : decode cX10_apart 82 = .ok (.getfield 82, 3) := by decide +kernel
theorem dX10_apart_85 : decode cX10_apart 85 = .ok (.iload 9, 2) := by decide +kernel
theorem dX10_apart_87 : decode cX10_apart 87 = .ok (.laload, 1) := by decide +kernel
theorem dX10_apart_88 : decode cX10_apart 88 = .ok (.lload_n 3, 1) := by decide +kernel
theorem dX10_apart_89 : decode cX10_apart 89 = .ok (.lmul, 1) := by decide +kernel
theorem dX10_apart_90 : decode cX10_apart 90 = .ok (.lsub, 1) := by decide +kernel
theorem dX10_apart_91 : decode cX10_apart 91 = .ok (.lstore 10, 2) := by decide +kernel
theorem dX10_apart_93 : decode cX10_apart 93 = .ok (.lload 7, 2) := by decide +kernel
theorem dX10_apart_95 : decode cX10_apart 95 = .ok (.lload 10, 2) := by decide +kernel
theorem dX10_apart_97 : decode cX10_apart 97 = .ok (.lconst 0, 1) := by decide +kernel
theorem dX10_apart_98 : decode cX10_apart 98 = .ok (.lcmp, 1) := by decide +kernel
theorem dX10_apart_99 : decode cX10_apart 99 = .ok (.ifCond .ge 9, 3) := by decide +kernel
theorem dX10_apart_102 : decode cX10_apart 102 = .ok (.lload 10, 2) := by decide +kernel
theorem dX10_apart_104 : decode cX10_apart 104 = .ok (.lneg, 1) := by decide +kernel
theorem dX10_apart_105 : decode cX10_apart 105 = .ok (.goto 5, 3) := by decide +kernel
theorem dX10_apart_108 : decode cX10_apart 108 = .ok (.lload 10, 2) := by decide +kernel
theorem dX10_apart_110 : decode cX10_apart 110 = .ok (.ladd, 1) := by decide +kernel
theorem dX10_apart_111 : decode cX10_apart 111 = .ok (.lstore 7, 2) := by decide +kernel
theorem dX10_apart_113 : decode cX10_apart 113 = .ok (.iinc 9 1, 3) := by decide +kernel
theorem dX10_apart_116 : decode cX10_apart 116 = .ok (.goto (-68), 3) := by decide +kernel
theorem dX10_apart_119 : decode cX10_apart 119 = .ok (.lload 5, 2) := by decide +kernel
theorem dX10_apart_121 : decode cX10_apart 121 = .ok (.lconst 0, 1) := by decide +kernel
theorem dX10_apart_122 : decode cX10_apart 122 = .ok (.lcmp, 1) := by decide +kernel
theorem dX10_apart_123 : decode cX10_apart 123 = .ok (.ifCond .ne 12, 3) := by decide +kernel
theorem dX10_apart_126 : decode cX10_apart 126 = .ok (.lload 7, 2) := by decide +kernel
theorem dX10_apart_128 : decode cX10_apart 128 = .ok (.ldc2_w 139, 3) := by decide +kernel
theorem dX10_apart_131 : decode cX10_apart 131 = .ok (.lmul, 1) := by decide +kernel
theorem dX10_apart_132 : decode cX10_apart 132 = .ok (.goto 12, 3) := by decide +kernel
theorem dX10_apart_135 : decode cX10_apart 135 = .ok (.lload 7, 2) := by decide +kernel
theorem dX10_apart_137 : decode cX10_apart 137 = .ok (.ldc2_w 139, 3) := by decide +kernel
theorem dX10_apart_140 : decode cX10_apart 140 = .ok (.lmul, 1) := by decide +kernel
theorem dX10_apart_141 : decode cX10_apart 141 = .ok (.lload 5, 2) := by decide +kernel
theorem dX10_apart_143 : decode cX10_apart 143 = .ok (.ldiv, 1) := by decide +kernel
theorem dX10_apart_144 : decode cX10_apart 144 = .ok (.lreturn, 1) := by decide +kernel
theorem dX10_weeks_0 : decode cX10_weeks 0 = .ok (.iconst 0, 1) := by decide +kernel
theorem dX10_weeks_1 : decode cX10_weeks 1 = .ok (.istore_n 2, 1) := by decide +kernel
theorem dX10_weeks_2 : decode cX10_weeks 2 = .ok (.iload_n 2, 1) := by decide +kernel
theorem dX10_weeks_3 : decode cX10_weeks 3 = .ok (.bipush 8, 2) := by decide +kernel
theorem dX10_weeks_5 : decode cX10_weeks 5 = .ok (.if_icmp .ge 35, 3) := by decide +kernel
theorem dX10_weeks_8 : decode cX10_weeks 8 = .ok (.aload_n 0, 1) := by decide +kernel
theorem dX10_weeks_9 : decode cX10_weeks 9 = .ok (.getfield 78, 3) := by decide +kernel
theorem dX10_weeks_12 : decode cX10_weeks 12 = .ok (.iload_n 2, 1) := by decide +kernel
theorem dX10_weeks_13 : decode cX10_weeks 13 = .ok (.aload_n 0, 1) := by decide +kernel
theorem dX10_weeks_14 : decode cX10_weeks 14 = .ok (.iload_n 1, 1) := by decide +kernel
theorem dX10_weeks_15 : decode cX10_weeks 15 = .ok (.iload_n 2, 1) := by decide +kernel
theorem dX10_weeks_16 : decode cX10_weeks 16 = .ok (.iconst 1, 1) := by decide +kernel
theorem dX10_weeks_17 : decode cX10_weeks 17 = .ok (.invokevirtual 177, 3) := by decide +kernel
theorem dX10_weeks_20 : decode cX10_weeks 20 = .ok (.lastore, 1) := by decide +kernel
theorem dX10_weeks_21 : decode cX10_weeks 21 = .ok (.aload_n 0, 1) := by decide +kernel
theorem dX10_weeks_22 : decode cX10_weeks 22 = .ok (.getfield 82, 3) := by decide +kernel
theorem dX10_weeks_25 : decode cX10_weeks 25 = .ok (.iload_n 2, 1) := by decide +kernel
theorem dX10_weeks_26 : decode cX10_weeks 26 = .ok (.aload_n 0, 1) := by decide +kernel
theorem dX10_weeks_27 : decode cX10_weeks 27 = .ok (.iload_n 1, 1) := by decide +kernel
theorem dX10_weeks_28 : decode cX10_weeks 28 = .ok (.iload_n 2, 1) := by decide +kernel
theorem dX10_weeks_29 : decode cX10_weeks 29 = .ok (.iconst 0, 1) := by decide +kernel
theorem dX10_weeks_30 : decode cX10_weeks 30 = .ok (.invokevirtual 177, 3) := by decide +kernel
theorem dX10_weeks_33 : decode cX10_weeks 33 = .ok (.lastore, 1) := by decide +kernel
theorem dX10_weeks_34 : decode cX10_weeks 34 = .ok (.iinc 2 1, 3) := by decide +kernel
theorem dX10_weeks_37 : decode cX10_weeks 37 = .ok (.goto (-35), 3) := by decide +kernel
theorem dX10_weeks_40 : decode cX10_weeks 40 = .ok (.return_, 1) := by decide +kernel
theorem dX10_cleft_0 : decode cX10_cleft 0 = .ok (.aload_n 0, 1) := by decide +kernel
theorem dX10_cleft_1 : decode cX10_cleft 1 = .ok (.iload_n 1, 1) := by decide +kernel
theorem dX10_cleft_2 : decode cX10_cleft 2 = .ok (.invokevirtual 174, 3) := by decide +kernel
theorem dX10_cleft_5 : decode cX10_cleft 5 = .ok (.istore_n 2, 1) := by decide +kernel
theorem dX10_cleft_6 : decode cX10_cleft 6 = .ok (.iload_n 2, 1) := by decide +kernel
theorem dX10_cleft_7 : decode cX10_cleft 7 = .ok (.ifCond .eq 5, 3) := by decide +kernel
theorem dX10_cleft_10 : decode cX10_cleft 10 = .ok (.iload_n 2, 1) := by decide +kernel
theorem dX10_cleft_11 : decode cX10_cleft 11 = .ok (.ireturn, 1) := by decide +kernel
theorem dX10_cleft_12 : decode cX10_cleft 12 = .ok (.aload_n 0, 1) := by decide +kernel
theorem dX10_cleft_13 : decode cX10_cleft 13 = .ok (.iload_n 1, 1) := by decide +kernel
theorem dX10_cleft_14 : decode cX10_cleft 14 = .ok (.invokevirtual 181, 3) := by decide +kernel
theorem dX10_cleft_17 : decode cX10_cleft 17 = .ok (.aload_n 0, 1) := by decide +kernel
theorem dX10_cleft_18 : decode cX10_cleft 18 = .ok (.getfield 89, 3) := by decide +kernel
theorem dX10_cleft_21 : decode cX10_cleft 21 = .ok (.bipush 7, 2) := by decide +kernel
theorem dX10_cleft_23 : decode cX10_cleft 23 = .ok (.idiv, 1) := by decide +kernel
theorem dX10_cleft_24 : decode cX10_cleft 24 = .ok (.istore_n 3, 1) := by decide +kernel
theorem dX10_cleft_25 : decode cX10_cleft 25 = .ok (.iconst (-1), 1) := by decide +kernel
theorem dX10_cleft_26 : decode cX10_cleft 26 = .ok (.istore 4, 2) := by decide +kernel
theorem dX10_cleft_28 : decode cX10_cleft 28 = .ok (.iload_n 3, 1) := by decide +kernel
theorem dX10_cleft_29 : decode cX10_cleft 29 = .ok (.iconst 1, 1) := by decide +kernel
theorem dX10_cleft_30 : decode cX10_cleft 30 = .ok (.isub, 1) := by decide +kernel
theorem dX10_cleft_31 : decode cX10_cleft 31 = .ok (.istore 5, 2) := by decide +kernel
theorem dX10_cleft_33 : decode cX10_cleft 33 = .ok (.iload 5, 2) := by decide +kernel
theorem dX10_cleft_35 : decode cX10_cleft 35 = .ok (.iconst 1, 1) := by decide +kernel
theorem dX10_cleft_36 : decode cX10_cleft 36 = .ok (.if_icmp .lt 53, 3) := by decide +kernel
theorem dX10_cleft_39 : decode cX10_cleft 39 = .ok (.iload 4, 2) := by decide +kernel
theorem dX10_cleft_41 : decode cX10_cleft 41 = .ok (.iconst (-1), 1) := by decide +kernel
theorem dX10_cleft_42 : decode cX10_cleft 42 = .ok (.if_icmp .eq 37, 3) := by decide +kernel
theorem dX10_cleft_45 : decode cX10_cleft 45 = .ok (.aload_n 0, 1) := by decide +kernel
theorem dX10_cleft_46 : decode cX10_cleft 46 = .ok (.iconst 0, 1) := by decide +kernel
theorem dX10_cleft_47 : decode cX10_cleft 47 = .ok (.iload 5, 2) := by decide +kernel
theorem dX10_cleft_49 : decode cX10_cleft 49 = .ok (.invokevirtual 185, 3) := by decide +kernel
theorem dX10_cleft_52 : decode cX10_cleft 52 = .ok (.aload_n 0, 1) := by decide +kernel
theorem dX10_cleft_53 : decode cX10_cleft 53 = .ok (.iload 5, 2) := by decide +kernel
theorem dX10_cleft_55 : decode cX10_cleft 55 = .ok (.iload_n 3, 1) := by decide +kernel
theorem dX10_cleft_56 : decode cX10_cleft 56 = .ok (.invokevirtual 185, 3) := by decide +kernel
theorem dX10_cleft_59 : decode cX10_cleft 59 = .ok (.ladd, 1) := by decide +kernel
theorem dX10_cleft_60 : decode cX10_cleft 60 = .ok (.aload_n 0, 1) := by decide +kernel
theorem dX10_cleft_61 : decode cX10_cleft 61 = .ok (.iconst 0, 1) := by decide +kernel
theorem dX10_cleft_62 : decode cX10_cleft 62 = .ok (.iload 4, 2) := by decide +kernel
theorem dX10_cleft_64 : decode cX10_cleft 64 = .ok (.invokevirtual 185, 3) := by decide +kernel
theorem dX10_cleft_67 : decode cX10_cleft 67 = .ok (.aload_n 0, 1) := by decide +kernel
theorem dX10_cleft_68 : decode cX10_cleft 68 = .ok (.iload 4, 2) := by decide +kernel
theorem dX10_cleft_70 : decode cX10_cleft 70 = .ok (.iload_n 3, 1) := by decide +kernel
theorem dX10_cleft_71 : decode cX10_cleft 71 = .ok (.invokevirtual 185, 3) := by decide +kernel
theorem dX10_cleft_74 : decode cX10_cleft 74 = .ok (.ladd, 1) := by decide +kernel
theorem dX10_cleft_75 : decode cX10_cleft 75 = .ok (.lcmp, 1) := by decide +kernel
theorem dX10_cleft_76 : decode cX10_cleft 76 = .ok (.ifCond .gt 7, 3) := by decide +kernel
theorem dX10_cleft_79 : decode cX10_cleft 79 = .ok (.iload 5, 2) := by decide +kernel
theorem dX10_cleft_81 : decode cX10_cleft 81 = .ok (.istore 4, 2) := by decide +kernel
theorem dX10_cleft_83 : decode cX10_cleft 83 = .ok (.iinc 5 (-1), 3) := by decide +kernel
theorem dX10_cleft_86 : decode cX10_cleft 86 = .ok (.goto (-53), 3) := by decide +kernel
theorem dX10_cleft_89 : decode cX10_cleft 89 = .ok (.iload 4, 2) := by decide +kernel
theorem dX10_cleft_91 : decode cX10_cleft 91 = .ok (.ireturn, 1) := by decide +kernel
theorem dX10_misses_0 : decode cX10_misses 0 = .ok (.aload_n 0, 1) := by decide +kernel
theorem dX10_misses_1 : decode cX10_misses 1 = .ok (.iload_n 1, 1) := by decide +kernel
theorem dX10_misses_2 : decode cX10_misses 2 = .ok (.invokevirtual 174, 3) := by decide +kernel
theorem dX10_misses_5 : decode cX10_misses 5 = .ok (.istore_n 3, 1) := by decide +kernel
theorem dX10_misses_6 : decode cX10_misses 6 = .ok (.iload_n 3, 1) := by decide +kernel
theorem dX10_misses_7 : decode cX10_misses 7 = .ok (.ifCond .eq 6, 3) := by decide +kernel
theorem dX10_misses_10 : decode cX10_misses 10 = .ok (.iload_n 3, 1) := by decide +kernel
theorem dX10_misses_11 : decode cX10_misses 11 = .ok (.i2l, 1) := by decide +kernel
theorem dX10_misses_12 : decode cX10_misses 12 = .ok (.lreturn, 1) := by decide +kernel
theorem dX10_misses_13 : decode cX10_misses 13 = .ok (.iload_n 2, 1) := by decide +kernel
theorem dX10_misses_14 : decode cX10_misses 14 = .ok (.iconst 1, 1) := by decide +kernel
theorem dX10_misses_15 : decode cX10_misses 15 = .ok (.aload_n 0, 1) := by decide +kernel
theorem dX10_misses_16 : decode cX10_misses 16 = .ok (.getfield 89, 3) := by decide +kernel
theorem dX10_misses_19 : decode cX10_misses 19 = .ok (.bipush 7, 2) := by decide +kernel
theorem dX10_misses_21 : decode cX10_misses 21 = .ok (.idiv, 1) := by decide +kernel
theorem dX10_misses_22 : decode cX10_misses 22 = .ok (.iconst 1, 1) := by decide +kernel
theorem dX10_misses_23 : decode cX10_misses 23 = .ok (.isub, 1) := by decide +kernel
theorem dX10_misses_24 : decode cX10_misses 24 = .ok (.invokestatic 85, 3) := by decide +kernel
theorem dX10_misses_27 : decode cX10_misses 27 = .ok (.ifCond .ne 7, 3) := by decide +kernel
theorem dX10_misses_30 : decode cX10_misses 30 = .ok (.ldc2_w 172, 3) := by decide +kernel
theorem dX10_misses_33 : decode cX10_misses 33 = .ok (.lreturn, 1) := by decide +kernel
theorem dX10_misses_34 : decode cX10_misses 34 = .ok (.aload_n 0, 1) := by decide +kernel
theorem dX10_misses_35 : decode cX10_misses 35 = .ok (.iload_n 1, 1) := by decide +kernel
theorem dX10_misses_36 : decode cX10_misses 36 = .ok (.invokevirtual 181, 3) := by decide +kernel
theorem dX10_misses_39 : decode cX10_misses 39 = .ok (.aload_n 0, 1) := by decide +kernel
theorem dX10_misses_40 : decode cX10_misses 40 = .ok (.iconst 0, 1) := by decide +kernel
theorem dX10_misses_41 : decode cX10_misses 41 = .ok (.iload_n 2, 1) := by decide +kernel
theorem dX10_misses_42 : decode cX10_misses 42 = .ok (.invokevirtual 185, 3) := by decide +kernel
theorem dX10_misses_45 : decode cX10_misses 45 = .ok (.aload_n 0, 1) := by decide +kernel
theorem dX10_misses_46 : decode cX10_misses 46 = .ok (.iload_n 2, 1) := by decide +kernel
theorem dX10_misses_47 : decode cX10_misses 47 = .ok (.aload_n 0, 1) := by decide +kernel
theorem dX10_misses_48 : decode cX10_misses 48 = .ok (.getfield 89, 3) := by decide +kernel
theorem dX10_misses_51 : decode cX10_misses 51 = .ok (.bipush 7, 2) := by decide +kernel
theorem dX10_misses_53 : decode cX10_misses 53 = .ok (.idiv, 1) := by decide +kernel
theorem dX10_misses_54 : decode cX10_misses 54 = .ok (.invokevirtual 185, 3) := by decide +kernel
theorem dX10_misses_57 : decode cX10_misses 57 = .ok (.ladd, 1) := by decide +kernel
theorem dX10_misses_58 : decode cX10_misses 58 = .ok (.lreturn, 1) := by decide +kernel
theorem dJ9_abs_0f7a4_0 : decode cJ9_abs_0f7a4 0 = .ok (.iload_n 0, 1) := by decide +kernel
theorem dJ9_abs_0f7a4_1 : decode cJ9_abs_0f7a4 1 = .ok (.ifCond .ge 8, 3) := by decide +kernel
theorem dJ9_abs_0f7a4_4 : decode cJ9_abs_0f7a4 4 = .ok (.iload_n 0, 1) := by decide +kernel
theorem dJ9_abs_0f7a4_5 : decode cJ9_abs_0f7a4 5 = .ok (.ineg, 1) := by decide +kernel
theorem dJ9_abs_0f7a4_6 : decode cJ9_abs_0f7a4 6 = .ok (.goto 4, 3) := by decide +kernel
theorem dJ9_abs_0f7a4_9 : decode cJ9_abs_0f7a4 9 = .ok (.iload_n 0, 1) := by decide +kernel
theorem dJ9_abs_0f7a4_10 : decode cJ9_abs_0f7a4 10 = .ok (.ireturn, 1) := by decide +kernel
theorem dJ9_abs_067f4_0 : decode cJ9_abs_067f4 0 = .ok (.lload_n 0, 1) := by decide +kernel
theorem dJ9_abs_067f4_1 : decode cJ9_abs_067f4 1 = .ok (.lconst 0, 1) := by decide +kernel
theorem dJ9_abs_067f4_2 : decode cJ9_abs_067f4 2 = .ok (.lcmp, 1) := by decide +kernel
theorem dJ9_abs_067f4_3 : decode cJ9_abs_067f4 3 = .ok (.ifCond .ge 8, 3) := by decide +kernel
theorem dJ9_abs_067f4_6 : decode cJ9_abs_067f4 6 = .ok (.lload_n 0, 1) := by decide +kernel
theorem dJ9_abs_067f4_7 : decode cJ9_abs_067f4 7 = .ok (.lneg, 1) := by decide +kernel
theorem dJ9_abs_067f4_8 : decode cJ9_abs_067f4 8 = .ok (.goto 4, 3) := by decide +kernel
theorem dJ9_abs_067f4_11 : decode cJ9_abs_067f4 11 = .ok (.lload_n 0, 1) := by decide +kernel
theorem dJ9_abs_067f4_12 : decode cJ9_abs_067f4 12 = .ok (.lreturn, 1) := by decide +kernel
theorem dJ9_max_7cf53_0 : decode cJ9_max_7cf53 0 = .ok (.iload_n 0, 1) := by decide +kernel
theorem dJ9_max_7cf53_1 : decode cJ9_max_7cf53 1 = .ok (.iload_n 1, 1) := by decide +kernel
theorem dJ9_max_7cf53_2 : decode cJ9_max_7cf53 2 = .ok (.if_icmp .lt 7, 3) := by decide +kernel
theorem dJ9_max_7cf53_5 : decode cJ9_max_7cf53 5 = .ok (.iload_n 0, 1) := by decide +kernel
theorem dJ9_max_7cf53_6 : decode cJ9_max_7cf53 6 = .ok (.goto 4, 3) := by decide +kernel
theorem dJ9_max_7cf53_9 : decode cJ9_max_7cf53 9 = .ok (.iload_n 1, 1) := by decide +kernel
theorem dJ9_max_7cf53_10 : decode cJ9_max_7cf53 10 = .ok (.ireturn, 1) := by decide +kernel
theorem dJ9_min_7cf53_0 : decode cJ9_min_7cf53 0 = .ok (.iload_n 0, 1) := by decide +kernel
theorem dJ9_min_7cf53_1 : decode cJ9_min_7cf53 1 = .ok (.iload_n 1, 1) := by decide +kernel
theorem dJ9_min_7cf53_2 : decode cJ9_min_7cf53 2 = .ok (.if_icmp .gt 7, 3) := by decide +kernel
theorem dJ9_min_7cf53_5 : decode cJ9_min_7cf53 5 = .ok (.iload_n 0, 1) := by decide +kernel
theorem dJ9_min_7cf53_6 : decode cJ9_min_7cf53 6 = .ok (.goto 4, 3) := by decide +kernel
theorem dJ9_min_7cf53_9 : decode cJ9_min_7cf53 9 = .ok (.iload_n 1, 1) := by decide +kernel
theorem dJ9_min_7cf53_10 : decode cJ9_min_7cf53 10 = .ok (.ireturn, 1) := by decide +kernel
theorem dJ7_fill_53178_0 : decode cJ7_fill_53178 0 = .ok (.iconst 0, 1) := by decide +kernel
theorem dJ7_fill_53178_1 : decode cJ7_fill_53178 1 = .ok (.istore_n 2, 1) := by decide +kernel
theorem dJ7_fill_53178_2 : decode cJ7_fill_53178 2 = .ok (.aload_n 0, 1) := by decide +kernel
theorem dJ7_fill_53178_3 : decode cJ7_fill_53178 3 = .ok (.arraylength, 1) := by decide +kernel
theorem dJ7_fill_53178_4 : decode cJ7_fill_53178 4 = .ok (.istore_n 3, 1) := by decide +kernel
theorem dJ7_fill_53178_5 : decode cJ7_fill_53178 5 = .ok (.iload_n 2, 1) := by decide +kernel
theorem dJ7_fill_53178_6 : decode cJ7_fill_53178 6 = .ok (.iload_n 3, 1) := by decide +kernel
theorem dJ7_fill_53178_7 : decode cJ7_fill_53178 7 = .ok (.if_icmp .ge 13, 3) := by decide +kernel
theorem dJ7_fill_53178_10 : decode cJ7_fill_53178 10 = .ok (.aload_n 0, 1) := by decide +kernel
theorem dJ7_fill_53178_11 : decode cJ7_fill_53178 11 = .ok (.iload_n 2, 1) := by decide +kernel
theorem dJ7_fill_53178_12 : decode cJ7_fill_53178 12 = .ok (.iload_n 1, 1) := by decide +kernel
theorem dJ7_fill_53178_13 : decode cJ7_fill_53178 13 = .ok (.iastore, 1) := by decide +kernel
theorem dJ7_fill_53178_14 : decode cJ7_fill_53178 14 = .ok (.iinc 2 1, 3) := by decide +kernel
theorem dJ7_fill_53178_17 : decode cJ7_fill_53178 17 = .ok (.goto (-12), 3) := by decide +kernel
theorem dJ7_fill_53178_20 : decode cJ7_fill_53178 20 = .ok (.return_, 1) := by decide +kernel
theorem dL_law_0 : decode cL_law 0 = .ok (.new 7, 3) := by decide +kernel
theorem dL_law_3 : decode cL_law 3 = .ok (.dup, 1) := by decide +kernel
theorem dL_law_4 : decode cL_law 4 = .ok (.invokespecial 9, 3) := by decide +kernel
theorem dL_law_7 : decode cL_law 7 = .ok (.astore_n 1, 1) := by decide +kernel
theorem dL_law_8 : decode cL_law 8 = .ok (.new 10, 3) := by decide +kernel
theorem dL_law_11 : decode cL_law 11 = .ok (.dup, 1) := by decide +kernel
theorem dL_law_12 : decode cL_law 12 = .ok (.invokespecial 12, 3) := by decide +kernel
theorem dL_law_15 : decode cL_law 15 = .ok (.astore_n 2, 1) := by decide +kernel
theorem dL_law_16 : decode cL_law 16 = .ok (.iconst 0, 1) := by decide +kernel
theorem dL_law_17 : decode cL_law 17 = .ok (.istore_n 3, 1) := by decide +kernel
theorem dL_law_18 : decode cL_law 18 = .ok (.iload_n 3, 1) := by decide +kernel
theorem dL_law_19 : decode cL_law 19 = .ok (.aload_n 0, 1) := by decide +kernel
theorem dL_law_20 : decode cL_law 20 = .ok (.arraylength, 1) := by decide +kernel
theorem dL_law_21 : decode cL_law 21 = .ok (.bipush 6, 2) := by decide +kernel
theorem dL_law_23 : decode cL_law 23 = .ok (.isub, 1) := by decide +kernel
theorem dL_law_24 : decode cL_law 24 = .ok (.if_icmp .gt 1117, 3) := by decide +kernel
theorem dL_law_27 : decode cL_law 27 = .ok (.aload_n 0, 1) := by decide +kernel
theorem dL_law_28 : decode cL_law 28 = .ok (.iload_n 3, 1) := by decide +kernel
theorem dL_law_29 : decode cL_law 29 = .ok (.iaload, 1) := by decide +kernel
theorem dL_law_30 : decode cL_law 30 = .ok (.bipush 31, 2) := by decide +kernel
theorem dL_law_32 : decode cL_law 32 = .ok (.iand, 1) := by decide +kernel
theorem dL_law_33 : decode cL_law 33 = .ok (.tableswitch 1102 0 26 #[123, 186, 209, 242, 275, 308, 341, 374, 417, 430, 443, 476, 509, 552, 585, 618, 651, 694, 737, 770, 839, 872, 905, 939, 1002, 1045, 1068], 123) := by decide +kernel
theorem dL_law_156 : decode cL_law 156 = .ok (.aload_n 1, 1) := by decide +kernel
theorem dL_law_157 : decode cL_law 157 = .ok (.aload_n 0, 1) := by decide +kernel
theorem dL_law_158 : decode cL_law 158 = .ok (.iload_n 3, 1) := by decide +kernel
theorem dL_law_159 : decode cL_law 159 = .ok (.iconst 1, 1) := by decide +kernel
theorem dL_law_160 : decode cL_law 160 = .ok (.iadd, 1) := by decide +kernel
theorem dL_law_161 : decode cL_law 161 = .ok (.iaload, 1) := by decide +kernel
theorem dL_law_162 : decode cL_law 162 = .ok (.aload_n 0, 1) := by decide +kernel
theorem dL_law_163 : decode cL_law 163 = .ok (.iload_n 3, 1) := by decide +kernel
theorem dL_law_164 : decode cL_law 164 = .ok (.iconst 2, 1) := by decide +kernel
theorem dL_law_165 : decode cL_law 165 = .ok (.iadd, 1) := by decide +kernel
theorem dL_law_166 : decode cL_law 166 = .ok (.iaload, 1) := by decide +kernel
theorem dL_law_167 : decode cL_law 167 = .ok (.aload_n 0, 1) := by decide +kernel
theorem dL_law_168 : decode cL_law 168 = .ok (.iload_n 3, 1) := by decide +kernel
theorem dL_law_169 : decode cL_law 169 = .ok (.iconst 3, 1) := by decide +kernel
theorem dL_law_170 : decode cL_law 170 = .ok (.iadd, 1) := by decide +kernel
theorem dL_law_171 : decode cL_law 171 = .ok (.iaload, 1) := by decide +kernel
theorem dL_law_172 : decode cL_law 172 = .ok (.aload_n 0, 1) := by decide +kernel
theorem dL_law_173 : decode cL_law 173 = .ok (.iload_n 3, 1) := by decide +kernel
theorem dL_law_174 : decode cL_law 174 = .ok (.iconst 4, 1) := by decide +kernel
theorem dL_law_175 : decode cL_law 175 = .ok (.iadd, 1) := by decide +kernel
theorem dL_law_176 : decode cL_law 176 = .ok (.iaload, 1) := by decide +kernel
theorem dL_law_177 : decode cL_law 177 = .ok (.aload_n 0, 1) := by decide +kernel
theorem dL_law_178 : decode cL_law 178 = .ok (.iload_n 3, 1) := by decide +kernel
theorem dL_law_179 : decode cL_law 179 = .ok (.iconst 5, 1) := by decide +kernel
theorem dL_law_180 : decode cL_law 180 = .ok (.iadd, 1) := by decide +kernel
theorem dL_law_181 : decode cL_law 181 = .ok (.iaload, 1) := by decide +kernel
theorem dL_law_182 : decode cL_law 182 = .ok (.invokevirtual 13, 3) := by decide +kernel
theorem dL_law_185 : decode cL_law 185 = .ok (.aload_n 2, 1) := by decide +kernel
theorem dL_law_186 : decode cL_law 186 = .ok (.aload_n 0, 1) := by decide +kernel
theorem dL_law_187 : decode cL_law 187 = .ok (.iload_n 3, 1) := by decide +kernel
theorem dL_law_188 : decode cL_law 188 = .ok (.iconst 1, 1) := by decide +kernel
theorem dL_law_189 : decode cL_law 189 = .ok (.iadd, 1) := by decide +kernel
theorem dL_law_190 : decode cL_law 190 = .ok (.iaload, 1) := by decide +kernel
theorem dL_law_191 : decode cL_law 191 = .ok (.aload_n 0, 1) := by decide +kernel
theorem dL_law_192 : decode cL_law 192 = .ok (.iload_n 3, 1) := by decide +kernel
theorem dL_law_193 : decode cL_law 193 = .ok (.iconst 2, 1) := by decide +kernel
theorem dL_law_194 : decode cL_law 194 = .ok (.iadd, 1) := by decide +kernel
theorem dL_law_195 : decode cL_law 195 = .ok (.iaload, 1) := by decide +kernel
theorem dL_law_196 : decode cL_law 196 = .ok (.aload_n 0, 1) := by decide +kernel
theorem dL_law_197 : decode cL_law 197 = .ok (.iload_n 3, 1) := by decide +kernel
theorem dL_law_198 : decode cL_law 198 = .ok (.iconst 3, 1) := by decide +kernel
theorem dL_law_199 : decode cL_law 199 = .ok (.iadd, 1) := by decide +kernel
theorem dL_law_200 : decode cL_law 200 = .ok (.iaload, 1) := by decide +kernel
theorem dL_law_201 : decode cL_law 201 = .ok (.aload_n 0, 1) := by decide +kernel
theorem dL_law_202 : decode cL_law 202 = .ok (.iload_n 3, 1) := by decide +kernel
theorem dL_law_203 : decode cL_law 203 = .ok (.iconst 4, 1) := by decide +kernel
theorem dL_law_204 : decode cL_law 204 = .ok (.iadd, 1) := by decide +kernel
theorem dL_law_205 : decode cL_law 205 = .ok (.iaload, 1) := by decide +kernel
theorem dL_law_206 : decode cL_law 206 = .ok (.aload_n 0, 1) := by decide +kernel
theorem dL_law_207 : decode cL_law 207 = .ok (.iload_n 3, 1) := by decide +kernel
theorem dL_law_208 : decode cL_law 208 = .ok (.iconst 5, 1) := by decide +kernel
theorem dL_law_209 : decode cL_law 209 = .ok (.iadd, 1) := by decide +kernel
theorem dL_law_210 : decode cL_law 210 = .ok (.iaload, 1) := by decide +kernel
theorem dL_law_211 : decode cL_law 211 = .ok (.invokevirtual 17, 3) := by decide +kernel
theorem dL_law_214 : decode cL_law 214 = .ok (.if_icmp .eq 921, 3) := by decide +kernel
theorem dL_law_217 : decode cL_law 217 = .ok (.iconst 0, 1) := by decide +kernel
theorem dL_law_218 : decode cL_law 218 = .ok (.ireturn, 1) := by decide +kernel
theorem dL_law_219 : decode cL_law 219 = .ok (.aload_n 1, 1) := by decide +kernel
theorem dL_law_220 : decode cL_law 220 = .ok (.aload_n 0, 1) := by decide +kernel
theorem dL_law_221 : decode cL_law 221 = .ok (.iload_n 3, 1) := by decide +kernel
theorem dL_law_222 : decode cL_law 222 = .ok (.iconst 1, 1) := by decide +kernel
theorem dL_law_223 : decode cL_law 223 = .ok (.iadd, 1) := by decide +kernel
theorem dL_law_224 : decode cL_law 224 = .ok (.iaload, 1) := by decide +kernel
theorem dL_law_225 : decode cL_law 225 = .ok (.invokevirtual 18, 3) := by decide +kernel
theorem dL_law_228 : decode cL_law 228 = .ok (.aload_n 2, 1) := by decide +kernel
theorem dL_law_229 : decode cL_law 229 = .ok (.aload_n 0, 1) := by decide +kernel
theorem dL_law_230 : decode cL_law 230 = .ok (.iload_n 3, 1) := by decide +kernel
theorem dL_law_231 : decode cL_law 231 = .ok (.iconst 1, 1) := by decide +kernel
theorem dL_law_232 : decode cL_law 232 = .ok (.iadd, 1) := by decide +kernel
theorem dL_law_233 : decode cL_law 233 = .ok (.iaload, 1) := by decide +kernel
theorem dL_law_234 : decode cL_law 234 = .ok (.invokevirtual 22, 3) := by decide +kernel
theorem dL_law_237 : decode cL_law 237 = .ok (.if_icmp .eq 898, 3) := by decide +kernel
theorem dL_law_240 : decode cL_law 240 = .ok (.iconst 0, 1) := by decide +kernel
theorem dL_law_241 : decode cL_law 241 = .ok (.ireturn, 1) := by decide +kernel
theorem dL_law_242 : decode cL_law 242 = .ok (.aload_n 1, 1) := by decide +kernel
theorem dL_law_243 : decode cL_law 243 = .ok (.aload_n 0, 1) := by decide +kernel
theorem dL_law_244 : decode cL_law 244 = .ok (.iload_n 3, 1) := by decide +kernel
theorem dL_law_245 : decode cL_law 245 = .ok (.iconst 1, 1) := by decide +kernel
theorem dL_law_246 : decode cL_law 246 = .ok (.iadd, 1) := by decide +kernel
theorem dL_law_247 : decode cL_law 247 = .ok (.iaload, 1) := by decide +kernel
theorem dL_law_248 : decode cL_law 248 = .ok (.aload_n 0, 1) := by decide +kernel
theorem dL_law_249 : decode cL_law 249 = .ok (.iload_n 3, 1) := by decide +kernel
theorem dL_law_250 : decode cL_law 250 = .ok (.iconst 2, 1) := by decide +kernel
theorem dL_law_251 : decode cL_law 251 = .ok (.iadd, 1) := by decide +kernel
theorem dL_law_252 : decode cL_law 252 = .ok (.iaload, 1) := by decide +kernel
theorem dL_law_253 : decode cL_law 253 = .ok (.invokevirtual 23, 3) := by decide +kernel
theorem dL_law_256 : decode cL_law 256 = .ok (.aload_n 2, 1) := by decide +kernel
theorem dL_law_257 : decode cL_law 257 = .ok (.aload_n 0, 1) := by decide +kernel
theorem dL_law_258 : decode cL_law 258 = .ok (.iload_n 3, 1) := by decide +kernel
theorem dL_law_259 : decode cL_law 259 = .ok (.iconst 1, 1) := by decide +kernel
theorem dL_law_260 : decode cL_law 260 = .ok (.iadd, 1) := by decide +kernel
theorem dL_law_261 : decode cL_law 261 = .ok (.iaload, 1) := by decide +kernel
theorem dL_law_262 : decode cL_law 262 = .ok (.aload_n 0, 1) := by decide +kernel
theorem dL_law_263 : decode cL_law 263 = .ok (.iload_n 3, 1) := by decide +kernel
theorem dL_law_264 : decode cL_law 264 = .ok (.iconst 2, 1) := by decide +kernel
theorem dL_law_265 : decode cL_law 265 = .ok (.iadd, 1) := by decide +kernel
theorem dL_law_266 : decode cL_law 266 = .ok (.iaload, 1) := by decide +kernel
theorem dL_law_267 : decode cL_law 267 = .ok (.invokevirtual 27, 3) := by decide +kernel
theorem dL_law_270 : decode cL_law 270 = .ok (.if_icmp .eq 865, 3) := by decide +kernel
theorem dL_law_273 : decode cL_law 273 = .ok (.iconst 0, 1) := by decide +kernel
theorem dL_law_274 : decode cL_law 274 = .ok (.ireturn, 1) := by decide +kernel
theorem dL_law_275 : decode cL_law 275 = .ok (.aload_n 1, 1) := by decide +kernel
theorem dL_law_276 : decode cL_law 276 = .ok (.aload_n 0, 1) := by decide +kernel
theorem dL_law_277 : decode cL_law 277 = .ok (.iload_n 3, 1) := by decide +kernel
theorem dL_law_278 : decode cL_law 278 = .ok (.iconst 1, 1) := by decide +kernel
theorem dL_law_279 : decode cL_law 279 = .ok (.iadd, 1) := by decide +kernel
theorem dL_law_280 : decode cL_law 280 = .ok (.iaload, 1) := by decide +kernel
theorem dL_law_281 : decode cL_law 281 = .ok (.aload_n 0, 1) := by decide +kernel
theorem dL_law_282 : decode cL_law 282 = .ok (.iload_n 3, 1) := by decide +kernel
theorem dL_law_283 : decode cL_law 283 = .ok (.iconst 2, 1) := by decide +kernel
theorem dL_law_284 : decode cL_law 284 = .ok (.iadd, 1) := by decide +kernel
theorem dL_law_285 : decode cL_law 285 = .ok (.iaload, 1) := by decide +kernel
theorem dL_law_286 : decode cL_law 286 = .ok (.invokevirtual 28, 3) := by decide +kernel
theorem dL_law_289 : decode cL_law 289 = .ok (.aload_n 2, 1) := by decide +kernel
theorem dL_law_290 : decode cL_law 290 = .ok (.aload_n 0, 1) := by decide +kernel
theorem dL_law_291 : decode cL_law 291 = .ok (.iload_n 3, 1) := by decide +kernel
theorem dL_law_292 : decode cL_law 292 = .ok (.iconst 1, 1) := by decide +kernel
theorem dL_law_293 : decode cL_law 293 = .ok (.iadd, 1) := by decide +kernel
theorem dL_law_294 : decode cL_law 294 = .ok (.iaload, 1) := by decide +kernel
theorem dL_law_295 : decode cL_law 295 = .ok (.aload_n 0, 1) := by decide +kernel
theorem dL_law_296 : decode cL_law 296 = .ok (.iload_n 3, 1) := by decide +kernel
theorem dL_law_297 : decode cL_law 297 = .ok (.iconst 2, 1) := by decide +kernel
theorem dL_law_298 : decode cL_law 298 = .ok (.iadd, 1) := by decide +kernel
theorem dL_law_299 : decode cL_law 299 = .ok (.iaload, 1) := by decide +kernel
theorem dL_law_300 : decode cL_law 300 = .ok (.invokevirtual 31, 3) := by decide +kernel
theorem dL_law_303 : decode cL_law 303 = .ok (.if_icmp .eq 832, 3) := by decide +kernel
theorem dL_law_306 : decode cL_law 306 = .ok (.iconst 0, 1) := by decide +kernel
theorem dL_law_307 : decode cL_law 307 = .ok (.ireturn, 1) := by decide +kernel
theorem dL_law_308 : decode cL_law 308 = .ok (.aload_n 1, 1) := by decide +kernel
theorem dL_law_309 : decode cL_law 309 = .ok (.aload_n 0, 1) := by decide +kernel
theorem dL_law_310 : decode cL_law 310 = .ok (.iload_n 3, 1) := by decide +kernel
theorem dL_law_311 : decode cL_law 311 = .ok (.iconst 1, 1) := by decide +kernel
theorem dL_law_312 : decode cL_law 312 = .ok (.iadd, 1) := by decide +kernel
theorem dL_law_313 : decode cL_law 313 = .ok (.iaload, 1) := by decide +kernel
theorem dL_law_314 : decode cL_law 314 = .ok (.aload_n 0, 1) := by decide +kernel
theorem dL_law_315 : decode cL_law 315 = .ok (.iload_n 3, 1) := by decide +kernel
theorem dL_law_316 : decode cL_law 316 = .ok (.iconst 2, 1) := by decide +kernel
theorem dL_law_317 : decode cL_law 317 = .ok (.iadd, 1) := by decide +kernel
theorem dL_law_318 : decode cL_law 318 = .ok (.iaload, 1) := by decide +kernel
theorem dL_law_319 : decode cL_law 319 = .ok (.invokevirtual 32, 3) := by decide +kernel
theorem dL_law_322 : decode cL_law 322 = .ok (.aload_n 2, 1) := by decide +kernel
theorem dL_law_323 : decode cL_law 323 = .ok (.aload_n 0, 1) := by decide +kernel
theorem dL_law_324 : decode cL_law 324 = .ok (.iload_n 3, 1) := by decide +kernel
theorem dL_law_325 : decode cL_law 325 = .ok (.iconst 1, 1) := by decide +kernel
theorem dL_law_326 : decode cL_law 326 = .ok (.iadd, 1) := by decide +kernel
theorem dL_law_327 : decode cL_law 327 = .ok (.iaload, 1) := by decide +kernel
theorem dL_law_328 : decode cL_law 328 = .ok (.aload_n 0, 1) := by decide +kernel
theorem dL_law_329 : decode cL_law 329 = .ok (.iload_n 3, 1) := by decide +kernel
theorem dL_law_330 : decode cL_law 330 = .ok (.iconst 2, 1) := by decide +kernel
theorem dL_law_331 : decode cL_law 331 = .ok (.iadd, 1) := by decide +kernel
theorem dL_law_332 : decode cL_law 332 = .ok (.iaload, 1) := by decide +kernel
theorem dL_law_333 : decode cL_law 333 = .ok (.invokevirtual 35, 3) := by decide +kernel
theorem dL_law_336 : decode cL_law 336 = .ok (.if_icmp .eq 799, 3) := by decide +kernel
theorem dL_law_339 : decode cL_law 339 = .ok (.iconst 0, 1) := by decide +kernel
theorem dL_law_340 : decode cL_law 340 = .ok (.ireturn, 1) := by decide +kernel
theorem dL_law_341 : decode cL_law 341 = .ok (.aload_n 1, 1) := by decide +kernel
theorem dL_law_342 : decode cL_law 342 = .ok (.aload_n 0, 1) := by decide +kernel
theorem dL_law_343 : decode cL_law 343 = .ok (.iload_n 3, 1) := by decide +kernel
theorem dL_law_344 : decode cL_law 344 = .ok (.iconst 1, 1) := by decide +kernel
theorem dL_law_345 : decode cL_law 345 = .ok (.iadd, 1) := by decide +kernel
theorem dL_law_346 : decode cL_law 346 = .ok (.iaload, 1) := by decide +kernel
theorem dL_law_347 : decode cL_law 347 = .ok (.aload_n 0, 1) := by decide +kernel
theorem dL_law_348 : decode cL_law 348 = .ok (.iload_n 3, 1) := by decide +kernel
theorem dL_law_349 : decode cL_law 349 = .ok (.iconst 2, 1) := by decide +kernel
theorem dL_law_350 : decode cL_law 350 = .ok (.iadd, 1) := by decide +kernel
theorem dL_law_351 : decode cL_law 351 = .ok (.iaload, 1) := by decide +kernel
theorem dL_law_352 : decode cL_law 352 = .ok (.invokevirtual 36, 3) := by decide +kernel
theorem dL_law_355 : decode cL_law 355 = .ok (.aload_n 2, 1) := by decide +kernel
theorem dL_law_356 : decode cL_law 356 = .ok (.aload_n 0, 1) := by decide +kernel
theorem dL_law_357 : decode cL_law 357 = .ok (.iload_n 3, 1) := by decide +kernel
theorem dL_law_358 : decode cL_law 358 = .ok (.iconst 1, 1) := by decide +kernel
theorem dL_law_359 : decode cL_law 359 = .ok (.iadd, 1) := by decide +kernel
theorem dL_law_360 : decode cL_law 360 = .ok (.iaload, 1) := by decide +kernel
theorem dL_law_361 : decode cL_law 361 = .ok (.aload_n 0, 1) := by decide +kernel
theorem dL_law_362 : decode cL_law 362 = .ok (.iload_n 3, 1) := by decide +kernel
theorem dL_law_363 : decode cL_law 363 = .ok (.iconst 2, 1) := by decide +kernel
theorem dL_law_364 : decode cL_law 364 = .ok (.iadd, 1) := by decide +kernel
theorem dL_law_365 : decode cL_law 365 = .ok (.iaload, 1) := by decide +kernel
theorem dL_law_366 : decode cL_law 366 = .ok (.invokevirtual 39, 3) := by decide +kernel
theorem dL_law_369 : decode cL_law 369 = .ok (.if_icmp .eq 766, 3) := by decide +kernel
theorem dL_law_372 : decode cL_law 372 = .ok (.iconst 0, 1) := by decide +kernel
theorem dL_law_373 : decode cL_law 373 = .ok (.ireturn, 1) := by decide +kernel
theorem dL_law_374 : decode cL_law 374 = .ok (.aload_n 1, 1) := by decide +kernel
theorem dL_law_375 : decode cL_law 375 = .ok (.aload_n 0, 1) := by decide +kernel
theorem dL_law_376 : decode cL_law 376 = .ok (.iload_n 3, 1) := by decide +kernel
theorem dL_law_377 : decode cL_law 377 = .ok (.iconst 1, 1) := by decide +kernel
theorem dL_law_378 : decode cL_law 378 = .ok (.iadd, 1) := by decide +kernel
theorem dL_law_379 : decode cL_law 379 = .ok (.iaload, 1) := by decide +kernel
theorem dL_law_380 : decode cL_law 380 = .ok (.aload_n 0, 1) := by decide +kernel
theorem dL_law_381 : decode cL_law 381 = .ok (.iload_n 3, 1) := by decide +kernel
theorem dL_law_382 : decode cL_law 382 = .ok (.iconst 2, 1) := by decide +kernel
theorem dL_law_383 : decode cL_law 383 = .ok (.iadd, 1) := by decide +kernel
theorem dL_law_384 : decode cL_law 384 = .ok (.iaload, 1) := by decide +kernel
theorem dL_law_385 : decode cL_law 385 = .ok (.invokevirtual 40, 3) := by decide +kernel
theorem dL_law_388 : decode cL_law 388 = .ok (.aload_n 2, 1) := by decide +kernel
theorem dL_law_389 : decode cL_law 389 = .ok (.aload_n 0, 1) := by decide +kernel
theorem dL_law_390 : decode cL_law 390 = .ok (.iload_n 3, 1) := by decide +kernel
theorem dL_law_391 : decode cL_law 391 = .ok (.iconst 1, 1) := by decide +kernel
theorem dL_law_392 : decode cL_law 392 = .ok (.iadd, 1) := by decide +kernel
theorem dL_law_393 : decode cL_law 393 = .ok (.iaload, 1) := by decide +kernel
theorem dL_law_394 : decode cL_law 394 = .ok (.aload_n 0, 1) := by decide +kernel
theorem dL_law_395 : decode cL_law 395 = .ok (.iload_n 3, 1) := by decide +kernel
theorem dL_law_396 : decode cL_law 396 = .ok (.iconst 2, 1) := by decide +kernel
theorem dL_law_397 : decode cL_law 397 = .ok (.iadd, 1) := by decide +kernel
theorem dL_law_398 : decode cL_law 398 = .ok (.iaload, 1) := by decide +kernel
theorem dL_law_399 : decode cL_law 399 = .ok (.invokevirtual 43, 3) := by decide +kernel
theorem dL_law_402 : decode cL_law 402 = .ok (.if_icmp .eq 733, 3) := by decide +kernel
theorem dL_law_405 : decode cL_law 405 = .ok (.iconst 0, 1) := by decide +kernel
theorem dL_law_406 : decode cL_law 406 = .ok (.ireturn, 1) := by decide +kernel
theorem dL_law_407 : decode cL_law 407 = .ok (.aload_n 1, 1) := by decide +kernel
theorem dL_law_408 : decode cL_law 408 = .ok (.aload_n 0, 1) := by decide +kernel
theorem dL_law_409 : decode cL_law 409 = .ok (.iload_n 3, 1) := by decide +kernel
theorem dL_law_410 : decode cL_law 410 = .ok (.iconst 1, 1) := by decide +kernel
theorem dL_law_411 : decode cL_law 411 = .ok (.iadd, 1) := by decide +kernel
theorem dL_law_412 : decode cL_law 412 = .ok (.iaload, 1) := by decide +kernel
theorem dL_law_413 : decode cL_law 413 = .ok (.aload_n 0, 1) := by decide +kernel
theorem dL_law_414 : decode cL_law 414 = .ok (.iload_n 3, 1) := by decide +kernel
theorem dL_law_415 : decode cL_law 415 = .ok (.iconst 2, 1) := by decide +kernel
theorem dL_law_416 : decode cL_law 416 = .ok (.iadd, 1) := by decide +kernel
theorem dL_law_417 : decode cL_law 417 = .ok (.iaload, 1) := by decide +kernel
theorem dL_law_418 : decode cL_law 418 = .ok (.aload_n 0, 1) := by decide +kernel
theorem dL_law_419 : decode cL_law 419 = .ok (.iload_n 3, 1) := by decide +kernel
theorem dL_law_420 : decode cL_law 420 = .ok (.iconst 3, 1) := by decide +kernel
theorem dL_law_421 : decode cL_law 421 = .ok (.iadd, 1) := by decide +kernel
theorem dL_law_422 : decode cL_law 422 = .ok (.iaload, 1) := by decide +kernel
theorem dL_law_423 : decode cL_law 423 = .ok (.invokevirtual 44, 3) := by decide +kernel
theorem dL_law_426 : decode cL_law 426 = .ok (.aload_n 2, 1) := by decide +kernel
theorem dL_law_427 : decode cL_law 427 = .ok (.aload_n 0, 1) := by decide +kernel
theorem dL_law_428 : decode cL_law 428 = .ok (.iload_n 3, 1) := by decide +kernel
theorem dL_law_429 : decode cL_law 429 = .ok (.iconst 1, 1) := by decide +kernel
theorem dL_law_430 : decode cL_law 430 = .ok (.iadd, 1) := by decide +kernel
theorem dL_law_431 : decode cL_law 431 = .ok (.iaload, 1) := by decide +kernel
theorem dL_law_432 : decode cL_law 432 = .ok (.aload_n 0, 1) := by decide +kernel
theorem dL_law_433 : decode cL_law 433 = .ok (.iload_n 3, 1) := by decide +kernel
theorem dL_law_434 : decode cL_law 434 = .ok (.iconst 2, 1) := by decide +kernel
theorem dL_law_435 : decode cL_law 435 = .ok (.iadd, 1) := by decide +kernel
theorem dL_law_436 : decode cL_law 436 = .ok (.iaload, 1) := by decide +kernel
theorem dL_law_437 : decode cL_law 437 = .ok (.aload_n 0, 1) := by decide +kernel
theorem dL_law_438 : decode cL_law 438 = .ok (.iload_n 3, 1) := by decide +kernel
theorem dL_law_439 : decode cL_law 439 = .ok (.iconst 3, 1) := by decide +kernel
theorem dL_law_440 : decode cL_law 440 = .ok (.iadd, 1) := by decide +kernel
theorem dL_law_441 : decode cL_law 441 = .ok (.iaload, 1) := by decide +kernel
theorem dL_law_442 : decode cL_law 442 = .ok (.invokevirtual 48, 3) := by decide +kernel
theorem dL_law_445 : decode cL_law 445 = .ok (.if_icmp .eq 690, 3) := by decide +kernel
theorem dL_law_448 : decode cL_law 448 = .ok (.iconst 0, 1) := by decide +kernel
theorem dL_law_449 : decode cL_law 449 = .ok (.ireturn, 1) := by decide +kernel
theorem dL_law_450 : decode cL_law 450 = .ok (.aload_n 1, 1) := by decide +kernel
theorem dL_law_451 : decode cL_law 451 = .ok (.invokevirtual 49, 3) := by decide +kernel
theorem dL_law_454 : decode cL_law 454 = .ok (.aload_n 2, 1) := by decide +kernel
theorem dL_law_455 : decode cL_law 455 = .ok (.invokevirtual 53, 3) := by decide +kernel
theorem dL_law_458 : decode cL_law 458 = .ok (.if_icmp .eq 677, 3) := by decide +kernel
theorem dL_law_461 : decode cL_law 461 = .ok (.iconst 0, 1) := by decide +kernel
theorem dL_law_462 : decode cL_law 462 = .ok (.ireturn, 1) := by decide +kernel
theorem dL_law_463 : decode cL_law 463 = .ok (.aload_n 1, 1) := by decide +kernel
theorem dL_law_464 : decode cL_law 464 = .ok (.invokevirtual 54, 3) := by decide +kernel
theorem dL_law_467 : decode cL_law 467 = .ok (.aload_n 2, 1) := by decide +kernel
theorem dL_law_468 : decode cL_law 468 = .ok (.invokevirtual 57, 3) := by decide +kernel
theorem dL_law_471 : decode cL_law 471 = .ok (.if_icmp .eq 664, 3) := by decide +kernel
theorem dL_law_474 : decode cL_law 474 = .ok (.iconst 0, 1) := by decide +kernel
theorem dL_law_475 : decode cL_law 475 = .ok (.ireturn, 1) := by decide +kernel
theorem dL_law_476 : decode cL_law 476 = .ok (.aload_n 1, 1) := by decide +kernel
theorem dL_law_477 : decode cL_law 477 = .ok (.aload_n 0, 1) := by decide +kernel
theorem dL_law_478 : decode cL_law 478 = .ok (.iload_n 3, 1) := by decide +kernel
theorem dL_law_479 : decode cL_law 479 = .ok (.iconst 1, 1) := by decide +kernel
theorem dL_law_480 : decode cL_law 480 = .ok (.iadd, 1) := by decide +kernel
theorem dL_law_481 : decode cL_law 481 = .ok (.iaload, 1) := by decide +kernel
theorem dL_law_482 : decode cL_law 482 = .ok (.aload_n 0, 1) := by decide +kernel
theorem dL_law_483 : decode cL_law 483 = .ok (.iload_n 3, 1) := by decide +kernel
theorem dL_law_484 : decode cL_law 484 = .ok (.iconst 2, 1) := by decide +kernel
theorem dL_law_485 : decode cL_law 485 = .ok (.iadd, 1) := by decide +kernel
theorem dL_law_486 : decode cL_law 486 = .ok (.iaload, 1) := by decide +kernel
theorem dL_law_487 : decode cL_law 487 = .ok (.invokevirtual 58, 3) := by decide +kernel
theorem dL_law_490 : decode cL_law 490 = .ok (.aload_n 2, 1) := by decide +kernel
theorem dL_law_491 : decode cL_law 491 = .ok (.aload_n 0, 1) := by decide +kernel
theorem dL_law_492 : decode cL_law 492 = .ok (.iload_n 3, 1) := by decide +kernel
theorem dL_law_493 : decode cL_law 493 = .ok (.iconst 1, 1) := by decide +kernel
theorem dL_law_494 : decode cL_law 494 = .ok (.iadd, 1) := by decide +kernel
theorem dL_law_495 : decode cL_law 495 = .ok (.iaload, 1) := by decide +kernel
theorem dL_law_496 : decode cL_law 496 = .ok (.aload_n 0, 1) := by decide +kernel
theorem dL_law_497 : decode cL_law 497 = .ok (.iload_n 3, 1) := by decide +kernel
theorem dL_law_498 : decode cL_law 498 = .ok (.iconst 2, 1) := by decide +kernel
theorem dL_law_499 : decode cL_law 499 = .ok (.iadd, 1) := by decide +kernel
theorem dL_law_500 : decode cL_law 500 = .ok (.iaload, 1) := by decide +kernel
theorem dL_law_501 : decode cL_law 501 = .ok (.invokevirtual 62, 3) := by decide +kernel
theorem dL_law_504 : decode cL_law 504 = .ok (.if_icmp .eq 631, 3) := by decide +kernel
theorem dL_law_507 : decode cL_law 507 = .ok (.iconst 0, 1) := by decide +kernel
theorem dL_law_508 : decode cL_law 508 = .ok (.ireturn, 1) := by decide +kernel
theorem dL_law_509 : decode cL_law 509 = .ok (.aload_n 1, 1) := by decide +kernel
theorem dL_law_510 : decode cL_law 510 = .ok (.aload_n 0, 1) := by decide +kernel
theorem dL_law_511 : decode cL_law 511 = .ok (.iload_n 3, 1) := by decide +kernel
theorem dL_law_512 : decode cL_law 512 = .ok (.iconst 1, 1) := by decide +kernel
theorem dL_law_513 : decode cL_law 513 = .ok (.iadd, 1) := by decide +kernel
theorem dL_law_514 : decode cL_law 514 = .ok (.iaload, 1) := by decide +kernel
theorem dL_law_515 : decode cL_law 515 = .ok (.aload_n 0, 1) := by decide +kernel
theorem dL_law_516 : decode cL_law 516 = .ok (.iload_n 3, 1) := by decide +kernel
theorem dL_law_517 : decode cL_law 517 = .ok (.iconst 2, 1) := by decide +kernel
theorem dL_law_518 : decode cL_law 518 = .ok (.iadd, 1) := by decide +kernel
theorem dL_law_519 : decode cL_law 519 = .ok (.iaload, 1) := by decide +kernel
theorem dL_law_520 : decode cL_law 520 = .ok (.invokevirtual 63, 3) := by decide +kernel
theorem dL_law_523 : decode cL_law 523 = .ok (.aload_n 2, 1) := by decide +kernel
theorem dL_law_524 : decode cL_law 524 = .ok (.aload_n 0, 1) := by decide +kernel
theorem dL_law_525 : decode cL_law 525 = .ok (.iload_n 3, 1) := by decide +kernel
theorem dL_law_526 : decode cL_law 526 = .ok (.iconst 1, 1) := by decide +kernel
theorem dL_law_527 : decode cL_law 527 = .ok (.iadd, 1) := by decide +kernel
theorem dL_law_528 : decode cL_law 528 = .ok (.iaload, 1) := by decide +kernel
theorem dL_law_529 : decode cL_law 529 = .ok (.aload_n 0, 1) := by decide +kernel
theorem dL_law_530 : decode cL_law 530 = .ok (.iload_n 3, 1) := by decide +kernel
theorem dL_law_531 : decode cL_law 531 = .ok (.iconst 2, 1) := by decide +kernel
theorem dL_law_532 : decode cL_law 532 = .ok (.iadd, 1) := by decide +kernel
theorem dL_law_533 : decode cL_law 533 = .ok (.iaload, 1) := by decide +kernel
theorem dL_law_534 : decode cL_law 534 = .ok (.invokevirtual 66, 3) := by decide +kernel
theorem dL_law_537 : decode cL_law 537 = .ok (.if_icmp .eq 598, 3) := by decide +kernel
theorem dL_law_540 : decode cL_law 540 = .ok (.iconst 0, 1) := by decide +kernel
theorem dL_law_541 : decode cL_law 541 = .ok (.ireturn, 1) := by decide +kernel
theorem dL_law_542 : decode cL_law 542 = .ok (.aload_n 1, 1) := by decide +kernel
theorem dL_law_543 : decode cL_law 543 = .ok (.aload_n 0, 1) := by decide +kernel
theorem dL_law_544 : decode cL_law 544 = .ok (.iload_n 3, 1) := by decide +kernel
theorem dL_law_545 : decode cL_law 545 = .ok (.iconst 1, 1) := by decide +kernel
theorem dL_law_546 : decode cL_law 546 = .ok (.iadd, 1) := by decide +kernel
theorem dL_law_547 : decode cL_law 547 = .ok (.iaload, 1) := by decide +kernel
theorem dL_law_548 : decode cL_law 548 = .ok (.aload_n 0, 1) := by decide +kernel
theorem dL_law_549 : decode cL_law 549 = .ok (.iload_n 3, 1) := by decide +kernel
theorem dL_law_550 : decode cL_law 550 = .ok (.iconst 2, 1) := by decide +kernel
theorem dL_law_551 : decode cL_law 551 = .ok (.iadd, 1) := by decide +kernel
theorem dL_law_552 : decode cL_law 552 = .ok (.iaload, 1) := by decide +kernel
theorem dL_law_553 : decode cL_law 553 = .ok (.aload_n 0, 1) := by decide +kernel
theorem dL_law_554 : decode cL_law 554 = .ok (.iload_n 3, 1) := by decide +kernel
theorem dL_law_555 : decode cL_law 555 = .ok (.iconst 3, 1) := by decide +kernel
theorem dL_law_556 : decode cL_law 556 = .ok (.iadd, 1) := by decide +kernel
theorem dL_law_557 : decode cL_law 557 = .ok (.iaload, 1) := by decide +kernel
theorem dL_law_558 : decode cL_law 558 = .ok (.invokevirtual 67, 3) := by decide +kernel
theorem dL_law_561 : decode cL_law 561 = .ok (.aload_n 2, 1) := by decide +kernel
theorem dL_law_562 : decode cL_law 562 = .ok (.aload_n 0, 1) := by decide +kernel
theorem dL_law_563 : decode cL_law 563 = .ok (.iload_n 3, 1) := by decide +kernel
theorem dL_law_564 : decode cL_law 564 = .ok (.iconst 1, 1) := by decide +kernel
theorem dL_law_565 : decode cL_law 565 = .ok (.iadd, 1) := by decide +kernel
theorem dL_law_566 : decode cL_law 566 = .ok (.iaload, 1) := by decide +kernel
theorem dL_law_567 : decode cL_law 567 = .ok (.aload_n 0, 1) := by decide +kernel
theorem dL_law_568 : decode cL_law 568 = .ok (.iload_n 3, 1) := by decide +kernel
theorem dL_law_569 : decode cL_law 569 = .ok (.iconst 2, 1) := by decide +kernel
theorem dL_law_570 : decode cL_law 570 = .ok (.iadd, 1) := by decide +kernel
theorem dL_law_571 : decode cL_law 571 = .ok (.iaload, 1) := by decide +kernel
theorem dL_law_572 : decode cL_law 572 = .ok (.aload_n 0, 1) := by decide +kernel
theorem dL_law_573 : decode cL_law 573 = .ok (.iload_n 3, 1) := by decide +kernel
theorem dL_law_574 : decode cL_law 574 = .ok (.iconst 3, 1) := by decide +kernel
theorem dL_law_575 : decode cL_law 575 = .ok (.iadd, 1) := by decide +kernel
theorem dL_law_576 : decode cL_law 576 = .ok (.iaload, 1) := by decide +kernel
theorem dL_law_577 : decode cL_law 577 = .ok (.invokevirtual 70, 3) := by decide +kernel
theorem dL_law_580 : decode cL_law 580 = .ok (.if_icmp .eq 555, 3) := by decide +kernel
theorem dL_law_583 : decode cL_law 583 = .ok (.iconst 0, 1) := by decide +kernel
theorem dL_law_584 : decode cL_law 584 = .ok (.ireturn, 1) := by decide +kernel
theorem dL_law_585 : decode cL_law 585 = .ok (.aload_n 1, 1) := by decide +kernel
theorem dL_law_586 : decode cL_law 586 = .ok (.aload_n 0, 1) := by decide +kernel
theorem dL_law_587 : decode cL_law 587 = .ok (.iload_n 3, 1) := by decide +kernel
theorem dL_law_588 : decode cL_law 588 = .ok (.iconst 1, 1) := by decide +kernel
theorem dL_law_589 : decode cL_law 589 = .ok (.iadd, 1) := by decide +kernel
theorem dL_law_590 : decode cL_law 590 = .ok (.iaload, 1) := by decide +kernel
theorem dL_law_591 : decode cL_law 591 = .ok (.aload_n 0, 1) := by decide +kernel
theorem dL_law_592 : decode cL_law 592 = .ok (.iload_n 3, 1) := by decide +kernel
theorem dL_law_593 : decode cL_law 593 = .ok (.iconst 2, 1) := by decide +kernel
theorem dL_law_594 : decode cL_law 594 = .ok (.iadd, 1) := by decide +kernel
theorem dL_law_595 : decode cL_law 595 = .ok (.iaload, 1) := by decide +kernel
theorem dL_law_596 : decode cL_law 596 = .ok (.invokevirtual 71, 3) := by decide +kernel
theorem dL_law_599 : decode cL_law 599 = .ok (.aload_n 2, 1) := by decide +kernel
theorem dL_law_600 : decode cL_law 600 = .ok (.aload_n 0, 1) := by decide +kernel
theorem dL_law_601 : decode cL_law 601 = .ok (.iload_n 3, 1) := by decide +kernel
theorem dL_law_602 : decode cL_law 602 = .ok (.iconst 1, 1) := by decide +kernel
theorem dL_law_603 : decode cL_law 603 = .ok (.iadd, 1) := by decide +kernel
theorem dL_law_604 : decode cL_law 604 = .ok (.iaload, 1) := by decide +kernel
theorem dL_law_605 : decode cL_law 605 = .ok (.aload_n 0, 1) := by decide +kernel
theorem dL_law_606 : decode cL_law 606 = .ok (.iload_n 3, 1) := by decide +kernel
theorem dL_law_607 : decode cL_law 607 = .ok (.iconst 2, 1) := by decide +kernel
theorem dL_law_608 : decode cL_law 608 = .ok (.iadd, 1) := by decide +kernel
theorem dL_law_609 : decode cL_law 609 = .ok (.iaload, 1) := by decide +kernel
theorem dL_law_610 : decode cL_law 610 = .ok (.invokevirtual 74, 3) := by decide +kernel
theorem dL_law_613 : decode cL_law 613 = .ok (.if_icmp .eq 522, 3) := by decide +kernel
theorem dL_law_616 : decode cL_law 616 = .ok (.iconst 0, 1) := by decide +kernel
theorem dL_law_617 : decode cL_law 617 = .ok (.ireturn, 1) := by decide +kernel
theorem dL_law_618 : decode cL_law 618 = .ok (.aload_n 1, 1) := by decide +kernel
theorem dL_law_619 : decode cL_law 619 = .ok (.aload_n 0, 1) := by decide +kernel
theorem dL_law_620 : decode cL_law 620 = .ok (.iload_n 3, 1) := by decide +kernel
theorem dL_law_621 : decode cL_law 621 = .ok (.iconst 1, 1) := by decide +kernel
theorem dL_law_622 : decode cL_law 622 = .ok (.iadd, 1) := by decide +kernel
theorem dL_law_623 : decode cL_law 623 = .ok (.iaload, 1) := by decide +kernel
theorem dL_law_624 : decode cL_law 624 = .ok (.aload_n 0, 1) := by decide +kernel
theorem dL_law_625 : decode cL_law 625 = .ok (.iload_n 3, 1) := by decide +kernel
theorem dL_law_626 : decode cL_law 626 = .ok (.iconst 2, 1) := by decide +kernel
theorem dL_law_627 : decode cL_law 627 = .ok (.iadd, 1) := by decide +kernel
theorem dL_law_628 : decode cL_law 628 = .ok (.iaload, 1) := by decide +kernel
theorem dL_law_629 : decode cL_law 629 = .ok (.invokevirtual 75, 3) := by decide +kernel
theorem dL_law_632 : decode cL_law 632 = .ok (.aload_n 2, 1) := by decide +kernel
theorem dL_law_633 : decode cL_law 633 = .ok (.aload_n 0, 1) := by decide +kernel
theorem dL_law_634 : decode cL_law 634 = .ok (.iload_n 3, 1) := by decide +kernel
theorem dL_law_635 : decode cL_law 635 = .ok (.iconst 1, 1) := by decide +kernel
theorem dL_law_636 : decode cL_law 636 = .ok (.iadd, 1) := by decide +kernel
theorem dL_law_637 : decode cL_law 637 = .ok (.iaload, 1) := by decide +kernel
theorem dL_law_638 : decode cL_law 638 = .ok (.aload_n 0, 1) := by decide +kernel
theorem dL_law_639 : decode cL_law 639 = .ok (.iload_n 3, 1) := by decide +kernel
theorem dL_law_640 : decode cL_law 640 = .ok (.iconst 2, 1) := by decide +kernel
theorem dL_law_641 : decode cL_law 641 = .ok (.iadd, 1) := by decide +kernel
theorem dL_law_642 : decode cL_law 642 = .ok (.iaload, 1) := by decide +kernel
theorem dL_law_643 : decode cL_law 643 = .ok (.invokevirtual 78, 3) := by decide +kernel
theorem dL_law_646 : decode cL_law 646 = .ok (.if_icmp .eq 489, 3) := by decide +kernel
theorem dL_law_649 : decode cL_law 649 = .ok (.iconst 0, 1) := by decide +kernel
theorem dL_law_650 : decode cL_law 650 = .ok (.ireturn, 1) := by decide +kernel
theorem dL_law_651 : decode cL_law 651 = .ok (.aload_n 1, 1) := by decide +kernel
theorem dL_law_652 : decode cL_law 652 = .ok (.aload_n 0, 1) := by decide +kernel
theorem dL_law_653 : decode cL_law 653 = .ok (.iload_n 3, 1) := by decide +kernel
theorem dL_law_654 : decode cL_law 654 = .ok (.iconst 1, 1) := by decide +kernel
theorem dL_law_655 : decode cL_law 655 = .ok (.iadd, 1) := by decide +kernel
theorem dL_law_656 : decode cL_law 656 = .ok (.iaload, 1) := by decide +kernel
theorem dL_law_657 : decode cL_law 657 = .ok (.aload_n 0, 1) := by decide +kernel
theorem dL_law_658 : decode cL_law 658 = .ok (.iload_n 3, 1) := by decide +kernel
theorem dL_law_659 : decode cL_law 659 = .ok (.iconst 2, 1) := by decide +kernel
theorem dL_law_660 : decode cL_law 660 = .ok (.iadd, 1) := by decide +kernel
theorem dL_law_661 : decode cL_law 661 = .ok (.iaload, 1) := by decide +kernel
theorem dL_law_662 : decode cL_law 662 = .ok (.invokevirtual 79, 3) := by decide +kernel
theorem dL_law_665 : decode cL_law 665 = .ok (.aload_n 2, 1) := by decide +kernel
theorem dL_law_666 : decode cL_law 666 = .ok (.aload_n 0, 1) := by decide +kernel
theorem dL_law_667 : decode cL_law 667 = .ok (.iload_n 3, 1) := by decide +kernel
theorem dL_law_668 : decode cL_law 668 = .ok (.iconst 1, 1) := by decide +kernel
theorem dL_law_669 : decode cL_law 669 = .ok (.iadd, 1) := by decide +kernel
theorem dL_law_670 : decode cL_law 670 = .ok (.iaload, 1) := by decide +kernel
theorem dL_law_671 : decode cL_law 671 = .ok (.aload_n 0, 1) := by decide +kernel
theorem dL_law_672 : decode cL_law 672 = .ok (.iload_n 3, 1) := by decide +kernel
theorem dL_law_673 : decode cL_law 673 = .ok (.iconst 2, 1) := by decide +kernel
theorem dL_law_674 : decode cL_law 674 = .ok (.iadd, 1) := by decide +kernel
theorem dL_law_675 : decode cL_law 675 = .ok (.iaload, 1) := by decide +kernel
theorem dL_law_676 : decode cL_law 676 = .ok (.invokevirtual 82, 3) := by decide +kernel
theorem dL_law_679 : decode cL_law 679 = .ok (.if_icmp .eq 456, 3) := by decide +kernel
theorem dL_law_682 : decode cL_law 682 = .ok (.iconst 0, 1) := by decide +kernel
theorem dL_law_683 : decode cL_law 683 = .ok (.ireturn, 1) := by decide +kernel
theorem dL_law_684 : decode cL_law 684 = .ok (.aload_n 1, 1) := by decide +kernel
theorem dL_law_685 : decode cL_law 685 = .ok (.aload_n 0, 1) := by decide +kernel
theorem dL_law_686 : decode cL_law 686 = .ok (.iload_n 3, 1) := by decide +kernel
theorem dL_law_687 : decode cL_law 687 = .ok (.iconst 1, 1) := by decide +kernel
theorem dL_law_688 : decode cL_law 688 = .ok (.iadd, 1) := by decide +kernel
theorem dL_law_689 : decode cL_law 689 = .ok (.iaload, 1) := by decide +kernel
theorem dL_law_690 : decode cL_law 690 = .ok (.aload_n 0, 1) := by decide +kernel
theorem dL_law_691 : decode cL_law 691 = .ok (.iload_n 3, 1) := by decide +kernel
theorem dL_law_692 : decode cL_law 692 = .ok (.iconst 2, 1) := by decide +kernel
theorem dL_law_693 : decode cL_law 693 = .ok (.iadd, 1) := by decide +kernel
theorem dL_law_694 : decode cL_law 694 = .ok (.iaload, 1) := by decide +kernel
theorem dL_law_695 : decode cL_law 695 = .ok (.aload_n 0, 1) := by decide +kernel
theorem dL_law_696 : decode cL_law 696 = .ok (.iload_n 3, 1) := by decide +kernel
theorem dL_law_697 : decode cL_law 697 = .ok (.iconst 3, 1) := by decide +kernel
theorem dL_law_698 : decode cL_law 698 = .ok (.iadd, 1) := by decide +kernel
theorem dL_law_699 : decode cL_law 699 = .ok (.iaload, 1) := by decide +kernel
theorem dL_law_700 : decode cL_law 700 = .ok (.invokevirtual 83, 3) := by decide +kernel
theorem dL_law_703 : decode cL_law 703 = .ok (.aload_n 2, 1) := by decide +kernel
theorem dL_law_704 : decode cL_law 704 = .ok (.aload_n 0, 1) := by decide +kernel
theorem dL_law_705 : decode cL_law 705 = .ok (.iload_n 3, 1) := by decide +kernel
theorem dL_law_706 : decode cL_law 706 = .ok (.iconst 1, 1) := by decide +kernel
theorem dL_law_707 : decode cL_law 707 = .ok (.iadd, 1) := by decide +kernel
theorem dL_law_708 : decode cL_law 708 = .ok (.iaload, 1) := by decide +kernel
theorem dL_law_709 : decode cL_law 709 = .ok (.aload_n 0, 1) := by decide +kernel
theorem dL_law_710 : decode cL_law 710 = .ok (.iload_n 3, 1) := by decide +kernel
theorem dL_law_711 : decode cL_law 711 = .ok (.iconst 2, 1) := by decide +kernel
theorem dL_law_712 : decode cL_law 712 = .ok (.iadd, 1) := by decide +kernel
theorem dL_law_713 : decode cL_law 713 = .ok (.iaload, 1) := by decide +kernel
theorem dL_law_714 : decode cL_law 714 = .ok (.aload_n 0, 1) := by decide +kernel
theorem dL_law_715 : decode cL_law 715 = .ok (.iload_n 3, 1) := by decide +kernel
theorem dL_law_716 : decode cL_law 716 = .ok (.iconst 3, 1) := by decide +kernel
theorem dL_law_717 : decode cL_law 717 = .ok (.iadd, 1) := by decide +kernel
theorem dL_law_718 : decode cL_law 718 = .ok (.iaload, 1) := by decide +kernel
theorem dL_law_719 : decode cL_law 719 = .ok (.invokevirtual 86, 3) := by decide +kernel
theorem dL_law_722 : decode cL_law 722 = .ok (.if_icmp .eq 413, 3) := by decide +kernel
theorem dL_law_725 : decode cL_law 725 = .ok (.iconst 0, 1) := by decide +kernel
theorem dL_law_726 : decode cL_law 726 = .ok (.ireturn, 1) := by decide +kernel
theorem dL_law_727 : decode cL_law 727 = .ok (.aload_n 1, 1) := by decide +kernel
theorem dL_law_728 : decode cL_law 728 = .ok (.aload_n 0, 1) := by decide +kernel
theorem dL_law_729 : decode cL_law 729 = .ok (.iload_n 3, 1) := by decide +kernel
theorem dL_law_730 : decode cL_law 730 = .ok (.iconst 1, 1) := by decide +kernel
theorem dL_law_731 : decode cL_law 731 = .ok (.iadd, 1) := by decide +kernel
theorem dL_law_732 : decode cL_law 732 = .ok (.iaload, 1) := by decide +kernel
theorem dL_law_733 : decode cL_law 733 = .ok (.aload_n 0, 1) := by decide +kernel
theorem dL_law_734 : decode cL_law 734 = .ok (.iload_n 3, 1) := by decide +kernel
theorem dL_law_735 : decode cL_law 735 = .ok (.iconst 2, 1) := by decide +kernel
theorem dL_law_736 : decode cL_law 736 = .ok (.iadd, 1) := by decide +kernel
theorem dL_law_737 : decode cL_law 737 = .ok (.iaload, 1) := by decide +kernel
theorem dL_law_738 : decode cL_law 738 = .ok (.aload_n 0, 1) := by decide +kernel
theorem dL_law_739 : decode cL_law 739 = .ok (.iload_n 3, 1) := by decide +kernel
theorem dL_law_740 : decode cL_law 740 = .ok (.iconst 3, 1) := by decide +kernel
theorem dL_law_741 : decode cL_law 741 = .ok (.iadd, 1) := by decide +kernel
theorem dL_law_742 : decode cL_law 742 = .ok (.iaload, 1) := by decide +kernel
theorem dL_law_743 : decode cL_law 743 = .ok (.invokevirtual 87, 3) := by decide +kernel
theorem dL_law_746 : decode cL_law 746 = .ok (.aload_n 2, 1) := by decide +kernel
theorem dL_law_747 : decode cL_law 747 = .ok (.aload_n 0, 1) := by decide +kernel
theorem dL_law_748 : decode cL_law 748 = .ok (.iload_n 3, 1) := by decide +kernel
theorem dL_law_749 : decode cL_law 749 = .ok (.iconst 1, 1) := by decide +kernel
theorem dL_law_750 : decode cL_law 750 = .ok (.iadd, 1) := by decide +kernel
theorem dL_law_751 : decode cL_law 751 = .ok (.iaload, 1) := by decide +kernel
theorem dL_law_752 : decode cL_law 752 = .ok (.aload_n 0, 1) := by decide +kernel
theorem dL_law_753 : decode cL_law 753 = .ok (.iload_n 3, 1) := by decide +kernel
theorem dL_law_754 : decode cL_law 754 = .ok (.iconst 2, 1) := by decide +kernel
theorem dL_law_755 : decode cL_law 755 = .ok (.iadd, 1) := by decide +kernel
theorem dL_law_756 : decode cL_law 756 = .ok (.iaload, 1) := by decide +kernel
theorem dL_law_757 : decode cL_law 757 = .ok (.aload_n 0, 1) := by decide +kernel
theorem dL_law_758 : decode cL_law 758 = .ok (.iload_n 3, 1) := by decide +kernel
theorem dL_law_759 : decode cL_law 759 = .ok (.iconst 3, 1) := by decide +kernel
theorem dL_law_760 : decode cL_law 760 = .ok (.iadd, 1) := by decide +kernel
theorem dL_law_761 : decode cL_law 761 = .ok (.iaload, 1) := by decide +kernel
theorem dL_law_762 : decode cL_law 762 = .ok (.invokevirtual 90, 3) := by decide +kernel
theorem dL_law_765 : decode cL_law 765 = .ok (.if_icmp .eq 370, 3) := by decide +kernel
theorem dL_law_768 : decode cL_law 768 = .ok (.iconst 0, 1) := by decide +kernel
theorem dL_law_769 : decode cL_law 769 = .ok (.ireturn, 1) := by decide +kernel
theorem dL_law_770 : decode cL_law 770 = .ok (.aload_n 1, 1) := by decide +kernel
theorem dL_law_771 : decode cL_law 771 = .ok (.aload_n 0, 1) := by decide +kernel
theorem dL_law_772 : decode cL_law 772 = .ok (.iload_n 3, 1) := by decide +kernel
theorem dL_law_773 : decode cL_law 773 = .ok (.iconst 1, 1) := by decide +kernel
theorem dL_law_774 : decode cL_law 774 = .ok (.iadd, 1) := by decide +kernel
theorem dL_law_775 : decode cL_law 775 = .ok (.iaload, 1) := by decide +kernel
theorem dL_law_776 : decode cL_law 776 = .ok (.aload_n 0, 1) := by decide +kernel
theorem dL_law_777 : decode cL_law 777 = .ok (.iload_n 3, 1) := by decide +kernel
theorem dL_law_778 : decode cL_law 778 = .ok (.iconst 2, 1) := by decide +kernel
theorem dL_law_779 : decode cL_law 779 = .ok (.iadd, 1) := by decide +kernel
theorem dL_law_780 : decode cL_law 780 = .ok (.iaload, 1) := by decide +kernel
theorem dL_law_781 : decode cL_law 781 = .ok (.invokevirtual 91, 3) := by decide +kernel
theorem dL_law_784 : decode cL_law 784 = .ok (.aload_n 2, 1) := by decide +kernel
theorem dL_law_785 : decode cL_law 785 = .ok (.aload_n 0, 1) := by decide +kernel
theorem dL_law_786 : decode cL_law 786 = .ok (.iload_n 3, 1) := by decide +kernel
theorem dL_law_787 : decode cL_law 787 = .ok (.iconst 1, 1) := by decide +kernel
theorem dL_law_788 : decode cL_law 788 = .ok (.iadd, 1) := by decide +kernel
theorem dL_law_789 : decode cL_law 789 = .ok (.iaload, 1) := by decide +kernel
theorem dL_law_790 : decode cL_law 790 = .ok (.aload_n 0, 1) := by decide +kernel
theorem dL_law_791 : decode cL_law 791 = .ok (.iload_n 3, 1) := by decide +kernel
theorem dL_law_792 : decode cL_law 792 = .ok (.iconst 2, 1) := by decide +kernel
theorem dL_law_793 : decode cL_law 793 = .ok (.iadd, 1) := by decide +kernel
theorem dL_law_794 : decode cL_law 794 = .ok (.iaload, 1) := by decide +kernel
theorem dL_law_795 : decode cL_law 795 = .ok (.invokevirtual 94, 3) := by decide +kernel
theorem dL_law_798 : decode cL_law 798 = .ok (.if_icmp .eq 337, 3) := by decide +kernel
theorem dL_law_801 : decode cL_law 801 = .ok (.iconst 0, 1) := by decide +kernel
theorem dL_law_802 : decode cL_law 802 = .ok (.ireturn, 1) := by decide +kernel
theorem dL_law_803 : decode cL_law 803 = .ok (.aload_n 1, 1) := by decide +kernel
theorem dL_law_804 : decode cL_law 804 = .ok (.aload_n 0, 1) := by decide +kernel
theorem dL_law_805 : decode cL_law 805 = .ok (.iload_n 3, 1) := by decide +kernel
theorem dL_law_806 : decode cL_law 806 = .ok (.iconst 1, 1) := by decide +kernel
theorem dL_law_807 : decode cL_law 807 = .ok (.iadd, 1) := by decide +kernel
theorem dL_law_808 : decode cL_law 808 = .ok (.iaload, 1) := by decide +kernel
theorem dL_law_809 : decode cL_law 809 = .ok (.aload_n 0, 1) := by decide +kernel
theorem dL_law_810 : decode cL_law 810 = .ok (.iload_n 3, 1) := by decide +kernel
theorem dL_law_811 : decode cL_law 811 = .ok (.iconst 2, 1) := by decide +kernel
theorem dL_law_812 : decode cL_law 812 = .ok (.iadd, 1) := by decide +kernel
theorem dL_law_813 : decode cL_law 813 = .ok (.iaload, 1) := by decide +kernel
theorem dL_law_814 : decode cL_law 814 = .ok (.aload_n 0, 1) := by decide +kernel
theorem dL_law_815 : decode cL_law 815 = .ok (.iload_n 3, 1) := by decide +kernel
theorem dL_law_816 : decode cL_law 816 = .ok (.iconst 3, 1) := by decide +kernel
theorem dL_law_817 : decode cL_law 817 = .ok (.iadd, 1) := by decide +kernel
theorem dL_law_818 : decode cL_law 818 = .ok (.iaload, 1) := by decide +kernel
theorem dL_law_819 : decode cL_law 819 = .ok (.aload_n 0, 1) := by decide +kernel
theorem dL_law_820 : decode cL_law 820 = .ok (.iload_n 3, 1) := by decide +kernel
theorem dL_law_821 : decode cL_law 821 = .ok (.iconst 4, 1) := by decide +kernel
theorem dL_law_822 : decode cL_law 822 = .ok (.iadd, 1) := by decide +kernel
theorem dL_law_823 : decode cL_law 823 = .ok (.iaload, 1) := by decide +kernel
theorem dL_law_824 : decode cL_law 824 = .ok (.ifCond .eq 7, 3) := by decide +kernel
theorem dL_law_827 : decode cL_law 827 = .ok (.iconst 1, 1) := by decide +kernel
theorem dL_law_828 : decode cL_law 828 = .ok (.goto 4, 3) := by decide +kernel
theorem dL_law_831 : decode cL_law 831 = .ok (.iconst 0, 1) := by decide +kernel
theorem dL_law_832 : decode cL_law 832 = .ok (.invokevirtual 95, 3) := by decide +kernel
theorem dL_law_835 : decode cL_law 835 = .ok (.aload_n 2, 1) := by decide +kernel
theorem dL_law_836 : decode cL_law 836 = .ok (.aload_n 0, 1) := by decide +kernel
theorem dL_law_837 : decode cL_law 837 = .ok (.iload_n 3, 1) := by decide +kernel
theorem dL_law_838 : decode cL_law 838 = .ok (.iconst 1, 1) := by decide +kernel
theorem dL_law_839 : decode cL_law 839 = .ok (.iadd, 1) := by decide +kernel
theorem dL_law_840 : decode cL_law 840 = .ok (.iaload, 1) := by decide +kernel
theorem dL_law_841 : decode cL_law 841 = .ok (.aload_n 0, 1) := by decide +kernel
theorem dL_law_842 : decode cL_law 842 = .ok (.iload_n 3, 1) := by decide +kernel
theorem dL_law_843 : decode cL_law 843 = .ok (.iconst 2, 1) := by decide +kernel
theorem dL_law_844 : decode cL_law 844 = .ok (.iadd, 1) := by decide +kernel
theorem dL_law_845 : decode cL_law 845 = .ok (.iaload, 1) := by decide +kernel
theorem dL_law_846 : decode cL_law 846 = .ok (.aload_n 0, 1) := by decide +kernel
theorem dL_law_847 : decode cL_law 847 = .ok (.iload_n 3, 1) := by decide +kernel
theorem dL_law_848 : decode cL_law 848 = .ok (.iconst 3, 1) := by decide +kernel
theorem dL_law_849 : decode cL_law 849 = .ok (.iadd, 1) := by decide +kernel
theorem dL_law_850 : decode cL_law 850 = .ok (.iaload, 1) := by decide +kernel
theorem dL_law_851 : decode cL_law 851 = .ok (.aload_n 0, 1) := by decide +kernel
theorem dL_law_852 : decode cL_law 852 = .ok (.iload_n 3, 1) := by decide +kernel
theorem dL_law_853 : decode cL_law 853 = .ok (.iconst 4, 1) := by decide +kernel
theorem dL_law_854 : decode cL_law 854 = .ok (.iadd, 1) := by decide +kernel
theorem dL_law_855 : decode cL_law 855 = .ok (.iaload, 1) := by decide +kernel
theorem dL_law_856 : decode cL_law 856 = .ok (.ifCond .eq 7, 3) := by decide +kernel
theorem dL_law_859 : decode cL_law 859 = .ok (.iconst 1, 1) := by decide +kernel
theorem dL_law_860 : decode cL_law 860 = .ok (.goto 4, 3) := by decide +kernel
theorem dL_law_863 : decode cL_law 863 = .ok (.iconst 0, 1) := by decide +kernel
theorem dL_law_864 : decode cL_law 864 = .ok (.invokevirtual 99, 3) := by decide +kernel
theorem dL_law_867 : decode cL_law 867 = .ok (.if_icmp .eq 268, 3) := by decide +kernel
theorem dL_law_870 : decode cL_law 870 = .ok (.iconst 0, 1) := by decide +kernel
theorem dL_law_871 : decode cL_law 871 = .ok (.ireturn, 1) := by decide +kernel
theorem dL_law_872 : decode cL_law 872 = .ok (.aload_n 1, 1) := by decide +kernel
theorem dL_law_873 : decode cL_law 873 = .ok (.aload_n 0, 1) := by decide +kernel
theorem dL_law_874 : decode cL_law 874 = .ok (.iload_n 3, 1) := by decide +kernel
theorem dL_law_875 : decode cL_law 875 = .ok (.iconst 1, 1) := by decide +kernel
theorem dL_law_876 : decode cL_law 876 = .ok (.iadd, 1) := by decide +kernel
theorem dL_law_877 : decode cL_law 877 = .ok (.iaload, 1) := by decide +kernel
theorem dL_law_878 : decode cL_law 878 = .ok (.aload_n 0, 1) := by decide +kernel
theorem dL_law_879 : decode cL_law 879 = .ok (.iload_n 3, 1) := by decide +kernel
theorem dL_law_880 : decode cL_law 880 = .ok (.iconst 2, 1) := by decide +kernel
theorem dL_law_881 : decode cL_law 881 = .ok (.iadd, 1) := by decide +kernel
theorem dL_law_882 : decode cL_law 882 = .ok (.iaload, 1) := by decide +kernel
theorem dL_law_883 : decode cL_law 883 = .ok (.invokevirtual 100, 3) := by decide +kernel
theorem dL_law_886 : decode cL_law 886 = .ok (.aload_n 2, 1) := by decide +kernel
theorem dL_law_887 : decode cL_law 887 = .ok (.aload_n 0, 1) := by decide +kernel
theorem dL_law_888 : decode cL_law 888 = .ok (.iload_n 3, 1) := by decide +kernel
theorem dL_law_889 : decode cL_law 889 = .ok (.iconst 1, 1) := by decide +kernel
theorem dL_law_890 : decode cL_law 890 = .ok (.iadd, 1) := by decide +kernel
theorem dL_law_891 : decode cL_law 891 = .ok (.iaload, 1) := by decide +kernel
theorem dL_law_892 : decode cL_law 892 = .ok (.aload_n 0, 1) := by decide +kernel
theorem dL_law_893 : decode cL_law 893 = .ok (.iload_n 3, 1) := by decide +kernel
theorem dL_law_894 : decode cL_law 894 = .ok (.iconst 2, 1) := by decide +kernel
theorem dL_law_895 : decode cL_law 895 = .ok (.iadd, 1) := by decide +kernel
theorem dL_law_896 : decode cL_law 896 = .ok (.iaload, 1) := by decide +kernel
theorem dL_law_897 : decode cL_law 897 = .ok (.invokevirtual 103, 3) := by decide +kernel
theorem dL_law_900 : decode cL_law 900 = .ok (.if_icmp .eq 235, 3) := by decide +kernel
theorem dL_law_903 : decode cL_law 903 = .ok (.iconst 0, 1) := by decide +kernel
theorem dL_law_904 : decode cL_law 904 = .ok (.ireturn, 1) := by decide +kernel
theorem dL_law_905 : decode cL_law 905 = .ok (.aload_n 1, 1) := by decide +kernel
theorem dL_law_906 : decode cL_law 906 = .ok (.aload_n 0, 1) := by decide +kernel
theorem dL_law_907 : decode cL_law 907 = .ok (.iload_n 3, 1) := by decide +kernel
theorem dL_law_908 : decode cL_law 908 = .ok (.iconst 1, 1) := by decide +kernel
theorem dL_law_909 : decode cL_law 909 = .ok (.iadd, 1) := by decide +kernel
theorem dL_law_910 : decode cL_law 910 = .ok (.iaload, 1) := by decide +kernel
theorem dL_law_911 : decode cL_law 911 = .ok (.aload_n 0, 1) := by decide +kernel
theorem dL_law_912 : decode cL_law 912 = .ok (.iload_n 3, 1) := by decide +kernel
theorem dL_law_913 : decode cL_law 913 = .ok (.iconst 2, 1) := by decide +kernel
theorem dL_law_914 : decode cL_law 914 = .ok (.iadd, 1) := by decide +kernel
theorem dL_law_915 : decode cL_law 915 = .ok (.iaload, 1) := by decide +kernel
theorem dL_law_916 : decode cL_law 916 = .ok (.invokevirtual 104, 3) := by decide +kernel
theorem dL_law_919 : decode cL_law 919 = .ok (.aload_n 2, 1) := by decide +kernel
theorem dL_law_920 : decode cL_law 920 = .ok (.aload_n 0, 1) := by decide +kernel
theorem dL_law_921 : decode cL_law 921 = .ok (.iload_n 3, 1) := by decide +kernel
theorem dL_law_922 : decode cL_law 922 = .ok (.iconst 1, 1) := by decide +kernel
theorem dL_law_923 : decode cL_law 923 = .ok (.iadd, 1) := by decide +kernel
theorem dL_law_924 : decode cL_law 924 = .ok (.iaload, 1) := by decide +kernel
theorem dL_law_925 : decode cL_law 925 = .ok (.aload_n 0, 1) := by decide +kernel
theorem dL_law_926 : decode cL_law 926 = .ok (.iload_n 3, 1) := by decide +kernel
theorem dL_law_927 : decode cL_law 927 = .ok (.iconst 2, 1) := by decide +kernel
theorem dL_law_928 : decode cL_law 928 = .ok (.iadd, 1) := by decide +kernel
theorem dL_law_929 : decode cL_law 929 = .ok (.iaload, 1) := by decide +kernel
theorem dL_law_930 : decode cL_law 930 = .ok (.invokevirtual 107, 3) := by decide +kernel
theorem dL_law_933 : decode cL_law 933 = .ok (.if_icmp .eq 202, 3) := by decide +kernel
theorem dL_law_936 : decode cL_law 936 = .ok (.iconst 0, 1) := by decide +kernel
theorem dL_law_937 : decode cL_law 937 = .ok (.ireturn, 1) := by decide +kernel
theorem dL_law_938 : decode cL_law 938 = .ok (.aload_n 1, 1) := by decide +kernel
theorem dL_law_939 : decode cL_law 939 = .ok (.aload_n 0, 1) := by decide +kernel
theorem dL_law_940 : decode cL_law 940 = .ok (.iload_n 3, 1) := by decide +kernel
theorem dL_law_941 : decode cL_law 941 = .ok (.iconst 1, 1) := by decide +kernel
theorem dL_law_942 : decode cL_law 942 = .ok (.iadd, 1) := by decide +kernel
theorem dL_law_943 : decode cL_law 943 = .ok (.iaload, 1) := by decide +kernel
theorem dL_law_944 : decode cL_law 944 = .ok (.aload_n 0, 1) := by decide +kernel
theorem dL_law_945 : decode cL_law 945 = .ok (.iload_n 3, 1) := by decide +kernel
theorem dL_law_946 : decode cL_law 946 = .ok (.iconst 2, 1) := by decide +kernel
theorem dL_law_947 : decode cL_law 947 = .ok (.iadd, 1) := by decide +kernel
theorem dL_law_948 : decode cL_law 948 = .ok (.iaload, 1) := by decide +kernel
theorem dL_law_949 : decode cL_law 949 = .ok (.invokevirtual 108, 3) := by decide +kernel
theorem dL_law_952 : decode cL_law 952 = .ok (.aload_n 2, 1) := by decide +kernel
theorem dL_law_953 : decode cL_law 953 = .ok (.aload_n 0, 1) := by decide +kernel
theorem dL_law_954 : decode cL_law 954 = .ok (.iload_n 3, 1) := by decide +kernel
theorem dL_law_955 : decode cL_law 955 = .ok (.iconst 1, 1) := by decide +kernel
theorem dL_law_956 : decode cL_law 956 = .ok (.iadd, 1) := by decide +kernel
theorem dL_law_957 : decode cL_law 957 = .ok (.iaload, 1) := by decide +kernel
theorem dL_law_958 : decode cL_law 958 = .ok (.aload_n 0, 1) := by decide +kernel
theorem dL_law_959 : decode cL_law 959 = .ok (.iload_n 3, 1) := by decide +kernel
theorem dL_law_960 : decode cL_law 960 = .ok (.iconst 2, 1) := by decide +kernel
theorem dL_law_961 : decode cL_law 961 = .ok (.iadd, 1) := by decide +kernel
theorem dL_law_962 : decode cL_law 962 = .ok (.iaload, 1) := by decide +kernel
theorem dL_law_963 : decode cL_law 963 = .ok (.invokevirtual 112, 3) := by decide +kernel
theorem dL_law_966 : decode cL_law 966 = .ok (.lcmp, 1) := by decide +kernel
theorem dL_law_967 : decode cL_law 967 = .ok (.ifCond .eq 168, 3) := by decide +kernel
theorem dL_law_970 : decode cL_law 970 = .ok (.iconst 0, 1) := by decide +kernel
theorem dL_law_971 : decode cL_law 971 = .ok (.ireturn, 1) := by decide +kernel
theorem dL_law_972 : decode cL_law 972 = .ok (.aload_n 1, 1) := by decide +kernel
theorem dL_law_973 : decode cL_law 973 = .ok (.aload_n 0, 1) := by decide +kernel
theorem dL_law_974 : decode cL_law 974 = .ok (.iload_n 3, 1) := by decide +kernel
theorem dL_law_975 : decode cL_law 975 = .ok (.iconst 1, 1) := by decide +kernel
theorem dL_law_976 : decode cL_law 976 = .ok (.iadd, 1) := by decide +kernel
theorem dL_law_977 : decode cL_law 977 = .ok (.iaload, 1) := by decide +kernel
theorem dL_law_978 : decode cL_law 978 = .ok (.aload_n 0, 1) := by decide +kernel
theorem dL_law_979 : decode cL_law 979 = .ok (.iload_n 3, 1) := by decide +kernel
theorem dL_law_980 : decode cL_law 980 = .ok (.iconst 2, 1) := by decide +kernel
theorem dL_law_981 : decode cL_law 981 = .ok (.iadd, 1) := by decide +kernel
theorem dL_law_982 : decode cL_law 982 = .ok (.iaload, 1) := by decide +kernel
theorem dL_law_983 : decode cL_law 983 = .ok (.i2l, 1) := by decide +kernel
theorem dL_law_984 : decode cL_law 984 = .ok (.bipush 32, 2) := by decide +kernel
theorem dL_law_986 : decode cL_law 986 = .ok (.lshl, 1) := by decide +kernel
theorem dL_law_987 : decode cL_law 987 = .ok (.aload_n 0, 1) := by decide +kernel
theorem dL_law_988 : decode cL_law 988 = .ok (.iload_n 3, 1) := by decide +kernel
theorem dL_law_989 : decode cL_law 989 = .ok (.iconst 3, 1) := by decide +kernel
theorem dL_law_990 : decode cL_law 990 = .ok (.iadd, 1) := by decide +kernel
theorem dL_law_991 : decode cL_law 991 = .ok (.iaload, 1) := by decide +kernel
theorem dL_law_992 : decode cL_law 992 = .ok (.i2l, 1) := by decide +kernel
theorem dL_law_993 : decode cL_law 993 = .ok (.ldc2_w 113, 3) := by decide +kernel
theorem dL_law_996 : decode cL_law 996 = .ok (.land, 1) := by decide +kernel
theorem dL_law_997 : decode cL_law 997 = .ok (.lor, 1) := by decide +kernel
theorem dL_law_998 : decode cL_law 998 = .ok (.invokevirtual 115, 3) := by decide +kernel
theorem dL_law_1001 : decode cL_law 1001 = .ok (.aload_n 2, 1) := by decide +kernel
theorem dL_law_1002 : decode cL_law 1002 = .ok (.aload_n 0, 1) := by decide +kernel
theorem dL_law_1003 : decode cL_law 1003 = .ok (.iload_n 3, 1) := by decide +kernel
theorem dL_law_1004 : decode cL_law 1004 = .ok (.iconst 1, 1) := by decide +kernel
theorem dL_law_1005 : decode cL_law 1005 = .ok (.iadd, 1) := by decide +kernel
theorem dL_law_1006 : decode cL_law 1006 = .ok (.iaload, 1) := by decide +kernel
theorem dL_law_1007 : decode cL_law 1007 = .ok (.aload_n 0, 1) := by decide +kernel
theorem dL_law_1008 : decode cL_law 1008 = .ok (.iload_n 3, 1) := by decide +kernel
theorem dL_law_1009 : decode cL_law 1009 = .ok (.iconst 2, 1) := by decide +kernel
theorem dL_law_1010 : decode cL_law 1010 = .ok (.iadd, 1) := by decide +kernel
theorem dL_law_1011 : decode cL_law 1011 = .ok (.iaload, 1) := by decide +kernel
theorem dL_law_1012 : decode cL_law 1012 = .ok (.i2l, 1) := by decide +kernel
theorem dL_law_1013 : decode cL_law 1013 = .ok (.bipush 32, 2) := by decide +kernel
theorem dL_law_1015 : decode cL_law 1015 = .ok (.lshl, 1) := by decide +kernel
theorem dL_law_1016 : decode cL_law 1016 = .ok (.aload_n 0, 1) := by decide +kernel
theorem dL_law_1017 : decode cL_law 1017 = .ok (.iload_n 3, 1) := by decide +kernel
theorem dL_law_1018 : decode cL_law 1018 = .ok (.iconst 3, 1) := by decide +kernel
theorem dL_law_1019 : decode cL_law 1019 = .ok (.iadd, 1) := by decide +kernel
theorem dL_law_1020 : decode cL_law 1020 = .ok (.iaload, 1) := by decide +kernel
theorem dL_law_1021 : decode cL_law 1021 = .ok (.i2l, 1) := by decide +kernel
theorem dL_law_1022 : decode cL_law 1022 = .ok (.ldc2_w 113, 3) := by decide +kernel
theorem dL_law_1025 : decode cL_law 1025 = .ok (.land, 1) := by decide +kernel
theorem dL_law_1026 : decode cL_law 1026 = .ok (.lor, 1) := by decide +kernel
theorem dL_law_1027 : decode cL_law 1027 = .ok (.invokevirtual 119, 3) := by decide +kernel
theorem dL_law_1030 : decode cL_law 1030 = .ok (.if_icmp .eq 105, 3) := by decide +kernel
theorem dL_law_1033 : decode cL_law 1033 = .ok (.iconst 0, 1) := by decide +kernel
theorem dL_law_1034 : decode cL_law 1034 = .ok (.ireturn, 1) := by decide +kernel
theorem dL_law_1035 : decode cL_law 1035 = .ok (.aload_n 1, 1) := by decide +kernel
theorem dL_law_1036 : decode cL_law 1036 = .ok (.aload_n 0, 1) := by decide +kernel
theorem dL_law_1037 : decode cL_law 1037 = .ok (.iload_n 3, 1) := by decide +kernel
theorem dL_law_1038 : decode cL_law 1038 = .ok (.iconst 1, 1) := by decide +kernel
theorem dL_law_1039 : decode cL_law 1039 = .ok (.iadd, 1) := by decide +kernel
theorem dL_law_1040 : decode cL_law 1040 = .ok (.iaload, 1) := by decide +kernel
theorem dL_law_1041 : decode cL_law 1041 = .ok (.aload_n 0, 1) := by decide +kernel
theorem dL_law_1042 : decode cL_law 1042 = .ok (.iload_n 3, 1) := by decide +kernel
theorem dL_law_1043 : decode cL_law 1043 = .ok (.iconst 2, 1) := by decide +kernel
theorem dL_law_1044 : decode cL_law 1044 = .ok (.iadd, 1) := by decide +kernel
theorem dL_law_1045 : decode cL_law 1045 = .ok (.iaload, 1) := by decide +kernel
theorem dL_law_1046 : decode cL_law 1046 = .ok (.aload_n 0, 1) := by decide +kernel
theorem dL_law_1047 : decode cL_law 1047 = .ok (.iload_n 3, 1) := by decide +kernel
theorem dL_law_1048 : decode cL_law 1048 = .ok (.iconst 3, 1) := by decide +kernel
theorem dL_law_1049 : decode cL_law 1049 = .ok (.iadd, 1) := by decide +kernel
theorem dL_law_1050 : decode cL_law 1050 = .ok (.iaload, 1) := by decide +kernel
theorem dL_law_1051 : decode cL_law 1051 = .ok (.invokevirtual 120, 3) := by decide +kernel
theorem dL_law_1054 : decode cL_law 1054 = .ok (.aload_n 2, 1) := by decide +kernel
theorem dL_law_1055 : decode cL_law 1055 = .ok (.aload_n 0, 1) := by decide +kernel
theorem dL_law_1056 : decode cL_law 1056 = .ok (.iload_n 3, 1) := by decide +kernel
theorem dL_law_1057 : decode cL_law 1057 = .ok (.iconst 1, 1) := by decide +kernel
theorem dL_law_1058 : decode cL_law 1058 = .ok (.iadd, 1) := by decide +kernel
theorem dL_law_1059 : decode cL_law 1059 = .ok (.iaload, 1) := by decide +kernel
theorem dL_law_1060 : decode cL_law 1060 = .ok (.aload_n 0, 1) := by decide +kernel
theorem dL_law_1061 : decode cL_law 1061 = .ok (.iload_n 3, 1) := by decide +kernel
theorem dL_law_1062 : decode cL_law 1062 = .ok (.iconst 2, 1) := by decide +kernel
theorem dL_law_1063 : decode cL_law 1063 = .ok (.iadd, 1) := by decide +kernel
theorem dL_law_1064 : decode cL_law 1064 = .ok (.iaload, 1) := by decide +kernel
theorem dL_law_1065 : decode cL_law 1065 = .ok (.aload_n 0, 1) := by decide +kernel
theorem dL_law_1066 : decode cL_law 1066 = .ok (.iload_n 3, 1) := by decide +kernel
theorem dL_law_1067 : decode cL_law 1067 = .ok (.iconst 3, 1) := by decide +kernel
theorem dL_law_1068 : decode cL_law 1068 = .ok (.iadd, 1) := by decide +kernel
theorem dL_law_1069 : decode cL_law 1069 = .ok (.iaload, 1) := by decide +kernel
theorem dL_law_1070 : decode cL_law 1070 = .ok (.invokevirtual 123, 3) := by decide +kernel
theorem dL_law_1073 : decode cL_law 1073 = .ok (.if_icmp .eq 62, 3) := by decide +kernel
theorem dL_law_1076 : decode cL_law 1076 = .ok (.iconst 0, 1) := by decide +kernel
theorem dL_law_1077 : decode cL_law 1077 = .ok (.ireturn, 1) := by decide +kernel
theorem dL_law_1078 : decode cL_law 1078 = .ok (.aload_n 1, 1) := by decide +kernel
theorem dL_law_1079 : decode cL_law 1079 = .ok (.aload_n 0, 1) := by decide +kernel
theorem dL_law_1080 : decode cL_law 1080 = .ok (.iload_n 3, 1) := by decide +kernel
theorem dL_law_1081 : decode cL_law 1081 = .ok (.iconst 1, 1) := by decide +kernel
theorem dL_law_1082 : decode cL_law 1082 = .ok (.iadd, 1) := by decide +kernel
theorem dL_law_1083 : decode cL_law 1083 = .ok (.iaload, 1) := by decide +kernel
theorem dL_law_1084 : decode cL_law 1084 = .ok (.invokevirtual 124, 3) := by decide +kernel
theorem dL_law_1087 : decode cL_law 1087 = .ok (.aload_n 2, 1) := by decide +kernel
theorem dL_law_1088 : decode cL_law 1088 = .ok (.aload_n 0, 1) := by decide +kernel
theorem dL_law_1089 : decode cL_law 1089 = .ok (.iload_n 3, 1) := by decide +kernel
theorem dL_law_1090 : decode cL_law 1090 = .ok (.iconst 1, 1) := by decide +kernel
theorem dL_law_1091 : decode cL_law 1091 = .ok (.iadd, 1) := by decide +kernel
theorem dL_law_1092 : decode cL_law 1092 = .ok (.iaload, 1) := by decide +kernel
theorem dL_law_1093 : decode cL_law 1093 = .ok (.invokevirtual 127, 3) := by decide +kernel
theorem dL_law_1096 : decode cL_law 1096 = .ok (.if_icmp .eq 39, 3) := by decide +kernel
theorem dL_law_1099 : decode cL_law 1099 = .ok (.iconst 0, 1) := by decide +kernel
theorem dL_law_1100 : decode cL_law 1100 = .ok (.ireturn, 1) := by decide +kernel
theorem dL_law_1101 : decode cL_law 1101 = .ok (.aload_n 1, 1) := by decide +kernel
theorem dL_law_1102 : decode cL_law 1102 = .ok (.aload_n 0, 1) := by decide +kernel
theorem dL_law_1103 : decode cL_law 1103 = .ok (.iload_n 3, 1) := by decide +kernel
theorem dL_law_1104 : decode cL_law 1104 = .ok (.iconst 1, 1) := by decide +kernel
theorem dL_law_1105 : decode cL_law 1105 = .ok (.iadd, 1) := by decide +kernel
theorem dL_law_1106 : decode cL_law 1106 = .ok (.iaload, 1) := by decide +kernel
theorem dL_law_1107 : decode cL_law 1107 = .ok (.aload_n 0, 1) := by decide +kernel
theorem dL_law_1108 : decode cL_law 1108 = .ok (.iload_n 3, 1) := by decide +kernel
theorem dL_law_1109 : decode cL_law 1109 = .ok (.iconst 2, 1) := by decide +kernel
theorem dL_law_1110 : decode cL_law 1110 = .ok (.iadd, 1) := by decide +kernel
theorem dL_law_1111 : decode cL_law 1111 = .ok (.iaload, 1) := by decide +kernel
theorem dL_law_1112 : decode cL_law 1112 = .ok (.invokevirtual 128, 3) := by decide +kernel
theorem dL_law_1115 : decode cL_law 1115 = .ok (.aload_n 2, 1) := by decide +kernel
theorem dL_law_1116 : decode cL_law 1116 = .ok (.aload_n 0, 1) := by decide +kernel
theorem dL_law_1117 : decode cL_law 1117 = .ok (.iload_n 3, 1) := by decide +kernel
theorem dL_law_1118 : decode cL_law 1118 = .ok (.iconst 1, 1) := by decide +kernel
theorem dL_law_1119 : decode cL_law 1119 = .ok (.iadd, 1) := by decide +kernel
theorem dL_law_1120 : decode cL_law 1120 = .ok (.iaload, 1) := by decide +kernel
theorem dL_law_1121 : decode cL_law 1121 = .ok (.aload_n 0, 1) := by decide +kernel
theorem dL_law_1122 : decode cL_law 1122 = .ok (.iload_n 3, 1) := by decide +kernel
theorem dL_law_1123 : decode cL_law 1123 = .ok (.iconst 2, 1) := by decide +kernel
theorem dL_law_1124 : decode cL_law 1124 = .ok (.iadd, 1) := by decide +kernel
theorem dL_law_1125 : decode cL_law 1125 = .ok (.iaload, 1) := by decide +kernel
theorem dL_law_1126 : decode cL_law 1126 = .ok (.invokevirtual 131, 3) := by decide +kernel
theorem dL_law_1129 : decode cL_law 1129 = .ok (.lcmp, 1) := by decide +kernel
theorem dL_law_1130 : decode cL_law 1130 = .ok (.ifCond .eq 5, 3) := by decide +kernel
theorem dL_law_1133 : decode cL_law 1133 = .ok (.iconst 0, 1) := by decide +kernel
theorem dL_law_1134 : decode cL_law 1134 = .ok (.ireturn, 1) := by decide +kernel
theorem dL_law_1135 : decode cL_law 1135 = .ok (.iinc 3 6, 3) := by decide +kernel
theorem dL_law_1138 : decode cL_law 1138 = .ok (.goto (-1120), 3) := by decide +kernel
theorem dL_law_1141 : decode cL_law 1141 = .ok (.iconst 1, 1) := by decide +kernel
theorem dL_law_1142 : decode cL_law 1142 = .ok (.ireturn, 1) := by decide +kernel
end
section

/-! ===== the judgement SP: a method's walk from a program counter, over a world of numbered cells; what is said is closed (no machine in it) ===== -/
/-- the tables' words that stay -/
def xtb : List Cond := lw_tbl.filter goodWord
abbrev xW : Type := Nat × (Nat → va_E)
abbrev xI : Type := MethodName × ByteArray × Nat × Option FieldType × Room × Option (Nat × (Nat → Int32))
abbrev xG : Type := va_G × (Nat → Nat) × (Nat → ClassId) × Nat
abbrev xL : Type := List (Option Value)
def xcv (ad : Nat → Nat) (v : Value) : Value := match v with
  | .int a => .int a
  | .long a => .long a
  | .float a => .float a
  | .double a => .double a
  | .null => .null
  | .ref i => .ref (ad i)
  | .retAddr a => .retAddr a
theorem xcv_cat (ad : Nat → Nat) (v : Value) : (xcv ad v).category = v.category := by cases v <;> rfl
def xce (ad : Nat → Nat) (cA : Nat → ClassId) (e : va_E) : va_E := match e with
  | .inl (t, n, .inl f) => .inl (cA t, n, .inl f)
  | .inl (t, n, .inr (.inl f)) => .inl (cA t, n, .inr (.inl f))
  | .inl (t, n, .inr (.inr (.inl f))) => .inl (cA t, n, .inr (.inr (.inl f)))
  | .inl (t, n, .inr (.inr (.inr (.inl f)))) => .inl (cA t, n, .inr (.inr (.inr (.inl f))))
  | .inl (t, n, .inr (.inr (.inr (.inr f)))) => .inl (cA t, n, .inr (.inr (.inr (.inr (fun j => (f j).map ad)))))
  | .inr (c, fs) => .inr (c, fs.map (xcv ad))
def xws (G : xG) (w : xW) : va_W := (List.range w.1).map (fun i => (G.2.1 i, xce G.2.1 G.2.2.1 (w.2 i)))
def xtys (cA : Nat → ClassId) : List (ClassId × FieldType) := [(cA 11, .int), (cA 12, .boolean), (cA 13, .long), (cA 14, .object RX7), (cA 15, .object RX8), (cA 16, .array .int)]
abbrev xcl : List vw_C := [(RX0, TX0, 7), (RX1, TX1, 4), (RX2, TX2, 3), (RX3, TX3, 4), (RX4, TX4, 2), (RX5, TX5, 2), (RX6, TX6, 5), (RX7, TX7, 9), (RX8, TX8, 2), (RX9, TX9, 5), (RX10, TX10, 26)]
def xA (G : xG) : Nat → Prop := fun q => G.2.2.2 ≤ q
def xRF (j : Nat) : Int32 := ([2000, 4, 10, 20, 1, 0, 0, 0, 0, 0, 0, 0] : List Int32).getD j 0
def xRL (j : Nat) : Int32 := ([0, 0, 1, 0, 0, 0, 0, 0, 0, 0, 0, 0] : List Int32).getD j 0
def xRM (j : Nat) : Int32 := ([5000, 200, 5000, 100, 1000, 1000, 1000, 1000, 1000, 1000, 1000, 1000] : List Int32).getD j 0
/-- the static tables -/
def xSt (G : xG) (U : State) (H : Heap) : Prop :=
  (va_Z RX9 "RULES_AT_FIRST" "[I" (.ref (G.2.1 200)) (xA G) U H ∧ va_T .int (G.2.1 200) 12 (fun j => .int (xRF j)) (xA G) U H) ∧
  (va_Z RX9 "RULES_LEAST" "[I" (.ref (G.2.1 201)) (xA G) U H ∧ va_T .int (G.2.1 201) 12 (fun j => .int (xRL j)) (xA G) U H) ∧
  (va_Z RX9 "RULES_MOST" "[I" (.ref (G.2.1 202)) (xA G) U H ∧ va_T .int (G.2.1 202) 12 (fun j => .int (xRM j)) (xA G) U H)
/-- the world w stands in the heap -/
def XW (G : xG) (w : xW) (U : State) (H : Heap) : Prop :=
  H.size = G.2.2.2 + w.1 ∧ w.1 ≤ 191 ∧ (∀ i, i < 191 → G.2.1 i = G.2.2.2 + i) ∧ va_P G.1 xcl (xws G w) H ∧ va_K G.1 xcl (xtys G.2.2.1) U ∧ xSt G U H
theorem xSt.moved {G : xG} {u U : State} {H : Heap} (hvm : u.vm.Alike U.vm) (h : xSt G u H) : xSt G U H :=
  ⟨⟨va_Z.moved hvm h.1.1, va_T.moved hvm h.1.2⟩, ⟨va_Z.moved hvm h.2.1.1, va_T.moved hvm h.2.1.2⟩, ⟨va_Z.moved hvm h.2.2.1, va_T.moved hvm h.2.2.2⟩⟩
theorem xSt.kept {G : xG} {U : State} {H H1 : Heap} (h : xSt G U H) (hq : ∀ a : Nat, a < H.size → ¬ xA G a → H1[a]? = H[a]?) : xSt G U H1 :=
  ⟨⟨va_Z.kept h.1.1 hq, va_T.kept h.1.2 hq⟩, ⟨va_Z.kept h.2.1.1 hq, va_T.kept h.2.1.2 hq⟩, ⟨va_Z.kept h.2.2.1 hq, va_T.kept h.2.2.2 hq⟩⟩
theorem XW.moved {G : xG} {w : xW} {u U : State} {H : Heap} (hvm : u.vm.Alike U.vm) (h : XW G w u H) : XW G w U H :=
  ⟨h.1, h.2.1, h.2.2.1, h.2.2.2.1, va_K.moved hvm h.2.2.2.2.1, h.2.2.2.2.2.moved hvm⟩
theorem xws_at {G : xG} {w : xW} {i : Nat} (hi : i < w.1) : (xws G w)[i]? = some (G.2.1 i, xce G.2.1 G.2.2.1 (w.2 i)) := by
  simp [xws, hi]
theorem xws_D {G : xG} {w : xW} {U : State} {H : Heap} (h : XW G w U H) : va_D (xA G) (xws G w) := by
  obtain ⟨-, h1, h2, -⟩ := h
  have key : ∀ (k : Nat) (q : Nat × va_E), (xws G w)[k]? = some q → k < w.1 ∧ q.1 = G.2.2.2 + k := by
    intro k q hq
    have hk : k < w.1 := by
      have := (List.getElem?_eq_some_iff.mp hq).1
      simpa [xws] using this
    rw [xws_at hk] at hq
    cases hq
    exact ⟨hk, h2 k (by omega)⟩
  refine ⟨fun i j p q hi hj hpq => ?_, fun k q hq => ?_⟩
  · have a := (key i p hi).2
    have b := (key j q hj).2
    omega
  · have a := (key k q hq).2
    show G.2.2.2 ≤ q.1
    omega
/-- one cell changed -/
def xset (w : xW) (i : Nat) (e : va_E) : xW := (w.1, fun j => if j = i then e else w.2 j)
theorem xws_set {G : xG} {w : xW} {i : Nat} {e : va_E} {e' : va_E} (he : xce G.2.1 G.2.2.1 e = e') : (xws G w).set i (G.2.1 i, e') = xws G (xset w i e) := by
  apply List.ext_getElem?
  intro k
  subst he
  by_cases hk : k < w.1
  · rw [xws_at (w := xset w i e) hk]
    by_cases hki : k = i
    · subst hki
      rw [List.getElem?_set_self (by simpa [xws] using hk)]
      simp [xset]
    · rw [List.getElem?_set_ne (Ne.symm hki), xws_at hk]
      simp [xset, hki]
  · have h1 : (xws G (xset w i e))[k]? = none := by simp [xws, xset]; omega
    have h2 : ((xws G w).set i (G.2.1 i, xce G.2.1 G.2.2.1 e))[k]? = none := by simp [xws]; omega
    rw [h1, h2]
/-- the locals: those that are known -/
def xLH (ad : Nat → Nat) (ls : Array Slot) (nL : Nat) (L : xL) : Prop := ls.size = nL ∧ lv_wf ls ∧ ∀ (i : Nat) (v : Value), L[i]? = some (some v) → ls[i]? = some (.val (xcv ad v))
def xal (ad : Nat → Nat) (L : xL) : List (Nat × Value) := (List.range L.length).filterMap (fun i => match L[i]? with
  | some (some v) => some (i, xcv ad v)
  | _ => none)
theorem xal_mem {ad : Nat → Nat} {L : xL} {i : Nat} {v : Value} (h : L[i]? = some (some v)) : (i, xcv ad v) ∈ xal ad L := by
  unfold xal
  refine List.mem_filterMap.mpr ⟨i, List.mem_range.mpr (List.getElem?_eq_some_iff.mp h).1, ?_⟩
  simp [h]
theorem xal_of {ad : Nat → Nat} {L : xL} {q : Nat × Value} (h : q ∈ xal ad L) : ∃ v, L[q.1]? = some (some v) ∧ q.2 = xcv ad v := by
  unfold xal at h
  obtain ⟨i, -, h2⟩ := List.mem_filterMap.mp h
  cases h3 : L[i]? with
  | none => simp [h3] at h2
  | some o =>
    cases o with
    | none => simp [h3] at h2
    | some v =>
      simp [h3] at h2
      subst h2
      exact ⟨v, h3, rfl⟩
theorem xLH.has {ad : Nat → Nat} {ls : Array Slot} {nL : Nat} {L : xL} (h : xLH ad ls nL L) : lv_has ls nL (xal ad L) := by
  refine ⟨h.1, h.2.1, fun q hq => ?_⟩
  obtain ⟨v, h1, h2⟩ := xal_of hq
  rw [h2]
  exact h.2.2 q.1 v h1
theorem xLH.at {ad : Nat → Nat} {ls : Array Slot} {nL : Nat} {L : xL} (h : xLH ad ls nL L) {i : Nat} {v : Value} (hv : L[i]? = some (some v)) : ls[i]? = some (.val (xcv ad v)) := h.2.2 i v hv
/-- storing at i doesn't cut a long that is still known -/
def xok (L : xL) (i : Nat) : Bool := match i with
  | 0 => true
  | j + 1 => match L[j]? with
    | some (some u) => u.category != 2
    | _ => true
theorem xok_ne {L : xL} {i j : Nat} {u : Value} (h : xok L i = true) (hj : L[j]? = some (some u)) (hi : j + 1 = i) : ¬ u.category = 2 := by
  subst hi
  simpa [xok, hj] using h
theorem xst1 {ad : Nat → Nat} {ls' : Array Slot} {nL : Nat} {L : xL} {i : Nat} {v : Value} (hk : xok L i = true) (h : lv_has ls' nL ((i, xcv ad v) :: (xal ad L).filter (fun q => !(q.1 == i) && !(q.1 + 1 == i && q.2.category == 2)))) : xLH ad ls' nL (L.set i (some v)) := by
  refine ⟨h.1, h.2.1, fun j u hu => ?_⟩
  by_cases hj : j = i
  · subst hj
    rw [List.getElem?_set] at hu
    simp only [if_true] at hu
    split at hu
    · cases hu
      exact h.2.2 (j, xcv ad v) List.mem_cons_self
    · cases hu
  · rw [List.getElem?_set_ne (Ne.symm hj)] at hu
    refine h.2.2 (j, xcv ad u) (List.mem_cons_of_mem _ (List.mem_filter.mpr ⟨xal_mem hu, ?_⟩))
    have h2 := fun e => xok_ne hk hu e
    by_cases e : j + 1 = i
    · simp [hj, e, xcv_cat, h2 e]
    · simp [hj, e]
theorem xst2 {ad : Nat → Nat} {ls' : Array Slot} {nL : Nat} {L : xL} {i : Nat} {v : Value} (hk : xok L i = true) (h : lv_has ls' nL ((i, xcv ad v) :: (xal ad L).filter (fun q => !(q.1 == i) && (!(q.1 == i + 1) && !(q.1 + 1 == i && q.2.category == 2))))) : xLH ad ls' nL ((L.set i (some v)).set (i + 1) none) := by
  refine ⟨h.1, h.2.1, fun j u hu => ?_⟩
  by_cases hj1 : j = i + 1
  · subst hj1
    rw [List.getElem?_set] at hu
    simp only [if_true] at hu
    split at hu <;> cases hu
  rw [List.getElem?_set_ne (Ne.symm hj1)] at hu
  by_cases hj : j = i
  · subst hj
    rw [List.getElem?_set] at hu
    simp only [if_true] at hu
    split at hu
    · cases hu
      exact h.2.2 (j, xcv ad v) List.mem_cons_self
    · cases hu
  · rw [List.getElem?_set_ne (Ne.symm hj)] at hu
    refine h.2.2 (j, xcv ad u) (List.mem_cons_of_mem _ (List.mem_filter.mpr ⟨xal_mem hu, ?_⟩))
    have h2 := fun e => xok_ne hk hu e
    by_cases e : j + 1 = i
    · simp [hj, hj1, e, xcv_cat, h2 e]
    · simp [hj, hj1, e]
def xro (ad : Nat → Nat) (v : Value) : Option Value := match v with
  | .null => none
  | v => some (xcv ad v)
def xpush (v : Value) (st : List Value) : List Value := match v with
  | .null => st
  | v => v :: st
theorem xro_push (ad : Nat → Nat) (v : Value) (st : List Value) : (xro ad v).toList ++ st.map (xcv ad) = (xpush v st).map (xcv ad) := by cases v <;> rfl
/-- a method's end -/
def xQ (G : xG) (r : Value × xW) : Array Value → State → Outcome → State → Prop := fun _ st o t => o = .returned (xro G.2.1 r.1) ∧ XW G r.2 t t.heap ∧ va_F (xA G) st t
/-- a method's start -/
def xPc (G : xG) (As : List Value) (w : xW) : Array Value → State → Prop := fun v U => v = (As.map (xcv G.2.1)).toArray ∧ XW G w U U.heap
/-- the words that every method has: its own code, and the tables -/
abbrev xwds (I : xI) : List Cond := .code I.1 I.2.1 I.2.2.1 I.2.2.2.1 :: xtb
/-- what holds of the machine in the method's body -/
def xScr (G : xG) (o : Option (Nat × (Nat → Int32))) (s : State) : Prop := match o with
  | none => True
  | some q => va_T .int (G.2.1 203) q.1 (fun j => .int (q.2 j)) (xA G) s s.heap
def xC (I : xI) (G : xG) (p : Program) (s : State) (m : MethodId) (args : Array Value) (meth : Method) (c : Code) : Prop :=
  p.tables.exec = Jvm.exec ∧ c.code = I.2.1 ∧ c.maxLocals = I.2.2.1 ∧ meth.sig.returnType = I.2.2.2.1 ∧ meth.locks = false ∧ s.vm.findClass I.1.cls = some m.cls ∧ (∀ w ∈ xtb, w.before args s = true) ∧ meth.name = I.1.name ∧ xScr G I.2.2.2.2.2 s
/-- a contract: with these arguments in this world the method answers what X says -/
def Ct (I : xI) {α : Type} (ρ : α → Value × xW) (As : List Value) (w : xW) (X : Option α) : Prop :=
  ∀ a, X = some a → ∀ (l : Launch) (G : xG), Met l I.1 (xwds I) I.2.2.2.2.1 (xPc G As w) (xQ G (ρ a)) I.2.2.2.2.1.cells I.2.2.2.2.1.slots (xA G)
/-- the judgement -/
def SP (I : xI) {α : Type} (ρ : α → Value × xW) (kc ks : Nat) (pc : Nat) (L : xL) (S : List Value) (w : xW) (X : Option α) : Prop :=
  ∀ a, X = some a → ∀ (p : Program) (l : Launch) (e : Env) (s : State) (m : MethodId) (args : Array Value) (below : List Frame) (meth : Method) (c : Code) (G : xG) (H : Heap) (locs : List Loc) (ls : Array Slot),
    xC I G p s m args meth c → XW G w s H → va_S (xA G) s.heap H locs → xLH G.2.1 ls I.2.2.1 L →
    W p l e I.2.2.2.2.1 s m args below meth c H locs kc ks (MQ below (xQ G (ρ a)) args s I.2.2.2.2.1.cells I.2.2.2.2.1.slots (xA G)) (F0 m pc ls (S.map (xcv G.2.1)))
theorem xargs_lv (ad : Nat → Nat) : ∀ (As : List Value) (k : Nat), lv_args k (As.map (xcv ad)) = (lv_args k As).map (fun q => (q.1, xcv ad q.2))
  | [], _ => rfl
  | v :: As, k => by
    simp only [List.map_cons, lv_args, xcv_cat, xargs_lv ad As]
def xin (L : xL) (q : Nat × Value) : Bool := match L[q.1]? with
  | some (some v) => v == q.2
  | _ => true
section SPR
variable {I : xI} {α : Type} {ρ : α → Value × xW} {kc ks pc : Nat} {L : xL} {S : List Value} {w : xW} {X : Option α}
set_option maxHeartbeats 1000000 in
theorem Ct.of {As : List Value} {L : xL} (hsc : I.2.2.2.2.2 = none) (hy : plainName I.1.cls = true) (hsz : (lg_sl As).length ≤ I.2.2.1) (hL : ∀ (i : Nat) (v : Value), L[i]? = some (some v) → (i, v) ∈ lv_args 0 As) (k : SP I ρ 0 0 0 L [] w X) : Ct I ρ As w X := by
  intro a hX l G
  obtain ⟨y, cc, nL, rt, rm, sc⟩ := I
  dsimp only at hsc
  subst hsc
  refine Met.ofW (cc := cc) (maxL := nL) (ret := rt) hy rfl ?_
  intro p e s m args below meth c s₁ B hml hv
  obtain ⟨rfl, hW⟩ := hv
  have hts := atoms_spec (ws := xwds (y, cc, nL, rt, rm, none)) B.pre
  have hown : s.vm.findClass y.cls = some m.cls := findClass_of_methodNamed B.named
  have hsz2 : (lg_sl (As.map (xcv G.2.1))).length ≤ nL := by
    have : (lg_sl (As.map (xcv G.2.1))).length = (lg_sl As).length := by
      unfold lg_sl
      rw [List.flatMap_map]
      simp only [List.length_flatMap]
      congr 1
      apply List.map_congr_left
      intro v _
      rw [xcv_cat]
      split <;> rfl
    rw [this]
    exact hsz
  have hl := lv_entry (As.map (xcv G.2.1)) hsz2
  rw [lg_entry_eq]
  generalize (lg_sl (As.map (xcv G.2.1)) ++ List.replicate (nL - (lg_sl (As.map (xcv G.2.1))).length) Slot.unset).toArray = ls at hl ⊢
  refine k a hX p l e s m _ below meth c G s.heap [] ls ⟨B.exec, B.bytes, hml, B.returns, B.notSynchronized, hown, fun w hw => hts w (List.mem_cons_of_mem _ hw), (name_of_methodNamed B.named B.method).1, trivial⟩ hW va_S.rf ⟨hl.1, hl.2.1, fun i v hv => ?_⟩
  refine hl.2.2 (i, xcv G.2.1 v) ?_
  rw [xargs_lv]
  exact List.mem_map.mpr ⟨(i, v), hL i v hv, rfl⟩
theorem SP.weak {L L' : xL} (h : ∀ (i : Nat) (v : Value), L'[i]? = some (some v) → L[i]? = some (some v)) (k : SP I ρ kc ks pc L' S w X) : SP I ρ kc ks pc L S w X :=
  fun a hX p l e s m args below meth c G H locs ls hC HW HS HL => k a hX p l e s m args below meth c G H locs ls hC HW HS ⟨HL.1, HL.2.1, fun i v hv => HL.2.2 i v (h i v hv)⟩
/-- fewer known locals -/
def xmask : List Bool → xL → xL
  | true :: ms, v :: L => v :: xmask ms L
  | false :: ms, _ :: L => none :: xmask ms L
  | _, _ => []
theorem xmask_le : ∀ (ms : List Bool) (L : xL) (i : Nat) (v : Value), (xmask ms L)[i]? = some (some v) → L[i]? = some (some v)
  | true :: ms, u :: L, 0, v, h => h
  | true :: ms, u :: L, i + 1, v, h => by
    simp only [xmask, List.getElem?_cons_succ] at h ⊢
    exact xmask_le ms L i v h
  | false :: ms, u :: L, 0, v, h => by simp [xmask] at h
  | false :: ms, u :: L, i + 1, v, h => by
    simp only [xmask, List.getElem?_cons_succ] at h ⊢
    exact xmask_le ms L i v h
  | [], L, i, v, h => by cases L <;> simp [xmask] at h
  | true :: ms, [], i, v, h => by simp [xmask] at h
  | false :: ms, [], i, v, h => by simp [xmask] at h
theorem SP.mask (ms : List Bool) {L L' : xL} (h : xmask ms L = L') (k : SP I ρ kc ks pc L' S w X) : SP I ρ kc ks pc L S w X := SP.weak (fun i v hv => by rw [← h] at hv; exact xmask_le ms L i v hv) k
theorem SP.none : SP I ρ kc ks pc L S w (Option.none) := fun a h => nomatch h
theorem SP.ite {c : Prop} [Decidable c] {X Y : Option α} (kt : c → SP I ρ kc ks pc L S w X) (kf : ¬ c → SP I ρ kc ks pc L S w Y) : SP I ρ kc ks pc L S w (if c then X else Y) := by
  by_cases h : c
  · rw [if_pos h]; exact kt h
  · rw [if_neg h]; exact kf h
theorem SP.grow {kc' ks' : Nat} (h1 : kc ≤ kc') (h2 : ks ≤ ks') (k : SP I ρ kc' ks' pc L S w X) : SP I ρ kc ks pc L S w X :=
  fun a hX p l e s m args below meth c G H locs ls hC HW HS HL => W.widen h1 h2 (k a hX p l e s m args below meth c G H locs ls hC HW HS HL)

theorem x_iconst {n : Int} {a : Int32} (d : decode I.2.1 pc = .ok (.iconst n, 1)) (ha : Int32.ofInt n = a) (k : SP I ρ kc ks (pc + 1) L (.int a :: S) w X) : SP I ρ kc ks pc L S w X := by
  intro v hX p l e s m args below meth c G H locs ls hC HW HS HL
  exact lv_iconst hC.1 hC.2.1 d ha (k v hX p l e s m args below meth c G H locs ls hC HW HS HL)
theorem x_bipush {n : Int} {a : Int32} (d : decode I.2.1 pc = .ok (.bipush n, 2)) (ha : (Int8.ofInt n).toInt32 = a) (k : SP I ρ kc ks (pc + 2) L (.int a :: S) w X) : SP I ρ kc ks pc L S w X := by
  intro v hX p l e s m args below meth c G H locs ls hC HW HS HL
  exact lv_bipush hC.1 hC.2.1 d ha (k v hX p l e s m args below meth c G H locs ls hC HW HS HL)
theorem x_sipush {n : Int} {a : Int32} (d : decode I.2.1 pc = .ok (.sipush n, 3)) (ha : (Int16.ofInt n).toInt32 = a) (k : SP I ρ kc ks (pc + 3) L (.int a :: S) w X) : SP I ρ kc ks pc L S w X := by
  intro v hX p l e s m args below meth c G H locs ls hC HW HS HL
  exact lv_sipush hC.1 hC.2.1 d ha (k v hX p l e s m args below meth c G H locs ls hC HW HS HL)
theorem x_lconst {n : Fin 2} {a : Int64} (d : decode I.2.1 pc = .ok (.lconst n, 1)) (ha : Int64.ofNat (n : Nat) = a) (k : SP I ρ kc ks (pc + 1) L (.long a :: S) w X) : SP I ρ kc ks pc L S w X := by
  intro v hX p l e s m args below meth c G H locs ls hC HW HS HL
  exact lv_lconst hC.1 hC.2.1 d ha (k v hX p l e s m args below meth c G H locs ls hC HW HS HL)
theorem x_ldc2 {i : Nat} {a : Int64} {own : String} (d : decode I.2.1 pc = .ok (.ldc2_w i, 3)) (ho : I.1.cls = own) (hw : Cond.constantLong own i a ∈ xtb) (k : SP I ρ kc ks (pc + 3) L (.long a :: S) w X) : SP I ρ kc ks pc L S w X := by
  intro v hX p l e s m args below meth c G H locs ls hC HW HS HL
  exact lv_ldc2 hC.1 hC.2.1 (ho ▸ hC.2.2.2.2.2.1) (hC.2.2.2.2.2.2.1 _ hw) d (k v hX p l e s m args below meth c G H locs ls hC HW HS HL)
theorem x_iload_n {q : Fin 4} {a : Int32} (d : decode I.2.1 pc = .ok (.iload_n q, 1)) (hl : L[(q : Nat)]? = some (some (.int a))) (k : SP I ρ kc ks (pc + 1) L (.int a :: S) w X) : SP I ρ kc ks pc L S w X := by
  intro v hX p l e s m args below meth c G H locs ls hC HW HS HL
  exact lv_iload_n hC.1 hC.2.1 d rfl (HL.at hl) (k v hX p l e s m args below meth c G H locs ls hC HW HS HL)
theorem x_iload {q : Nat} {a : Int32} (d : decode I.2.1 pc = .ok (.iload q, 2)) (hl : L[q]? = some (some (.int a))) (k : SP I ρ kc ks (pc + 2) L (.int a :: S) w X) : SP I ρ kc ks pc L S w X := by
  intro v hX p l e s m args below meth c G H locs ls hC HW HS HL
  exact lv_iload hC.1 hC.2.1 d (HL.at hl) (k v hX p l e s m args below meth c G H locs ls hC HW HS HL)
theorem x_lload_n {q : Fin 4} {a : Int64} (d : decode I.2.1 pc = .ok (.lload_n q, 1)) (hl : L[(q : Nat)]? = some (some (.long a))) (k : SP I ρ kc ks (pc + 1) L (.long a :: S) w X) : SP I ρ kc ks pc L S w X := by
  intro v hX p l e s m args below meth c G H locs ls hC HW HS HL
  exact lv_lload_n hC.1 hC.2.1 d rfl (HL.at hl) (k v hX p l e s m args below meth c G H locs ls hC HW HS HL)
theorem x_lload {q : Nat} {a : Int64} (d : decode I.2.1 pc = .ok (.lload q, 2)) (hl : L[q]? = some (some (.long a))) (k : SP I ρ kc ks (pc + 2) L (.long a :: S) w X) : SP I ρ kc ks pc L S w X := by
  intro v hX p l e s m args below meth c G H locs ls hC HW HS HL
  exact lv_lload hC.1 hC.2.1 d (HL.at hl) (k v hX p l e s m args below meth c G H locs ls hC HW HS HL)
theorem x_aload_n {q : Fin 4} {a : Nat} (d : decode I.2.1 pc = .ok (.aload_n q, 1)) (hl : L[(q : Nat)]? = some (some (.ref a))) (k : SP I ρ kc ks (pc + 1) L (.ref a :: S) w X) : SP I ρ kc ks pc L S w X := by
  intro v hX p l e s m args below meth c G H locs ls hC HW HS HL
  exact lv_aload_n hC.1 hC.2.1 d rfl (HL.at hl) (k v hX p l e s m args below meth c G H locs ls hC HW HS HL)
theorem x_aload {q : Nat} {a : Nat} (d : decode I.2.1 pc = .ok (.aload q, 2)) (hl : L[q]? = some (some (.ref a))) (k : SP I ρ kc ks (pc + 2) L (.ref a :: S) w X) : SP I ρ kc ks pc L S w X := by
  intro v hX p l e s m args below meth c G H locs ls hC HW HS HL
  exact lv_aload hC.1 hC.2.1 d (HL.at hl) (k v hX p l e s m args below meth c G H locs ls hC HW HS HL)
theorem x_istore_n {q : Fin 4} {a : Int32} {L' : xL} (d : decode I.2.1 pc = .ok (.istore_n q, 1)) (hn : (q : Nat) < I.2.2.1) (hk : xok L (q : Nat) = true) (hL : (L.set (q : Nat) (some (.int a))) = L') (k : SP I ρ kc ks (pc + 1) L' S w X) : SP I ρ kc ks pc L (.int a :: S) w X := by
  subst hL
  intro v hX p l e s m args below meth c G H locs ls hC HW HS HL
  exact lv_istore_n hC.1 hC.2.1 d rfl HL.has hn rfl (fun ls' h' => k v hX p l e s m args below meth c G H locs ls' hC HW HS (xst1 (v := .int a) hk h'))
theorem x_istore {q : Nat} {a : Int32} {L' : xL} (d : decode I.2.1 pc = .ok (.istore q, 2)) (hn : q < I.2.2.1) (hk : xok L q = true) (hL : (L.set q (some (.int a))) = L') (k : SP I ρ kc ks (pc + 2) L' S w X) : SP I ρ kc ks pc L (.int a :: S) w X := by
  subst hL
  intro v hX p l e s m args below meth c G H locs ls hC HW HS HL
  exact lv_istore hC.1 hC.2.1 d HL.has hn rfl (fun ls' h' => k v hX p l e s m args below meth c G H locs ls' hC HW HS (xst1 (v := .int a) hk h'))
theorem x_lstore_n {q : Fin 4} {a : Int64} {L' : xL} (d : decode I.2.1 pc = .ok (.lstore_n q, 1)) (hn : (q : Nat) + 1 < I.2.2.1) (hk : xok L (q : Nat) = true) (hL : ((L.set (q : Nat) (some (.long a))).set ((q : Nat) + 1) none) = L') (k : SP I ρ kc ks (pc + 1) L' S w X) : SP I ρ kc ks pc L (.long a :: S) w X := by
  subst hL
  intro v hX p l e s m args below meth c G H locs ls hC HW HS HL
  exact lv_lstore_n hC.1 hC.2.1 d rfl HL.has hn rfl (fun ls' h' => k v hX p l e s m args below meth c G H locs ls' hC HW HS (xst2 (v := .long a) hk h'))
theorem x_lstore {q : Nat} {a : Int64} {L' : xL} (d : decode I.2.1 pc = .ok (.lstore q, 2)) (hn : q + 1 < I.2.2.1) (hk : xok L q = true) (hL : ((L.set q (some (.long a))).set (q + 1) none) = L') (k : SP I ρ kc ks (pc + 2) L' S w X) : SP I ρ kc ks pc L (.long a :: S) w X := by
  subst hL
  intro v hX p l e s m args below meth c G H locs ls hC HW HS HL
  exact lv_lstore hC.1 hC.2.1 d HL.has hn rfl (fun ls' h' => k v hX p l e s m args below meth c G H locs ls' hC HW HS (xst2 (v := .long a) hk h'))
theorem x_astore_n {q : Fin 4} {a : Nat} {L' : xL} (d : decode I.2.1 pc = .ok (.astore_n q, 1)) (hn : (q : Nat) < I.2.2.1) (hk : xok L (q : Nat) = true) (hL : (L.set (q : Nat) (some (.ref a))) = L') (k : SP I ρ kc ks (pc + 1) L' S w X) : SP I ρ kc ks pc L (.ref a :: S) w X := by
  subst hL
  intro v hX p l e s m args below meth c G H locs ls hC HW HS HL
  exact lv_astore_n hC.1 hC.2.1 d rfl HL.has hn rfl (fun ls' h' => k v hX p l e s m args below meth c G H locs ls' hC HW HS (xst1 (v := .ref a) hk h'))
theorem x_astore {q : Nat} {a : Nat} {L' : xL} (d : decode I.2.1 pc = .ok (.astore q, 2)) (hn : q < I.2.2.1) (hk : xok L q = true) (hL : (L.set q (some (.ref a))) = L') (k : SP I ρ kc ks (pc + 2) L' S w X) : SP I ρ kc ks pc L (.ref a :: S) w X := by
  subst hL
  intro v hX p l e s m args below meth c G H locs ls hC HW HS HL
  exact lv_astore hC.1 hC.2.1 d HL.has hn rfl (fun ls' h' => k v hX p l e s m args below meth c G H locs ls' hC HW HS (xst1 (v := .ref a) hk h'))
theorem x_iinc {q : Nat} {n : Int} {a b : Int32} {L' : xL} (d : decode I.2.1 pc = .ok (.iinc q n, 3)) (hl : L[q]? = some (some (.int a))) (hb : a + Int32.ofInt n = b) (hn : q < I.2.2.1) (hk : xok L q = true) (hL : L.set q (some (.int b)) = L') (k : SP I ρ kc ks (pc + 3) L' S w X) : SP I ρ kc ks pc L S w X := by
  subst hL
  intro v hX p l e s m args below meth c G H locs ls hC HW HS HL
  obtain ⟨j, hj⟩ := List.getElem?_of_mem (xal_mem (ad := G.2.1) hl)
  exact lv_iinc hC.1 hC.2.1 d HL.has hj hb hn rfl (fun ls' h' => k v hX p l e s m args below meth c G H locs ls' hC HW HS (xst1 (v := .int b) hk h'))
theorem x_iadd {a b : Int32} (d : decode I.2.1 pc = .ok (.iadd, 1)) (k : SP I ρ kc ks (pc + 1) L (.int (a + b) :: S) w X) : SP I ρ kc ks pc L (.int b :: .int a :: S) w X := by
  intro v hX p l e s m args below meth c G H locs ls hC HW HS HL
  exact lv_iadd hC.1 hC.2.1 d (k v hX p l e s m args below meth c G H locs ls hC HW HS HL)
theorem x_isub {a b : Int32} (d : decode I.2.1 pc = .ok (.isub, 1)) (k : SP I ρ kc ks (pc + 1) L (.int (a - b) :: S) w X) : SP I ρ kc ks pc L (.int b :: .int a :: S) w X := by
  intro v hX p l e s m args below meth c G H locs ls hC HW HS HL
  exact lv_isub hC.1 hC.2.1 d (k v hX p l e s m args below meth c G H locs ls hC HW HS HL)
theorem x_imul {a b : Int32} (d : decode I.2.1 pc = .ok (.imul, 1)) (k : SP I ρ kc ks (pc + 1) L (.int (a * b) :: S) w X) : SP I ρ kc ks pc L (.int b :: .int a :: S) w X := by
  intro v hX p l e s m args below meth c G H locs ls hC HW HS HL
  exact lv_imul hC.1 hC.2.1 d (k v hX p l e s m args below meth c G H locs ls hC HW HS HL)
theorem x_iand {a b : Int32} (d : decode I.2.1 pc = .ok (.iand, 1)) (k : SP I ρ kc ks (pc + 1) L (.int (a &&& b) :: S) w X) : SP I ρ kc ks pc L (.int b :: .int a :: S) w X := by
  intro v hX p l e s m args below meth c G H locs ls hC HW HS HL
  exact lv_iand hC.1 hC.2.1 d (k v hX p l e s m args below meth c G H locs ls hC HW HS HL)
theorem x_ior {a b : Int32} (d : decode I.2.1 pc = .ok (.ior, 1)) (k : SP I ρ kc ks (pc + 1) L (.int (a ||| b) :: S) w X) : SP I ρ kc ks pc L (.int b :: .int a :: S) w X := by
  intro v hX p l e s m args below meth c G H locs ls hC HW HS HL
  exact lv_ior hC.1 hC.2.1 d (k v hX p l e s m args below meth c G H locs ls hC HW HS HL)
theorem x_ladd {a b : Int64} (d : decode I.2.1 pc = .ok (.ladd, 1)) (k : SP I ρ kc ks (pc + 1) L (.long (a + b) :: S) w X) : SP I ρ kc ks pc L (.long b :: .long a :: S) w X := by
  intro v hX p l e s m args below meth c G H locs ls hC HW HS HL
  exact lv_ladd hC.1 hC.2.1 d (k v hX p l e s m args below meth c G H locs ls hC HW HS HL)
theorem x_lsub {a b : Int64} (d : decode I.2.1 pc = .ok (.lsub, 1)) (k : SP I ρ kc ks (pc + 1) L (.long (a - b) :: S) w X) : SP I ρ kc ks pc L (.long b :: .long a :: S) w X := by
  intro v hX p l e s m args below meth c G H locs ls hC HW HS HL
  exact lv_lsub hC.1 hC.2.1 d (k v hX p l e s m args below meth c G H locs ls hC HW HS HL)
theorem x_lmul {a b : Int64} (d : decode I.2.1 pc = .ok (.lmul, 1)) (k : SP I ρ kc ks (pc + 1) L (.long (a * b) :: S) w X) : SP I ρ kc ks pc L (.long b :: .long a :: S) w X := by
  intro v hX p l e s m args below meth c G H locs ls hC HW HS HL
  exact lv_lmul hC.1 hC.2.1 d (k v hX p l e s m args below meth c G H locs ls hC HW HS HL)
theorem x_land {a b : Int64} (d : decode I.2.1 pc = .ok (.land, 1)) (k : SP I ρ kc ks (pc + 1) L (.long (a &&& b) :: S) w X) : SP I ρ kc ks pc L (.long b :: .long a :: S) w X := by
  intro v hX p l e s m args below meth c G H locs ls hC HW HS HL
  exact lv_land hC.1 hC.2.1 d (k v hX p l e s m args below meth c G H locs ls hC HW HS HL)
theorem x_lor {a b : Int64} (d : decode I.2.1 pc = .ok (.lor, 1)) (k : SP I ρ kc ks (pc + 1) L (.long (a ||| b) :: S) w X) : SP I ρ kc ks pc L (.long b :: .long a :: S) w X := by
  intro v hX p l e s m args below meth c G H locs ls hC HW HS HL
  exact lv_lor hC.1 hC.2.1 d (k v hX p l e s m args below meth c G H locs ls hC HW HS HL)
theorem x_ineg {a : Int32} (d : decode I.2.1 pc = .ok (.ineg, 1)) (k : SP I ρ kc ks (pc + 1) L (.int (-a) :: S) w X) : SP I ρ kc ks pc L (.int a :: S) w X := by
  intro v hX p l e s m args below meth c G H locs ls hC HW HS HL
  exact lv_ineg hC.1 hC.2.1 d (k v hX p l e s m args below meth c G H locs ls hC HW HS HL)
theorem x_lneg {a : Int64} (d : decode I.2.1 pc = .ok (.lneg, 1)) (k : SP I ρ kc ks (pc + 1) L (.long (-a) :: S) w X) : SP I ρ kc ks pc L (.long a :: S) w X := by
  intro v hX p l e s m args below meth c G H locs ls hC HW HS HL
  exact lv_lneg hC.1 hC.2.1 d (k v hX p l e s m args below meth c G H locs ls hC HW HS HL)
theorem x_i2l {a : Int32} (d : decode I.2.1 pc = .ok (.i2l, 1)) (k : SP I ρ kc ks (pc + 1) L (.long a.toInt64 :: S) w X) : SP I ρ kc ks pc L (.int a :: S) w X := by
  intro v hX p l e s m args below meth c G H locs ls hC HW HS HL
  exact lv_i2l hC.1 hC.2.1 d rfl (k v hX p l e s m args below meth c G H locs ls hC HW HS HL)
theorem x_l2i {a : Int64} (d : decode I.2.1 pc = .ok (.l2i, 1)) (k : SP I ρ kc ks (pc + 1) L (.int a.toInt32 :: S) w X) : SP I ρ kc ks pc L (.long a :: S) w X := by
  intro v hX p l e s m args below meth c G H locs ls hC HW HS HL
  exact lv_l2i hC.1 hC.2.1 d rfl (k v hX p l e s m args below meth c G H locs ls hC HW HS HL)
theorem x_lshl {a : Int64} {b : Int32} (d : decode I.2.1 pc = .ok (.lshl, 1)) (k : SP I ρ kc ks (pc + 1) L (.long (a <<< (b.toInt64 &&& 63)) :: S) w X) : SP I ρ kc ks pc L (.int b :: .long a :: S) w X := by
  intro v hX p l e s m args below meth c G H locs ls hC HW HS HL
  exact lv_lshl hC.1 hC.2.1 d rfl (k v hX p l e s m args below meth c G H locs ls hC HW HS HL)
theorem x_lcmp {a b : Int64} (d : decode I.2.1 pc = .ok (.lcmp, 1)) (k : SP I ρ kc ks (pc + 1) L (.int (lg_cmp a b) :: S) w X) : SP I ρ kc ks pc L (.long b :: .long a :: S) w X := by
  intro v hX p l e s m args below meth c G H locs ls hC HW HS HL
  exact W.lcmp hC.1 hC.2.1 d (k v hX p l e s m args below meth c G H locs ls hC HW HS HL)
theorem x_idiv {a b : Int32} (d : decode I.2.1 pc = .ok (.idiv, 1)) (k : ¬ b = 0 → SP I ρ kc ks (pc + 1) L (.int (a / b) :: S) w X) : SP I ρ kc ks pc L (.int b :: .int a :: S) w (if b = 0 then none else X) := by
  refine SP.ite (fun _ => SP.none) (fun hb => ?_)
  have k := k hb
  intro v hX p l e s m args below meth c G H locs ls hC HW HS HL
  exact lv_idiv hC.1 hC.2.1 d hb (k v hX p l e s m args below meth c G H locs ls hC HW HS HL)
theorem x_irem {a b : Int32} (d : decode I.2.1 pc = .ok (.irem, 1)) (k : ¬ b = 0 → SP I ρ kc ks (pc + 1) L (.int (a - a / b * b) :: S) w X) : SP I ρ kc ks pc L (.int b :: .int a :: S) w (if b = 0 then none else X) := by
  refine SP.ite (fun _ => SP.none) (fun hb => ?_)
  have k := k hb
  intro v hX p l e s m args below meth c G H locs ls hC HW HS HL
  exact lv_irem hC.1 hC.2.1 d hb (k v hX p l e s m args below meth c G H locs ls hC HW HS HL)
theorem x_ldiv {a b : Int64} (d : decode I.2.1 pc = .ok (.ldiv, 1)) (k : ¬ b = 0 → SP I ρ kc ks (pc + 1) L (.long (a / b) :: S) w X) : SP I ρ kc ks pc L (.long b :: .long a :: S) w (if b = 0 then none else X) := by
  refine SP.ite (fun _ => SP.none) (fun hb => ?_)
  have k := k hb
  intro v hX p l e s m args below meth c G H locs ls hC HW HS HL
  exact lv_ldiv hC.1 hC.2.1 d hb (k v hX p l e s m args below meth c G H locs ls hC HW HS HL)
theorem x_lrem {a b : Int64} (d : decode I.2.1 pc = .ok (.lrem, 1)) (k : ¬ b = 0 → SP I ρ kc ks (pc + 1) L (.long (a - a / b * b) :: S) w X) : SP I ρ kc ks pc L (.long b :: .long a :: S) w (if b = 0 then none else X) := by
  refine SP.ite (fun _ => SP.none) (fun hb => ?_)
  have k := k hb
  intro v hX p l e s m args below meth c G H locs ls hC HW HS HL
  exact lv_lrem hC.1 hC.2.1 d hb (k v hX p l e s m args below meth c G H locs ls hC HW HS HL)
theorem x_dup {a : Value} (d : decode I.2.1 pc = .ok (.dup, 1)) (ha : a.category = 1) (k : SP I ρ kc ks (pc + 1) L (a :: a :: S) w X) : SP I ρ kc ks pc L (a :: S) w X := by
  intro v hX p l e s m args below meth c G H locs ls hC HW HS HL
  exact lv_dup hC.1 hC.2.1 d (by rw [xcv_cat]; exact ha) (k v hX p l e s m args below meth c G H locs ls hC HW HS HL)
theorem x_pop {a : Value} (d : decode I.2.1 pc = .ok (.pop, 1)) (ha : a.category = 1) (k : SP I ρ kc ks (pc + 1) L S w X) : SP I ρ kc ks pc L (a :: S) w X := by
  intro v hX p l e s m args below meth c G H locs ls hC HW HS HL
  exact lv_pop hC.1 hC.2.1 d (by rw [xcv_cat]; exact ha) (k v hX p l e s m args below meth c G H locs ls hC HW HS HL)
theorem x_dup2 {a b : Value} (d : decode I.2.1 pc = .ok (.dup2, 1)) (ha : b.category = 1) (hb : a.category = 1) (k : SP I ρ kc ks (pc + 1) L (b :: a :: b :: a :: S) w X) : SP I ρ kc ks pc L (b :: a :: S) w X := by
  intro v hX p l e s m args below meth c G H locs ls hC HW HS HL
  exact lv_dup2_11 hC.1 hC.2.1 d (by rw [xcv_cat]; exact ha) (by rw [xcv_cat]; exact hb) (k v hX p l e s m args below meth c G H locs ls hC HW HS HL)
theorem x_dup_x1 {a b : Value} (d : decode I.2.1 pc = .ok (.dup_x1, 1)) (ha : b.category = 1) (hb : a.category = 1) (k : SP I ρ kc ks (pc + 1) L (b :: a :: b :: S) w X) : SP I ρ kc ks pc L (b :: a :: S) w X := by
  intro v hX p l e s m args below meth c G H locs ls hC HW HS HL
  exact lv_dup_x1 hC.1 hC.2.1 d (by rw [xcv_cat]; exact ha) (by rw [xcv_cat]; exact hb) (k v hX p l e s m args below meth c G H locs ls hC HW HS HL)
theorem x_goto {off : Int} {tgt : Nat} (d : decode I.2.1 pc = .ok (.goto off, 3)) (ht : (pc : Int) + off = (tgt : Int)) (k : SP I ρ kc ks tgt L S w X) : SP I ρ kc ks pc L S w X := by
  intro v hX p l e s m args below meth c G H locs ls hC HW HS HL
  exact lv_goto hC.1 hC.2.1 d ht (k v hX p l e s m args below meth c G H locs ls hC HW HS HL)
theorem x_if_eq {a : Int32} {off : Int} {tgt : Nat} {Y : Option α} (d : decode I.2.1 pc = .ok (.ifCond .eq off, 3)) (ht : (pc : Int) + off = (tgt : Int)) (kt : a = 0 → SP I ρ kc ks tgt L S w X) (kf : ¬ a = 0 → SP I ρ kc ks (pc + 3) L S w Y) : SP I ρ kc ks pc L (.int a :: S) w (if a = 0 then X else Y) := by
  intro v hX p l e s m args below meth c G H locs ls hC HW HS HL
  exact lv_if_eq hC.1 hC.2.1 d ht (fun h => by rw [if_pos h] at hX; exact kt h v hX p l e s m args below meth c G H locs ls hC HW HS HL) (fun h => by rw [if_neg h] at hX; exact kf h v hX p l e s m args below meth c G H locs ls hC HW HS HL)
theorem x_icmp_eq {a b : Int32} {off : Int} {tgt : Nat} {Y : Option α} (d : decode I.2.1 pc = .ok (.if_icmp .eq off, 3)) (ht : (pc : Int) + off = (tgt : Int)) (kt : a = b → SP I ρ kc ks tgt L S w X) (kf : ¬ a = b → SP I ρ kc ks (pc + 3) L S w Y) : SP I ρ kc ks pc L (.int b :: .int a :: S) w (if a = b then X else Y) := by
  intro v hX p l e s m args below meth c G H locs ls hC HW HS HL
  exact lv_icmp_eq hC.1 hC.2.1 d ht (fun h => by rw [if_pos h] at hX; exact kt h v hX p l e s m args below meth c G H locs ls hC HW HS HL) (fun h => by rw [if_neg h] at hX; exact kf h v hX p l e s m args below meth c G H locs ls hC HW HS HL)
theorem x_if_ne {a : Int32} {off : Int} {tgt : Nat} {Y : Option α} (d : decode I.2.1 pc = .ok (.ifCond .ne off, 3)) (ht : (pc : Int) + off = (tgt : Int)) (kt : ¬ a = 0 → SP I ρ kc ks tgt L S w X) (kf : a = 0 → SP I ρ kc ks (pc + 3) L S w Y) : SP I ρ kc ks pc L (.int a :: S) w (if a = 0 then Y else X) := by
  intro v hX p l e s m args below meth c G H locs ls hC HW HS HL
  exact lv_if_ne hC.1 hC.2.1 d ht (fun h => by rw [if_neg h] at hX; exact kt h v hX p l e s m args below meth c G H locs ls hC HW HS HL) (fun h => by rw [if_pos h] at hX; exact kf h v hX p l e s m args below meth c G H locs ls hC HW HS HL)
theorem x_icmp_ne {a b : Int32} {off : Int} {tgt : Nat} {Y : Option α} (d : decode I.2.1 pc = .ok (.if_icmp .ne off, 3)) (ht : (pc : Int) + off = (tgt : Int)) (kt : ¬ a = b → SP I ρ kc ks tgt L S w X) (kf : a = b → SP I ρ kc ks (pc + 3) L S w Y) : SP I ρ kc ks pc L (.int b :: .int a :: S) w (if a = b then Y else X) := by
  intro v hX p l e s m args below meth c G H locs ls hC HW HS HL
  exact lv_icmp_ne hC.1 hC.2.1 d ht (fun h => by rw [if_neg h] at hX; exact kt h v hX p l e s m args below meth c G H locs ls hC HW HS HL) (fun h => by rw [if_pos h] at hX; exact kf h v hX p l e s m args below meth c G H locs ls hC HW HS HL)
theorem x_if_lt {a : Int32} {off : Int} {tgt : Nat} {Y : Option α} (d : decode I.2.1 pc = .ok (.ifCond .lt off, 3)) (ht : (pc : Int) + off = (tgt : Int)) (kt : a < 0 → SP I ρ kc ks tgt L S w X) (kf : ¬ a < 0 → SP I ρ kc ks (pc + 3) L S w Y) : SP I ρ kc ks pc L (.int a :: S) w (if a < 0 then X else Y) := by
  intro v hX p l e s m args below meth c G H locs ls hC HW HS HL
  exact lv_if_lt hC.1 hC.2.1 d ht (fun h => by rw [if_pos h] at hX; exact kt h v hX p l e s m args below meth c G H locs ls hC HW HS HL) (fun h => by rw [if_neg h] at hX; exact kf h v hX p l e s m args below meth c G H locs ls hC HW HS HL)
theorem x_icmp_lt {a b : Int32} {off : Int} {tgt : Nat} {Y : Option α} (d : decode I.2.1 pc = .ok (.if_icmp .lt off, 3)) (ht : (pc : Int) + off = (tgt : Int)) (kt : a < b → SP I ρ kc ks tgt L S w X) (kf : ¬ a < b → SP I ρ kc ks (pc + 3) L S w Y) : SP I ρ kc ks pc L (.int b :: .int a :: S) w (if a < b then X else Y) := by
  intro v hX p l e s m args below meth c G H locs ls hC HW HS HL
  exact lv_icmp_lt hC.1 hC.2.1 d ht (fun h => by rw [if_pos h] at hX; exact kt h v hX p l e s m args below meth c G H locs ls hC HW HS HL) (fun h => by rw [if_neg h] at hX; exact kf h v hX p l e s m args below meth c G H locs ls hC HW HS HL)
theorem x_if_ge {a : Int32} {off : Int} {tgt : Nat} {Y : Option α} (d : decode I.2.1 pc = .ok (.ifCond .ge off, 3)) (ht : (pc : Int) + off = (tgt : Int)) (kt : 0 ≤ a → SP I ρ kc ks tgt L S w X) (kf : ¬ 0 ≤ a → SP I ρ kc ks (pc + 3) L S w Y) : SP I ρ kc ks pc L (.int a :: S) w (if 0 ≤ a then X else Y) := by
  intro v hX p l e s m args below meth c G H locs ls hC HW HS HL
  exact lv_if_ge hC.1 hC.2.1 d ht (fun h => by rw [if_pos h] at hX; exact kt h v hX p l e s m args below meth c G H locs ls hC HW HS HL) (fun h => by rw [if_neg h] at hX; exact kf h v hX p l e s m args below meth c G H locs ls hC HW HS HL)
theorem x_icmp_ge {a b : Int32} {off : Int} {tgt : Nat} {Y : Option α} (d : decode I.2.1 pc = .ok (.if_icmp .ge off, 3)) (ht : (pc : Int) + off = (tgt : Int)) (kt : b ≤ a → SP I ρ kc ks tgt L S w X) (kf : ¬ b ≤ a → SP I ρ kc ks (pc + 3) L S w Y) : SP I ρ kc ks pc L (.int b :: .int a :: S) w (if b ≤ a then X else Y) := by
  intro v hX p l e s m args below meth c G H locs ls hC HW HS HL
  exact lv_icmp_ge hC.1 hC.2.1 d ht (fun h => by rw [if_pos h] at hX; exact kt h v hX p l e s m args below meth c G H locs ls hC HW HS HL) (fun h => by rw [if_neg h] at hX; exact kf h v hX p l e s m args below meth c G H locs ls hC HW HS HL)
theorem x_if_gt {a : Int32} {off : Int} {tgt : Nat} {Y : Option α} (d : decode I.2.1 pc = .ok (.ifCond .gt off, 3)) (ht : (pc : Int) + off = (tgt : Int)) (kt : 0 < a → SP I ρ kc ks tgt L S w X) (kf : ¬ 0 < a → SP I ρ kc ks (pc + 3) L S w Y) : SP I ρ kc ks pc L (.int a :: S) w (if 0 < a then X else Y) := by
  intro v hX p l e s m args below meth c G H locs ls hC HW HS HL
  exact lv_if_gt hC.1 hC.2.1 d ht (fun h => by rw [if_pos h] at hX; exact kt h v hX p l e s m args below meth c G H locs ls hC HW HS HL) (fun h => by rw [if_neg h] at hX; exact kf h v hX p l e s m args below meth c G H locs ls hC HW HS HL)
theorem x_icmp_gt {a b : Int32} {off : Int} {tgt : Nat} {Y : Option α} (d : decode I.2.1 pc = .ok (.if_icmp .gt off, 3)) (ht : (pc : Int) + off = (tgt : Int)) (kt : b < a → SP I ρ kc ks tgt L S w X) (kf : ¬ b < a → SP I ρ kc ks (pc + 3) L S w Y) : SP I ρ kc ks pc L (.int b :: .int a :: S) w (if b < a then X else Y) := by
  intro v hX p l e s m args below meth c G H locs ls hC HW HS HL
  exact lv_icmp_gt hC.1 hC.2.1 d ht (fun h => by rw [if_pos h] at hX; exact kt h v hX p l e s m args below meth c G H locs ls hC HW HS HL) (fun h => by rw [if_neg h] at hX; exact kf h v hX p l e s m args below meth c G H locs ls hC HW HS HL)
theorem x_if_le {a : Int32} {off : Int} {tgt : Nat} {Y : Option α} (d : decode I.2.1 pc = .ok (.ifCond .le off, 3)) (ht : (pc : Int) + off = (tgt : Int)) (kt : a ≤ 0 → SP I ρ kc ks tgt L S w X) (kf : ¬ a ≤ 0 → SP I ρ kc ks (pc + 3) L S w Y) : SP I ρ kc ks pc L (.int a :: S) w (if a ≤ 0 then X else Y) := by
  intro v hX p l e s m args below meth c G H locs ls hC HW HS HL
  exact lv_if_le hC.1 hC.2.1 d ht (fun h => by rw [if_pos h] at hX; exact kt h v hX p l e s m args below meth c G H locs ls hC HW HS HL) (fun h => by rw [if_neg h] at hX; exact kf h v hX p l e s m args below meth c G H locs ls hC HW HS HL)
theorem x_icmp_le {a b : Int32} {off : Int} {tgt : Nat} {Y : Option α} (d : decode I.2.1 pc = .ok (.if_icmp .le off, 3)) (ht : (pc : Int) + off = (tgt : Int)) (kt : a ≤ b → SP I ρ kc ks tgt L S w X) (kf : ¬ a ≤ b → SP I ρ kc ks (pc + 3) L S w Y) : SP I ρ kc ks pc L (.int b :: .int a :: S) w (if a ≤ b then X else Y) := by
  intro v hX p l e s m args below meth c G H locs ls hC HW HS HL
  exact lv_icmp_le hC.1 hC.2.1 d ht (fun h => by rw [if_pos h] at hX; exact kt h v hX p l e s m args below meth c G H locs ls hC HW HS HL) (fun h => by rw [if_neg h] at hX; exact kf h v hX p l e s m args below meth c G H locs ls hC HW HS HL)
theorem x_tsw_in {dflt lo hi : Int} {offs : Array Int} {len : Nat} {a : Int32} {off : Int} {tgt : Nat} (d : decode I.2.1 pc = .ok (.tableswitch dflt lo hi offs, len)) (h1 : ¬ a.toInt < lo) (h2 : ¬ hi < a.toInt) (ho : offs[(a.toInt - lo).toNat]? = some off) (ht : (pc : Int) + off = (tgt : Int)) (k : SP I ρ kc ks tgt L S w X) : SP I ρ kc ks pc L (.int a :: S) w X := by
  intro v hX p l e s m args below meth c G H locs ls hC HW HS HL
  exact lv_tableIn hC.1 hC.2.1 d h1 h2 ho ht (k v hX p l e s m args below meth c G H locs ls hC HW HS HL)
theorem x_tsw_out {dflt lo hi : Int} {offs : Array Int} {len : Nat} {a : Int32} {tgt : Nat} (d : decode I.2.1 pc = .ok (.tableswitch dflt lo hi offs, len)) (h : a.toInt < lo ∨ hi < a.toInt) (ht : (pc : Int) + dflt = (tgt : Int)) (k : SP I ρ kc ks tgt L S w X) : SP I ρ kc ks pc L (.int a :: S) w X := by
  intro v hX p l e s m args below meth c G H locs ls hC HW HS HL
  exact lv_tableOut hC.1 hC.2.1 d h ht (k v hX p l e s m args below meth c G H locs ls hC HW HS HL)
theorem x_iret {a : Int32} {q : α} (hr : I.2.2.2.1 = some .int) (hq : ρ q = (.int a, w)) (d : decode I.2.1 pc = .ok (.ireturn, 1)) (hc : kc ≤ I.2.2.2.2.1.cells) (hs : ks ≤ I.2.2.2.2.1.slots) : SP I ρ kc ks pc L [.int a] w (some q) := by
  intro v hX p l e s m args below meth c G H locs ls hC HW HS HL
  cases hX
  refine W.widen hc hs ?_
  exact W.iret hC.1 hC.2.1 (hC.2.2.2.1.trans hr) (fun t ht hW => by rw [hq]; exact ⟨rfl, by rw [ht]; exact HW.moved hW.alike, HS.F ht⟩) HS.2.2 d hC.2.2.2.2.1
theorem x_lret {a : Int64} {q : α} (hr : I.2.2.2.1 = some .long) (hq : ρ q = (.long a, w)) (d : decode I.2.1 pc = .ok (.lreturn, 1)) (hc : kc ≤ I.2.2.2.2.1.cells) (hs : ks ≤ I.2.2.2.2.1.slots) : SP I ρ kc ks pc L [.long a] w (some q) := by
  intro v hX p l e s m args below meth c G H locs ls hC HW HS HL
  cases hX
  refine W.widen hc hs ?_
  exact W.lret hC.1 hC.2.1 (hC.2.2.2.1.trans hr) (fun t ht hW => by rw [hq]; exact ⟨rfl, by rw [ht]; exact HW.moved hW.alike, HS.F ht⟩) HS.2.2 d hC.2.2.2.2.1
theorem x_zret {a : Int32} {q : α} (hr : I.2.2.2.1 = some .boolean) (hn : narrow .boolean (.int a) = .int a) (hq : ρ q = (.int a, w)) (d : decode I.2.1 pc = .ok (.ireturn, 1)) (hc : kc ≤ I.2.2.2.2.1.cells) (hs : ks ≤ I.2.2.2.2.1.slots) : SP I ρ kc ks pc L [.int a] w (some q) := by
  intro v hX p l e s m args below meth c G H locs ls hC HW HS HL
  cases hX
  refine W.widen hc hs ?_
  exact W.zret hC.1 hC.2.1 (hC.2.2.2.1.trans hr) hn (fun t ht hW => by rw [hq]; exact ⟨rfl, by rw [ht]; exact HW.moved hW.alike, HS.F ht⟩) HS.2.2 d hC.2.2.2.2.1
theorem x_vret {q : α} (hr : I.2.2.2.1 = none) (hq : ρ q = (.null, w)) (d : decode I.2.1 pc = .ok (.return_, 1)) (hc : kc ≤ I.2.2.2.2.1.cells) (hs : ks ≤ I.2.2.2.2.1.slots) : SP I ρ kc ks pc L [] w (some q) := by
  intro v hX p l e s m args below meth c G H locs ls hC HW HS HL
  cases hX
  refine W.widen hc hs ?_
  exact W.vret hC.1 hC.2.1 (hC.2.2.2.1.trans hr) (fun t ht hW => by rw [hq]; exact ⟨rfl, by rw [ht]; exact HW.moved hW.alike, HS.F ht⟩) HS.2.2 d hC.2.2.2.2.1
end SPR
end
section

theorem xword (n : Nat) {w : Cond} (h : lw_tbl[n]? = some w) (hg : goodWord w = true) : w ∈ xtb := List.mem_filter.mpr ⟨List.mem_of_getElem? h, hg⟩
theorem xtbl_good : xtb.all goodWord = true := List.all_eq_true.mpr (fun w hw => (List.mem_filter.mp hw).2)
theorem xgood {big ws : List Cond} (hb : ∀ w ∈ xtb, w ∈ big) (h : ∀ w ∈ ws, w ∈ xtb) : GoodIn big ws := fun w hw => ⟨hb w (h w hw), good_of_word (List.all_eq_true.mp xtbl_good w (h w hw))⟩
theorem xsub0 : ∀ w ∈ wsX00, w ∈ xtb := fun w h => (goodIn_of wsX00 (by decide +kernel) w h).1
theorem xsub1 : ∀ w ∈ wsX10, w ∈ xtb := fun w h => (goodIn_of wsX10 (by decide +kernel) w h).1
theorem xsub2 : ∀ w ∈ wsX20, w ∈ xtb := fun w h => (goodIn_of wsX20 (by decide +kernel) w h).1
theorem xsub3 : ∀ w ∈ wsX30, w ∈ xtb := fun w h => (goodIn_of wsX30 (by decide +kernel) w h).1
theorem xsub4 : ∀ w ∈ wsX40, w ∈ xtb := fun w h => (goodIn_of wsX40 (by decide +kernel) w h).1
theorem xsub5 : ∀ w ∈ wsX50, w ∈ xtb := fun w h => (goodIn_of wsX50 (by decide +kernel) w h).1
theorem xsub6 : ∀ w ∈ wsX60, w ∈ xtb := fun w h => (goodIn_of wsX60 (by decide +kernel) w h).1
theorem xsub7 : ∀ w ∈ wsX70, w ∈ xtb := fun w h => (goodIn_of wsX70 (by decide +kernel) w h).1
theorem xsub8 : ∀ w ∈ wsX80, w ∈ xtb := fun w h => (goodIn_of wsX80 (by decide +kernel) w h).1
theorem xsub9 : ∀ w ∈ wsX90, w ∈ xtb := fun w h => (goodIn_of wsX90 (by decide +kernel) w h).1
theorem xsub10 : ∀ w ∈ wsX100, w ∈ xtb := fun w h => (goodIn_of wsX100 (by decide +kernel) w h).1
/-- all that a class's rows want, by its number -/
def xCls (ci : Nat) (C : String) (T : u_T) (N : Nat) (ty : Nat → FieldType) : Prop :=
  xcl[ci]? = some (C, T, N) ∧ (∀ w ∈ u_ws C T N, w ∈ xtb) ∧ (∀ k, k < N → parseFieldDescriptor (T k).2.2.1 = some (ty k)) ∧ (∀ a, a < N → ∀ b, b < N → a ≠ b → (T a).2.1 ≠ (T b).2.1) ∧ (∀ k, k < N → (T k).1 = C)
theorem xC0 : xCls 0 RX0 TX0 7 tyX0 := ⟨rfl, xsub0, tyX0_ok, nmX0, by decide +kernel⟩
theorem xC1 : xCls 1 RX1 TX1 4 tyX1 := ⟨rfl, xsub1, tyX1_ok, nmX1, by decide +kernel⟩
theorem xC2 : xCls 2 RX2 TX2 3 tyX2 := ⟨rfl, xsub2, tyX2_ok, nmX2, by decide +kernel⟩
theorem xC3 : xCls 3 RX3 TX3 4 tyX3 := ⟨rfl, xsub3, tyX3_ok, nmX3, by decide +kernel⟩
theorem xC4 : xCls 4 RX4 TX4 2 tyX4 := ⟨rfl, xsub4, tyX4_ok, nmX4, by decide +kernel⟩
theorem xC5 : xCls 5 RX5 TX5 2 tyX5 := ⟨rfl, xsub5, tyX5_ok, nmX5, by decide +kernel⟩
theorem xC6 : xCls 6 RX6 TX6 5 tyX6 := ⟨rfl, xsub6, tyX6_ok, nmX6, by decide +kernel⟩
theorem xC7 : xCls 7 RX7 TX7 9 tyX7 := ⟨rfl, xsub7, tyX7_ok, nmX7, by decide +kernel⟩
theorem xC8 : xCls 8 RX8 TX8 2 tyX8 := ⟨rfl, xsub8, tyX8_ok, nmX8, by decide +kernel⟩
theorem xC9 : xCls 9 RX9 TX9 5 tyX9 := ⟨rfl, xsub9, tyX9_ok, nmX9, by decide +kernel⟩
theorem xC10 : xCls 10 RX10 TX10 26 tyX10 := ⟨rfl, xsub10, tyX10_ok, nmX10, by decide +kernel⟩
/-- a field's entry in the pool: linked by the class itself, or by a nest mate -/
def xFl (own : String) (idx : Nat) (C : String) (T : u_T) (k : Nat) : Prop :=
  Cond.fieldLink own idx C (T k).2.1 (T k).2.2.1 ∈ xtb ∨ ∃ host, Cond.fieldLinkNest own idx C (T k).2.1 (T k).2.2.1 host ∈ xtb

/-- one cell written: the world behind it -/
theorem XW.put {G : xG} {w : xW} {s : State} {H H1 : Heap} {locs : List Loc} {i j : Nat} {e : va_E} (HW : XW G w s H) (HS : va_S (xA G) s.heap H locs) (hi : i < w.1) (hz : H1.size = H.size) (oq : ∀ q : Nat, q ≠ G.2.1 i → H1[q]? = H[q]?) (hat : va_at G.1 xcl (G.2.1 i, xce G.2.1 G.2.2.1 e) H1) : XW G (xset w i e) s H1 ∧ va_S (xA G) s.heap H1 (locs ++ [⟨G.2.1 i, j⟩]) := by
  have hA : xA G (G.2.1 i) := by
    show G.2.2.2 ≤ _
    rw [HW.2.2.1 i (Nat.lt_of_lt_of_le hi HW.2.1)]
    exact Nat.le_add_right _ _
  refine ⟨⟨by rw [hz]; exact HW.1, HW.2.1, HW.2.2.1, ?_, HW.2.2.2.2.1, HW.2.2.2.2.2.kept (fun q _ hq => oq q (fun e => hq (e ▸ hA)))⟩, HS.put hz oq hA⟩
  rw [← xws_set (G := G) (w := w) (i := i) (e := e) rfl]
  exact HW.2.2.2.1.set (xws_D HW) (xws_at hi) hat oq
def xinb (j : Int32) (n : Nat) : Bool := decide (0 ≤ j) && decide (j.toNatClampNeg < n)
theorem xinb_in {j : Int32} {n : Nat} (h : xinb j n = true) : vp_in j n := by
  simp only [xinb, Bool.and_eq_true, decide_eq_true_eq] at h
  intro q
  rcases q with q | q
  · exact absurd q (Int32.not_lt.mpr h.1)
  · omega
section SPC
variable {I : xI} {α : Type} {ρ : α → Value × xW} {kc ks pc : Nat} {L : xL} {S : List Value} {w : xW} {X : Option α}
set_option maxHeartbeats 1000000 in
theorem g_get {ci idx i : Nat} {C : String} {T : u_T} {N : Nat} {ty : Nat → FieldType} {fs : List Value} {u : Value} (hc : xCls ci C T N ty) (kf : Nat) (hf : xFl I.1.cls idx C T kf) (hkf : kf < N) (hi : i < w.1) (hE : w.2 i = .inr (ci, fs)) (hu : fs[kf]? = some u) (d : decode I.2.1 pc = .ok (.getfield idx, 3)) (k : SP I ρ kc ks (pc + 3) L (u :: S) w X) : SP I ρ kc ks pc L (.ref i :: S) w X := by
  intro v hX p l e s m args below meth c G H locs ls hC HW HS HL
  have he : (xws G w)[i]? = some (G.2.1 i, .inr (ci, fs.map (xcv G.2.1))) := by rw [xws_at hi, hE]; rfl
  have hv : (fs.map (xcv G.2.1))[kf]? = some (xcv G.2.1 u) := by rw [List.getElem?_map, hu]; rfl
  have hs : ∀ x, s.fieldFound? (T kf).1 (T kf).2.1 (T kf).2.2.1 = some x → s.fieldFound? C (T kf).2.1 (T kf).2.2.1 = some x := by rw [hc.2.2.2.2 kf hkf]; exact fun _ h => h
  rcases hf with hf | ⟨host, hf⟩
  · exact va_get hC.1 hC.2.1 hC.2.2.2.2.2.2.1 hc.2.1 hC.2.2.2.2.2.1 HW.2.2.2.2.1 HW.2.2.2.1 i he hc.1 kf hkf (hC.2.2.2.2.2.2.1 _ hf) hs hv d (k v hX p l e s m args below meth c G H locs ls hC HW HS HL)
  · exact va_getN hC.1 hC.2.1 hC.2.2.2.2.2.2.1 hc.2.1 hC.2.2.2.2.2.1 HW.2.2.2.2.1 HW.2.2.2.1 i he hc.1 kf hkf (hC.2.2.2.2.2.2.1 _ hf) hs hv d (k v hX p l e s m args below meth c G H locs ls hC HW HS HL)
set_option maxHeartbeats 1000000 in
theorem g_put {ci idx i : Nat} {C : String} {T : u_T} {N : Nat} {ty : Nat → FieldType} {fs : List Value} {u : Value} (hc : xCls ci C T N ty) (kf : Nat) (hf : xFl I.1.cls idx C T kf) (hkf : kf < N) (hi : i < w.1) (hE : w.2 i = .inr (ci, fs)) (hl : kf < fs.length) (hfin : (T kf).2.2.2 = false) (hn : ∀ ad, narrow (ty kf) (xcv ad u) = xcv ad u) (hfit : ∀ ad, fits (ty kf) (xcv ad u) = true) (d : decode I.2.1 pc = .ok (.putfield idx, 3)) (k : SP I ρ kc ks (pc + 3) L S (xset w i (.inr (ci, fs.set kf u))) X) : SP I ρ kc ks pc L (u :: .ref i :: S) w X := by
  intro v hX p l e s m args below meth c G H locs ls hC HW HS HL
  have he : (xws G w)[i]? = some (G.2.1 i, .inr (ci, fs.map (xcv G.2.1))) := by rw [xws_at hi, hE]; rfl
  have hs : ∀ x, s.fieldFound? (T kf).1 (T kf).2.1 (T kf).2.2.1 = some x → s.fieldFound? C (T kf).2.1 (T kf).2.2.1 = some x := by rw [hc.2.2.2.2 kf hkf]; exact fun _ h => h
  have hts := hC.2.2.2.2.2.2.1
  have hap := va_apart (own := I.1.cls) hts hc.2.1 ty hc.2.2.1 hc.2.2.2.1 HW.2.2.2.2.1 hc.1
  obtain ⟨r, h1, cell, q1, q2, q3, q4⟩ := HW.2.2.2.1 i _ he
  have hr : r = (C, T, N) := Option.some.inj ((show xcl[ci]? = some r from h1).symm.trans hc.1)
  subst hr
  obtain ⟨hS, hfc, kC, hkC, hkind⟩ := HW.2.2.2.2.1.1 ci _ hc.1
  obtain ⟨cf, kf2, fi, f, hi2, hsl⟩ := hS kf hkf
  have hlay := hts _ (hc.2.1 _ (u_in_lay hkf))
  unfold u_lay at hlay
  rw [if_neg (by rw [hfin]; decide)] at hlay
  have hst := (u_facts hfc hkC (u_lays hts hc.2.1 hkf) hi2).1
  have h6 := u_store hfc hkC hkind hlay hi2 (hc.2.2.1 kf hkf) (hn G.2.1) (hfit G.2.1)
  have go : ∀ H' : Heap, H'[G.2.1 i]? = some (cell.setSlot f.slot (xcv G.2.1 u)) → H'.size = H.size → (∀ q, q ≠ G.2.1 i → H'[q]? = H[q]?) → XW G (xset w i (.inr (ci, fs.set kf u))) s H' ∧ va_S (xA G) s.heap H' (locs ++ [⟨G.2.1 i, f.slot⟩]) := by
    intro H' e1 e2 e3
    rw [hsl] at e1
    refine XW.put HW HS hi e2 e3 ?_
    show ∃ r : vw_C, xcl[ci]? = some r ∧ t_OB (G.2.1 i) _ _ _ H' (vp_V ((fs.set kf u).map (xcv G.2.1)))
    refine ⟨_, hc.1, t_OB.to (V := updV (vp_V (fs.map (xcv G.2.1))) kf (xcv G.2.1 u)) ⟨_, e1, q2, q3, t_set q4 hap hkf _⟩ (fun j _ => ?_)⟩
    rw [List.map_set]
    exact vp_updV_set (by rw [List.length_map]; exact hl) _ j
  rcases hf with hf | ⟨host, hf⟩
  · refine W.putK hC.1 hC.2.1 (f := f) ⟨hC.2.2.2.2.2.1, hts _ hf, ⟨_, _, _, hs _ hi2⟩, hst⟩ (by rw [q2]; exact h6) q1 q3 (by rw [hsl]; exact k2_hasslot (q4 kf hkf)) rfl rfl d fun H' e1 e2 e3 => ?_
    obtain ⟨a1, a2⟩ := go H' e1 e2 e3
    exact (k v hX p l e s m args below meth c G H' _ ls hC a1 a2 HL)
  · refine va_WputK hC.1 hC.2.1 (f := f) hC.2.2.2.2.2.1 (hts _ hf) (hs _ hi2) hst (by rw [q2]; exact h6) q1 q3 (by rw [hsl]; exact k2_hasslot (q4 kf hkf)) rfl rfl d fun H' e1 e2 e3 => ?_
    obtain ⟨a1, a2⟩ := go H' e1 e2 e3
    exact (k v hX p l e s m args below meth c G H' _ ls hC a1 a2 HL)

set_option maxHeartbeats 1000000 in
theorem g_iald {i n : Nat} {j : Int32} {f : Nat → Int32} (hi : i < w.1) (hE : w.2 i = .inl (11, n, .inl f)) (d : decode I.2.1 pc = .ok (.iaload, 1)) (k : xinb j n = true → SP I ρ kc ks (pc + 1) L (.int (f j.toNatClampNeg) :: S) w X) : SP I ρ kc ks pc L (.int j :: .ref i :: S) w (if xinb j n = true then X else none) := by
  refine SP.ite (fun hb => ?_) (fun _ => SP.none)
  have k := k hb
  intro v hX p l e s m args below meth c G H locs ls hC HW HS HL
  have he : (xws G w)[i]? = some (G.2.1 i, .inl (G.2.2.1 11, n, .inl f)) := by rw [xws_at hi, hE]; rfl
  exact va_iald hC.1 hC.2.1 HW.2.2.2.2.1 HW.2.2.2.1 i 0 he rfl (xinb_in hb) d (k v hX p l e s m args below meth c G H locs ls hC HW HS HL)
set_option maxHeartbeats 1000000 in
theorem g_zald {i n : Nat} {j : Int32} {f : Nat → Int32} (hi : i < w.1) (hE : w.2 i = .inl (12, n, .inl f)) (d : decode I.2.1 pc = .ok (.baload, 1)) (k : xinb j n = true → SP I ρ kc ks (pc + 1) L (.int (f j.toNatClampNeg) :: S) w X) : SP I ρ kc ks pc L (.int j :: .ref i :: S) w (if xinb j n = true then X else none) := by
  refine SP.ite (fun hb => ?_) (fun _ => SP.none)
  have k := k hb
  intro v hX p l e s m args below meth c G H locs ls hC HW HS HL
  have he : (xws G w)[i]? = some (G.2.1 i, .inl (G.2.2.1 12, n, .inl f)) := by rw [xws_at hi, hE]; rfl
  exact va_zald hC.1 hC.2.1 HW.2.2.2.2.1 HW.2.2.2.1 i 1 he rfl (xinb_in hb) d (k v hX p l e s m args below meth c G H locs ls hC HW HS HL)
set_option maxHeartbeats 1000000 in
theorem g_lald {i n : Nat} {j : Int32} {f : Nat → Int64} (hi : i < w.1) (hE : w.2 i = .inl (13, n, .inr (.inl f))) (d : decode I.2.1 pc = .ok (.laload, 1)) (k : xinb j n = true → SP I ρ kc ks (pc + 1) L (.long (f j.toNatClampNeg) :: S) w X) : SP I ρ kc ks pc L (.int j :: .ref i :: S) w (if xinb j n = true then X else none) := by
  refine SP.ite (fun hb => ?_) (fun _ => SP.none)
  have k := k hb
  intro v hX p l e s m args below meth c G H locs ls hC HW HS HL
  have he : (xws G w)[i]? = some (G.2.1 i, .inl (G.2.2.1 13, n, .inr (.inl f))) := by rw [xws_at hi, hE]; rfl
  exact va_lald hC.1 hC.2.1 HW.2.2.2.2.1 HW.2.2.2.1 i 2 he rfl (xinb_in hb) d (k v hX p l e s m args below meth c G H locs ls hC HW HS HL)
set_option maxHeartbeats 1000000 in
theorem g_iast {i n : Nat} {j : Int32} {x : Int32} {f : Nat → Int32} (hi : i < w.1) (hE : w.2 i = .inl (11, n, .inl f)) (d : decode I.2.1 pc = .ok (.iastore, 1)) (k : xinb j n = true → SP I ρ kc ks (pc + 1) L S (xset w i (.inl (11, n, .inl (upd f j.toNatClampNeg x)))) X) : SP I ρ kc ks pc L (.int x :: .int j :: .ref i :: S) w (if xinb j n = true then X else none) := by
  refine SP.ite (fun hb => ?_) (fun _ => SP.none)
  have k := k hb
  intro v hX p l e s m args below meth c G H locs ls hC HW HS HL
  have he : (xws G w)[i]? = some (G.2.1 i, .inl (G.2.2.1 11, n, .inl f)) := by rw [xws_at hi, hE]; rfl
  refine W.iast hC.1 hC.2.1 (HW.2.2.2.1 i _ he) ((HW.2.2.2.2.1.2 0 _ rfl).1 n (fun j => .int (f j))) (fun q => by cases q) (by show ¬ (j < 0 ∨ (arrV _ _ _).slots.size ≤ _); rw [arrV_size]; exact xinb_in hb) rfl rfl d fun H1 e9 z oq => ?_
  obtain ⟨a1, a2⟩ := XW.put (e := .inl (11, n, .inl (upd f j.toNatClampNeg x))) (j := j.toNatClampNeg) HW HS hi z oq (by
    show H1[G.2.1 i]? = some (vp_cell _ _)
    rw [e9]
    rw [vp_cell_i, vp_cell_i, arrV_store]
    congr 2
    funext q
    by_cases hq : q = j.toNatClampNeg
    · subst hq
      simp [updV, upd, vp_nar, narrow]
    · simp [updV, upd, hq])
  exact (k v hX p l e s m args below meth c G H1 _ ls hC a1 a2 HL)
set_option maxHeartbeats 1000000 in
theorem g_zast {i n : Nat} {j : Int32} {x : Int32} {f : Nat → Int32} (hi : i < w.1) (hE : w.2 i = .inl (12, n, .inl f)) (d : decode I.2.1 pc = .ok (.bastore, 1)) (k : xinb j n = true → SP I ρ kc ks (pc + 1) L S (xset w i (.inl (12, n, .inl (upd f j.toNatClampNeg (vp_nar .boolean x))))) X) : SP I ρ kc ks pc L (.int x :: .int j :: .ref i :: S) w (if xinb j n = true then X else none) := by
  refine SP.ite (fun hb => ?_) (fun _ => SP.none)
  have k := k hb
  intro v hX p l e s m args below meth c G H locs ls hC HW HS HL
  have he : (xws G w)[i]? = some (G.2.1 i, .inl (G.2.2.1 12, n, .inl f)) := by rw [xws_at hi, hE]; rfl
  refine W.zast hC.1 hC.2.1 (HW.2.2.2.1 i _ he) ((HW.2.2.2.2.1.2 1 _ rfl).1 n (fun j => .int (f j))) (fun q => by cases q) (by show ¬ (j < 0 ∨ (arrV _ _ _).slots.size ≤ _); rw [arrV_size]; exact xinb_in hb) rfl rfl d fun H1 e9 z oq => ?_
  obtain ⟨a1, a2⟩ := XW.put (e := .inl (12, n, .inl (upd f j.toNatClampNeg (vp_nar .boolean x)))) (j := j.toNatClampNeg) HW HS hi z oq (by
    show H1[G.2.1 i]? = some (vp_cell _ _)
    rw [e9]
    rw [vp_cell_i, vp_cell_i, arrV_store]
    congr 2
    funext q
    by_cases hq : q = j.toNatClampNeg
    · subst hq
      simp [updV, upd, vp_nar, narrow]
    · simp [updV, upd, hq])
  exact (k v hX p l e s m args below meth c G H1 _ ls hC a1 a2 HL)
set_option maxHeartbeats 1000000 in
theorem g_last {i n : Nat} {j : Int32} {x : Int64} {f : Nat → Int64} (hi : i < w.1) (hE : w.2 i = .inl (13, n, .inr (.inl f))) (d : decode I.2.1 pc = .ok (.lastore, 1)) (k : xinb j n = true → SP I ρ kc ks (pc + 1) L S (xset w i (.inl (13, n, .inr (.inl (vp_updL f j.toNatClampNeg x))))) X) : SP I ρ kc ks pc L (.long x :: .int j :: .ref i :: S) w (if xinb j n = true then X else none) := by
  refine SP.ite (fun hb => ?_) (fun _ => SP.none)
  have k := k hb
  intro v hX p l e s m args below meth c G H locs ls hC HW HS HL
  have he : (xws G w)[i]? = some (G.2.1 i, .inl (G.2.2.1 13, n, .inr (.inl f))) := by rw [xws_at hi, hE]; rfl
  refine W.last hC.1 hC.2.1 (HW.2.2.2.1 i _ he) ((HW.2.2.2.2.1.2 2 _ rfl).1 n (fun j => .long (f j))) (fun q => by cases q) (by show ¬ (j < 0 ∨ (arrV _ _ _).slots.size ≤ _); rw [arrV_size]; exact xinb_in hb) rfl rfl d fun H1 e9 z oq => ?_
  obtain ⟨a1, a2⟩ := XW.put (e := .inl (13, n, .inr (.inl (vp_updL f j.toNatClampNeg x)))) (j := j.toNatClampNeg) HW HS hi z oq (by
    show H1[G.2.1 i]? = some (vp_cell _ _)
    rw [e9]
    rw [vp_cell_l, vp_cell_l, arrV_store]
    congr 2
    funext q
    by_cases hq : q = j.toNatClampNeg
    · subst hq
      simp [updV, vp_updL, vp_nar, narrow]
    · simp [updV, vp_updL, hq])
  exact (k v hX p l e s m args below meth c G H1 _ ls hC a1 a2 HL)
set_option maxHeartbeats 1000000 in
theorem g_aald {i n t t0 : Nat} {ty : FieldType} {j : Int32} {f : Nat → Option Nat} {q : Nat} (hi : i < w.1) (hE : w.2 i = .inl (t, n, .inr (.inr (.inr (.inr f))))) (ht : ∀ cA : Nat → ClassId, (xtys cA)[t0]? = some (cA t, ty)) (hr : ty.isReference = true) (d : decode I.2.1 pc = .ok (.aaload, 1)) (hq : xinb j n = true → f j.toNatClampNeg = some q) (k : xinb j n = true → SP I ρ kc ks (pc + 1) L (.ref q :: S) w X) : SP I ρ kc ks pc L (.int j :: .ref i :: S) w (if xinb j n = true then X else none) := by
  refine SP.ite (fun hb => ?_) (fun _ => SP.none)
  have k := k hb
  intro v hX p l e s m args below meth c G H locs ls hC HW HS HL
  have he : (xws G w)[i]? = some (G.2.1 i, .inl (G.2.2.1 t, n, .inr (.inr (.inr (.inr (fun j => (f j).map G.2.1)))))) := by rw [xws_at hi, hE]; rfl
  have hlt : j.toNatClampNeg < n := Nat.not_le.mp fun q => (xinb_in hb) (Or.inr q)
  refine W.aald (v := .ref (G.2.1 q)) (ty := ty) hC.1 hC.2.1 (HW.2.2.2.1 i _ he) ((HW.2.2.2.2.1.2 t0 _ (ht G.2.2.1)).1 n (fun j => va_rf ((f j).map G.2.1))) hr (fun q => by cases q) (by show ¬ (j < 0 ∨ (arrV _ _ _).slots.size ≤ _); rw [arrV_size]; exact xinb_in hb) (by show (arrV _ _ _).slots[_]? = _; rw [arrV_read _ _ hlt]; show some (va_rf ((f j.toNatClampNeg).map G.2.1)) = _; rw [hq hb]; rfl) rfl rfl d (k v hX p l e s m args below meth c G H locs ls hC HW HS HL)
set_option maxHeartbeats 1000000 in
theorem g_alen {i t0 : Nat} {t : ClassId} {x : vp_A} {ty : FieldType} {a : Int32} (hi : i < w.1) (hE : w.2 i = .inl (t, x)) (ht : ∀ cA : Nat → ClassId, (xtys cA)[t0]? = some (cA t, ty)) (ha : Int32.ofNat x.1 = a) (d : decode I.2.1 pc = .ok (.arraylength, 1)) (k : SP I ρ kc ks (pc + 1) L (.int a :: S) w X) : SP I ρ kc ks pc L (.ref i :: S) w X := by
  intro v hX p l e s m args below meth c G H locs ls hC HW HS HL
  have he : ∃ y : vp_A, y.1 = x.1 ∧ (xws G w)[i]? = some (G.2.1 i, .inl (G.2.2.1 t, y)) := by
    rw [xws_at hi, hE]
    obtain ⟨n, f | f | f | f | f⟩ := x
    · exact ⟨(n, .inl f), rfl, rfl⟩
    · exact ⟨(n, .inr (.inl f)), rfl, rfl⟩
    · exact ⟨(n, .inr (.inr (.inl f))), rfl, rfl⟩
    · exact ⟨(n, .inr (.inr (.inr (.inl f)))), rfl, rfl⟩
    · exact ⟨(n, .inr (.inr (.inr (.inr (fun j => (f j).map G.2.1))))), rfl, rfl⟩
  obtain ⟨y, hy, he⟩ := he
  exact va_alen hC.1 hC.2.1 HW.2.2.2.2.1 HW.2.2.2.1 i t0 he (ht G.2.2.1) (by rw [hy]; exact ha) d (k v hX p l e s m args below meth c G H locs ls hC HW HS HL)
set_option maxHeartbeats 1000000 in
/-- a static table: 200 + k is its number -/
theorem g_gets {idx t : Nat} {nm : String} (hZ : ∀ (G : xG) (U : State) (H : Heap), xSt G U H → va_Z RX9 nm "[I" (.ref (G.2.1 t)) (xA G) U H) (hw : Cond.fieldLink I.1.cls idx RX9 nm "[I" ∈ xtb) (d : decode I.2.1 pc = .ok (.getstatic idx, 3)) (k : SP I ρ kc ks (pc + 3) L (.ref t :: S) w X) : SP I ρ kc ks pc L S w X := by
  intro v hX p l e s m args below meth c G H locs ls hC HW HS HL
  obtain ⟨cf, kf, fi, f, a, cell, h1, h2, h3, h4, h5, h6, h7, h8⟩ := hZ G s H HW.2.2.2.2.2
  exact W.gets hC.1 hC.2.1 hC.2.2.2.2.2.1 (hC.2.2.2.2.2.2.1 _ hw) h1 h2 h3 h4 h5 (fun e => by rw [e] at h6; cases h6) h7 rfl d (k v hX p l e s m args below meth c G H locs ls hC HW HS HL)
set_option maxHeartbeats 1000000 in
theorem g_tld {t n : Nat} {f : Nat → Int32} {j : Int32} (hT : ∀ (G : xG) (U : State) (H : Heap), xSt G U H → va_T .int (G.2.1 t) n (fun j => .int (f j)) (xA G) U H) (d : decode I.2.1 pc = .ok (.iaload, 1)) (k : xinb j n = true → SP I ρ kc ks (pc + 1) L (.int (f j.toNatClampNeg) :: S) w X) : SP I ρ kc ks pc L (.int j :: .ref t :: S) w (if xinb j n = true then X else none) := by
  refine SP.ite (fun hb => ?_) (fun _ => SP.none)
  have k := k hb
  intro v hX p l e s m args below meth c G H locs ls hC HW HS HL
  obtain ⟨cell, h1, h2, h3, h4, h5, h6, h7⟩ := hT G s H HW.2.2.2.2.2
  have hlt : j.toNatClampNeg < n := Nat.not_le.mp fun q => (xinb_in hb) (Or.inr q)
  exact W.iald (v := .int (f j.toNatClampNeg)) hC.1 hC.2.1 h1 h2 h3 (fun q => q.elim (fun q => (xinb_in hb) (Or.inl q)) (fun q => by omega)) (h6 _ hlt) rfl rfl d (k v hX p l e s m args below meth c G H locs ls hC HW HS HL)

set_option maxHeartbeats 1000000 in
/-- the script -/
theorem x_sld {n : Nat} {f : Nat → Int32} {j : Int32} (hsc : I.2.2.2.2.2 = some (n, f)) (d : decode I.2.1 pc = .ok (.iaload, 1)) (k : xinb j n = true → SP I ρ kc ks (pc + 1) L (.int (f j.toNatClampNeg) :: S) w X) : SP I ρ kc ks pc L (.int j :: .ref 203 :: S) w (if xinb j n = true then X else none) := by
  refine SP.ite (fun hb => ?_) (fun _ => SP.none)
  have k := k hb
  intro v hX p l e s m args below meth c G H locs ls hC HW HS HL
  have hT := hC.2.2.2.2.2.2.2.2
  rw [hsc] at hT
  exact va_ti hC.1 hC.2.1 hT HS (xinb_in hb) rfl d (k v hX p l e s m args below meth c G H locs ls hC HW HS HL)
theorem x_slen {n : Nat} {f : Nat → Int32} {a : Int32} (hsc : I.2.2.2.2.2 = some (n, f)) (ha : Int32.ofNat n = a) (d : decode I.2.1 pc = .ok (.arraylength, 1)) (k : SP I ρ kc ks (pc + 1) L (.int a :: S) w X) : SP I ρ kc ks pc L (.ref 203 :: S) w X := by
  intro v hX p l e s m args below meth c G H locs ls hC HW HS HL
  have hT := hC.2.2.2.2.2.2.2.2
  rw [hsc] at hT
  exact va_tlen hC.1 hC.2.1 hT HS ha d (k v hX p l e s m args below meth c G H locs ls hC HW HS HL)

/-- what a callee's words are in the tables -/
def xMe (Iz : xI) : Prop := Cond.code Iz.1 Iz.2.1 Iz.2.2.1 Iz.2.2.2.1 ∈ xtb ∧ Cond.initialized Iz.1.cls ∈ xtb ∧ (Iz.1.cls ≠ "java/lang/invoke/MethodHandle" ∧ Iz.1.cls ≠ "java/lang/invoke/VarHandle")
def xMeV (Iz : xI) : Prop := xMe Iz ∧ Cond.instanceMethod Iz.1 ∈ xtb ∧ Cond.selects Iz.1.cls Iz.1 Iz.1 ∈ xtb
def xMeS (Iz : xI) : Prop := xMe Iz ∧ Cond.static Iz.1 ∈ xtb
/-- a call's room -/
def xRm (I Iz : xI) (kc ks n : Nat) : Prop := (parseMethodDescriptor Iz.1.desc).map (fun d => d.parameters.length) = some n ∧ Iz.2.2.2.2.1.frames + 1 ≤ I.2.2.2.2.1.frames ∧ 8 + (Iz.2.2.1 + 11) + Iz.2.2.2.2.1.locals ≤ I.2.2.2.2.1.locals ∧ kc + Iz.2.2.2.2.1.cells ≤ I.2.2.2.2.1.cells ∧ ks + Iz.2.2.2.2.1.slots ≤ I.2.2.2.2.1.slots
def xSum (st : List Value) : Nat := (st.map fun v => v.category).sum
theorem xSum_cv (ad : Nat → Nat) (st : List Value) : ((st.map (xcv ad)).map fun v => v.category).sum = xSum st := by
  unfold xSum
  rw [List.map_map]
  congr 1
  apply List.map_congr_left
  intro v _
  exact xcv_cat ad v
theorem xPc_blind (G : xG) (As : List Value) (w : xW) : FrameBlind (xPc G As w) := fun a U g mk q => ⟨q.1, q.2.moved (u := U) (U := U.calling g mk a) (Vm.Alike.refl U.vm)⟩
section SPCC
variable {Iz : xI} {β : Type} {ρz : β → Value × xW} {Fz : Option β} {K : β → Option α} {As rest : List Value} {b ci idx n : Nat} {C : String} {T : u_T} {N : Nat} {ty : Nat → FieldType} {fs : List Value}
/-- behind a call, whichever -/
theorem x_back {v : α} {q : β} {p : Program} {l : Launch} {e : Env} {s : State} {m : MethodId} {args : Array Value} {below : List Frame} {meth : Method} {c : Code} {G : xG} {H : Heap} {locs : List Loc} {ls : Array Slot} {a : Array Value}
    (hr : va_Run p l e I.2.2.2.2.1 s m args below meth c H locs kc ks Iz.2.2.2.2.1.cells Iz.2.2.2.2.1.slots (F0 m pc ls (S.map (xcv G.2.1))) (rest.map (xcv G.2.1)) (xQ G (ρz q) a) (xA G)) (hK : K q = some v) (hC : xC I G p s m args meth c) (HS : va_S (xA G) s.heap H locs) (HL : xLH G.2.1 ls I.2.2.1 L)
    (k : SP I ρ (kc + Iz.2.2.2.2.1.cells) (ks + Iz.2.2.2.2.1.slots) (pc + 3) L (xpush (ρz q).1 rest) (ρz q).2 (K q)) : W p l e I.2.2.2.2.1 s m args below meth c H locs kc ks (MQ below (xQ G (ρ v)) args s I.2.2.2.2.1.cells I.2.2.2.2.1.slots (xA G)) (F0 m pc ls (S.map (xcv G.2.1))) := by
  intro T0 hT X0
  obtain ⟨u, st₀, t, T', L1, h0, X', hL, e1, e2, ⟨hu, hW, hz, hk⟩, st⟩ := hr T0 hT X0
  have hu := Outcome.returned.inj hu
  subst hu
  rw [h0] at hz hk
  obtain ⟨t2, a1, b1⟩ := k v hK p l e s m args below meth c G T'.heap (locs ++ L1) ls hC (by
      rw [e1]
      exact hW.moved (by rw [← e2]; exact X'.warmed.alike.symm))
    ⟨Nat.le_trans HS.1 (by rw [e1]; exact hz), fun q h1 h2 => by rw [e1, hk q (Nat.lt_of_lt_of_le h1 HS.1) h2]; exact HS.2.1 q h1 h2, fun q hq => by
      rcases List.mem_append.mp hq with h | h
      · exact HS.2.2 q h
      · exact hL q h⟩ HL T' rfl X'
  refine ⟨t2, st t2 ?_, b1⟩
  rw [xro_push]
  exact a1
set_option maxHeartbeats 1000000 in
theorem x_callV (hct : Ct Iz ρz (.ref b :: As) w Fz) (hS : S = As.reverse ++ .ref b :: rest) (hc : xCls ci Iz.1.cls T N ty) (hi : b < w.1) (hE : w.2 b = .inr (ci, fs)) (hw : Cond.methodLink I.1.cls idx Iz.1 ∈ xtb) (hm : xMeV Iz) (hn : As.length = n) (hR : xRm I Iz kc ks n) (hrest : xSum rest ≤ 8) (d : decode I.2.1 pc = .ok (.invokevirtual idx, 3))
    (k : ∀ q, SP I ρ (kc + Iz.2.2.2.2.1.cells) (ks + Iz.2.2.2.2.1.slots) (pc + 3) L (xpush (ρz q).1 rest) (ρz q).2 (K q)) : SP I ρ kc ks pc L S w (Fz.bind K) := by
  intro v hX p l e s m args below meth c G H locs ls hC HW HS HL
  obtain ⟨q, hq, hK⟩ := Option.bind_eq_some_iff.mp hX
  have hM := hct q hq l G
  have he : (xws G w)[b]? = some (G.2.1 b, .inr (ci, fs.map (xcv G.2.1))) := by rw [xws_at hi, hE]; rfl
  have hts := hC.2.2.2.2.2.2.1
  have hg : GoodIn xtb (wsV I.1.cls idx Iz.1.cls Iz.1 (xwds Iz)) := xgood (fun _ h => h) (by
    intro u hu
    simp only [wsV, List.cons_append, List.nil_append, List.mem_cons] at hu
    rcases hu with rfl | rfl | rfl | rfl | rfl | hu
    · exact hw
    · exact hm.2.1
    · exact hm.2.2
    · exact hm.1.2.1
    · exact hm.1.1
    · exact hu)
  refine x_back (K := K) (va_runV (As := As.map (xcv G.2.1)) ⟨hC.1, hC.2.1, hC.2.2.1, hC.2.2.2.2.2.1, hts⟩ hM (cwV n hts hg rfl rfl rfl ⟨rfl, hm.1.2.2.1, hm.1.2.2.2, hR.1⟩ ⟨hR.2.1, hR.2.2.1⟩) ⟨xPc_blind G _ w, va_recv HW.2.2.2.2.1 HW.2.2.2.1 hc.1 he, fun U hU hW => ⟨rfl, by rw [hU]; exact HW.moved hW.alike⟩⟩ rfl (by rw [List.length_map]; exact hn) HL.1 (by rw [hS]; simp [xcv]) (lv_room (by rw [xSum_cv]; exact hrest)) d hR.2.2.2) hK hC HS HL (k q)
set_option maxHeartbeats 1000000 in
theorem x_callVN {host : String} (hct : Ct Iz ρz (.ref b :: As) w Fz) (hS : S = As.reverse ++ .ref b :: rest) (hc : xCls ci Iz.1.cls T N ty) (hi : b < w.1) (hE : w.2 b = .inr (ci, fs)) (hw : Cond.methodLinkNest I.1.cls idx Iz.1 host ∈ xtb) (hm : xMeV Iz) (hn : As.length = n) (hR : xRm I Iz kc ks n) (hrest : xSum rest ≤ 8) (d : decode I.2.1 pc = .ok (.invokevirtual idx, 3))
    (k : ∀ q, SP I ρ (kc + Iz.2.2.2.2.1.cells) (ks + Iz.2.2.2.2.1.slots) (pc + 3) L (xpush (ρz q).1 rest) (ρz q).2 (K q)) : SP I ρ kc ks pc L S w (Fz.bind K) := by
  intro v hX p l e s m args below meth c G H locs ls hC HW HS HL
  obtain ⟨q, hq, hK⟩ := Option.bind_eq_some_iff.mp hX
  have hM := hct q hq l G
  have he : (xws G w)[b]? = some (G.2.1 b, .inr (ci, fs.map (xcv G.2.1))) := by rw [xws_at hi, hE]; rfl
  have hts := hC.2.2.2.2.2.2.1
  have hg : GoodIn xtb (xwds Iz) := xgood (fun _ h => h) (by
    intro u hu
    rcases List.mem_cons.mp hu with rfl | hu
    · exact hm.1.1
    · exact hu)
  refine x_back (K := K) (va_runVN (As := As.map (xcv G.2.1)) ⟨hC.1, hC.2.1, hC.2.2.1, hC.2.2.2.2.2.1, hts⟩ hM ⟨va_cnB n hts hg rfl rfl rfl (va_Nw.of rfl (hts _ hw)) (hts _ hm.1.2.1) ⟨hm.1.2.2.1, hm.1.2.2.2, hR.1⟩ ⟨hR.2.1, hR.2.2.1⟩, hts _ hm.2.1, hts _ hm.2.2⟩ ⟨xPc_blind G _ w, va_recv HW.2.2.2.2.1 HW.2.2.2.1 hc.1 he, fun U hU hW => ⟨rfl, by rw [hU]; exact HW.moved hW.alike⟩⟩ rfl (by rw [List.length_map]; exact hn) HL.1 (by rw [hS]; simp [xcv]) (lv_room (by rw [xSum_cv]; exact hrest)) d hR.2.2.2) hK hC HS HL (k q)
set_option maxHeartbeats 1000000 in
theorem x_callS (hct : Ct Iz ρz As w Fz) (hS : S = As.reverse ++ rest) (hw : Cond.methodLink I.1.cls idx Iz.1 ∈ xtb) (hm : xMeS Iz) (hn : As.length = n) (hR : xRm I Iz kc ks n) (hrest : xSum rest ≤ 8) (d : decode I.2.1 pc = .ok (.invokestatic idx, 3))
    (k : ∀ q, SP I ρ (kc + Iz.2.2.2.2.1.cells) (ks + Iz.2.2.2.2.1.slots) (pc + 3) L (xpush (ρz q).1 rest) (ρz q).2 (K q)) : SP I ρ kc ks pc L S w (Fz.bind K) := by
  intro v hX p l e s m args below meth c G H locs ls hC HW HS HL
  obtain ⟨q, hq, hK⟩ := Option.bind_eq_some_iff.mp hX
  have hM := hct q hq l G
  have hts := hC.2.2.2.2.2.2.1
  have hg : GoodIn xtb (va_wsS I.1.cls idx Iz.1 (xwds Iz)) := xgood (fun _ h => h) (by
    intro u hu
    simp only [va_wsS, List.cons_append, List.nil_append, List.mem_cons] at hu
    rcases hu with rfl | rfl | rfl | rfl | hu
    · exact hw
    · exact hm.2
    · exact hm.1.2.1
    · exact hm.1.1
    · exact hu)
  refine x_back (K := K) (va_runS (As := As.map (xcv G.2.1)) ⟨hC.1, hC.2.1, hC.2.2.1, hC.2.2.2.2.2.1, hts⟩ hM (va_cwS n hts hg rfl rfl rfl ⟨hm.1.2.2.1, hm.1.2.2.2, hR.1⟩ ⟨hR.2.1, hR.2.2.1⟩) ⟨xPc_blind G _ w, fun U hU hW => ⟨rfl, by rw [hU]; exact HW.moved hW.alike⟩⟩ rfl (by rw [List.length_map]; exact hn) HL.1 (by rw [hS]; simp [xcv]) (lv_room (by rw [xSum_cv]; exact hrest)) d hR.2.2.2) hK hC HS HL (k q)
set_option maxHeartbeats 1000000 in
theorem x_callSN {host : String} (hct : Ct Iz ρz As w Fz) (hS : S = As.reverse ++ rest) (hw : Cond.methodLinkNest I.1.cls idx Iz.1 host ∈ xtb) (hm : xMeS Iz) (hn : As.length = n) (hR : xRm I Iz kc ks n) (hrest : xSum rest ≤ 8) (d : decode I.2.1 pc = .ok (.invokestatic idx, 3))
    (k : ∀ q, SP I ρ (kc + Iz.2.2.2.2.1.cells) (ks + Iz.2.2.2.2.1.slots) (pc + 3) L (xpush (ρz q).1 rest) (ρz q).2 (K q)) : SP I ρ kc ks pc L S w (Fz.bind K) := by
  intro v hX p l e s m args below meth c G H locs ls hC HW HS HL
  obtain ⟨q, hq, hK⟩ := Option.bind_eq_some_iff.mp hX
  have hM := hct q hq l G
  have hts := hC.2.2.2.2.2.2.1
  have hg : GoodIn xtb (xwds Iz) := xgood (fun _ h => h) (by
    intro u hu
    rcases List.mem_cons.mp hu with rfl | hu
    · exact hm.1.1
    · exact hu)
  refine x_back (K := K) (va_runSN (As := As.map (xcv G.2.1)) ⟨hC.1, hC.2.1, hC.2.2.1, hC.2.2.2.2.2.1, hts⟩ hM ⟨va_cnB n hts hg rfl rfl rfl (va_Nw.of rfl (hts _ hw)) (hts _ hm.1.2.1) ⟨hm.1.2.2.1, hm.1.2.2.2, hR.1⟩ ⟨hR.2.1, hR.2.2.1⟩, hts _ hm.2, trivial⟩ ⟨xPc_blind G _ w, fun U hU hW => ⟨rfl, by rw [hU]; exact HW.moved hW.alike⟩⟩ rfl (by rw [List.length_map]; exact hn) HL.1 (by rw [hS]; simp [xcv]) (lv_room (by rw [xSum_cv]; exact hrest)) d hR.2.2.2) hK hC HS HL (k q)
end SPCC
/-! Math.max, min, abs of ints -/

set_option maxHeartbeats 1000000 in
theorem x_mmax {idx : Nat} {a b : Int32} (hw : Cond.methodLink I.1.cls idx Lib.Math.max.name ∈ xtb) (hs : Cond.static Lib.Math.max.name ∈ xtb) (hi : Cond.initialized "java/lang/Math" ∈ xtb) (hcd : Cond.code Lib.Math.max.name Lib.Math.max.code 2 (some .int) ∈ xtb) (hf : 1 ≤ I.2.2.2.2.1.frames) (hr : xSum S + 15 ≤ I.2.2.2.2.1.locals) (hc : kc ≤ I.2.2.2.2.1.cells) (hs2 : ks ≤ I.2.2.2.2.1.slots) (d : decode I.2.1 pc = .ok (.invokestatic idx, 3)) (k : SP I ρ kc ks (pc + 3) L (.int (if a < b then b else a) :: S) w X) : SP I ρ kc ks pc L (.int b :: .int a :: S) w X := by
  intro v hX p l e s m args below meth c G H locs ls hC HW HS HL
  have hts := hC.2.2.2.2.2.2.1
  exact va_mmax hC.1 hC.2.1 (hC.2.2.1.trans HL.1.symm) hC.2.2.2.2.2.1 (hts _ hw) (hts _ hs) (hts _ hi) (hts _ hcd) hf (by rw [xSum_cv]; omega) hc hs2 d (k v hX p l e s m args below meth c G H locs ls hC HW HS HL)
set_option maxHeartbeats 1000000 in
theorem x_mmin {idx : Nat} {a b : Int32} (hw : Cond.methodLink I.1.cls idx Lib.Math.min.name ∈ xtb) (hs : Cond.static Lib.Math.min.name ∈ xtb) (hi : Cond.initialized "java/lang/Math" ∈ xtb) (hcd : Cond.code Lib.Math.min.name Lib.Math.min.code 2 (some .int) ∈ xtb) (hf : 1 ≤ I.2.2.2.2.1.frames) (hr : xSum S + 15 ≤ I.2.2.2.2.1.locals) (hc : kc ≤ I.2.2.2.2.1.cells) (hs2 : ks ≤ I.2.2.2.2.1.slots) (d : decode I.2.1 pc = .ok (.invokestatic idx, 3)) (k : SP I ρ kc ks (pc + 3) L (.int (if b < a then b else a) :: S) w X) : SP I ρ kc ks pc L (.int b :: .int a :: S) w X := by
  intro v hX p l e s m args below meth c G H locs ls hC HW HS HL
  have hts := hC.2.2.2.2.2.2.1
  exact va_mmin hC.1 hC.2.1 (hC.2.2.1.trans HL.1.symm) hC.2.2.2.2.2.1 (hts _ hw) (hts _ hs) (hts _ hi) (hts _ hcd) hf (by rw [xSum_cv]; omega) hc hs2 d (k v hX p l e s m args below meth c G H locs ls hC HW HS HL)
set_option maxHeartbeats 1000000 in
theorem x_mabs {idx : Nat} {a : Int32} (hw : Cond.methodLink I.1.cls idx Lib.Math.abs.name ∈ xtb) (hs : Cond.static Lib.Math.abs.name ∈ xtb) (hi : Cond.initialized "java/lang/Math" ∈ xtb) (hcd : Cond.code Lib.Math.abs.name Lib.Math.abs.code 1 (some .int) ∈ xtb) (hf : 1 ≤ I.2.2.2.2.1.frames) (hr : xSum S + 15 ≤ I.2.2.2.2.1.locals) (hc : kc ≤ I.2.2.2.2.1.cells) (hs2 : ks ≤ I.2.2.2.2.1.slots) (d : decode I.2.1 pc = .ok (.invokestatic idx, 3)) (k : SP I ρ kc ks (pc + 3) L (.int (if 0 ≤ a then a else 0 - a) :: S) w X) : SP I ρ kc ks pc L (.int a :: S) w X := by
  intro v hX p l e s m args below meth c G H locs ls hC HW HS HL
  have hts := hC.2.2.2.2.2.2.1
  exact va_mabs hC.1 hC.2.1 (hC.2.2.1.trans HL.1.symm) hC.2.2.2.2.2.1 (hts _ hw) (hts _ hs) (hts _ hi) (hts _ hcd) hf (by rw [xSum_cv]; omega) hc hs2 d (k v hX p l e s m args below meth c G H locs ls hC HW HS HL)
set_option maxHeartbeats 1000000 in
theorem x_mabsL {idx : Nat} {a : Int64} (hw : Cond.methodLink I.1.cls idx Lib.MathLoose.abs_long.x ∈ xtb) (hs : Cond.static Lib.MathLoose.abs_long.x ∈ xtb) (hi : Cond.initialized "java/lang/Math" ∈ xtb) (hcd : Cond.code Lib.MathLoose.abs_long.x Lib.MathLoose.abs_long.code 2 (some .long) ∈ xtb) (hf : 1 ≤ I.2.2.2.2.1.frames) (hr : xSum S + 15 ≤ I.2.2.2.2.1.locals) (hc : kc ≤ I.2.2.2.2.1.cells) (hs2 : ks ≤ I.2.2.2.2.1.slots) (d : decode I.2.1 pc = .ok (.invokestatic idx, 3)) (k : SP I ρ kc ks (pc + 3) L (.long (if 0 < a then a else -a) :: S) w X) : SP I ρ kc ks pc L (.long a :: S) w X := by
  intro v hX p l e s m args below meth c G H locs ls hC HW HS HL
  have hts := hC.2.2.2.2.2.2.1
  exact va_mabs_long hC.1 hC.2.1 (hC.2.2.1.trans HL.1.symm) hC.2.2.2.2.2.1 (hts _ hw) (hts _ hs) (hts _ hi) (hts _ hcd) hf (by rw [xSum_cv]; omega) hc hs2 d (k v hX p l e s m args below meth c G H locs ls hC HW HS HL)
end SPC
end
section

/-! ===== the world once all is made: 191 cells whose numbers and links stand; what moves is ints (and the longs of two arrays) ===== -/
abbrev xM : Type := (Nat → Nat → Int32) × (Nat → Nat → Int64)
/-- what lies at number i: 0 .. 10 an object of that class; 11 int[], 12 boolean[], 13 long[], 14 Place[], 15 Valley[], 16 int[][]; 99 nothing -/
def xT (i : Nat) : Nat :=
  if i < 8 then ([9, 6, 14, 3, 11, 11, 11, 11] : List Nat).getD i 99
  else if i < 72 then (if i % 4 = 0 then 7 else 11)
  else if i < 142 then (if i = 72 then 0 else if i = 73 ∨ i = 90 ∨ i = 107 ∨ i = 124 then 16 else 11)
  else if i < 148 then ([5, 2, 11, 11, 4, 15] : List Nat).getD (i - 142) 99
  else if i < 164 then (if i % 2 = 0 then 8 else 12)
  else if i < 170 then ([1, 2, 11, 11, 11, 11] : List Nat).getD (i - 164) 99
  else if i < 191 then (if i = 170 then 10 else if i = 186 then 12 else if 189 ≤ i then 13 else 11)
  else 99
/-- how long the array at i is -/
def xN (i : Nat) : Nat :=
  if i < 8 then ([0, 0, 16, 0, 100, 100, 100, 12] : List Nat).getD i 0
  else if i < 72 then 56
  else if i < 142 then (if i = 73 ∨ i = 90 ∨ i = 107 ∨ i = 124 then 16 else 56)
  else if i < 148 then ([0, 0, 4, 4, 0, 8] : List Nat).getD (i - 142) 0
  else if i < 164 then 100
  else if i < 170 then ([0, 0, 4, 4, 8, 8] : List Nat).getD (i - 164) 0
  else if i < 177 then 16
  else if i < 181 then 896
  else if i < 185 then 100
  else ([8, 800, 16, 4, 8, 8] : List Nat).getD (i - 185) 0
/-- how many fields a class has -/
def xF (c : Nat) : Nat := ([7, 4, 3, 4, 2, 2, 5, 9, 2, 5, 26] : List Nat).getD c 0
/-- where a field of references leads -/
def xK (c k i : Nat) : Option Nat := match c with
  | 0 => match k with | 0 => some 1 | 1 => some 73 | 2 => some 90 | 3 => some 107 | 4 => some 124 | 5 => some 141 | _ => none
  | 1 => match k with | 0 => some 1 | 1 => some 165 | 2 => some 168 | 3 => some 169 | _ => none
  | 2 => match k with | 0 => some (i + 1) | 1 => some (i + 2) | _ => none
  | 3 => match k with | 0 => some 4 | 1 => some 5 | 2 => some 6 | _ => none
  | 4 => match k with | 0 => some 1 | 1 => some 147 | _ => none
  | 5 => match k with | 0 => some 1 | 1 => some 143 | _ => none
  | 6 => match k with | 0 => some 2 | 1 => some 3 | 2 => some 7 | _ => none
  | 7 => match k with | 6 => some (i + 1) | 7 => some (i + 2) | 8 => some (i + 3) | _ => none
  | 8 => match k with | 0 => some (i + 1) | _ => none
  | 9 => match k with | 0 => some 1 | 1 => some 72 | 2 => some 142 | 3 => some 146 | 4 => some 164 | _ => none
  | 10 => if k < 14 then some (171 + k) else if k < 20 then none else if k < 26 then some (165 + k) else none
  | _ => none
/-- where an array of references leads -/
def xE (i j : Nat) : Nat := if i = 2 then 8 + 4 * j else if i = 147 then 148 + 2 * j else i + 1 + j
def xV (M : xM) (c i k : Nat) : Value := match xK c k i with
  | some t => .ref t
  | none => .int (M.1 i k)
def xent (M : xM) (i : Nat) : va_E :=
  if xT i < 11 then .inr (xT i, (List.range (xF (xT i))).map (xV M (xT i) i))
  else if xT i < 13 then .inl (xT i, xN i, .inl (M.1 i))
  else if xT i = 13 then .inl (13, xN i, .inr (.inl (M.2 i)))
  else .inl (xT i, xN i, .inr (.inr (.inr (.inr (fun j => some (xE i j))))))
def xwd (M : xM) : xW := (191, xent M)
def xw (M : xM) (i k : Nat) (v : Int32) : xM := (fun a b => if a = i ∧ b = k then v else M.1 a b, M.2)
def xwl (M : xM) (i k : Nat) (v : Int64) : xM := (M.1, fun a b => if a = i ∧ b = k then v else M.2 a b)
theorem xT_lt {i : Nat} (h : xT i < 99) : i < 191 := by
  unfold xT at h
  repeat (first | omega | split at h)
theorem xent_obj {M : xM} {i c : Nat} (h : xT i = c) (hc : c < 11) : xent M i = .inr (c, (List.range (xF c)).map (xV M c i)) := by
  unfold xent
  rw [h, if_pos hc]
theorem xent_int {M : xM} {i n : Nat} (h : xT i = 11) (hn : xN i = n) : xent M i = .inl (11, n, .inl (M.1 i)) := by
  unfold xent
  rw [h, hn, if_neg (by decide), if_pos (by decide)]
theorem xent_bool {M : xM} {i n : Nat} (h : xT i = 12) (hn : xN i = n) : xent M i = .inl (12, n, .inl (M.1 i)) := by
  unfold xent
  rw [h, hn, if_neg (by decide), if_pos (by decide)]
theorem xent_long {M : xM} {i n : Nat} (h : xT i = 13) (hn : xN i = n) : xent M i = .inl (13, n, .inr (.inl (M.2 i))) := by
  unfold xent
  rw [h, hn, if_neg (by decide), if_neg (by decide), if_pos rfl]
theorem xent_ref {M : xM} {i t n : Nat} (h : xT i = t) (hn : xN i = n) (ht : 13 < t) : xent M i = .inl (t, n, .inr (.inr (.inr (.inr (fun j => some (xE i j)))))) := by
  unfold xent
  rw [h, hn, if_neg (by omega), if_neg (by omega), if_neg (by omega)]
theorem xent_ne {M M' : xM} {i : Nat} (h1 : M'.1 i = M.1 i) (h2 : M'.2 i = M.2 i) : xent M' i = xent M i := by
  have h3 : ∀ c, xV M' c i = xV M c i := fun c => by
    funext k
    unfold xV
    rw [h1]
  unfold xent
  rw [h1, h2, h3]
theorem xw_ne {M : xM} {i k a : Nat} {v : Int32} (h : a ≠ i) : (xw M i k v).1 a = M.1 a := by
  funext b
  simp [xw, h]
theorem xw_eq {M : xM} {i k : Nat} {v : Int32} : (xw M i k v).1 i = upd (M.1 i) k v := by
  funext b
  simp [xw, upd]
theorem xwl_ne {M : xM} {i k a : Nat} {v : Int64} (h : a ≠ i) : (xwl M i k v).2 a = M.2 a := by
  funext b
  simp [xwl, h]
theorem xwl_eq {M : xM} {i k : Nat} {v : Int64} : (xwl M i k v).2 i = vp_updL (M.2 i) k v := by
  funext b
  simp [xwl, vp_updL]
theorem xset_of {M M' : xM} {i : Nat} {e : va_E} (he : xent M' i = e) (h1 : ∀ a, a ≠ i → M'.1 a = M.1 a) (h2 : ∀ a, a ≠ i → M'.2 a = M.2 a) : xset (xwd M) i e = xwd M' := by
  unfold xset xwd
  congr 1
  funext j
  by_cases hj : j = i
  · subst hj
    rw [if_pos rfl, he]
  · rw [if_neg hj]
    exact (xent_ne (h1 j hj) (h2 j hj)).symm
/-- loops, joins, names -/
def lp {σ β : Type} (step : σ → (σ → Option β) → Option β) : Nat → σ → Option β
  | 0, _ => none
  | n + 1, s => step s (lp step n)
def jn {σ β : Type} (K : σ → Option β) (B : (σ → Option β) → Option β) : Option β := B K
def bd {σ β : Type} (e : σ) (K : σ → Option β) : Option β := K e
def xfu : Nat := 1000
section SPM
variable {I : xI} {α : Type} {ρ : α → Value × xW} {kc ks pc : Nat} {L : xL} {S : List Value} {w : xW} {X : Option α} {M : xM}
theorem SP.lp {σ : Type} {step : σ → (σ → Option α) → Option α} (Lf : σ → xL) (wf : σ → xW) (h : ∀ (s : σ) (k : σ → Option α), (∀ s', SP I ρ kc ks pc (Lf s') S (wf s') (k s')) → SP I ρ kc ks pc (Lf s) S (wf s) (step s k)) : ∀ (n : Nat) (s : σ), SP I ρ kc ks pc (Lf s) S (wf s) (lp step n s)
  | 0, _ => SP.none
  | n + 1, s => h s _ (SP.lp Lf wf h n)
theorem SP.jn {σ : Type} {K : σ → Option α} {B : (σ → Option α) → Option α} (pj : Nat) (Lf : σ → xL) (Sf : σ → List Value) (wf : σ → xW) (hb : ∀ k : σ → Option α, (∀ s, SP I ρ kc ks pj (Lf s) (Sf s) (wf s) (k s)) → SP I ρ kc ks pc L S w (B k)) (hK : ∀ s, SP I ρ kc ks pj (Lf s) (Sf s) (wf s) (K s)) : SP I ρ kc ks pc L S w (jn K B) := hb K hK
theorem SP.bdi {e : Int32} {K : Int32 → Option α} (k : ∀ x, x = e → SP I ρ kc ks pc L (.int x :: S) w (K x)) : SP I ρ kc ks pc L (.int e :: S) w (bd e K) := k e rfl
theorem SP.bdl {e : Int64} {K : Int64 → Option α} (k : ∀ x, x = e → SP I ρ kc ks pc L (.long x :: S) w (K x)) : SP I ρ kc ks pc L (.long e :: S) w (bd e K) := k e rfl
theorem SP.bdm {e : xM} {K : xM → Option α} (k : ∀ x, x = e → SP I ρ kc ks pc L S (xwd x) (K x)) : SP I ρ kc ks pc L S (xwd e) (bd e K) := k e rfl
theorem m_getI {ci idx i : Nat} {C : String} {T : u_T} {N : Nat} {ty : Nat → FieldType} (hc : xCls ci C T N ty) (kf : Nat) (hf : xFl I.1.cls idx C T kf) (hT : xT i = ci) (h1 : ci < 11) (hN : xF ci = N) (hkf : kf < N) (hk : xK ci kf i = none) (d : decode I.2.1 pc = .ok (.getfield idx, 3)) (k : SP I ρ kc ks (pc + 3) L (.int (M.1 i kf) :: S) (xwd M) X) : SP I ρ kc ks pc L (.ref i :: S) (xwd M) X :=
  g_get hc kf hf hkf (xT_lt (by omega)) (xent_obj hT h1) (by simp [hN, hkf, xV, hk]) d k
theorem m_getR {ci idx i t : Nat} {C : String} {T : u_T} {N : Nat} {ty : Nat → FieldType} (hc : xCls ci C T N ty) (kf : Nat) (hf : xFl I.1.cls idx C T kf) (hT : xT i = ci) (h1 : ci < 11) (hN : xF ci = N) (hkf : kf < N) (hk : xK ci kf i = some t) (d : decode I.2.1 pc = .ok (.getfield idx, 3)) (k : SP I ρ kc ks (pc + 3) L (.ref t :: S) (xwd M) X) : SP I ρ kc ks pc L (.ref i :: S) (xwd M) X :=
  g_get hc kf hf hkf (xT_lt (by omega)) (xent_obj hT h1) (by simp [hN, hkf, xV, hk]) d k
theorem m_putI {ci idx i : Nat} {C : String} {T : u_T} {N : Nat} {ty : Nat → FieldType} {v : Int32} (hc : xCls ci C T N ty) (kf : Nat) (hf : xFl I.1.cls idx C T kf) (hT : xT i = ci) (h1 : ci < 11) (hN : xF ci = N) (hkf : kf < N) (hk : xK ci kf i = none) (hfin : (T kf).2.2.2 = false) (hty : ty kf = .int) (d : decode I.2.1 pc = .ok (.putfield idx, 3)) (k : SP I ρ kc ks (pc + 3) L S (xwd (xw M i kf v)) X) : SP I ρ kc ks pc L (.int v :: .ref i :: S) (xwd M) X := by
  refine g_put hc kf hf hkf (xT_lt (by omega)) (xent_obj hT h1) (by simp [hN, hkf]) hfin (fun ad => by rw [hty]; rfl) (fun ad => by rw [hty]; rfl) d ?_
  rw [xset_of (M' := xw M i kf v) ?_ (fun a h => xw_ne h) (fun _ _ => rfl)]
  · exact k
  · rw [xent_obj hT h1]
    congr 2
    apply List.ext_getElem?
    intro j
    by_cases hj : j < xF ci
    · by_cases hjk : j = kf
      · subst hjk
        rw [List.getElem?_set_self (by simpa using hj)]
        simp [hj, xV, hk, xw]
      · rw [List.getElem?_set_ne (Ne.symm hjk)]
        have e : xV (xw M i kf v) ci i j = xV M ci i j := by
          unfold xV
          split <;> simp [xw, hjk]
        simp [hj, e]
    · rw [List.getElem?_eq_none (by simp; omega), List.getElem?_eq_none (by simp; omega)]
theorem m_iald {i n : Nat} {j : Int32} (hT : xT i = 11) (hn : xN i = n) (d : decode I.2.1 pc = .ok (.iaload, 1)) (k : xinb j n = true → SP I ρ kc ks (pc + 1) L (.int (M.1 i j.toNatClampNeg) :: S) (xwd M) X) : SP I ρ kc ks pc L (.int j :: .ref i :: S) (xwd M) (if xinb j n = true then X else none) :=
  g_iald (xT_lt (by omega)) (xent_int hT hn) d k
theorem m_zald {i n : Nat} {j : Int32} (hT : xT i = 12) (hn : xN i = n) (d : decode I.2.1 pc = .ok (.baload, 1)) (k : xinb j n = true → SP I ρ kc ks (pc + 1) L (.int (M.1 i j.toNatClampNeg) :: S) (xwd M) X) : SP I ρ kc ks pc L (.int j :: .ref i :: S) (xwd M) (if xinb j n = true then X else none) :=
  g_zald (xT_lt (by omega)) (xent_bool hT hn) d k
theorem m_lald {i n : Nat} {j : Int32} (hT : xT i = 13) (hn : xN i = n) (d : decode I.2.1 pc = .ok (.laload, 1)) (k : xinb j n = true → SP I ρ kc ks (pc + 1) L (.long (M.2 i j.toNatClampNeg) :: S) (xwd M) X) : SP I ρ kc ks pc L (.int j :: .ref i :: S) (xwd M) (if xinb j n = true then X else none) :=
  g_lald (xT_lt (by omega)) (xent_long hT hn) d k
theorem m_iast {i n : Nat} {j x : Int32} (hT : xT i = 11) (hn : xN i = n) (d : decode I.2.1 pc = .ok (.iastore, 1)) (k : xinb j n = true → SP I ρ kc ks (pc + 1) L S (xwd (xw M i j.toNatClampNeg x)) X) : SP I ρ kc ks pc L (.int x :: .int j :: .ref i :: S) (xwd M) (if xinb j n = true then X else none) :=
  g_iast (xT_lt (by omega)) (xent_int hT hn) d (fun h => by
    rw [xset_of (M' := xw M i j.toNatClampNeg x) (by rw [xent_int hT hn, xw_eq]) (fun a h => xw_ne h) (fun _ _ => rfl)]
    exact k h)
theorem m_zast {i n : Nat} {j x : Int32} (hT : xT i = 12) (hn : xN i = n) (d : decode I.2.1 pc = .ok (.bastore, 1)) (k : xinb j n = true → SP I ρ kc ks (pc + 1) L S (xwd (xw M i j.toNatClampNeg (vp_nar .boolean x))) X) : SP I ρ kc ks pc L (.int x :: .int j :: .ref i :: S) (xwd M) (if xinb j n = true then X else none) :=
  g_zast (xT_lt (by omega)) (xent_bool hT hn) d (fun h => by
    rw [xset_of (M' := xw M i j.toNatClampNeg (vp_nar .boolean x)) (by rw [xent_bool hT hn, xw_eq]) (fun a h => xw_ne h) (fun _ _ => rfl)]
    exact k h)
theorem m_last {i n : Nat} {j : Int32} {x : Int64} (hT : xT i = 13) (hn : xN i = n) (d : decode I.2.1 pc = .ok (.lastore, 1)) (k : xinb j n = true → SP I ρ kc ks (pc + 1) L S (xwd (xwl M i j.toNatClampNeg x)) X) : SP I ρ kc ks pc L (.long x :: .int j :: .ref i :: S) (xwd M) (if xinb j n = true then X else none) :=
  g_last (xT_lt (by omega)) (xent_long hT hn) d (fun h => by
    rw [xset_of (M := M) (M' := xwl M i j.toNatClampNeg x) (by rw [xent_long hT hn, xwl_eq]) (fun _ _ => rfl) (fun a h => xwl_ne h)]
    exact k h)
theorem m_aald {i t n t0 q : Nat} {ty : FieldType} {j : Int32} (hT : xT i = t) (h1 : 13 < t ∧ t < 99) (hn : xN i = n) (ht : ∀ cA : Nat → ClassId, (xtys cA)[t0]? = some (cA t, ty)) (hr : ty.isReference = true) (hq : xE i j.toNatClampNeg = q) (d : decode I.2.1 pc = .ok (.aaload, 1)) (k : xinb j n = true → SP I ρ kc ks (pc + 1) L (.ref q :: S) (xwd M) X) : SP I ρ kc ks pc L (.int j :: .ref i :: S) (xwd M) (if xinb j n = true then X else none) :=
  g_aald (xT_lt (by omega)) (xent_ref hT hn h1.1) ht hr d (fun _ => by rw [hq]) k
theorem m_alen {i n : Nat} {a : Int32} (hT : xT i = 11) (hn : xN i = n) (ha : Int32.ofNat n = a) (d : decode I.2.1 pc = .ok (.arraylength, 1)) (k : SP I ρ kc ks (pc + 1) L (.int a :: S) (xwd M) X) : SP I ρ kc ks pc L (.ref i :: S) (xwd M) X :=
  g_alen (t0 := 0) (xT_lt (by omega)) (xent_int hT hn) (fun _ => rfl) ha d k
end SPM
/-! what a method answers: an int or a long with the memory as it was, or with another; nothing; the books -/
abbrev rI (M : xM) : Int32 → Value × xW := fun v => (.int v, xwd M)
abbrev rJ (M : xM) : Int64 → Value × xW := fun v => (.long v, xwd M)
abbrev rIM : Int32 × xM → Value × xW := fun q => (.int q.1, xwd q.2)
abbrev rJM : Int64 × xM → Value × xW := fun q => (.long q.1, xwd q.2)
abbrev rM : xM → Value × xW := fun q => (.null, xwd q)
abbrev rB : xM → Value × xW := fun q => (.ref 72, xwd q)
/-- room for a call in this phase: nothing is made -/
def xRm0 (I Iz : xI) (n : Nat) : Prop := (parseMethodDescriptor Iz.1.desc).map (fun d => d.parameters.length) = some n ∧ Iz.2.2.2.2.1.frames + 1 ≤ I.2.2.2.2.1.frames ∧ 8 + (Iz.2.2.1 + 11) + Iz.2.2.2.2.1.locals ≤ I.2.2.2.2.1.locals ∧ Iz.2.2.2.2.1.cells = 0 ∧ Iz.2.2.2.2.1.slots = 0
theorem xRm0.to {I Iz : xI} {n : Nat} (h : xRm0 I Iz n) : xRm I Iz 0 0 n := ⟨h.1, h.2.1, h.2.2.1, by rw [h.2.2.2.1]; exact Nat.zero_le _, by rw [h.2.2.2.2]; exact Nat.zero_le _⟩
section SPK
variable {I : xI} {α : Type} {ρ : α → Value × xW} {pc : Nat} {L : xL} {S : List Value} {M : xM} {Iz : xI} {As rest : List Value} {b ci idx n : Nat} {T : u_T} {N : Nat} {ty : Nat → FieldType} {host : String}
theorem cV_I {Fz : Option Int32} {K : Int32 → Option α} (hct : Ct Iz (rI M) (.ref b :: As) (xwd M) Fz) (hS : S = As.reverse ++ .ref b :: rest) (hc : xCls ci Iz.1.cls T N ty) (hT : xT b = ci) (h1 : ci < 11) (hw : Cond.methodLink I.1.cls idx Iz.1 ∈ xtb) (hm : xMeV Iz) (hn : As.length = n) (hR : xRm0 I Iz n) (hrest : xSum rest ≤ 8) (d : decode I.2.1 pc = .ok (.invokevirtual idx, 3)) (k : ∀ q, SP I ρ 0 0 (pc + 3) L (.int q :: rest) (xwd M) (K q)) : SP I ρ 0 0 pc L S (xwd M) (Fz.bind K) :=
  x_callV hct hS hc (xT_lt (by omega)) (xent_obj hT h1) hw hm hn hR.to hrest d (fun q => by rw [hR.2.2.2.1, hR.2.2.2.2]; exact k q)
theorem cV_J {Fz : Option Int64} {K : Int64 → Option α} (hct : Ct Iz (rJ M) (.ref b :: As) (xwd M) Fz) (hS : S = As.reverse ++ .ref b :: rest) (hc : xCls ci Iz.1.cls T N ty) (hT : xT b = ci) (h1 : ci < 11) (hw : Cond.methodLink I.1.cls idx Iz.1 ∈ xtb) (hm : xMeV Iz) (hn : As.length = n) (hR : xRm0 I Iz n) (hrest : xSum rest ≤ 8) (d : decode I.2.1 pc = .ok (.invokevirtual idx, 3)) (k : ∀ q, SP I ρ 0 0 (pc + 3) L (.long q :: rest) (xwd M) (K q)) : SP I ρ 0 0 pc L S (xwd M) (Fz.bind K) :=
  x_callV hct hS hc (xT_lt (by omega)) (xent_obj hT h1) hw hm hn hR.to hrest d (fun q => by rw [hR.2.2.2.1, hR.2.2.2.2]; exact k q)
theorem cV_IM {Fz : Option (Int32 × xM)} {K : Int32 × xM → Option α} (hct : Ct Iz (rIM) (.ref b :: As) (xwd M) Fz) (hS : S = As.reverse ++ .ref b :: rest) (hc : xCls ci Iz.1.cls T N ty) (hT : xT b = ci) (h1 : ci < 11) (hw : Cond.methodLink I.1.cls idx Iz.1 ∈ xtb) (hm : xMeV Iz) (hn : As.length = n) (hR : xRm0 I Iz n) (hrest : xSum rest ≤ 8) (d : decode I.2.1 pc = .ok (.invokevirtual idx, 3)) (k : ∀ q, SP I ρ 0 0 (pc + 3) L (.int q.1 :: rest) (xwd q.2) (K q)) : SP I ρ 0 0 pc L S (xwd M) (Fz.bind K) :=
  x_callV hct hS hc (xT_lt (by omega)) (xent_obj hT h1) hw hm hn hR.to hrest d (fun q => by rw [hR.2.2.2.1, hR.2.2.2.2]; exact k q)
theorem cV_JM {Fz : Option (Int64 × xM)} {K : Int64 × xM → Option α} (hct : Ct Iz (rJM) (.ref b :: As) (xwd M) Fz) (hS : S = As.reverse ++ .ref b :: rest) (hc : xCls ci Iz.1.cls T N ty) (hT : xT b = ci) (h1 : ci < 11) (hw : Cond.methodLink I.1.cls idx Iz.1 ∈ xtb) (hm : xMeV Iz) (hn : As.length = n) (hR : xRm0 I Iz n) (hrest : xSum rest ≤ 8) (d : decode I.2.1 pc = .ok (.invokevirtual idx, 3)) (k : ∀ q, SP I ρ 0 0 (pc + 3) L (.long q.1 :: rest) (xwd q.2) (K q)) : SP I ρ 0 0 pc L S (xwd M) (Fz.bind K) :=
  x_callV hct hS hc (xT_lt (by omega)) (xent_obj hT h1) hw hm hn hR.to hrest d (fun q => by rw [hR.2.2.2.1, hR.2.2.2.2]; exact k q)
theorem cV_M {Fz : Option xM} {K : xM → Option α} (hct : Ct Iz (rM) (.ref b :: As) (xwd M) Fz) (hS : S = As.reverse ++ .ref b :: rest) (hc : xCls ci Iz.1.cls T N ty) (hT : xT b = ci) (h1 : ci < 11) (hw : Cond.methodLink I.1.cls idx Iz.1 ∈ xtb) (hm : xMeV Iz) (hn : As.length = n) (hR : xRm0 I Iz n) (hrest : xSum rest ≤ 8) (d : decode I.2.1 pc = .ok (.invokevirtual idx, 3)) (k : ∀ q, SP I ρ 0 0 (pc + 3) L (rest) (xwd q) (K q)) : SP I ρ 0 0 pc L S (xwd M) (Fz.bind K) :=
  x_callV hct hS hc (xT_lt (by omega)) (xent_obj hT h1) hw hm hn hR.to hrest d (fun q => by rw [hR.2.2.2.1, hR.2.2.2.2]; exact k q)
theorem cV_B {Fz : Option xM} {K : xM → Option α} (hct : Ct Iz (rB) (.ref b :: As) (xwd M) Fz) (hS : S = As.reverse ++ .ref b :: rest) (hc : xCls ci Iz.1.cls T N ty) (hT : xT b = ci) (h1 : ci < 11) (hw : Cond.methodLink I.1.cls idx Iz.1 ∈ xtb) (hm : xMeV Iz) (hn : As.length = n) (hR : xRm0 I Iz n) (hrest : xSum rest ≤ 8) (d : decode I.2.1 pc = .ok (.invokevirtual idx, 3)) (k : ∀ q, SP I ρ 0 0 (pc + 3) L (.ref 72 :: rest) (xwd q) (K q)) : SP I ρ 0 0 pc L S (xwd M) (Fz.bind K) :=
  x_callV hct hS hc (xT_lt (by omega)) (xent_obj hT h1) hw hm hn hR.to hrest d (fun q => by rw [hR.2.2.2.1, hR.2.2.2.2]; exact k q)
theorem cVN_I {Fz : Option Int32} {K : Int32 → Option α} (hct : Ct Iz (rI M) (.ref b :: As) (xwd M) Fz) (hS : S = As.reverse ++ .ref b :: rest) (hc : xCls ci Iz.1.cls T N ty) (hT : xT b = ci) (h1 : ci < 11) (hw : Cond.methodLinkNest I.1.cls idx Iz.1 host ∈ xtb) (hm : xMeV Iz) (hn : As.length = n) (hR : xRm0 I Iz n) (hrest : xSum rest ≤ 8) (d : decode I.2.1 pc = .ok (.invokevirtual idx, 3)) (k : ∀ q, SP I ρ 0 0 (pc + 3) L (.int q :: rest) (xwd M) (K q)) : SP I ρ 0 0 pc L S (xwd M) (Fz.bind K) :=
  x_callVN hct hS hc (xT_lt (by omega)) (xent_obj hT h1) hw hm hn hR.to hrest d (fun q => by rw [hR.2.2.2.1, hR.2.2.2.2]; exact k q)
theorem cVN_J {Fz : Option Int64} {K : Int64 → Option α} (hct : Ct Iz (rJ M) (.ref b :: As) (xwd M) Fz) (hS : S = As.reverse ++ .ref b :: rest) (hc : xCls ci Iz.1.cls T N ty) (hT : xT b = ci) (h1 : ci < 11) (hw : Cond.methodLinkNest I.1.cls idx Iz.1 host ∈ xtb) (hm : xMeV Iz) (hn : As.length = n) (hR : xRm0 I Iz n) (hrest : xSum rest ≤ 8) (d : decode I.2.1 pc = .ok (.invokevirtual idx, 3)) (k : ∀ q, SP I ρ 0 0 (pc + 3) L (.long q :: rest) (xwd M) (K q)) : SP I ρ 0 0 pc L S (xwd M) (Fz.bind K) :=
  x_callVN hct hS hc (xT_lt (by omega)) (xent_obj hT h1) hw hm hn hR.to hrest d (fun q => by rw [hR.2.2.2.1, hR.2.2.2.2]; exact k q)
theorem cVN_IM {Fz : Option (Int32 × xM)} {K : Int32 × xM → Option α} (hct : Ct Iz (rIM) (.ref b :: As) (xwd M) Fz) (hS : S = As.reverse ++ .ref b :: rest) (hc : xCls ci Iz.1.cls T N ty) (hT : xT b = ci) (h1 : ci < 11) (hw : Cond.methodLinkNest I.1.cls idx Iz.1 host ∈ xtb) (hm : xMeV Iz) (hn : As.length = n) (hR : xRm0 I Iz n) (hrest : xSum rest ≤ 8) (d : decode I.2.1 pc = .ok (.invokevirtual idx, 3)) (k : ∀ q, SP I ρ 0 0 (pc + 3) L (.int q.1 :: rest) (xwd q.2) (K q)) : SP I ρ 0 0 pc L S (xwd M) (Fz.bind K) :=
  x_callVN hct hS hc (xT_lt (by omega)) (xent_obj hT h1) hw hm hn hR.to hrest d (fun q => by rw [hR.2.2.2.1, hR.2.2.2.2]; exact k q)
theorem cVN_JM {Fz : Option (Int64 × xM)} {K : Int64 × xM → Option α} (hct : Ct Iz (rJM) (.ref b :: As) (xwd M) Fz) (hS : S = As.reverse ++ .ref b :: rest) (hc : xCls ci Iz.1.cls T N ty) (hT : xT b = ci) (h1 : ci < 11) (hw : Cond.methodLinkNest I.1.cls idx Iz.1 host ∈ xtb) (hm : xMeV Iz) (hn : As.length = n) (hR : xRm0 I Iz n) (hrest : xSum rest ≤ 8) (d : decode I.2.1 pc = .ok (.invokevirtual idx, 3)) (k : ∀ q, SP I ρ 0 0 (pc + 3) L (.long q.1 :: rest) (xwd q.2) (K q)) : SP I ρ 0 0 pc L S (xwd M) (Fz.bind K) :=
  x_callVN hct hS hc (xT_lt (by omega)) (xent_obj hT h1) hw hm hn hR.to hrest d (fun q => by rw [hR.2.2.2.1, hR.2.2.2.2]; exact k q)
theorem cVN_M {Fz : Option xM} {K : xM → Option α} (hct : Ct Iz (rM) (.ref b :: As) (xwd M) Fz) (hS : S = As.reverse ++ .ref b :: rest) (hc : xCls ci Iz.1.cls T N ty) (hT : xT b = ci) (h1 : ci < 11) (hw : Cond.methodLinkNest I.1.cls idx Iz.1 host ∈ xtb) (hm : xMeV Iz) (hn : As.length = n) (hR : xRm0 I Iz n) (hrest : xSum rest ≤ 8) (d : decode I.2.1 pc = .ok (.invokevirtual idx, 3)) (k : ∀ q, SP I ρ 0 0 (pc + 3) L (rest) (xwd q) (K q)) : SP I ρ 0 0 pc L S (xwd M) (Fz.bind K) :=
  x_callVN hct hS hc (xT_lt (by omega)) (xent_obj hT h1) hw hm hn hR.to hrest d (fun q => by rw [hR.2.2.2.1, hR.2.2.2.2]; exact k q)
theorem cVN_B {Fz : Option xM} {K : xM → Option α} (hct : Ct Iz (rB) (.ref b :: As) (xwd M) Fz) (hS : S = As.reverse ++ .ref b :: rest) (hc : xCls ci Iz.1.cls T N ty) (hT : xT b = ci) (h1 : ci < 11) (hw : Cond.methodLinkNest I.1.cls idx Iz.1 host ∈ xtb) (hm : xMeV Iz) (hn : As.length = n) (hR : xRm0 I Iz n) (hrest : xSum rest ≤ 8) (d : decode I.2.1 pc = .ok (.invokevirtual idx, 3)) (k : ∀ q, SP I ρ 0 0 (pc + 3) L (.ref 72 :: rest) (xwd q) (K q)) : SP I ρ 0 0 pc L S (xwd M) (Fz.bind K) :=
  x_callVN hct hS hc (xT_lt (by omega)) (xent_obj hT h1) hw hm hn hR.to hrest d (fun q => by rw [hR.2.2.2.1, hR.2.2.2.2]; exact k q)
theorem cS_I {Fz : Option Int32} {K : Int32 → Option α} (hct : Ct Iz (rI M) As (xwd M) Fz) (hS : S = As.reverse ++ rest) (hw : Cond.methodLink I.1.cls idx Iz.1 ∈ xtb) (hm : xMeS Iz) (hn : As.length = n) (hR : xRm0 I Iz n) (hrest : xSum rest ≤ 8) (d : decode I.2.1 pc = .ok (.invokestatic idx, 3)) (k : ∀ q, SP I ρ 0 0 (pc + 3) L (.int q :: rest) (xwd M) (K q)) : SP I ρ 0 0 pc L S (xwd M) (Fz.bind K) :=
  x_callS hct hS hw hm hn hR.to hrest d (fun q => by rw [hR.2.2.2.1, hR.2.2.2.2]; exact k q)
theorem cS_J {Fz : Option Int64} {K : Int64 → Option α} (hct : Ct Iz (rJ M) As (xwd M) Fz) (hS : S = As.reverse ++ rest) (hw : Cond.methodLink I.1.cls idx Iz.1 ∈ xtb) (hm : xMeS Iz) (hn : As.length = n) (hR : xRm0 I Iz n) (hrest : xSum rest ≤ 8) (d : decode I.2.1 pc = .ok (.invokestatic idx, 3)) (k : ∀ q, SP I ρ 0 0 (pc + 3) L (.long q :: rest) (xwd M) (K q)) : SP I ρ 0 0 pc L S (xwd M) (Fz.bind K) :=
  x_callS hct hS hw hm hn hR.to hrest d (fun q => by rw [hR.2.2.2.1, hR.2.2.2.2]; exact k q)
theorem cS_IM {Fz : Option (Int32 × xM)} {K : Int32 × xM → Option α} (hct : Ct Iz (rIM) As (xwd M) Fz) (hS : S = As.reverse ++ rest) (hw : Cond.methodLink I.1.cls idx Iz.1 ∈ xtb) (hm : xMeS Iz) (hn : As.length = n) (hR : xRm0 I Iz n) (hrest : xSum rest ≤ 8) (d : decode I.2.1 pc = .ok (.invokestatic idx, 3)) (k : ∀ q, SP I ρ 0 0 (pc + 3) L (.int q.1 :: rest) (xwd q.2) (K q)) : SP I ρ 0 0 pc L S (xwd M) (Fz.bind K) :=
  x_callS hct hS hw hm hn hR.to hrest d (fun q => by rw [hR.2.2.2.1, hR.2.2.2.2]; exact k q)
theorem cS_JM {Fz : Option (Int64 × xM)} {K : Int64 × xM → Option α} (hct : Ct Iz (rJM) As (xwd M) Fz) (hS : S = As.reverse ++ rest) (hw : Cond.methodLink I.1.cls idx Iz.1 ∈ xtb) (hm : xMeS Iz) (hn : As.length = n) (hR : xRm0 I Iz n) (hrest : xSum rest ≤ 8) (d : decode I.2.1 pc = .ok (.invokestatic idx, 3)) (k : ∀ q, SP I ρ 0 0 (pc + 3) L (.long q.1 :: rest) (xwd q.2) (K q)) : SP I ρ 0 0 pc L S (xwd M) (Fz.bind K) :=
  x_callS hct hS hw hm hn hR.to hrest d (fun q => by rw [hR.2.2.2.1, hR.2.2.2.2]; exact k q)
theorem cS_M {Fz : Option xM} {K : xM → Option α} (hct : Ct Iz (rM) As (xwd M) Fz) (hS : S = As.reverse ++ rest) (hw : Cond.methodLink I.1.cls idx Iz.1 ∈ xtb) (hm : xMeS Iz) (hn : As.length = n) (hR : xRm0 I Iz n) (hrest : xSum rest ≤ 8) (d : decode I.2.1 pc = .ok (.invokestatic idx, 3)) (k : ∀ q, SP I ρ 0 0 (pc + 3) L (rest) (xwd q) (K q)) : SP I ρ 0 0 pc L S (xwd M) (Fz.bind K) :=
  x_callS hct hS hw hm hn hR.to hrest d (fun q => by rw [hR.2.2.2.1, hR.2.2.2.2]; exact k q)
theorem cS_B {Fz : Option xM} {K : xM → Option α} (hct : Ct Iz (rB) As (xwd M) Fz) (hS : S = As.reverse ++ rest) (hw : Cond.methodLink I.1.cls idx Iz.1 ∈ xtb) (hm : xMeS Iz) (hn : As.length = n) (hR : xRm0 I Iz n) (hrest : xSum rest ≤ 8) (d : decode I.2.1 pc = .ok (.invokestatic idx, 3)) (k : ∀ q, SP I ρ 0 0 (pc + 3) L (.ref 72 :: rest) (xwd q) (K q)) : SP I ρ 0 0 pc L S (xwd M) (Fz.bind K) :=
  x_callS hct hS hw hm hn hR.to hrest d (fun q => by rw [hR.2.2.2.1, hR.2.2.2.2]; exact k q)
theorem cSN_I {Fz : Option Int32} {K : Int32 → Option α} (hct : Ct Iz (rI M) As (xwd M) Fz) (hS : S = As.reverse ++ rest) (hw : Cond.methodLinkNest I.1.cls idx Iz.1 host ∈ xtb) (hm : xMeS Iz) (hn : As.length = n) (hR : xRm0 I Iz n) (hrest : xSum rest ≤ 8) (d : decode I.2.1 pc = .ok (.invokestatic idx, 3)) (k : ∀ q, SP I ρ 0 0 (pc + 3) L (.int q :: rest) (xwd M) (K q)) : SP I ρ 0 0 pc L S (xwd M) (Fz.bind K) :=
  x_callSN hct hS hw hm hn hR.to hrest d (fun q => by rw [hR.2.2.2.1, hR.2.2.2.2]; exact k q)
theorem cSN_J {Fz : Option Int64} {K : Int64 → Option α} (hct : Ct Iz (rJ M) As (xwd M) Fz) (hS : S = As.reverse ++ rest) (hw : Cond.methodLinkNest I.1.cls idx Iz.1 host ∈ xtb) (hm : xMeS Iz) (hn : As.length = n) (hR : xRm0 I Iz n) (hrest : xSum rest ≤ 8) (d : decode I.2.1 pc = .ok (.invokestatic idx, 3)) (k : ∀ q, SP I ρ 0 0 (pc + 3) L (.long q :: rest) (xwd M) (K q)) : SP I ρ 0 0 pc L S (xwd M) (Fz.bind K) :=
  x_callSN hct hS hw hm hn hR.to hrest d (fun q => by rw [hR.2.2.2.1, hR.2.2.2.2]; exact k q)
theorem cSN_IM {Fz : Option (Int32 × xM)} {K : Int32 × xM → Option α} (hct : Ct Iz (rIM) As (xwd M) Fz) (hS : S = As.reverse ++ rest) (hw : Cond.methodLinkNest I.1.cls idx Iz.1 host ∈ xtb) (hm : xMeS Iz) (hn : As.length = n) (hR : xRm0 I Iz n) (hrest : xSum rest ≤ 8) (d : decode I.2.1 pc = .ok (.invokestatic idx, 3)) (k : ∀ q, SP I ρ 0 0 (pc + 3) L (.int q.1 :: rest) (xwd q.2) (K q)) : SP I ρ 0 0 pc L S (xwd M) (Fz.bind K) :=
  x_callSN hct hS hw hm hn hR.to hrest d (fun q => by rw [hR.2.2.2.1, hR.2.2.2.2]; exact k q)
theorem cSN_JM {Fz : Option (Int64 × xM)} {K : Int64 × xM → Option α} (hct : Ct Iz (rJM) As (xwd M) Fz) (hS : S = As.reverse ++ rest) (hw : Cond.methodLinkNest I.1.cls idx Iz.1 host ∈ xtb) (hm : xMeS Iz) (hn : As.length = n) (hR : xRm0 I Iz n) (hrest : xSum rest ≤ 8) (d : decode I.2.1 pc = .ok (.invokestatic idx, 3)) (k : ∀ q, SP I ρ 0 0 (pc + 3) L (.long q.1 :: rest) (xwd q.2) (K q)) : SP I ρ 0 0 pc L S (xwd M) (Fz.bind K) :=
  x_callSN hct hS hw hm hn hR.to hrest d (fun q => by rw [hR.2.2.2.1, hR.2.2.2.2]; exact k q)
theorem cSN_M {Fz : Option xM} {K : xM → Option α} (hct : Ct Iz (rM) As (xwd M) Fz) (hS : S = As.reverse ++ rest) (hw : Cond.methodLinkNest I.1.cls idx Iz.1 host ∈ xtb) (hm : xMeS Iz) (hn : As.length = n) (hR : xRm0 I Iz n) (hrest : xSum rest ≤ 8) (d : decode I.2.1 pc = .ok (.invokestatic idx, 3)) (k : ∀ q, SP I ρ 0 0 (pc + 3) L (rest) (xwd q) (K q)) : SP I ρ 0 0 pc L S (xwd M) (Fz.bind K) :=
  x_callSN hct hS hw hm hn hR.to hrest d (fun q => by rw [hR.2.2.2.1, hR.2.2.2.2]; exact k q)
theorem cSN_B {Fz : Option xM} {K : xM → Option α} (hct : Ct Iz (rB) As (xwd M) Fz) (hS : S = As.reverse ++ rest) (hw : Cond.methodLinkNest I.1.cls idx Iz.1 host ∈ xtb) (hm : xMeS Iz) (hn : As.length = n) (hR : xRm0 I Iz n) (hrest : xSum rest ≤ 8) (d : decode I.2.1 pc = .ok (.invokestatic idx, 3)) (k : ∀ q, SP I ρ 0 0 (pc + 3) L (.ref 72 :: rest) (xwd q) (K q)) : SP I ρ 0 0 pc L S (xwd M) (Fz.bind K) :=
  x_callSN hct hS hw hm hn hR.to hrest d (fun q => by rw [hR.2.2.2.1, hR.2.2.2.2]; exact k q)
end SPK

/-! where things lie: places, valleys, circles, rows of the books -/
theorem xinb_lt {j : Int32} {n : Nat} (h : xinb j n = true) : j.toNatClampNeg < n := by
  simp only [xinb, Bool.and_eq_true, decide_eq_true_eq] at h
  exact h.2
theorem xPl {k : Nat} (h : k < 16) : xT (8 + 4 * k) = 7 := by
  unfold xT
  rw [if_neg (by omega), if_pos (by omega), if_pos (by omega)]
theorem xPlA {k r : Nat} (h : k < 16) (hr : r = 1 ∨ r = 2 ∨ r = 3) : xT (8 + 4 * k + r) = 11 := by
  unfold xT
  rw [if_neg (by omega), if_pos (by omega), if_neg (by omega)]
theorem xPlN {k r : Nat} (h : k < 16) (hr : r = 1 ∨ r = 2 ∨ r = 3) : xN (8 + 4 * k + r) = 56 := by
  unfold xN
  rw [if_neg (by omega), if_pos (by omega)]
theorem xVa {k : Nat} (h : k < 8) : xT (148 + 2 * k) = 8 := by
  unfold xT
  rw [if_neg (by omega), if_neg (by omega), if_neg (by omega), if_neg (by omega), if_pos (by omega), if_pos (by omega)]
theorem xVaA {k : Nat} (h : k < 8) : xT (148 + 2 * k + 1) = 12 := by
  unfold xT
  rw [if_neg (by omega), if_neg (by omega), if_neg (by omega), if_neg (by omega), if_pos (by omega), if_neg (by omega)]
theorem xVaN {k : Nat} (h : k < 8) : xN (148 + 2 * k + 1) = 100 := by
  unfold xN
  rw [if_neg (by omega), if_neg (by omega), if_neg (by omega), if_neg (by omega), if_pos (by omega)]
def xCi (c : Nat) : Prop := c = 143 ∨ c = 165
theorem xCi_T {c : Nat} (h : xCi c) : xT c = 2 := by rcases h with rfl | rfl <;> rfl
theorem xCi_T1 {c : Nat} (h : xCi c) : xT (c + 1) = 11 := by rcases h with rfl | rfl <;> rfl
theorem xCi_T2 {c : Nat} (h : xCi c) : xT (c + 2) = 11 := by rcases h with rfl | rfl <;> rfl
theorem xCi_N1 {c : Nat} (h : xCi c) : xN (c + 1) = 4 := by rcases h with rfl | rfl <;> rfl
theorem xCi_N2 {c : Nat} (h : xCi c) : xN (c + 2) = 4 := by rcases h with rfl | rfl <;> rfl
def xBk (b : Nat) : Prop := b = 73 ∨ b = 90 ∨ b = 107 ∨ b = 124
theorem xBk_T {b k : Nat} (hb : xBk b) (h : k < 16) : xT (b + 1 + k) = 11 := by
  unfold xT
  rcases hb with rfl | rfl | rfl | rfl <;> rw [if_neg (by omega), if_neg (by omega), if_pos (by omega), if_neg (by omega), if_neg (by omega)]
theorem xBk_N {b k : Nat} (hb : xBk b) (h : k < 16) : xN (b + 1 + k) = 56 := by
  unfold xN
  rcases hb with rfl | rfl | rfl | rfl <;> rw [if_neg (by omega), if_neg (by omega), if_pos (by omega), if_neg (by omega)]
theorem xE_pl (k : Nat) : xE 2 k = 8 + 4 * k := rfl
theorem xE_va (k : Nat) : xE 147 k = 148 + 2 * k := rfl
theorem xE_bk {b : Nat} (hb : xBk b) (k : Nat) : xE b k = b + 1 + k := by rcases hb with rfl | rfl | rfl | rfl <;> rfl
end
