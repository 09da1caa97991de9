theorem dX7_numberRead_49 : decode cX7_numberRead 49 = .ok (.getfield 15, 3) := by decide +kernel
theorem dX7_numberRead_52 : decode cX7_numberRead 52 = .ok (.iload_n 1, 1) := by decide +kernel
theorem dX7_numberRead_53 : decode cX7_numberRead 53 = .ok (.iaload, 1) := by decide +kernel
theorem dX7_numberRead_54 : decode cX7_numberRead 54 = .ok (.ireturn, 1) := by decide +kernel
theorem dX7_numberRead_55 : decode cX7_numberRead 55 = .ok (.aload_n 0, 1) := by decide +kernel
theorem dX7_numberRead_56 : decode cX7_numberRead 56 = .ok (.iload_n 1, 1) := by decide +kernel
theorem dX7_numberRead_57 : decode cX7_numberRead 57 = .ok (.invokevirtual 56, 3) := by decide +kernel
theorem dX7_numberRead_60 : decode cX7_numberRead 60 = .ok (.ireturn, 1) := by decide +kernel
theorem dX7_numberRead_61 : decode cX7_numberRead 61 = .ok (.aload_n 0, 1) := by decide +kernel
theorem dX7_numberRead_62 : decode cX7_numberRead 62 = .ok (.getfield 19, 3) := by decide +kernel
theorem dX7_numberRead_65 : decode cX7_numberRead 65 = .ok (.iload_n 1, 1) := by decide +kernel
theorem dX7_numberRead_66 : decode cX7_numberRead 66 = .ok (.iaload, 1) := by decide +kernel
theorem dX7_numberRead_67 : decode cX7_numberRead 67 = .ok (.iconst (-1), 1) := by decide +kernel
theorem dX7_numberRead_68 : decode cX7_numberRead 68 = .ok (.if_icmp .ne 17, 3) := by decide +kernel
theorem dX7_numberRead_71 : decode cX7_numberRead 71 = .ok (.aload_n 0, 1) := by decide +kernel
theorem dX7_numberRead_72 : decode cX7_numberRead 72 = .ok (.getfield 15, 3) := by decide +kernel
theorem dX7_numberRead_75 : decode cX7_numberRead 75 = .ok (.iload_n 1, 1) := by decide +kernel
theorem dX7_numberRead_76 : decode cX7_numberRead 76 = .ok (.iaload, 1) := by decide +kernel
theorem dX7_numberRead_77 : decode cX7_numberRead 77 = .ok (.iconst (-1), 1) := by decide +kernel
theorem dX7_numberRead_78 : decode cX7_numberRead 78 = .ok (.if_icmp .eq 7, 3) := by decide +kernel
theorem dX7_numberRead_81 : decode cX7_numberRead 81 = .ok (.iconst 0, 1) := by decide +kernel
theorem dX7_numberRead_82 : decode cX7_numberRead 82 = .ok (.goto 9, 3) := by decide +kernel
theorem dX7_numberRead_85 : decode cX7_numberRead 85 = .ok (.aload_n 0, 1) := by decide +kernel
theorem dX7_numberRead_86 : decode cX7_numberRead 86 = .ok (.getfield 19, 3) := by decide +kernel
theorem dX7_numberRead_89 : decode cX7_numberRead 89 = .ok (.iload_n 1, 1) := by decide +kernel
theorem dX7_numberRead_90 : decode cX7_numberRead 90 = .ok (.iaload, 1) := by decide +kernel
theorem dX7_numberRead_91 : decode cX7_numberRead 91 = .ok (.ireturn, 1) := by decide +kernel
theorem dX7_numberRead_92 : decode cX7_numberRead 92 = .ok (.aload_n 0, 1) := by decide +kernel
theorem dX7_numberRead_93 : decode cX7_numberRead 93 = .ok (.iload_n 1, 1) := by decide +kernel
theorem dX7_numberRead_94 : decode cX7_numberRead 94 = .ok (.invokevirtual 60, 3) := by decide +kernel
theorem dX7_numberRead_97 : decode cX7_numberRead 97 = .ok (.ireturn, 1) := by decide +kernel
theorem dX7_numberRead_98 : decode cX7_numberRead 98 = .ok (.iconst (-1), 1) := by decide +kernel
theorem dX7_numberRead_99 : decode cX7_numberRead 99 = .ok (.ireturn, 1) := by decide +kernel
theorem dX7_numberTipped_0 : decode cX7_numberTipped 0 = .ok (.iload_n 1, 1) := by decide +kernel
theorem dX7_numberTipped_1 : decode cX7_numberTipped 1 = .ok (.invokestatic 46, 3) := by decide +kernel
theorem dX7_numberTipped_4 : decode cX7_numberTipped 4 = .ok (.ifCond .eq 13, 3) := by decide +kernel
theorem dX7_numberTipped_7 : decode cX7_numberTipped 7 = .ok (.aload_n 0, 1) := by decide +kernel
theorem dX7_numberTipped_8 : decode cX7_numberTipped 8 = .ok (.getfield 15, 3) := by decide +kernel
theorem dX7_numberTipped_11 : decode cX7_numberTipped 11 = .ok (.iload_n 1, 1) := by decide +kernel
theorem dX7_numberTipped_12 : decode cX7_numberTipped 12 = .ok (.iaload, 1) := by decide +kernel
theorem dX7_numberTipped_13 : decode cX7_numberTipped 13 = .ok (.iconst (-1), 1) := by decide +kernel
theorem dX7_numberTipped_14 : decode cX7_numberTipped 14 = .ok (.if_icmp .ne 5, 3) := by decide +kernel
theorem dX7_numberTipped_17 : decode cX7_numberTipped 17 = .ok (.iconst (-1), 1) := by decide +kernel
theorem dX7_numberTipped_18 : decode cX7_numberTipped 18 = .ok (.ireturn, 1) := by decide +kernel
theorem dX7_numberTipped_19 : decode cX7_numberTipped 19 = .ok (.aload_n 0, 1) := by decide +kernel
theorem dX7_numberTipped_20 : decode cX7_numberTipped 20 = .ok (.getfield 15, 3) := by decide +kernel
theorem dX7_numberTipped_23 : decode cX7_numberTipped 23 = .ok (.iload_n 1, 1) := by decide +kernel
theorem dX7_numberTipped_24 : decode cX7_numberTipped 24 = .ok (.iaload, 1) := by decide +kernel
theorem dX7_numberTipped_25 : decode cX7_numberTipped 25 = .ok (.aload_n 0, 1) := by decide +kernel
theorem dX7_numberTipped_26 : decode cX7_numberTipped 26 = .ok (.getfield 37, 3) := by decide +kernel
theorem dX7_numberTipped_29 : decode cX7_numberTipped 29 = .ok (.imul, 1) := by decide +kernel
theorem dX7_numberTipped_30 : decode cX7_numberTipped 30 = .ok (.istore_n 2, 1) := by decide +kernel
theorem dX7_numberTipped_31 : decode cX7_numberTipped 31 = .ok (.iload_n 1, 1) := by decide +kernel
theorem dX7_numberTipped_32 : decode cX7_numberTipped 32 = .ok (.ifCond .le 51, 3) := by decide +kernel
theorem dX7_numberTipped_35 : decode cX7_numberTipped 35 = .ok (.aload_n 0, 1) := by decide +kernel
theorem dX7_numberTipped_36 : decode cX7_numberTipped 36 = .ok (.getfield 19, 3) := by decide +kernel
theorem dX7_numberTipped_39 : decode cX7_numberTipped 39 = .ok (.iload_n 1, 1) := by decide +kernel
theorem dX7_numberTipped_40 : decode cX7_numberTipped 40 = .ok (.iaload, 1) := by decide +kernel
theorem dX7_numberTipped_41 : decode cX7_numberTipped 41 = .ok (.iconst (-1), 1) := by decide +kernel
theorem dX7_numberTipped_42 : decode cX7_numberTipped 42 = .ok (.if_icmp .eq 41, 3) := by decide +kernel
theorem dX7_numberTipped_45 : decode cX7_numberTipped 45 = .ok (.aload_n 0, 1) := by decide +kernel
theorem dX7_numberTipped_46 : decode cX7_numberTipped 46 = .ok (.getfield 19, 3) := by decide +kernel
theorem dX7_numberTipped_49 : decode cX7_numberTipped 49 = .ok (.iload_n 1, 1) := by decide +kernel
theorem dX7_numberTipped_50 : decode cX7_numberTipped 50 = .ok (.iconst 1, 1) := by decide +kernel
theorem dX7_numberTipped_51 : decode cX7_numberTipped 51 = .ok (.isub, 1) := by decide +kernel
theorem dX7_numberTipped_52 : decode cX7_numberTipped 52 = .ok (.iaload, 1) := by decide +kernel
theorem dX7_numberTipped_53 : decode cX7_numberTipped 53 = .ok (.iconst (-1), 1) := by decide +kernel
theorem dX7_numberTipped_54 : decode cX7_numberTipped 54 = .ok (.if_icmp .eq 29, 3) := by decide +kernel
theorem dX7_numberTipped_57 : decode cX7_numberTipped 57 = .ok (.iload_n 2, 1) := by decide +kernel
theorem dX7_numberTipped_58 : decode cX7_numberTipped 58 = .ok (.aload_n 0, 1) := by decide +kernel
theorem dX7_numberTipped_59 : decode cX7_numberTipped 59 = .ok (.getfield 37, 3) := by decide +kernel
theorem dX7_numberTipped_62 : decode cX7_numberTipped 62 = .ok (.aload_n 0, 1) := by decide +kernel
theorem dX7_numberTipped_63 : decode cX7_numberTipped 63 = .ok (.getfield 19, 3) := by decide +kernel
theorem dX7_numberTipped_66 : decode cX7_numberTipped 66 = .ok (.iload_n 1, 1) := by decide +kernel
theorem dX7_numberTipped_67 : decode cX7_numberTipped 67 = .ok (.iaload, 1) := by decide +kernel
theorem dX7_numberTipped_68 : decode cX7_numberTipped 68 = .ok (.aload_n 0, 1) := by decide +kernel
theorem dX7_numberTipped_69 : decode cX7_numberTipped 69 = .ok (.getfield 19, 3) := by decide +kernel
theorem dX7_numberTipped_72 : decode cX7_numberTipped 72 = .ok (.iload_n 1, 1) := by decide +kernel
theorem dX7_numberTipped_73 : decode cX7_numberTipped 73 = .ok (.iconst 1, 1) := by decide +kernel
theorem dX7_numberTipped_74 : decode cX7_numberTipped 74 = .ok (.isub, 1) := by decide +kernel
theorem dX7_numberTipped_75 : decode cX7_numberTipped 75 = .ok (.iaload, 1) := by decide +kernel
theorem dX7_numberTipped_76 : decode cX7_numberTipped 76 = .ok (.isub, 1) := by decide +kernel
theorem dX7_numberTipped_77 : decode cX7_numberTipped 77 = .ok (.imul, 1) := by decide +kernel
theorem dX7_numberTipped_78 : decode cX7_numberTipped 78 = .ok (.bipush 8, 2) := by decide +kernel
theorem dX7_numberTipped_80 : decode cX7_numberTipped 80 = .ok (.idiv, 1) := by decide +kernel
theorem dX7_numberTipped_81 : decode cX7_numberTipped 81 = .ok (.iadd, 1) := by decide +kernel
theorem dX7_numberTipped_82 : decode cX7_numberTipped 82 = .ok (.istore_n 2, 1) := by decide +kernel
theorem dX7_numberTipped_83 : decode cX7_numberTipped 83 = .ok (.iconst 0, 1) := by decide +kernel
theorem dX7_numberTipped_84 : decode cX7_numberTipped 84 = .ok (.iload_n 2, 1) := by decide +kernel
theorem dX7_numberTipped_85 : decode cX7_numberTipped 85 = .ok (.invokestatic 50, 3) := by decide +kernel
theorem dX7_numberTipped_88 : decode cX7_numberTipped 88 = .ok (.ireturn, 1) := by decide +kernel
theorem dX7_numberTwinned_0 : decode cX7_numberTwinned 0 = .ok (.iload_n 1, 1) := by decide +kernel
theorem dX7_numberTwinned_1 : decode cX7_numberTwinned 1 = .ok (.invokestatic 46, 3) := by decide +kernel
theorem dX7_numberTwinned_4 : decode cX7_numberTwinned 4 = .ok (.ifCond .eq 23, 3) := by decide +kernel
theorem dX7_numberTwinned_7 : decode cX7_numberTwinned 7 = .ok (.aload_n 0, 1) := by decide +kernel
theorem dX7_numberTwinned_8 : decode cX7_numberTwinned 8 = .ok (.getfield 15, 3) := by decide +kernel
theorem dX7_numberTwinned_11 : decode cX7_numberTwinned 11 = .ok (.iload_n 1, 1) := by decide +kernel
theorem dX7_numberTwinned_12 : decode cX7_numberTwinned 12 = .ok (.iaload, 1) := by decide +kernel
theorem dX7_numberTwinned_13 : decode cX7_numberTwinned 13 = .ok (.iconst (-1), 1) := by decide +kernel
theorem dX7_numberTwinned_14 : decode cX7_numberTwinned 14 = .ok (.if_icmp .eq 13, 3) := by decide +kernel
theorem dX7_numberTwinned_17 : decode cX7_numberTwinned 17 = .ok (.aload_n 0, 1) := by decide +kernel
theorem dX7_numberTwinned_18 : decode cX7_numberTwinned 18 = .ok (.getfield 19, 3) := by decide +kernel
theorem dX7_numberTwinned_21 : decode cX7_numberTwinned 21 = .ok (.iload_n 1, 1) := by decide +kernel
theorem dX7_numberTwinned_22 : decode cX7_numberTwinned 22 = .ok (.iaload, 1) := by decide +kernel
theorem dX7_numberTwinned_23 : decode cX7_numberTwinned 23 = .ok (.iconst (-1), 1) := by decide +kernel
theorem dX7_numberTwinned_24 : decode cX7_numberTwinned 24 = .ok (.if_icmp .ne 5, 3) := by decide +kernel
theorem dX7_numberTwinned_27 : decode cX7_numberTwinned 27 = .ok (.iconst (-1), 1) := by decide +kernel
theorem dX7_numberTwinned_28 : decode cX7_numberTwinned 28 = .ok (.ireturn, 1) := by decide +kernel
theorem dX7_numberTwinned_29 : decode cX7_numberTwinned 29 = .ok (.aload_n 0, 1) := by decide +kernel
theorem dX7_numberTwinned_30 : decode cX7_numberTwinned 30 = .ok (.getfield 15, 3) := by decide +kernel
theorem dX7_numberTwinned_33 : decode cX7_numberTwinned 33 = .ok (.iload_n 1, 1) := by decide +kernel
theorem dX7_numberTwinned_34 : decode cX7_numberTwinned 34 = .ok (.iaload, 1) := by decide +kernel
theorem dX7_numberTwinned_35 : decode cX7_numberTwinned 35 = .ok (.aload_n 0, 1) := by decide +kernel
theorem dX7_numberTwinned_36 : decode cX7_numberTwinned 36 = .ok (.getfield 19, 3) := by decide +kernel
theorem dX7_numberTwinned_39 : decode cX7_numberTwinned 39 = .ok (.iload_n 1, 1) := by decide +kernel
theorem dX7_numberTwinned_40 : decode cX7_numberTwinned 40 = .ok (.iaload, 1) := by decide +kernel
theorem dX7_numberTwinned_41 : decode cX7_numberTwinned 41 = .ok (.iadd, 1) := by decide +kernel
theorem dX7_numberTwinned_42 : decode cX7_numberTwinned 42 = .ok (.aload_n 0, 1) := by decide +kernel
theorem dX7_numberTwinned_43 : decode cX7_numberTwinned 43 = .ok (.getfield 37, 3) := by decide +kernel
theorem dX7_numberTwinned_46 : decode cX7_numberTwinned 46 = .ok (.imul, 1) := by decide +kernel
theorem dX7_numberTwinned_47 : decode cX7_numberTwinned 47 = .ok (.iconst 2, 1) := by decide +kernel
theorem dX7_numberTwinned_48 : decode cX7_numberTwinned 48 = .ok (.idiv, 1) := by decide +kernel
theorem dX7_numberTwinned_49 : decode cX7_numberTwinned 49 = .ok (.ireturn, 1) := by decide +kernel
theorem dX7_isUnlike_0 : decode cX7_isUnlike 0 = .ok (.iload_n 1, 1) := by decide +kernel
theorem dX7_isUnlike_1 : decode cX7_isUnlike 1 = .ok (.invokestatic 46, 3) := by decide +kernel
theorem dX7_isUnlike_4 : decode cX7_isUnlike 4 = .ok (.ifCond .eq 21, 3) := by decide +kernel
theorem dX7_isUnlike_7 : decode cX7_isUnlike 7 = .ok (.aload_n 0, 1) := by decide +kernel
theorem dX7_isUnlike_8 : decode cX7_isUnlike 8 = .ok (.getfield 9, 3) := by decide +kernel
theorem dX7_isUnlike_11 : decode cX7_isUnlike 11 = .ok (.iconst 4, 1) := by decide +kernel
theorem dX7_isUnlike_12 : decode cX7_isUnlike 12 = .ok (.if_icmp .ne 13, 3) := by decide +kernel
theorem dX7_isUnlike_15 : decode cX7_isUnlike 15 = .ok (.aload_n 0, 1) := by decide +kernel
theorem dX7_isUnlike_16 : decode cX7_isUnlike 16 = .ok (.getfield 22, 3) := by decide +kernel
theorem dX7_isUnlike_19 : decode cX7_isUnlike 19 = .ok (.iload_n 1, 1) := by decide +kernel
theorem dX7_isUnlike_20 : decode cX7_isUnlike 20 = .ok (.iaload, 1) := by decide +kernel
theorem dX7_isUnlike_21 : decode cX7_isUnlike 21 = .ok (.iconst (-1), 1) := by decide +kernel
theorem dX7_isUnlike_22 : decode cX7_isUnlike 22 = .ok (.if_icmp .eq 5, 3) := by decide +kernel
theorem dX7_isUnlike_25 : decode cX7_isUnlike 25 = .ok (.iconst 0, 1) := by decide +kernel
theorem dX7_isUnlike_26 : decode cX7_isUnlike 26 = .ok (.ireturn, 1) := by decide +kernel
theorem dX7_isUnlike_27 : decode cX7_isUnlike 27 = .ok (.aload_n 0, 1) := by decide +kernel
theorem dX7_isUnlike_28 : decode cX7_isUnlike 28 = .ok (.getfield 15, 3) := by decide +kernel
theorem dX7_isUnlike_31 : decode cX7_isUnlike 31 = .ok (.iload_n 1, 1) := by decide +kernel
theorem dX7_isUnlike_32 : decode cX7_isUnlike 32 = .ok (.iaload, 1) := by decide +kernel
theorem dX7_isUnlike_33 : decode cX7_isUnlike 33 = .ok (.aload_n 0, 1) := by decide +kernel
theorem dX7_isUnlike_34 : decode cX7_isUnlike 34 = .ok (.getfield 19, 3) := by decide +kernel
theorem dX7_isUnlike_37 : decode cX7_isUnlike 37 = .ok (.iload_n 1, 1) := by decide +kernel
theorem dX7_isUnlike_38 : decode cX7_isUnlike 38 = .ok (.iaload, 1) := by decide +kernel
theorem dX7_isUnlike_39 : decode cX7_isUnlike 39 = .ok (.invokestatic 50, 3) := by decide +kernel
theorem dX7_isUnlike_42 : decode cX7_isUnlike 42 = .ok (.istore_n 3, 1) := by decide +kernel
theorem dX7_isUnlike_43 : decode cX7_isUnlike 43 = .ok (.aload_n 0, 1) := by decide +kernel
theorem dX7_isUnlike_44 : decode cX7_isUnlike 44 = .ok (.getfield 15, 3) := by decide +kernel
theorem dX7_isUnlike_47 : decode cX7_isUnlike 47 = .ok (.iload_n 1, 1) := by decide +kernel
theorem dX7_isUnlike_48 : decode cX7_isUnlike 48 = .ok (.iaload, 1) := by decide +kernel
theorem dX7_isUnlike_49 : decode cX7_isUnlike 49 = .ok (.aload_n 0, 1) := by decide +kernel
theorem dX7_isUnlike_50 : decode cX7_isUnlike 50 = .ok (.getfield 19, 3) := by decide +kernel
theorem dX7_isUnlike_53 : decode cX7_isUnlike 53 = .ok (.iload_n 1, 1) := by decide +kernel
theorem dX7_isUnlike_54 : decode cX7_isUnlike 54 = .ok (.iaload, 1) := by decide +kernel
theorem dX7_isUnlike_55 : decode cX7_isUnlike 55 = .ok (.isub, 1) := by decide +kernel
theorem dX7_isUnlike_56 : decode cX7_isUnlike 56 = .ok (.invokestatic 63, 3) := by decide +kernel
theorem dX7_isUnlike_59 : decode cX7_isUnlike 59 = .ok (.bipush 100, 2) := by decide +kernel
theorem dX7_isUnlike_61 : decode cX7_isUnlike 61 = .ok (.imul, 1) := by decide +kernel
theorem dX7_isUnlike_62 : decode cX7_isUnlike 62 = .ok (.iload_n 2, 1) := by decide +kernel
theorem dX7_isUnlike_63 : decode cX7_isUnlike 63 = .ok (.iload_n 3, 1) := by decide +kernel
theorem dX7_isUnlike_64 : decode cX7_isUnlike 64 = .ok (.imul, 1) := by decide +kernel
theorem dX7_isUnlike_65 : decode cX7_isUnlike 65 = .ok (.if_icmp .le 7, 3) := by decide +kernel
theorem dX7_isUnlike_68 : decode cX7_isUnlike 68 = .ok (.iconst 1, 1) := by decide +kernel
theorem dX7_isUnlike_69 : decode cX7_isUnlike 69 = .ok (.goto 4, 3) := by decide +kernel
theorem dX7_isUnlike_72 : decode cX7_isUnlike 72 = .ok (.iconst 0, 1) := by decide +kernel
theorem dX7_isUnlike_73 : decode cX7_isUnlike 73 = .ok (.ireturn, 1) := by decide +kernel
theorem dX8_init_0 : decode cX8_init 0 = .ok (.aload_n 0, 1) := by decide +kernel
theorem dX8_init_1 : decode cX8_init 1 = .ok (.invokespecial 3, 3) := by decide +kernel
theorem dX8_init_4 : decode cX8_init 4 = .ok (.aload_n 0, 1) := by decide +kernel
theorem dX8_init_5 : decode cX8_init 5 = .ok (.bipush 100, 2) := by decide +kernel
theorem dX8_init_7 : decode cX8_init 7 = .ok (.newarray .boolean, 2) := by decide +kernel
theorem dX8_init_9 : decode cX8_init 9 = .ok (.putfield 9, 3) := by decide +kernel
theorem dX8_init_12 : decode cX8_init 12 = .ok (.return_, 1) := by decide +kernel
theorem dX8_change_0 : decode cX8_change 0 = .ok (.iload_n 1, 1) := by decide +kernel
theorem dX8_change_1 : decode cX8_change 1 = .ok (.ifCond .lt 44, 3) := by decide +kernel
theorem dX8_change_4 : decode cX8_change 4 = .ok (.iload_n 1, 1) := by decide +kernel
theorem dX8_change_5 : decode cX8_change 5 = .ok (.bipush 100, 2) := by decide +kernel
theorem dX8_change_7 : decode cX8_change 7 = .ok (.if_icmp .ge 38, 3) := by decide +kernel
theorem dX8_change_10 : decode cX8_change 10 = .ok (.aload_n 0, 1) := by decide +kernel
theorem dX8_change_11 : decode cX8_change 11 = .ok (.getfield 9, 3) := by decide +kernel
theorem dX8_change_14 : decode cX8_change 14 = .ok (.iload_n 1, 1) := by decide +kernel
theorem dX8_change_15 : decode cX8_change 15 = .ok (.baload, 1) := by decide +kernel
theorem dX8_change_16 : decode cX8_change 16 = .ok (.iload_n 2, 1) := by decide +kernel
theorem dX8_change_17 : decode cX8_change 17 = .ok (.if_icmp .eq 28, 3) := by decide +kernel
theorem dX8_change_20 : decode cX8_change 20 = .ok (.aload_n 0, 1) := by decide +kernel
theorem dX8_change_21 : decode cX8_change 21 = .ok (.getfield 9, 3) := by decide +kernel
theorem dX8_change_24 : decode cX8_change 24 = .ok (.iload_n 1, 1) := by decide +kernel
theorem dX8_change_25 : decode cX8_change 25 = .ok (.iload_n 2, 1) := by decide +kernel
theorem dX8_change_26 : decode cX8_change 26 = .ok (.bastore, 1) := by decide +kernel
theorem dX8_change_27 : decode cX8_change 27 = .ok (.aload_n 0, 1) := by decide +kernel
theorem dX8_change_28 : decode cX8_change 28 = .ok (.dup, 1) := by decide +kernel
theorem dX8_change_29 : decode cX8_change 29 = .ok (.getfield 15, 3) := by decide +kernel
theorem dX8_change_32 : decode cX8_change 32 = .ok (.iload_n 2, 1) := by decide +kernel
theorem dX8_change_33 : decode cX8_change 33 = .ok (.ifCond .eq 7, 3) := by decide +kernel
theorem dX8_change_36 : decode cX8_change 36 = .ok (.iconst 1, 1) := by decide +kernel
theorem dX8_change_37 : decode cX8_change 37 = .ok (.goto 4, 3) := by decide +kernel
theorem dX8_change_40 : decode cX8_change 40 = .ok (.iconst (-1), 1) := by decide +kernel
theorem dX8_change_41 : decode cX8_change 41 = .ok (.iadd, 1) := by decide +kernel
theorem dX8_change_42 : decode cX8_change 42 = .ok (.putfield 15, 3) := by decide +kernel
theorem dX8_change_45 : decode cX8_change 45 = .ok (.aload_n 0, 1) := by decide +kernel
theorem dX8_change_46 : decode cX8_change 46 = .ok (.getfield 15, 3) := by decide +kernel
theorem dX8_change_49 : decode cX8_change 49 = .ok (.ireturn, 1) := by decide +kernel
theorem dX9_init_0 : decode cX9_init 0 = .ok (.aload_n 0, 1) := by decide +kernel
theorem dX9_init_1 : decode cX9_init 1 = .ok (.invokespecial 1, 3) := by decide +kernel
theorem dX9_init_4 : decode cX9_init 4 = .ok (.aload_n 0, 1) := by decide +kernel
theorem dX9_init_5 : decode cX9_init 5 = .ok (.new 7, 3) := by decide +kernel
theorem dX9_init_8 : decode cX9_init 8 = .ok (.dup, 1) := by decide +kernel
theorem dX9_init_9 : decode cX9_init 9 = .ok (.invokespecial 9, 3) := by decide +kernel
theorem dX9_init_12 : decode cX9_init 12 = .ok (.putfield 10, 3) := by decide +kernel
theorem dX9_init_15 : decode cX9_init 15 = .ok (.aload_n 0, 1) := by decide +kernel
theorem dX9_init_16 : decode cX9_init 16 = .ok (.new 16, 3) := by decide +kernel
theorem dX9_init_19 : decode cX9_init 19 = .ok (.dup, 1) := by decide +kernel
theorem dX9_init_20 : decode cX9_init 20 = .ok (.aload_n 0, 1) := by decide +kernel
theorem dX9_init_21 : decode cX9_init 21 = .ok (.getfield 10, 3) := by decide +kernel
theorem dX9_init_24 : decode cX9_init 24 = .ok (.invokespecial 18, 3) := by decide +kernel
theorem dX9_init_27 : decode cX9_init 27 = .ok (.putfield 21, 3) := by decide +kernel
theorem dX9_init_30 : decode cX9_init 30 = .ok (.aload_n 0, 1) := by decide +kernel
theorem dX9_init_31 : decode cX9_init 31 = .ok (.new 25, 3) := by decide +kernel
theorem dX9_init_34 : decode cX9_init 34 = .ok (.dup, 1) := by decide +kernel
theorem dX9_init_35 : decode cX9_init 35 = .ok (.aload_n 0, 1) := by decide +kernel
theorem dX9_init_36 : decode cX9_init 36 = .ok (.getfield 10, 3) := by decide +kernel
theorem dX9_init_39 : decode cX9_init 39 = .ok (.invokespecial 27, 3) := by decide +kernel
theorem dX9_init_42 : decode cX9_init 42 = .ok (.putfield 28, 3) := by decide +kernel
theorem dX9_init_45 : decode cX9_init 45 = .ok (.aload_n 0, 1) := by decide +kernel
theorem dX9_init_46 : decode cX9_init 46 = .ok (.new 32, 3) := by decide +kernel
theorem dX9_init_49 : decode cX9_init 49 = .ok (.dup, 1) := by decide +kernel
theorem dX9_init_50 : decode cX9_init 50 = .ok (.aload_n 0, 1) := by decide +kernel
theorem dX9_init_51 : decode cX9_init 51 = .ok (.getfield 10, 3) := by decide +kernel
theorem dX9_init_54 : decode cX9_init 54 = .ok (.invokespecial 34, 3) := by decide +kernel
theorem dX9_init_57 : decode cX9_init 57 = .ok (.putfield 35, 3) := by decide +kernel
theorem dX9_init_60 : decode cX9_init 60 = .ok (.aload_n 0, 1) := by decide +kernel
theorem dX9_init_61 : decode cX9_init 61 = .ok (.new 39, 3) := by decide +kernel
theorem dX9_init_64 : decode cX9_init 64 = .ok (.dup, 1) := by decide +kernel
theorem dX9_init_65 : decode cX9_init 65 = .ok (.aload_n 0, 1) := by decide +kernel
theorem dX9_init_66 : decode cX9_init 66 = .ok (.getfield 10, 3) := by decide +kernel
theorem dX9_init_69 : decode cX9_init 69 = .ok (.invokespecial 41, 3) := by decide +kernel
theorem dX9_init_72 : decode cX9_init 72 = .ok (.putfield 42, 3) := by decide +kernel
theorem dX9_init_75 : decode cX9_init 75 = .ok (.return_, 1) := by decide +kernel
theorem dX9_put_0 : decode cX9_put 0 = .ok (.iload_n 1, 1) := by decide +kernel
theorem dX9_put_1 : decode cX9_put 1 = .ok (.invokestatic 46, 3) := by decide +kernel
theorem dX9_put_4 : decode cX9_put 4 = .ok (.ifCond .eq 21, 3) := by decide +kernel
theorem dX9_put_7 : decode cX9_put 7 = .ok (.iload_n 2, 1) := by decide +kernel
theorem dX9_put_8 : decode cX9_put 8 = .ok (.ifCond .lt 17, 3) := by decide +kernel
theorem dX9_put_11 : decode cX9_put 11 = .ok (.iload_n 2, 1) := by decide +kernel
theorem dX9_put_12 : decode cX9_put 12 = .ok (.iconst 5, 1) := by decide +kernel
theorem dX9_put_13 : decode cX9_put 13 = .ok (.if_icmp .gt 12, 3) := by decide +kernel
theorem dX9_put_16 : decode cX9_put 16 = .ok (.iload_n 3, 1) := by decide +kernel
theorem dX9_put_17 : decode cX9_put 17 = .ok (.iload 4, 2) := by decide +kernel
theorem dX9_put_19 : decode cX9_put 19 = .ok (.invokestatic 50, 3) := by decide +kernel
theorem dX9_put_22 : decode cX9_put 22 = .ok (.ifCond .ne 5, 3) := by decide +kernel
theorem dX9_put_25 : decode cX9_put 25 = .ok (.iconst (-1), 1) := by decide +kernel
theorem dX9_put_26 : decode cX9_put 26 = .ok (.ireturn, 1) := by decide +kernel
theorem dX9_put_27 : decode cX9_put 27 = .ok (.iload_n 2, 1) := by decide +kernel
theorem dX9_put_28 : decode cX9_put 28 = .ok (.invokestatic 54, 3) := by decide +kernel
theorem dX9_put_31 : decode cX9_put 31 = .ok (.ifCond .eq 18, 3) := by decide +kernel
theorem dX9_put_34 : decode cX9_put 34 = .ok (.iload 5, 2) := by decide +kernel
theorem dX9_put_36 : decode cX9_put 36 = .ok (.iconst 1, 1) := by decide +kernel
theorem dX9_put_37 : decode cX9_put 37 = .ok (.if_icmp .lt 10, 3) := by decide +kernel
theorem dX9_put_40 : decode cX9_put 40 = .ok (.iload 5, 2) := by decide +kernel
theorem dX9_put_42 : decode cX9_put 42 = .ok (.bipush 20, 2) := by decide +kernel
theorem dX9_put_44 : decode cX9_put 44 = .ok (.if_icmp .le 5, 3) := by decide +kernel
theorem dX9_put_47 : decode cX9_put 47 = .ok (.iconst (-1), 1) := by decide +kernel
theorem dX9_put_48 : decode cX9_put 48 = .ok (.ireturn, 1) := by decide +kernel
theorem dX9_put_49 : decode cX9_put 49 = .ok (.aload_n 0, 1) := by decide +kernel
theorem dX9_put_50 : decode cX9_put 50 = .ok (.getfield 10, 3) := by decide +kernel
theorem dX9_put_53 : decode cX9_put 53 = .ok (.getfield 57, 3) := by decide +kernel
theorem dX9_put_56 : decode cX9_put 56 = .ok (.iload_n 1, 1) := by decide +kernel
theorem dX9_put_57 : decode cX9_put 57 = .ok (.aaload, 1) := by decide +kernel
theorem dX9_put_58 : decode cX9_put 58 = .ok (.astore 6, 2) := by decide +kernel
theorem dX9_put_60 : decode cX9_put 60 = .ok (.aload 6, 2) := by decide +kernel
theorem dX9_put_62 : decode cX9_put 62 = .ok (.getfield 61, 3) := by decide +kernel
theorem dX9_put_65 : decode cX9_put 65 = .ok (.iconst (-1), 1) := by decide +kernel
theorem dX9_put_66 : decode cX9_put 66 = .ok (.if_icmp .eq 5, 3) := by decide +kernel
theorem dX9_put_69 : decode cX9_put 69 = .ok (.iconst (-1), 1) := by decide +kernel
theorem dX9_put_70 : decode cX9_put 70 = .ok (.ireturn, 1) := by decide +kernel
theorem dX9_put_71 : decode cX9_put 71 = .ok (.aload 6, 2) := by decide +kernel
theorem dX9_put_73 : decode cX9_put 73 = .ok (.iload_n 2, 1) := by decide +kernel
theorem dX9_put_74 : decode cX9_put 74 = .ok (.iload_n 3, 1) := by decide +kernel
theorem dX9_put_75 : decode cX9_put 75 = .ok (.iload 4, 2) := by decide +kernel
theorem dX9_put_77 : decode cX9_put 77 = .ok (.iload_n 2, 1) := by decide +kernel
theorem dX9_put_78 : decode cX9_put 78 = .ok (.invokestatic 54, 3) := by decide +kernel
theorem dX9_put_81 : decode cX9_put 81 = .ok (.ifCond .eq 8, 3) := by decide +kernel
theorem dX9_put_84 : decode cX9_put 84 = .ok (.iload 5, 2) := by decide +kernel
theorem dX9_put_86 : decode cX9_put 86 = .ok (.goto 4, 3) := by decide +kernel
theorem dX9_put_89 : decode cX9_put 89 = .ok (.iconst 0, 1) := by decide +kernel
theorem dX9_put_90 : decode cX9_put 90 = .ok (.iload_n 2, 1) := by decide +kernel
theorem dX9_put_91 : decode cX9_put 91 = .ok (.iconst 5, 1) := by decide +kernel
theorem dX9_put_92 : decode cX9_put 92 = .ok (.if_icmp .ne 7, 3) := by decide +kernel
theorem dX9_put_95 : decode cX9_put 95 = .ok (.iconst 0, 1) := by decide +kernel
theorem dX9_put_96 : decode cX9_put 96 = .ok (.goto 10, 3) := by decide +kernel
theorem dX9_put_99 : decode cX9_put 99 = .ok (.aload_n 0, 1) := by decide +kernel
theorem dX9_put_100 : decode cX9_put 100 = .ok (.getfield 10, 3) := by decide +kernel
theorem dX9_put_103 : decode cX9_put 103 = .ok (.getfield 67, 3) := by decide +kernel
theorem dX9_put_106 : decode cX9_put 106 = .ok (.invokevirtual 70, 3) := by decide +kernel
theorem dX9_put_109 : decode cX9_put 109 = .ok (.aload_n 0, 1) := by decide +kernel
theorem dX9_put_110 : decode cX9_put 110 = .ok (.getfield 10, 3) := by decide +kernel
theorem dX9_put_113 : decode cX9_put 113 = .ok (.dup, 1) := by decide +kernel
theorem dX9_put_114 : decode cX9_put 114 = .ok (.getfield 74, 3) := by decide +kernel
theorem dX9_put_117 : decode cX9_put 117 = .ok (.iconst 1, 1) := by decide +kernel
theorem dX9_put_118 : decode cX9_put 118 = .ok (.iadd, 1) := by decide +kernel
theorem dX9_put_119 : decode cX9_put 119 = .ok (.putfield 74, 3) := by decide +kernel
theorem dX9_put_122 : decode cX9_put 122 = .ok (.iload_n 1, 1) := by decide +kernel
theorem dX9_put_123 : decode cX9_put 123 = .ok (.ireturn, 1) := by decide +kernel
theorem dX9_lift_0 : decode cX9_lift 0 = .ok (.iload_n 1, 1) := by decide +kernel
theorem dX9_lift_1 : decode cX9_lift 1 = .ok (.invokestatic 46, 3) := by decide +kernel
theorem dX9_lift_4 : decode cX9_lift 4 = .ok (.ifCond .eq 19, 3) := by decide +kernel
theorem dX9_lift_7 : decode cX9_lift 7 = .ok (.aload_n 0, 1) := by decide +kernel
theorem dX9_lift_8 : decode cX9_lift 8 = .ok (.getfield 10, 3) := by decide +kernel
theorem dX9_lift_11 : decode cX9_lift 11 = .ok (.getfield 57, 3) := by decide +kernel
theorem dX9_lift_14 : decode cX9_lift 14 = .ok (.iload_n 1, 1) := by decide +kernel
theorem dX9_lift_15 : decode cX9_lift 15 = .ok (.aaload, 1) := by decide +kernel
theorem dX9_lift_16 : decode cX9_lift 16 = .ok (.getfield 61, 3) := by decide +kernel
theorem dX9_lift_19 : decode cX9_lift 19 = .ok (.iconst (-1), 1) := by decide +kernel
theorem dX9_lift_20 : decode cX9_lift 20 = .ok (.if_icmp .ne 5, 3) := by decide +kernel
theorem dX9_lift_23 : decode cX9_lift 23 = .ok (.iconst (-1), 1) := by decide +kernel
theorem dX9_lift_24 : decode cX9_lift 24 = .ok (.ireturn, 1) := by decide +kernel
theorem dX9_lift_25 : decode cX9_lift 25 = .ok (.aload_n 0, 1) := by decide +kernel
theorem dX9_lift_26 : decode cX9_lift 26 = .ok (.getfield 10, 3) := by decide +kernel
theorem dX9_lift_29 : decode cX9_lift 29 = .ok (.getfield 57, 3) := by decide +kernel
theorem dX9_lift_32 : decode cX9_lift 32 = .ok (.iload_n 1, 1) := by decide +kernel
theorem dX9_lift_33 : decode cX9_lift 33 = .ok (.aaload, 1) := by decide +kernel
theorem dX9_lift_34 : decode cX9_lift 34 = .ok (.getfield 61, 3) := by decide +kernel
theorem dX9_lift_37 : decode cX9_lift 37 = .ok (.istore_n 2, 1) := by decide +kernel
theorem dX9_lift_38 : decode cX9_lift 38 = .ok (.aload_n 0, 1) := by decide +kernel
theorem dX9_lift_39 : decode cX9_lift 39 = .ok (.getfield 10, 3) := by decide +kernel
theorem dX9_lift_42 : decode cX9_lift 42 = .ok (.getfield 57, 3) := by decide +kernel
theorem dX9_lift_45 : decode cX9_lift 45 = .ok (.iload_n 1, 1) := by decide +kernel
theorem dX9_lift_46 : decode cX9_lift 46 = .ok (.aaload, 1) := by decide +kernel
theorem dX9_lift_47 : decode cX9_lift 47 = .ok (.invokevirtual 77, 3) := by decide +kernel
theorem dX9_lift_50 : decode cX9_lift 50 = .ok (.aload_n 0, 1) := by decide +kernel
theorem dX9_lift_51 : decode cX9_lift 51 = .ok (.getfield 10, 3) := by decide +kernel
theorem dX9_lift_54 : decode cX9_lift 54 = .ok (.dup, 1) := by decide +kernel
theorem dX9_lift_55 : decode cX9_lift 55 = .ok (.getfield 74, 3) := by decide +kernel
theorem dX9_lift_58 : decode cX9_lift 58 = .ok (.iconst 1, 1) := by decide +kernel
theorem dX9_lift_59 : decode cX9_lift 59 = .ok (.iadd, 1) := by decide +kernel
theorem dX9_lift_60 : decode cX9_lift 60 = .ok (.putfield 74, 3) := by decide +kernel
theorem dX9_lift_63 : decode cX9_lift 63 = .ok (.iload_n 2, 1) := by decide +kernel
theorem dX9_lift_64 : decode cX9_lift 64 = .ok (.ireturn, 1) := by decide +kernel
theorem dX9_look_0 : decode cX9_look 0 = .ok (.iload_n 1, 1) := by decide +kernel
theorem dX9_look_1 : decode cX9_look 1 = .ok (.invokestatic 46, 3) := by decide +kernel
theorem dX9_look_4 : decode cX9_look 4 = .ok (.ifCond .eq 19, 3) := by decide +kernel
theorem dX9_look_7 : decode cX9_look 7 = .ok (.aload_n 0, 1) := by decide +kernel
theorem dX9_look_8 : decode cX9_look 8 = .ok (.getfield 10, 3) := by decide +kernel
theorem dX9_look_11 : decode cX9_look 11 = .ok (.getfield 57, 3) := by decide +kernel
theorem dX9_look_14 : decode cX9_look 14 = .ok (.iload_n 1, 1) := by decide +kernel
theorem dX9_look_15 : decode cX9_look 15 = .ok (.aaload, 1) := by decide +kernel
theorem dX9_look_16 : decode cX9_look 16 = .ok (.getfield 61, 3) := by decide +kernel
theorem dX9_look_19 : decode cX9_look 19 = .ok (.iconst (-1), 1) := by decide +kernel
theorem dX9_look_20 : decode cX9_look 20 = .ok (.if_icmp .ne 5, 3) := by decide +kernel
theorem dX9_look_23 : decode cX9_look 23 = .ok (.iconst (-1), 1) := by decide +kernel
theorem dX9_look_24 : decode cX9_look 24 = .ok (.ireturn, 1) := by decide +kernel
theorem dX9_look_25 : decode cX9_look 25 = .ok (.aload_n 0, 1) := by decide +kernel
theorem dX9_look_26 : decode cX9_look 26 = .ok (.getfield 10, 3) := by decide +kernel
theorem dX9_look_29 : decode cX9_look 29 = .ok (.getfield 57, 3) := by decide +kernel
theorem dX9_look_32 : decode cX9_look 32 = .ok (.iload_n 1, 1) := by decide +kernel
theorem dX9_look_33 : decode cX9_look 33 = .ok (.aaload, 1) := by decide +kernel
theorem dX9_look_34 : decode cX9_look 34 = .ok (.astore_n 3, 1) := by decide +kernel
theorem dX9_look_35 : decode cX9_look 35 = .ok (.iload_n 2, 1) := by decide +kernel
theorem dX9_look_36 : decode cX9_look 36 = .ok (.tableswitch 70 0 5 #[40, 45, 50, 55, 60, 65], 40) := by decide +kernel
theorem dX9_look_76 : decode cX9_look 76 = .ok (.aload_n 3, 1) := by decide +kernel
theorem dX9_look_77 : decode cX9_look 77 = .ok (.getfield 61, 3) := by decide +kernel
theorem dX9_look_80 : decode cX9_look 80 = .ok (.ireturn, 1) := by decide +kernel
theorem dX9_look_81 : decode cX9_look 81 = .ok (.aload_n 3, 1) := by decide +kernel
theorem dX9_look_82 : decode cX9_look 82 = .ok (.getfield 80, 3) := by decide +kernel
theorem dX9_look_85 : decode cX9_look 85 = .ok (.ireturn, 1) := by decide +kernel
theorem dX9_look_86 : decode cX9_look 86 = .ok (.aload_n 3, 1) := by decide +kernel
theorem dX9_look_87 : decode cX9_look 87 = .ok (.getfield 83, 3) := by decide +kernel
theorem dX9_look_90 : decode cX9_look 90 = .ok (.ireturn, 1) := by decide +kernel
theorem dX9_look_91 : decode cX9_look 91 = .ok (.aload_n 3, 1) := by decide +kernel
theorem dX9_look_92 : decode cX9_look 92 = .ok (.getfield 86, 3) := by decide +kernel
theorem dX9_look_95 : decode cX9_look 95 = .ok (.ireturn, 1) := by decide +kernel
theorem dX9_look_96 : decode cX9_look 96 = .ok (.aload_n 3, 1) := by decide +kernel
theorem dX9_look_97 : decode cX9_look 97 = .ok (.getfield 89, 3) := by decide +kernel
theorem dX9_look_100 : decode cX9_look 100 = .ok (.ireturn, 1) := by decide +kernel
theorem dX9_look_101 : decode cX9_look 101 = .ok (.aload_n 3, 1) := by decide +kernel
theorem dX9_look_102 : decode cX9_look 102 = .ok (.getfield 92, 3) := by decide +kernel
theorem dX9_look_105 : decode cX9_look 105 = .ok (.ireturn, 1) := by decide +kernel
theorem dX9_look_106 : decode cX9_look 106 = .ok (.iconst (-1), 1) := by decide +kernel
theorem dX9_look_107 : decode cX9_look 107 = .ok (.ireturn, 1) := by decide +kernel
theorem dX9_read_0 : decode cX9_read 0 = .ok (.aload_n 0, 1) := by decide +kernel
theorem dX9_read_1 : decode cX9_read 1 = .ok (.iload_n 1, 1) := by decide +kernel
theorem dX9_read_2 : decode cX9_read 2 = .ok (.invokevirtual 95, 3) := by decide +kernel
theorem dX9_read_5 : decode cX9_read 5 = .ok (.istore_n 3, 1) := by decide +kernel
theorem dX9_read_6 : decode cX9_read 6 = .ok (.iload_n 3, 1) := by decide +kernel
theorem dX9_read_7 : decode cX9_read 7 = .ok (.ifCond .eq 5, 3) := by decide +kernel
theorem dX9_read_10 : decode cX9_read 10 = .ok (.iload_n 3, 1) := by decide +kernel
theorem dX9_read_11 : decode cX9_read 11 = .ok (.ireturn, 1) := by decide +kernel
theorem dX9_read_12 : decode cX9_read 12 = .ok (.aload_n 0, 1) := by decide +kernel
theorem dX9_read_13 : decode cX9_read 13 = .ok (.getfield 10, 3) := by decide +kernel
theorem dX9_read_16 : decode cX9_read 16 = .ok (.getfield 57, 3) := by decide +kernel
theorem dX9_read_19 : decode cX9_read 19 = .ok (.iload_n 1, 1) := by decide +kernel
theorem dX9_read_20 : decode cX9_read 20 = .ok (.aaload, 1) := by decide +kernel
theorem dX9_read_21 : decode cX9_read 21 = .ok (.astore 4, 2) := by decide +kernel
theorem dX9_read_23 : decode cX9_read 23 = .ok (.aload 4, 2) := by decide +kernel
theorem dX9_read_25 : decode cX9_read 25 = .ok (.getfield 61, 3) := by decide +kernel
theorem dX9_read_28 : decode cX9_read 28 = .ok (.invokestatic 54, 3) := by decide +kernel
theorem dX9_read_31 : decode cX9_read 31 = .ok (.ifCond .eq 9, 3) := by decide +kernel
theorem dX9_read_34 : decode cX9_read 34 = .ok (.sipush 250, 3) := by decide +kernel
theorem dX9_read_37 : decode cX9_read 37 = .ok (.goto 6, 3) := by decide +kernel
theorem dX9_read_40 : decode cX9_read 40 = .ok (.sipush 5000, 3) := by decide +kernel
theorem dX9_read_43 : decode cX9_read 43 = .ok (.istore 5, 2) := by decide +kernel
theorem dX9_read_45 : decode cX9_read 45 = .ok (.iload_n 2, 1) := by decide +kernel
theorem dX9_read_46 : decode cX9_read 46 = .ok (.ifCond .lt 22, 3) := by decide +kernel
theorem dX9_read_49 : decode cX9_read 49 = .ok (.iload_n 2, 1) := by decide +kernel
theorem dX9_read_50 : decode cX9_read 50 = .ok (.iload 5, 2) := by decide +kernel
theorem dX9_read_52 : decode cX9_read 52 = .ok (.if_icmp .gt 16, 3) := by decide +kernel
theorem dX9_read_55 : decode cX9_read 55 = .ok (.aload_n 0, 1) := by decide +kernel
theorem dX9_read_56 : decode cX9_read 56 = .ok (.getfield 10, 3) := by decide +kernel
theorem dX9_read_59 : decode cX9_read 59 = .ok (.getfield 67, 3) := by decide +kernel
theorem dX9_read_62 : decode cX9_read 62 = .ok (.invokestatic 99, 3) := by decide +kernel
theorem dX9_read_65 : decode cX9_read 65 = .ok (.ifCond .ne 5, 3) := by decide +kernel
theorem dX9_read_68 : decode cX9_read 68 = .ok (.iconst (-1), 1) := by decide +kernel
theorem dX9_read_69 : decode cX9_read 69 = .ok (.ireturn, 1) := by decide +kernel
theorem dX9_read_70 : decode cX9_read 70 = .ok (.aload 4, 2) := by decide +kernel
theorem dX9_read_72 : decode cX9_read 72 = .ok (.getfield 102, 3) := by decide +kernel
theorem dX9_read_75 : decode cX9_read 75 = .ok (.aload_n 0, 1) := by decide +kernel
theorem dX9_read_76 : decode cX9_read 76 = .ok (.getfield 10, 3) := by decide +kernel
theorem dX9_read_79 : decode cX9_read 79 = .ok (.getfield 67, 3) := by decide +kernel
theorem dX9_read_82 : decode cX9_read 82 = .ok (.iload_n 2, 1) := by decide +kernel
theorem dX9_read_83 : decode cX9_read 83 = .ok (.iastore, 1) := by decide +kernel
theorem dX9_read_84 : decode cX9_read 84 = .ok (.aload 4, 2) := by decide +kernel
theorem dX9_read_86 : decode cX9_read 86 = .ok (.getfield 61, 3) := by decide +kernel
theorem dX9_read_89 : decode cX9_read 89 = .ok (.iconst 2, 1) := by decide +kernel
theorem dX9_read_90 : decode cX9_read 90 = .ok (.if_icmp .ne 14, 3) := by decide +kernel
theorem dX9_read_93 : decode cX9_read 93 = .ok (.aload 4, 2) := by decide +kernel
theorem dX9_read_95 : decode cX9_read 95 = .ok (.dup, 1) := by decide +kernel
theorem dX9_read_96 : decode cX9_read 96 = .ok (.getfield 92, 3) := by decide +kernel
theorem dX9_read_99 : decode cX9_read 99 = .ok (.iload_n 2, 1) := by decide +kernel
theorem dX9_read_100 : decode cX9_read 100 = .ok (.iadd, 1) := by decide +kernel
theorem dX9_read_101 : decode cX9_read 101 = .ok (.putfield 92, 3) := by decide +kernel
theorem dX9_read_104 : decode cX9_read 104 = .ok (.aload_n 0, 1) := by decide +kernel
theorem dX9_read_105 : decode cX9_read 105 = .ok (.getfield 10, 3) := by decide +kernel
theorem dX9_read_108 : decode cX9_read 108 = .ok (.dup, 1) := by decide +kernel
theorem dX9_read_109 : decode cX9_read 109 = .ok (.getfield 74, 3) := by decide +kernel
theorem dX9_read_112 : decode cX9_read 112 = .ok (.iconst 1, 1) := by decide +kernel
theorem dX9_read_113 : decode cX9_read 113 = .ok (.iadd, 1) := by decide +kernel
theorem dX9_read_114 : decode cX9_read 114 = .ok (.putfield 74, 3) := by decide +kernel
theorem dX9_read_117 : decode cX9_read 117 = .ok (.iconst 1, 1) := by decide +kernel
theorem dX9_read_118 : decode cX9_read 118 = .ok (.ireturn, 1) := by decide +kernel
theorem dX9_full_0 : decode cX9_full 0 = .ok (.aload_n 0, 1) := by decide +kernel
theorem dX9_full_1 : decode cX9_full 1 = .ok (.iload_n 1, 1) := by decide +kernel
theorem dX9_full_2 : decode cX9_full 2 = .ok (.iconst 1, 1) := by decide +kernel
theorem dX9_full_3 : decode cX9_full 3 = .ok (.invokevirtual 106, 3) := by decide +kernel
theorem dX9_full_6 : decode cX9_full 6 = .ok (.istore_n 3, 1) := by decide +kernel
theorem dX9_full_7 : decode cX9_full 7 = .ok (.iload_n 3, 1) := by decide +kernel
theorem dX9_full_8 : decode cX9_full 8 = .ok (.ifCond .eq 7, 3) := by decide +kernel
theorem dX9_full_11 : decode cX9_full 11 = .ok (.iload_n 3, 1) := by decide +kernel
theorem dX9_full_12 : decode cX9_full 12 = .ok (.goto 11, 3) := by decide +kernel
theorem dX9_full_15 : decode cX9_full 15 = .ok (.aload_n 0, 1) := by decide +kernel
theorem dX9_full_16 : decode cX9_full 16 = .ok (.iload_n 1, 1) := by decide +kernel
theorem dX9_full_17 : decode cX9_full 17 = .ok (.iload_n 2, 1) := by decide +kernel
theorem dX9_full_18 : decode cX9_full 18 = .ok (.bipush 7, 2) := by decide +kernel
theorem dX9_full_20 : decode cX9_full 20 = .ok (.invokevirtual 110, 3) := by decide +kernel
theorem dX9_full_23 : decode cX9_full 23 = .ok (.ireturn, 1) := by decide +kernel
theorem dX9_melt_0 : decode cX9_melt 0 = .ok (.aload_n 0, 1) := by decide +kernel
theorem dX9_melt_1 : decode cX9_melt 1 = .ok (.iload_n 1, 1) := by decide +kernel
theorem dX9_melt_2 : decode cX9_melt 2 = .ok (.iconst 2, 1) := by decide +kernel
theorem dX9_melt_3 : decode cX9_melt 3 = .ok (.invokevirtual 106, 3) := by decide +kernel
theorem dX9_melt_6 : decode cX9_melt 6 = .ok (.istore_n 3, 1) := by decide +kernel
theorem dX9_melt_7 : decode cX9_melt 7 = .ok (.iload_n 3, 1) := by decide +kernel
theorem dX9_melt_8 : decode cX9_melt 8 = .ok (.ifCond .eq 5, 3) := by decide +kernel
theorem dX9_melt_11 : decode cX9_melt 11 = .ok (.iload_n 3, 1) := by decide +kernel
theorem dX9_melt_12 : decode cX9_melt 12 = .ok (.ireturn, 1) := by decide +kernel
theorem dX9_melt_13 : decode cX9_melt 13 = .ok (.iload_n 2, 1) := by decide +kernel
theorem dX9_melt_14 : decode cX9_melt 14 = .ok (.iconst 1, 1) := by decide +kernel
theorem dX9_melt_15 : decode cX9_melt 15 = .ok (.if_icmp .lt 10, 3) := by decide +kernel
theorem dX9_melt_18 : decode cX9_melt 18 = .ok (.iload_n 2, 1) := by decide +kernel
theorem dX9_melt_19 : decode cX9_melt 19 = .ok (.sipush 5000, 3) := by decide +kernel
theorem dX9_melt_22 : decode cX9_melt 22 = .ok (.if_icmp .le 5, 3) := by decide +kernel
theorem dX9_melt_25 : decode cX9_melt 25 = .ok (.iconst (-1), 1) := by decide +kernel
theorem dX9_melt_26 : decode cX9_melt 26 = .ok (.ireturn, 1) := by decide +kernel
theorem dX9_melt_27 : decode cX9_melt 27 = .ok (.aload_n 0, 1) := by decide +kernel
theorem dX9_melt_28 : decode cX9_melt 28 = .ok (.getfield 10, 3) := by decide +kernel
theorem dX9_melt_31 : decode cX9_melt 31 = .ok (.getfield 57, 3) := by decide +kernel
theorem dX9_melt_34 : decode cX9_melt 34 = .ok (.iload_n 1, 1) := by decide +kernel
theorem dX9_melt_35 : decode cX9_melt 35 = .ok (.aaload, 1) := by decide +kernel
theorem dX9_melt_36 : decode cX9_melt 36 = .ok (.aload_n 0, 1) := by decide +kernel
theorem dX9_melt_37 : decode cX9_melt 37 = .ok (.getfield 10, 3) := by decide +kernel
theorem dX9_melt_40 : decode cX9_melt 40 = .ok (.getfield 67, 3) := by decide +kernel
theorem dX9_melt_43 : decode cX9_melt 43 = .ok (.iload_n 2, 1) := by decide +kernel
theorem dX9_melt_44 : decode cX9_melt 44 = .ok (.invokevirtual 114, 3) := by decide +kernel
theorem dX9_melt_47 : decode cX9_melt 47 = .ok (.istore 4, 2) := by decide +kernel
theorem dX9_melt_49 : decode cX9_melt 49 = .ok (.iload 4, 2) := by decide +kernel
theorem dX9_melt_51 : decode cX9_melt 51 = .ok (.iconst (-1), 1) := by decide +kernel
theorem dX9_melt_52 : decode cX9_melt 52 = .ok (.if_icmp .eq 16, 3) := by decide +kernel
theorem dX9_melt_55 : decode cX9_melt 55 = .ok (.aload_n 0, 1) := by decide +kernel
theorem dX9_melt_56 : decode cX9_melt 56 = .ok (.getfield 10, 3) := by decide +kernel
theorem dX9_melt_59 : decode cX9_melt 59 = .ok (.dup, 1) := by decide +kernel
theorem dX9_melt_60 : decode cX9_melt 60 = .ok (.getfield 74, 3) := by decide +kernel
theorem dX9_melt_63 : decode cX9_melt 63 = .ok (.iconst 1, 1) := by decide +kernel
theorem dX9_melt_64 : decode cX9_melt 64 = .ok (.iadd, 1) := by decide +kernel
theorem dX9_melt_65 : decode cX9_melt 65 = .ok (.putfield 74, 3) := by decide +kernel
theorem dX9_melt_68 : decode cX9_melt 68 = .ok (.iload 4, 2) := by decide +kernel
theorem dX9_melt_70 : decode cX9_melt 70 = .ok (.ireturn, 1) := by decide +kernel
theorem dX9_other_0 : decode cX9_other 0 = .ok (.aload_n 0, 1) := by decide +kernel
theorem dX9_other_1 : decode cX9_other 1 = .ok (.iload_n 1, 1) := by decide +kernel
theorem dX9_other_2 : decode cX9_other 2 = .ok (.iconst 4, 1) := by decide +kernel
theorem dX9_other_3 : decode cX9_other 3 = .ok (.invokevirtual 106, 3) := by decide +kernel
theorem dX9_other_6 : decode cX9_other 6 = .ok (.istore_n 3, 1) := by decide +kernel
theorem dX9_other_7 : decode cX9_other 7 = .ok (.iload_n 3, 1) := by decide +kernel
theorem dX9_other_8 : decode cX9_other 8 = .ok (.ifCond .eq 7, 3) := by decide +kernel
theorem dX9_other_11 : decode cX9_other 11 = .ok (.iload_n 3, 1) := by decide +kernel
theorem dX9_other_12 : decode cX9_other 12 = .ok (.goto 12, 3) := by decide +kernel
theorem dX9_other_15 : decode cX9_other 15 = .ok (.aload_n 0, 1) := by decide +kernel
theorem dX9_other_16 : decode cX9_other 16 = .ok (.iload_n 1, 1) := by decide +kernel
theorem dX9_other_17 : decode cX9_other 17 = .ok (.iload_n 2, 1) := by decide +kernel
theorem dX9_other_18 : decode cX9_other 18 = .ok (.sipush 250, 3) := by decide +kernel
theorem dX9_other_21 : decode cX9_other 21 = .ok (.invokevirtual 110, 3) := by decide +kernel
theorem dX9_other_24 : decode cX9_other 24 = .ok (.ireturn, 1) := by decide +kernel
theorem dX9_hand_0 : decode cX9_hand 0 = .ok (.aload_n 0, 1) := by decide +kernel
theorem dX9_hand_1 : decode cX9_hand 1 = .ok (.iload_n 1, 1) := by decide +kernel
theorem dX9_hand_2 : decode cX9_hand 2 = .ok (.invokevirtual 117, 3) := by decide +kernel
theorem dX9_hand_5 : decode cX9_hand 5 = .ok (.istore 4, 2) := by decide +kernel
theorem dX9_hand_7 : decode cX9_hand 7 = .ok (.iload 4, 2) := by decide +kernel
theorem dX9_hand_9 : decode cX9_hand 9 = .ok (.ifCond .eq 6, 3) := by decide +kernel
theorem dX9_hand_12 : decode cX9_hand 12 = .ok (.iload 4, 2) := by decide +kernel
theorem dX9_hand_14 : decode cX9_hand 14 = .ok (.ireturn, 1) := by decide +kernel
theorem dX9_hand_15 : decode cX9_hand 15 = .ok (.aload_n 0, 1) := by decide +kernel
theorem dX9_hand_16 : decode cX9_hand 16 = .ok (.getfield 10, 3) := by decide +kernel
theorem dX9_hand_19 : decode cX9_hand 19 = .ok (.getfield 57, 3) := by decide +kernel
theorem dX9_hand_22 : decode cX9_hand 22 = .ok (.iload_n 1, 1) := by decide +kernel
theorem dX9_hand_23 : decode cX9_hand 23 = .ok (.aaload, 1) := by decide +kernel
theorem dX9_hand_24 : decode cX9_hand 24 = .ok (.astore 5, 2) := by decide +kernel
theorem dX9_hand_26 : decode cX9_hand 26 = .ok (.iload_n 3, 1) := by decide +kernel
theorem dX9_hand_27 : decode cX9_hand 27 = .ok (.iconst (-1), 1) := by decide +kernel
theorem dX9_hand_28 : decode cX9_hand 28 = .ok (.if_icmp .lt 37, 3) := by decide +kernel
theorem dX9_hand_31 : decode cX9_hand 31 = .ok (.iload_n 3, 1) := by decide +kernel
theorem dX9_hand_32 : decode cX9_hand 32 = .ok (.sipush 5000, 3) := by decide +kernel
theorem dX9_hand_35 : decode cX9_hand 35 = .ok (.if_icmp .gt 30, 3) := by decide +kernel
theorem dX9_hand_38 : decode cX9_hand 38 = .ok (.iload_n 2, 1) := by decide +kernel
theorem dX9_hand_39 : decode cX9_hand 39 = .ok (.invokestatic 99, 3) := by decide +kernel
theorem dX9_hand_42 : decode cX9_hand 42 = .ok (.ifCond .eq 23, 3) := by decide +kernel
theorem dX9_hand_45 : decode cX9_hand 45 = .ok (.iload_n 2, 1) := by decide +kernel
theorem dX9_hand_46 : decode cX9_hand 46 = .ok (.aload 5, 2) := by decide +kernel
theorem dX9_hand_48 : decode cX9_hand 48 = .ok (.getfield 89, 3) := by decide +kernel
theorem dX9_hand_51 : decode cX9_hand 51 = .ok (.if_icmp .lt 14, 3) := by decide +kernel
theorem dX9_hand_54 : decode cX9_hand 54 = .ok (.iload_n 2, 1) := by decide +kernel
theorem dX9_hand_55 : decode cX9_hand 55 = .ok (.aload_n 0, 1) := by decide +kernel
theorem dX9_hand_56 : decode cX9_hand 56 = .ok (.getfield 10, 3) := by decide +kernel
theorem dX9_hand_59 : decode cX9_hand 59 = .ok (.getfield 67, 3) := by decide +kernel
theorem dX9_hand_62 : decode cX9_hand 62 = .ok (.if_icmp .le 5, 3) := by decide +kernel
theorem dX9_hand_65 : decode cX9_hand 65 = .ok (.iconst (-1), 1) := by decide +kernel
theorem dX9_hand_66 : decode cX9_hand 66 = .ok (.ireturn, 1) := by decide +kernel
theorem dX9_hand_67 : decode cX9_hand 67 = .ok (.aload_n 0, 1) := by decide +kernel
theorem dX9_hand_68 : decode cX9_hand 68 = .ok (.getfield 10, 3) := by decide +kernel
theorem dX9_hand_71 : decode cX9_hand 71 = .ok (.getfield 120, 3) := by decide +kernel
theorem dX9_hand_74 : decode cX9_hand 74 = .ok (.iload_n 3, 1) := by decide +kernel
theorem dX9_hand_75 : decode cX9_hand 75 = .ok (.aload_n 0, 1) := by decide +kernel
theorem dX9_hand_76 : decode cX9_hand 76 = .ok (.getfield 10, 3) := by decide +kernel
theorem dX9_hand_79 : decode cX9_hand 79 = .ok (.getfield 67, 3) := by decide +kernel
theorem dX9_hand_82 : decode cX9_hand 82 = .ok (.aload 5, 2) := by decide +kernel
theorem dX9_hand_84 : decode cX9_hand 84 = .ok (.getfield 124, 3) := by decide +kernel
theorem dX9_hand_87 : decode cX9_hand 87 = .ok (.iload_n 2, 1) := by decide +kernel
theorem dX9_hand_88 : decode cX9_hand 88 = .ok (.iaload, 1) := by decide +kernel
theorem dX9_hand_89 : decode cX9_hand 89 = .ok (.invokevirtual 127, 3) := by decide +kernel
theorem dX9_hand_92 : decode cX9_hand 92 = .ok (.istore 6, 2) := by decide +kernel
theorem dX9_hand_94 : decode cX9_hand 94 = .ok (.iload 6, 2) := by decide +kernel
theorem dX9_hand_96 : decode cX9_hand 96 = .ok (.iconst (-1), 1) := by decide +kernel
theorem dX9_hand_97 : decode cX9_hand 97 = .ok (.if_icmp .ne 5, 3) := by decide +kernel
theorem dX9_hand_100 : decode cX9_hand 100 = .ok (.iconst (-1), 1) := by decide +kernel
theorem dX9_hand_101 : decode cX9_hand 101 = .ok (.ireturn, 1) := by decide +kernel
theorem dX9_hand_102 : decode cX9_hand 102 = .ok (.aload 5, 2) := by decide +kernel
theorem dX9_hand_104 : decode cX9_hand 104 = .ok (.getfield 124, 3) := by decide +kernel
theorem dX9_hand_107 : decode cX9_hand 107 = .ok (.iload_n 2, 1) := by decide +kernel
theorem dX9_hand_108 : decode cX9_hand 108 = .ok (.iload 6, 2) := by decide +kernel
theorem dX9_hand_110 : decode cX9_hand 110 = .ok (.iastore, 1) := by decide +kernel
theorem dX9_hand_111 : decode cX9_hand 111 = .ok (.aload_n 0, 1) := by decide +kernel
theorem dX9_hand_112 : decode cX9_hand 112 = .ok (.getfield 10, 3) := by decide +kernel
theorem dX9_hand_115 : decode cX9_hand 115 = .ok (.dup, 1) := by decide +kernel
theorem dX9_hand_116 : decode cX9_hand 116 = .ok (.getfield 74, 3) := by decide +kernel
theorem dX9_hand_119 : decode cX9_hand 119 = .ok (.iconst 1, 1) := by decide +kernel
theorem dX9_hand_120 : decode cX9_hand 120 = .ok (.iadd, 1) := by decide +kernel
theorem dX9_hand_121 : decode cX9_hand 121 = .ok (.putfield 74, 3) := by decide +kernel
theorem dX9_hand_124 : decode cX9_hand 124 = .ok (.iload 6, 2) := by decide +kernel
theorem dX9_hand_126 : decode cX9_hand 126 = .ok (.iconst 1, 1) := by decide +kernel
theorem dX9_hand_127 : decode cX9_hand 127 = .ok (.iadd, 1) := by decide +kernel
theorem dX9_hand_128 : decode cX9_hand 128 = .ok (.ireturn, 1) := by decide +kernel
theorem dX9_close_0 : decode cX9_close 0 = .ok (.aload_n 0, 1) := by decide +kernel
theorem dX9_close_1 : decode cX9_close 1 = .ok (.getfield 10, 3) := by decide +kernel
theorem dX9_close_4 : decode cX9_close 4 = .ok (.getfield 67, 3) := by decide +kernel
theorem dX9_close_7 : decode cX9_close 7 = .ok (.bipush 56, 2) := by decide +kernel
theorem dX9_close_9 : decode cX9_close 9 = .ok (.if_icmp .lt 5, 3) := by decide +kernel
theorem dX9_close_12 : decode cX9_close 12 = .ok (.iconst (-1), 1) := by decide +kernel
theorem dX9_close_13 : decode cX9_close 13 = .ok (.ireturn, 1) := by decide +kernel
theorem dX9_close_14 : decode cX9_close 14 = .ok (.aload_n 0, 1) := by decide +kernel
theorem dX9_close_15 : decode cX9_close 15 = .ok (.getfield 10, 3) := by decide +kernel
theorem dX9_close_18 : decode cX9_close 18 = .ok (.dup, 1) := by decide +kernel
theorem dX9_close_19 : decode cX9_close 19 = .ok (.getfield 67, 3) := by decide +kernel
theorem dX9_close_22 : decode cX9_close 22 = .ok (.iconst 1, 1) := by decide +kernel
theorem dX9_close_23 : decode cX9_close 23 = .ok (.iadd, 1) := by decide +kernel
theorem dX9_close_24 : decode cX9_close 24 = .ok (.putfield 67, 3) := by decide +kernel
theorem dX9_close_27 : decode cX9_close 27 = .ok (.aload_n 0, 1) := by decide +kernel
theorem dX9_close_28 : decode cX9_close 28 = .ok (.getfield 10, 3) := by decide +kernel
theorem dX9_close_31 : decode cX9_close 31 = .ok (.getfield 67, 3) := by decide +kernel
theorem dX9_close_34 : decode cX9_close 34 = .ok (.ireturn, 1) := by decide +kernel
theorem dX9_today_0 : decode cX9_today 0 = .ok (.aload_n 0, 1) := by decide +kernel
theorem dX9_today_1 : decode cX9_today 1 = .ok (.getfield 10, 3) := by decide +kernel
theorem dX9_today_4 : decode cX9_today 4 = .ok (.getfield 67, 3) := by decide +kernel
theorem dX9_today_7 : decode cX9_today 7 = .ok (.ireturn, 1) := by decide +kernel
theorem dX9_set_0 : decode cX9_set 0 = .ok (.iload_n 1, 1) := by decide +kernel
theorem dX9_set_1 : decode cX9_set 1 = .ok (.ifCond .lt 27, 3) := by decide +kernel
theorem dX9_set_4 : decode cX9_set 4 = .ok (.iload_n 1, 1) := by decide +kernel
theorem dX9_set_5 : decode cX9_set 5 = .ok (.bipush 12, 2) := by decide +kernel
theorem dX9_set_7 : decode cX9_set 7 = .ok (.if_icmp .ge 21, 3) := by decide +kernel
theorem dX9_set_10 : decode cX9_set 10 = .ok (.iload_n 2, 1) := by decide +kernel
theorem dX9_set_11 : decode cX9_set 11 = .ok (.getstatic 132, 3) := by decide +kernel
theorem dX9_set_14 : decode cX9_set 14 = .ok (.iload_n 1, 1) := by decide +kernel
theorem dX9_set_15 : decode cX9_set 15 = .ok (.iaload, 1) := by decide +kernel
theorem dX9_set_16 : decode cX9_set 16 = .ok (.if_icmp .lt 12, 3) := by decide +kernel
theorem dX9_set_19 : decode cX9_set 19 = .ok (.iload_n 2, 1) := by decide +kernel
theorem dX9_set_20 : decode cX9_set 20 = .ok (.getstatic 135, 3) := by decide +kernel
theorem dX9_set_23 : decode cX9_set 23 = .ok (.iload_n 1, 1) := by decide +kernel
theorem dX9_set_24 : decode cX9_set 24 = .ok (.iaload, 1) := by decide +kernel
theorem dX9_set_25 : decode cX9_set 25 = .ok (.if_icmp .le 5, 3) := by decide +kernel
theorem dX9_set_28 : decode cX9_set 28 = .ok (.iconst 0, 1) := by decide +kernel
theorem dX9_set_29 : decode cX9_set 29 = .ok (.ireturn, 1) := by decide +kernel
theorem dX9_set_30 : decode cX9_set 30 = .ok (.aload_n 0, 1) := by decide +kernel
theorem dX9_set_31 : decode cX9_set 31 = .ok (.getfield 10, 3) := by decide +kernel
theorem dX9_set_34 : decode cX9_set 34 = .ok (.getfield 138, 3) := by decide +kernel
theorem dX9_set_37 : decode cX9_set 37 = .ok (.iload_n 1, 1) := by decide +kernel
theorem dX9_set_38 : decode cX9_set 38 = .ok (.iload_n 2, 1) := by decide +kernel
theorem dX9_set_39 : decode cX9_set 39 = .ok (.iastore, 1) := by decide +kernel
theorem dX9_set_40 : decode cX9_set 40 = .ok (.aload_n 0, 1) := by decide +kernel
theorem dX9_set_41 : decode cX9_set 41 = .ok (.getfield 10, 3) := by decide +kernel
theorem dX9_set_44 : decode cX9_set 44 = .ok (.dup, 1) := by decide +kernel
theorem dX9_set_45 : decode cX9_set 45 = .ok (.getfield 74, 3) := by decide +kernel
theorem dX9_set_48 : decode cX9_set 48 = .ok (.iconst 1, 1) := by decide +kernel
theorem dX9_set_49 : decode cX9_set 49 = .ok (.iadd, 1) := by decide +kernel
theorem dX9_set_50 : decode cX9_set 50 = .ok (.putfield 74, 3) := by decide +kernel
theorem dX9_set_53 : decode cX9_set 53 = .ok (.iconst 1, 1) := by decide +kernel
theorem dX9_set_54 : decode cX9_set 54 = .ok (.ireturn, 1) := by decide +kernel
theorem dX9_raw_0 : decode cX9_raw 0 = .ok (.aload_n 0, 1) := by decide +kernel
theorem dX9_raw_1 : decode cX9_raw 1 = .ok (.iload_n 1, 1) := by decide +kernel
theorem dX9_raw_2 : decode cX9_raw 2 = .ok (.iload_n 2, 1) := by decide +kernel
theorem dX9_raw_3 : decode cX9_raw 3 = .ok (.invokevirtual 141, 3) := by decide +kernel
theorem dX9_raw_6 : decode cX9_raw 6 = .ok (.istore_n 3, 1) := by decide +kernel
theorem dX9_raw_7 : decode cX9_raw 7 = .ok (.iload_n 3, 1) := by decide +kernel
theorem dX9_raw_8 : decode cX9_raw 8 = .ok (.ifCond .eq 7, 3) := by decide +kernel
theorem dX9_raw_11 : decode cX9_raw 11 = .ok (.iload_n 3, 1) := by decide +kernel
theorem dX9_raw_12 : decode cX9_raw 12 = .ok (.goto 14, 3) := by decide +kernel
theorem dX9_raw_15 : decode cX9_raw 15 = .ok (.aload_n 0, 1) := by decide +kernel
theorem dX9_raw_16 : decode cX9_raw 16 = .ok (.getfield 10, 3) := by decide +kernel
theorem dX9_raw_19 : decode cX9_raw 19 = .ok (.iload_n 1, 1) := by decide +kernel
theorem dX9_raw_20 : decode cX9_raw 20 = .ok (.iload_n 2, 1) := by decide +kernel
theorem dX9_raw_21 : decode cX9_raw 21 = .ok (.bipush 56, 2) := by decide +kernel
theorem dX9_raw_23 : decode cX9_raw 23 = .ok (.invokevirtual 144, 3) := by decide +kernel
theorem dX9_raw_26 : decode cX9_raw 26 = .ok (.ireturn, 1) := by decide +kernel
theorem dX9_known_0 : decode cX9_known 0 = .ok (.aload_n 0, 1) := by decide +kernel
theorem dX9_known_1 : decode cX9_known 1 = .ok (.iload_n 1, 1) := by decide +kernel
theorem dX9_known_2 : decode cX9_known 2 = .ok (.iload_n 2, 1) := by decide +kernel
theorem dX9_known_3 : decode cX9_known 3 = .ok (.invokevirtual 141, 3) := by decide +kernel
theorem dX9_known_6 : decode cX9_known 6 = .ok (.istore 4, 2) := by decide +kernel
theorem dX9_known_8 : decode cX9_known 8 = .ok (.iload 4, 2) := by decide +kernel
theorem dX9_known_10 : decode cX9_known 10 = .ok (.ifCond .eq 8, 3) := by decide +kernel
theorem dX9_known_13 : decode cX9_known 13 = .ok (.iload 4, 2) := by decide +kernel
theorem dX9_known_15 : decode cX9_known 15 = .ok (.goto 13, 3) := by decide +kernel
theorem dX9_known_18 : decode cX9_known 18 = .ok (.aload_n 0, 1) := by decide +kernel
theorem dX9_known_19 : decode cX9_known 19 = .ok (.getfield 10, 3) := by decide +kernel
theorem dX9_known_22 : decode cX9_known 22 = .ok (.iload_n 1, 1) := by decide +kernel
theorem dX9_known_23 : decode cX9_known 23 = .ok (.iload_n 2, 1) := by decide +kernel
theorem dX9_known_24 : decode cX9_known 24 = .ok (.iload_n 3, 1) := by decide +kernel
theorem dX9_known_25 : decode cX9_known 25 = .ok (.invokevirtual 144, 3) := by decide +kernel
theorem dX9_known_28 : decode cX9_known 28 = .ok (.ireturn, 1) := by decide +kernel
theorem dX9_why_0 : decode cX9_why 0 = .ok (.aload_n 0, 1) := by decide +kernel
theorem dX9_why_1 : decode cX9_why 1 = .ok (.iload_n 1, 1) := by decide +kernel
theorem dX9_why_2 : decode cX9_why 2 = .ok (.iload_n 2, 1) := by decide +kernel
theorem dX9_why_3 : decode cX9_why 3 = .ok (.invokevirtual 141, 3) := by decide +kernel
theorem dX9_why_6 : decode cX9_why 6 = .ok (.istore_n 3, 1) := by decide +kernel
theorem dX9_why_7 : decode cX9_why 7 = .ok (.iload_n 3, 1) := by decide +kernel
theorem dX9_why_8 : decode cX9_why 8 = .ok (.ifCond .eq 7, 3) := by decide +kernel
theorem dX9_why_11 : decode cX9_why 11 = .ok (.iload_n 3, 1) := by decide +kernel
theorem dX9_why_12 : decode cX9_why 12 = .ok (.goto 12, 3) := by decide +kernel
theorem dX9_why_15 : decode cX9_why 15 = .ok (.aload_n 0, 1) := by decide +kernel
theorem dX9_why_16 : decode cX9_why 16 = .ok (.invokevirtual 147, 3) := by decide +kernel
theorem dX9_why_19 : decode cX9_why 19 = .ok (.iload_n 1, 1) := by decide +kernel
theorem dX9_why_20 : decode cX9_why 20 = .ok (.iload_n 2, 1) := by decide +kernel
theorem dX9_why_21 : decode cX9_why 21 = .ok (.invokevirtual 151, 3) := by decide +kernel
theorem dX9_why_24 : decode cX9_why 24 = .ok (.ireturn, 1) := by decide +kernel
theorem dX9_state_0 : decode cX9_state 0 = .ok (.aload_n 0, 1) := by decide +kernel
theorem dX9_state_1 : decode cX9_state 1 = .ok (.iload_n 1, 1) := by decide +kernel
theorem dX9_state_2 : decode cX9_state 2 = .ok (.iload_n 2, 1) := by decide +kernel
theorem dX9_state_3 : decode cX9_state 3 = .ok (.invokevirtual 141, 3) := by decide +kernel
theorem dX9_state_6 : decode cX9_state 6 = .ok (.istore_n 3, 1) := by decide +kernel
theorem dX9_state_7 : decode cX9_state 7 = .ok (.iload_n 3, 1) := by decide +kernel
theorem dX9_state_8 : decode cX9_state 8 = .ok (.ifCond .eq 5, 3) := by decide +kernel
theorem dX9_state_11 : decode cX9_state 11 = .ok (.iload_n 3, 1) := by decide +kernel
theorem dX9_state_12 : decode cX9_state 12 = .ok (.ireturn, 1) := by decide +kernel
theorem dX9_state_13 : decode cX9_state 13 = .ok (.aload_n 0, 1) := by decide +kernel
theorem dX9_state_14 : decode cX9_state 14 = .ok (.invokevirtual 147, 3) := by decide +kernel
theorem dX9_state_17 : decode cX9_state 17 = .ok (.astore 4, 2) := by decide +kernel
theorem dX9_state_19 : decode cX9_state 19 = .ok (.aload 4, 2) := by decide +kernel
theorem dX9_state_21 : decode cX9_state 21 = .ok (.iload_n 1, 1) := by decide +kernel
theorem dX9_state_22 : decode cX9_state 22 = .ok (.iload_n 2, 1) := by decide +kernel
theorem dX9_state_23 : decode cX9_state 23 = .ok (.invokevirtual 154, 3) := by decide +kernel
theorem dX9_state_26 : decode cX9_state 26 = .ok (.iconst (-1), 1) := by decide +kernel
theorem dX9_state_27 : decode cX9_state 27 = .ok (.if_icmp .eq 25, 3) := by decide +kernel
theorem dX9_state_30 : decode cX9_state 30 = .ok (.aload_n 0, 1) := by decide +kernel
theorem dX9_state_31 : decode cX9_state 31 = .ok (.getfield 10, 3) := by decide +kernel
theorem dX9_state_34 : decode cX9_state 34 = .ok (.getfield 57, 3) := by decide +kernel
theorem dX9_state_37 : decode cX9_state 37 = .ok (.iload_n 1, 1) := by decide +kernel
theorem dX9_state_38 : decode cX9_state 38 = .ok (.aaload, 1) := by decide +kernel
theorem dX9_state_39 : decode cX9_state 39 = .ok (.getfield 61, 3) := by decide +kernel
theorem dX9_state_42 : decode cX9_state 42 = .ok (.iconst 3, 1) := by decide +kernel
theorem dX9_state_43 : decode cX9_state 43 = .ok (.if_icmp .ne 7, 3) := by decide +kernel
theorem dX9_state_46 : decode cX9_state 46 = .ok (.iconst 4, 1) := by decide +kernel
theorem dX9_state_47 : decode cX9_state 47 = .ok (.goto 4, 3) := by decide +kernel
theorem dX9_state_50 : decode cX9_state 50 = .ok (.iconst 1, 1) := by decide +kernel
theorem dX9_state_51 : decode cX9_state 51 = .ok (.ireturn, 1) := by decide +kernel
theorem dX9_state_52 : decode cX9_state 52 = .ok (.aload_n 0, 1) := by decide +kernel
theorem dX9_state_53 : decode cX9_state 53 = .ok (.getfield 28, 3) := by decide +kernel
theorem dX9_state_56 : decode cX9_state 56 = .ok (.aload 4, 2) := by decide +kernel
theorem dX9_state_58 : decode cX9_state 58 = .ok (.iload_n 1, 1) := by decide +kernel
theorem dX9_state_59 : decode cX9_state 59 = .ok (.iload_n 2, 1) := by decide +kernel
theorem dX9_state_60 : decode cX9_state 60 = .ok (.invokevirtual 157, 3) := by decide +kernel
theorem dX9_state_63 : decode cX9_state 63 = .ok (.ifCond .le 5, 3) := by decide +kernel
theorem dX9_state_66 : decode cX9_state 66 = .ok (.iconst 3, 1) := by decide +kernel
theorem dX9_state_67 : decode cX9_state 67 = .ok (.ireturn, 1) := by decide +kernel
theorem dX9_state_68 : decode cX9_state 68 = .ok (.aload 4, 2) := by decide +kernel
theorem dX9_state_70 : decode cX9_state 70 = .ok (.iload_n 1, 1) := by decide +kernel
theorem dX9_state_71 : decode cX9_state 71 = .ok (.iload_n 2, 1) := by decide +kernel
theorem dX9_state_72 : decode cX9_state 72 = .ok (.invokevirtual 151, 3) := by decide +kernel
theorem dX9_state_75 : decode cX9_state 75 = .ok (.ifCond .ne 7, 3) := by decide +kernel
theorem dX9_state_78 : decode cX9_state 78 = .ok (.iconst 0, 1) := by decide +kernel
theorem dX9_state_79 : decode cX9_state 79 = .ok (.goto 4, 3) := by decide +kernel
theorem dX9_state_82 : decode cX9_state 82 = .ok (.iconst 2, 1) := by decide +kernel
theorem dX9_state_83 : decode cX9_state 83 = .ok (.ireturn, 1) := by decide +kernel
theorem dX9_number_0 : decode cX9_number 0 = .ok (.aload_n 0, 1) := by decide +kernel
theorem dX9_number_1 : decode cX9_number 1 = .ok (.iload_n 1, 1) := by decide +kernel
theorem dX9_number_2 : decode cX9_number 2 = .ok (.iload_n 2, 1) := by decide +kernel
theorem dX9_number_3 : decode cX9_number 3 = .ok (.invokevirtual 141, 3) := by decide +kernel
theorem dX9_number_6 : decode cX9_number 6 = .ok (.istore_n 3, 1) := by decide +kernel
theorem dX9_number_7 : decode cX9_number 7 = .ok (.iload_n 3, 1) := by decide +kernel
theorem dX9_number_8 : decode cX9_number 8 = .ok (.ifCond .eq 5, 3) := by decide +kernel
theorem dX9_number_11 : decode cX9_number 11 = .ok (.iload_n 3, 1) := by decide +kernel
theorem dX9_number_12 : decode cX9_number 12 = .ok (.ireturn, 1) := by decide +kernel
theorem dX9_number_13 : decode cX9_number 13 = .ok (.aload_n 0, 1) := by decide +kernel
theorem dX9_number_14 : decode cX9_number 14 = .ok (.invokevirtual 147, 3) := by decide +kernel
theorem dX9_number_17 : decode cX9_number 17 = .ok (.astore 4, 2) := by decide +kernel
theorem dX9_number_19 : decode cX9_number 19 = .ok (.aload 4, 2) := by decide +kernel
theorem dX9_number_21 : decode cX9_number 21 = .ok (.iload_n 1, 1) := by decide +kernel
theorem dX9_number_22 : decode cX9_number 22 = .ok (.iload_n 2, 1) := by decide +kernel
theorem dX9_number_23 : decode cX9_number 23 = .ok (.invokevirtual 154, 3) := by decide +kernel
theorem dX9_number_26 : decode cX9_number 26 = .ok (.istore 5, 2) := by decide +kernel
theorem dX9_number_28 : decode cX9_number 28 = .ok (.iload 5, 2) := by decide +kernel
theorem dX9_number_30 : decode cX9_number 30 = .ok (.iconst (-1), 1) := by decide +kernel
theorem dX9_number_31 : decode cX9_number 31 = .ok (.if_icmp .eq 6, 3) := by decide +kernel
theorem dX9_number_34 : decode cX9_number 34 = .ok (.iload 5, 2) := by decide +kernel
theorem dX9_number_36 : decode cX9_number 36 = .ok (.ireturn, 1) := by decide +kernel
theorem dX9_number_37 : decode cX9_number 37 = .ok (.aload_n 0, 1) := by decide +kernel
theorem dX9_number_38 : decode cX9_number 38 = .ok (.getfield 28, 3) := by decide +kernel
theorem dX9_number_41 : decode cX9_number 41 = .ok (.aload 4, 2) := by decide +kernel
theorem dX9_number_43 : decode cX9_number 43 = .ok (.iload_n 1, 1) := by decide +kernel
theorem dX9_number_44 : decode cX9_number 44 = .ok (.iload_n 2, 1) := by decide +kernel
theorem dX9_number_45 : decode cX9_number 45 = .ok (.invokevirtual 161, 3) := by decide +kernel
theorem dX9_number_48 : decode cX9_number 48 = .ok (.istore 6, 2) := by decide +kernel
theorem dX9_number_50 : decode cX9_number 50 = .ok (.iload 6, 2) := by decide +kernel
theorem dX9_number_52 : decode cX9_number 52 = .ok (.iconst (-1), 1) := by decide +kernel
theorem dX9_number_53 : decode cX9_number 53 = .ok (.if_icmp .eq 8, 3) := by decide +kernel
theorem dX9_number_56 : decode cX9_number 56 = .ok (.iload 6, 2) := by decide +kernel
theorem dX9_number_58 : decode cX9_number 58 = .ok (.goto 14, 3) := by decide +kernel
theorem dX9_number_61 : decode cX9_number 61 = .ok (.aload_n 0, 1) := by decide +kernel
theorem dX9_number_62 : decode cX9_number 62 = .ok (.getfield 10, 3) := by decide +kernel
theorem dX9_number_65 : decode cX9_number 65 = .ok (.iload_n 1, 1) := by decide +kernel
theorem dX9_number_66 : decode cX9_number 66 = .ok (.iload_n 2, 1) := by decide +kernel
theorem dX9_number_67 : decode cX9_number 67 = .ok (.bipush 56, 2) := by decide +kernel
theorem dX9_number_69 : decode cX9_number 69 = .ok (.invokevirtual 144, 3) := by decide +kernel
theorem dX9_number_72 : decode cX9_number 72 = .ok (.ireturn, 1) := by decide +kernel
theorem dX9_from_0 : decode cX9_from 0 = .ok (.aload_n 0, 1) := by decide +kernel
theorem dX9_from_1 : decode cX9_from 1 = .ok (.iload_n 1, 1) := by decide +kernel
theorem dX9_from_2 : decode cX9_from 2 = .ok (.invokevirtual 117, 3) := by decide +kernel
theorem dX9_from_5 : decode cX9_from 5 = .ok (.istore 4, 2) := by decide +kernel
theorem dX9_from_7 : decode cX9_from 7 = .ok (.iload 4, 2) := by decide +kernel
theorem dX9_from_9 : decode cX9_from 9 = .ok (.ifCond .eq 6, 3) := by decide +kernel
theorem dX9_from_12 : decode cX9_from 12 = .ok (.iload 4, 2) := by decide +kernel
theorem dX9_from_14 : decode cX9_from 14 = .ok (.ireturn, 1) := by decide +kernel
theorem dX9_from_15 : decode cX9_from 15 = .ok (.aload_n 0, 1) := by decide +kernel
theorem dX9_from_16 : decode cX9_from 16 = .ok (.getfield 28, 3) := by decide +kernel
theorem dX9_from_19 : decode cX9_from 19 = .ok (.aload_n 0, 1) := by decide +kernel
theorem dX9_from_20 : decode cX9_from 20 = .ok (.invokevirtual 147, 3) := by decide +kernel
theorem dX9_from_23 : decode cX9_from 23 = .ok (.iload_n 1, 1) := by decide +kernel
theorem dX9_from_24 : decode cX9_from 24 = .ok (.iload_n 2, 1) := by decide +kernel
theorem dX9_from_25 : decode cX9_from 25 = .ok (.invokevirtual 157, 3) := by decide +kernel
theorem dX9_from_28 : decode cX9_from 28 = .ok (.pop, 1) := by decide +kernel
theorem dX9_from_29 : decode cX9_from 29 = .ok (.aload_n 0, 1) := by decide +kernel
theorem dX9_from_30 : decode cX9_from 30 = .ok (.getfield 28, 3) := by decide +kernel
theorem dX9_from_33 : decode cX9_from 33 = .ok (.getfield 164, 3) := by decide +kernel
theorem dX9_from_36 : decode cX9_from 36 = .ok (.iload_n 3, 1) := by decide +kernel
theorem dX9_from_37 : decode cX9_from 37 = .ok (.invokevirtual 168, 3) := by decide +kernel
theorem dX9_from_40 : decode cX9_from 40 = .ok (.ireturn, 1) := by decide +kernel
theorem dX9_part_0 : decode cX9_part 0 = .ok (.iload_n 1, 1) := by decide +kernel
theorem dX9_part_1 : decode cX9_part 1 = .ok (.iload_n 2, 1) := by decide +kernel
theorem dX9_part_2 : decode cX9_part 2 = .ok (.invokestatic 50, 3) := by decide +kernel
theorem dX9_part_5 : decode cX9_part 5 = .ok (.ifCond .eq 20, 3) := by decide +kernel
theorem dX9_part_8 : decode cX9_part 8 = .ok (.aload_n 0, 1) := by decide +kernel
theorem dX9_part_9 : decode cX9_part 9 = .ok (.getfield 35, 3) := by decide +kernel
theorem dX9_part_12 : decode cX9_part 12 = .ok (.aload_n 0, 1) := by decide +kernel
theorem dX9_part_13 : decode cX9_part 13 = .ok (.invokevirtual 147, 3) := by decide +kernel
theorem dX9_part_16 : decode cX9_part 16 = .ok (.iload_n 1, 1) := by decide +kernel
theorem dX9_part_17 : decode cX9_part 17 = .ok (.iload_n 2, 1) := by decide +kernel
theorem dX9_part_18 : decode cX9_part 18 = .ok (.iload_n 3, 1) := by decide +kernel
theorem dX9_part_19 : decode cX9_part 19 = .ok (.invokevirtual 173, 3) := by decide +kernel
theorem dX9_part_22 : decode cX9_part 22 = .ok (.goto 4, 3) := by decide +kernel
theorem dX9_part_25 : decode cX9_part 25 = .ok (.iconst (-1), 1) := by decide +kernel
theorem dX9_part_26 : decode cX9_part 26 = .ok (.ireturn, 1) := by decide +kernel
theorem dX9_squares_0 : decode cX9_squares 0 = .ok (.aload_n 0, 1) := by decide +kernel
theorem dX9_squares_1 : decode cX9_squares 1 = .ok (.iload_n 1, 1) := by decide +kernel
theorem dX9_squares_2 : decode cX9_squares 2 = .ok (.iload_n 2, 1) := by decide +kernel
theorem dX9_squares_3 : decode cX9_squares 3 = .ok (.invokevirtual 141, 3) := by decide +kernel
theorem dX9_squares_6 : decode cX9_squares 6 = .ok (.istore_n 3, 1) := by decide +kernel
theorem dX9_squares_7 : decode cX9_squares 7 = .ok (.iload_n 3, 1) := by decide +kernel
theorem dX9_squares_8 : decode cX9_squares 8 = .ok (.ifCond .eq 7, 3) := by decide +kernel
theorem dX9_squares_11 : decode cX9_squares 11 = .ok (.iload_n 3, 1) := by decide +kernel
theorem dX9_squares_12 : decode cX9_squares 12 = .ok (.goto 16, 3) := by decide +kernel
theorem dX9_squares_15 : decode cX9_squares 15 = .ok (.aload_n 0, 1) := by decide +kernel
theorem dX9_squares_16 : decode cX9_squares 16 = .ok (.getfield 35, 3) := by decide +kernel
theorem dX9_squares_19 : decode cX9_squares 19 = .ok (.aload_n 0, 1) := by decide +kernel
theorem dX9_squares_20 : decode cX9_squares 20 = .ok (.invokevirtual 147, 3) := by decide +kernel
theorem dX9_squares_23 : decode cX9_squares 23 = .ok (.iload_n 1, 1) := by decide +kernel
theorem dX9_squares_24 : decode cX9_squares 24 = .ok (.iload_n 2, 1) := by decide +kernel
theorem dX9_squares_25 : decode cX9_squares 25 = .ok (.invokevirtual 177, 3) := by decide +kernel
theorem dX9_squares_28 : decode cX9_squares 28 = .ok (.ireturn, 1) := by decide +kernel
theorem dX9_valley_0 : decode cX9_valley 0 = .ok (.iload_n 1, 1) := by decide +kernel
theorem dX9_valley_1 : decode cX9_valley 1 = .ok (.invokestatic 180, 3) := by decide +kernel
theorem dX9_valley_4 : decode cX9_valley 4 = .ok (.ifCond .eq 11, 3) := by decide +kernel
theorem dX9_valley_7 : decode cX9_valley 7 = .ok (.iload_n 2, 1) := by decide +kernel
theorem dX9_valley_8 : decode cX9_valley 8 = .ok (.iload_n 3, 1) := by decide +kernel
theorem dX9_valley_9 : decode cX9_valley 9 = .ok (.invokestatic 50, 3) := by decide +kernel
theorem dX9_valley_12 : decode cX9_valley 12 = .ok (.ifCond .ne 5, 3) := by decide +kernel
theorem dX9_valley_15 : decode cX9_valley 15 = .ok (.iconst (-1), 1) := by decide +kernel
theorem dX9_valley_16 : decode cX9_valley 16 = .ok (.ireturn, 1) := by decide +kernel
theorem dX9_valley_17 : decode cX9_valley 17 = .ok (.aload_n 0, 1) := by decide +kernel
theorem dX9_valley_18 : decode cX9_valley 18 = .ok (.getfield 35, 3) := by decide +kernel
theorem dX9_valley_21 : decode cX9_valley 21 = .ok (.getfield 183, 3) := by decide +kernel
theorem dX9_valley_24 : decode cX9_valley 24 = .ok (.iload_n 1, 1) := by decide +kernel
theorem dX9_valley_25 : decode cX9_valley 25 = .ok (.aaload, 1) := by decide +kernel
theorem dX9_valley_26 : decode cX9_valley 26 = .ok (.iload_n 2, 1) := by decide +kernel
theorem dX9_valley_27 : decode cX9_valley 27 = .ok (.iload_n 3, 1) := by decide +kernel
theorem dX9_valley_28 : decode cX9_valley 28 = .ok (.bipush 10, 2) := by decide +kernel
theorem dX9_valley_30 : decode cX9_valley 30 = .ok (.imul, 1) := by decide +kernel
theorem dX9_valley_31 : decode cX9_valley 31 = .ok (.iadd, 1) := by decide +kernel
theorem dX9_valley_32 : decode cX9_valley 32 = .ok (.iload 4, 2) := by decide +kernel
theorem dX9_valley_34 : decode cX9_valley 34 = .ok (.invokevirtual 187, 3) := by decide +kernel
theorem dX9_valley_37 : decode cX9_valley 37 = .ok (.ireturn, 1) := by decide +kernel
theorem dX9_rain_0 : decode cX9_rain 0 = .ok (.iload_n 1, 1) := by decide +kernel
theorem dX9_rain_1 : decode cX9_rain 1 = .ok (.invokestatic 180, 3) := by decide +kernel
theorem dX9_rain_4 : decode cX9_rain 4 = .ok (.ifCond .eq 27, 3) := by decide +kernel
theorem dX9_rain_7 : decode cX9_rain 7 = .ok (.aload_n 0, 1) := by decide +kernel
theorem dX9_rain_8 : decode cX9_rain 8 = .ok (.getfield 35, 3) := by decide +kernel
theorem dX9_rain_11 : decode cX9_rain 11 = .ok (.aload_n 0, 1) := by decide +kernel
theorem dX9_rain_12 : decode cX9_rain 12 = .ok (.invokevirtual 147, 3) := by decide +kernel
theorem dX9_rain_15 : decode cX9_rain 15 = .ok (.aload_n 0, 1) := by decide +kernel
theorem dX9_rain_16 : decode cX9_rain 16 = .ok (.getfield 35, 3) := by decide +kernel
theorem dX9_rain_19 : decode cX9_rain 19 = .ok (.getfield 183, 3) := by decide +kernel
theorem dX9_rain_22 : decode cX9_rain 22 = .ok (.iload_n 1, 1) := by decide +kernel
theorem dX9_rain_23 : decode cX9_rain 23 = .ok (.aaload, 1) := by decide +kernel
theorem dX9_rain_24 : decode cX9_rain 24 = .ok (.iload_n 2, 1) := by decide +kernel
theorem dX9_rain_25 : decode cX9_rain 25 = .ok (.invokevirtual 193, 3) := by decide +kernel
theorem dX9_rain_28 : decode cX9_rain 28 = .ok (.goto 4, 3) := by decide +kernel
theorem dX9_rain_31 : decode cX9_rain 31 = .ok (.iconst (-1), 1) := by decide +kernel
theorem dX9_rain_32 : decode cX9_rain 32 = .ok (.ireturn, 1) := by decide +kernel
theorem dX9_mean_0 : decode cX9_mean 0 = .ok (.iload_n 1, 1) := by decide +kernel
theorem dX9_mean_1 : decode cX9_mean 1 = .ok (.invokestatic 180, 3) := by decide +kernel
theorem dX9_mean_4 : decode cX9_mean 4 = .ok (.ifCond .ne 5, 3) := by decide +kernel
theorem dX9_mean_7 : decode cX9_mean 7 = .ok (.iconst (-1), 1) := by decide +kernel
theorem dX9_mean_8 : decode cX9_mean 8 = .ok (.ireturn, 1) := by decide +kernel
theorem dX9_mean_9 : decode cX9_mean 9 = .ok (.aload_n 0, 1) := by decide +kernel
theorem dX9_mean_10 : decode cX9_mean 10 = .ok (.getfield 35, 3) := by decide +kernel
theorem dX9_mean_13 : decode cX9_mean 13 = .ok (.getfield 183, 3) := by decide +kernel
theorem dX9_mean_16 : decode cX9_mean 16 = .ok (.iload_n 1, 1) := by decide +kernel
theorem dX9_mean_17 : decode cX9_mean 17 = .ok (.aaload, 1) := by decide +kernel
theorem dX9_mean_18 : decode cX9_mean 18 = .ok (.astore_n 3, 1) := by decide +kernel
theorem dX9_mean_19 : decode cX9_mean 19 = .ok (.aload_n 0, 1) := by decide +kernel
theorem dX9_mean_20 : decode cX9_mean 20 = .ok (.getfield 35, 3) := by decide +kernel
theorem dX9_mean_23 : decode cX9_mean 23 = .ok (.aload_n 0, 1) := by decide +kernel
theorem dX9_mean_24 : decode cX9_mean 24 = .ok (.invokevirtual 147, 3) := by decide +kernel
theorem dX9_mean_27 : decode cX9_mean 27 = .ok (.aload_n 3, 1) := by decide +kernel
theorem dX9_mean_28 : decode cX9_mean 28 = .ok (.iload_n 2, 1) := by decide +kernel
theorem dX9_mean_29 : decode cX9_mean 29 = .ok (.invokevirtual 193, 3) := by decide +kernel
theorem dX9_mean_32 : decode cX9_mean 32 = .ok (.istore 4, 2) := by decide +kernel
theorem dX9_mean_34 : decode cX9_mean 34 = .ok (.iload 4, 2) := by decide +kernel
theorem dX9_mean_36 : decode cX9_mean 36 = .ok (.iconst (-1), 1) := by decide +kernel
theorem dX9_mean_37 : decode cX9_mean 37 = .ok (.if_icmp .eq 11, 3) := by decide +kernel
theorem dX9_mean_40 : decode cX9_mean 40 = .ok (.aload_n 3, 1) := by decide +kernel
theorem dX9_mean_41 : decode cX9_mean 41 = .ok (.getfield 197, 3) := by decide +kernel
theorem dX9_mean_44 : decode cX9_mean 44 = .ok (.iconst 1, 1) := by decide +kernel
theorem dX9_mean_45 : decode cX9_mean 45 = .ok (.if_icmp .ge 7, 3) := by decide +kernel
theorem dX9_mean_48 : decode cX9_mean 48 = .ok (.iconst (-1), 1) := by decide +kernel
theorem dX9_mean_49 : decode cX9_mean 49 = .ok (.goto 14, 3) := by decide +kernel
theorem dX9_mean_52 : decode cX9_mean 52 = .ok (.iload 4, 2) := by decide +kernel
theorem dX9_mean_54 : decode cX9_mean 54 = .ok (.sipush 1000, 3) := by decide +kernel
theorem dX9_mean_57 : decode cX9_mean 57 = .ok (.imul, 1) := by decide +kernel
theorem dX9_mean_58 : decode cX9_mean 58 = .ok (.aload_n 3, 1) := by decide +kernel
theorem dX9_mean_59 : decode cX9_mean 59 = .ok (.getfield 197, 3) := by decide +kernel
theorem dX9_mean_62 : decode cX9_mean 62 = .ok (.idiv, 1) := by decide +kernel
theorem dX9_mean_63 : decode cX9_mean 63 = .ok (.ireturn, 1) := by decide +kernel
theorem dX9_flow_0 : decode cX9_flow 0 = .ok (.iload_n 1, 1) := by decide +kernel
theorem dX9_flow_1 : decode cX9_flow 1 = .ok (.invokestatic 180, 3) := by decide +kernel
theorem dX9_flow_4 : decode cX9_flow 4 = .ok (.ifCond .eq 13, 3) := by decide +kernel
theorem dX9_flow_7 : decode cX9_flow 7 = .ok (.iload_n 2, 1) := by decide +kernel
theorem dX9_flow_8 : decode cX9_flow 8 = .ok (.ifCond .lt 9, 3) := by decide +kernel
theorem dX9_flow_11 : decode cX9_flow 11 = .ok (.iload_n 2, 1) := by decide +kernel
theorem dX9_flow_12 : decode cX9_flow 12 = .ok (.bipush 64, 2) := by decide +kernel
theorem dX9_flow_14 : decode cX9_flow 14 = .ok (.if_icmp .lt 7, 3) := by decide +kernel
theorem dX9_flow_17 : decode cX9_flow 17 = .ok (.ldc2_w 200, 3) := by decide +kernel
theorem dX9_flow_20 : decode cX9_flow 20 = .ok (.lreturn, 1) := by decide +kernel
theorem dX9_flow_21 : decode cX9_flow 21 = .ok (.aload_n 0, 1) := by decide +kernel
theorem dX9_flow_22 : decode cX9_flow 22 = .ok (.getfield 35, 3) := by decide +kernel
theorem dX9_flow_25 : decode cX9_flow 25 = .ok (.aload_n 0, 1) := by decide +kernel
theorem dX9_flow_26 : decode cX9_flow 26 = .ok (.invokevirtual 147, 3) := by decide +kernel
theorem dX9_flow_29 : decode cX9_flow 29 = .ok (.aload_n 0, 1) := by decide +kernel
theorem dX9_flow_30 : decode cX9_flow 30 = .ok (.getfield 35, 3) := by decide +kernel
theorem dX9_flow_33 : decode cX9_flow 33 = .ok (.getfield 183, 3) := by decide +kernel
theorem dX9_flow_36 : decode cX9_flow 36 = .ok (.iload_n 1, 1) := by decide +kernel
theorem dX9_flow_37 : decode cX9_flow 37 = .ok (.aaload, 1) := by decide +kernel
theorem dX9_flow_38 : decode cX9_flow 38 = .ok (.iload_n 2, 1) := by decide +kernel
theorem dX9_flow_39 : decode cX9_flow 39 = .ok (.invokevirtual 202, 3) := by decide +kernel
theorem dX9_flow_42 : decode cX9_flow 42 = .ok (.lreturn, 1) := by decide +kernel
theorem dX9_ahead_0 : decode cX9_ahead 0 = .ok (.iload_n 1, 1) := by decide +kernel
theorem dX9_ahead_1 : decode cX9_ahead 1 = .ok (.invokestatic 180, 3) := by decide +kernel
theorem dX9_ahead_4 : decode cX9_ahead 4 = .ok (.ifCond .ne 5, 3) := by decide +kernel
theorem dX9_ahead_7 : decode cX9_ahead 7 = .ok (.iconst (-1), 1) := by decide +kernel
theorem dX9_ahead_8 : decode cX9_ahead 8 = .ok (.ireturn, 1) := by decide +kernel
theorem dX9_ahead_9 : decode cX9_ahead 9 = .ok (.aload_n 0, 1) := by decide +kernel
theorem dX9_ahead_10 : decode cX9_ahead 10 = .ok (.invokevirtual 147, 3) := by decide +kernel
theorem dX9_ahead_13 : decode cX9_ahead 13 = .ok (.astore 4, 2) := by decide +kernel
theorem dX9_ahead_15 : decode cX9_ahead 15 = .ok (.aload_n 0, 1) := by decide +kernel
theorem dX9_ahead_16 : decode cX9_ahead 16 = .ok (.getfield 10, 3) := by decide +kernel
theorem dX9_ahead_19 : decode cX9_ahead 19 = .ok (.getfield 67, 3) := by decide +kernel
theorem dX9_ahead_22 : decode cX9_ahead 22 = .ok (.istore 5, 2) := by decide +kernel
theorem dX9_ahead_24 : decode cX9_ahead 24 = .ok (.iload 5, 2) := by decide +kernel
theorem dX9_ahead_26 : decode cX9_ahead 26 = .ok (.bipush 64, 2) := by decide +kernel
theorem dX9_ahead_28 : decode cX9_ahead 28 = .ok (.if_icmp .ge 37, 3) := by decide +kernel
theorem dX9_ahead_31 : decode cX9_ahead 31 = .ok (.aload_n 0, 1) := by decide +kernel
theorem dX9_ahead_32 : decode cX9_ahead 32 = .ok (.getfield 35, 3) := by decide +kernel
theorem dX9_ahead_35 : decode cX9_ahead 35 = .ok (.aload 4, 2) := by decide +kernel
theorem dX9_ahead_37 : decode cX9_ahead 37 = .ok (.aload_n 0, 1) := by decide +kernel
theorem dX9_ahead_38 : decode cX9_ahead 38 = .ok (.getfield 35, 3) := by decide +kernel
theorem dX9_ahead_41 : decode cX9_ahead 41 = .ok (.getfield 183, 3) := by decide +kernel
theorem dX9_ahead_44 : decode cX9_ahead 44 = .ok (.iload_n 1, 1) := by decide +kernel
theorem dX9_ahead_45 : decode cX9_ahead 45 = .ok (.aaload, 1) := by decide +kernel
theorem dX9_ahead_46 : decode cX9_ahead 46 = .ok (.iload 5, 2) := by decide +kernel
theorem dX9_ahead_48 : decode cX9_ahead 48 = .ok (.invokevirtual 202, 3) := by decide +kernel
theorem dX9_ahead_51 : decode cX9_ahead 51 = .ok (.lload_n 2, 1) := by decide +kernel
theorem dX9_ahead_52 : decode cX9_ahead 52 = .ok (.lcmp, 1) := by decide +kernel
theorem dX9_ahead_53 : decode cX9_ahead 53 = .ok (.ifCond .le 6, 3) := by decide +kernel
theorem dX9_ahead_56 : decode cX9_ahead 56 = .ok (.iload 5, 2) := by decide +kernel
theorem dX9_ahead_58 : decode cX9_ahead 58 = .ok (.ireturn, 1) := by decide +kernel
theorem dX9_ahead_59 : decode cX9_ahead 59 = .ok (.iinc 5 1, 3) := by decide +kernel
theorem dX9_ahead_62 : decode cX9_ahead 62 = .ok (.goto (-38), 3) := by decide +kernel
theorem dX9_ahead_65 : decode cX9_ahead 65 = .ok (.iconst (-1), 1) := by decide +kernel
theorem dX9_ahead_66 : decode cX9_ahead 66 = .ok (.ireturn, 1) := by decide +kernel
theorem dX9_week_0 : decode cX9_week 0 = .ok (.aload_n 0, 1) := by decide +kernel
theorem dX9_week_1 : decode cX9_week 1 = .ok (.iload_n 1, 1) := by decide +kernel
theorem dX9_week_2 : decode cX9_week 2 = .ok (.invokevirtual 117, 3) := by decide +kernel
theorem dX9_week_5 : decode cX9_week 5 = .ok (.istore 4, 2) := by decide +kernel
theorem dX9_week_7 : decode cX9_week 7 = .ok (.iload 4, 2) := by decide +kernel
theorem dX9_week_9 : decode cX9_week 9 = .ok (.ifCond .eq 6, 3) := by decide +kernel
theorem dX9_week_12 : decode cX9_week 12 = .ok (.iload 4, 2) := by decide +kernel
theorem dX9_week_14 : decode cX9_week 14 = .ok (.ireturn, 1) := by decide +kernel
theorem dX9_week_15 : decode cX9_week 15 = .ok (.iload_n 2, 1) := by decide +kernel
theorem dX9_week_16 : decode cX9_week 16 = .ok (.ifCond .lt 18, 3) := by decide +kernel
theorem dX9_week_19 : decode cX9_week 19 = .ok (.iload_n 2, 1) := by decide +kernel
theorem dX9_week_20 : decode cX9_week 20 = .ok (.bipush 8, 2) := by decide +kernel
theorem dX9_week_22 : decode cX9_week 22 = .ok (.if_icmp .ge 12, 3) := by decide +kernel
theorem dX9_week_25 : decode cX9_week 25 = .ok (.iload_n 3, 1) := by decide +kernel
theorem dX9_week_26 : decode cX9_week 26 = .ok (.ifCond .lt 8, 3) := by decide +kernel
theorem dX9_week_29 : decode cX9_week 29 = .ok (.iload_n 3, 1) := by decide +kernel
theorem dX9_week_30 : decode cX9_week 30 = .ok (.iconst 1, 1) := by decide +kernel
theorem dX9_week_31 : decode cX9_week 31 = .ok (.if_icmp .le 5, 3) := by decide +kernel
theorem dX9_week_34 : decode cX9_week 34 = .ok (.iconst (-1), 1) := by decide +kernel
theorem dX9_week_35 : decode cX9_week 35 = .ok (.ireturn, 1) := by decide +kernel
theorem dX9_week_36 : decode cX9_week 36 = .ok (.aload_n 0, 1) := by decide +kernel
theorem dX9_week_37 : decode cX9_week 37 = .ok (.getfield 42, 3) := by decide +kernel
theorem dX9_week_40 : decode cX9_week 40 = .ok (.aload_n 0, 1) := by decide +kernel
theorem dX9_week_41 : decode cX9_week 41 = .ok (.invokevirtual 147, 3) := by decide +kernel
theorem dX9_week_44 : decode cX9_week 44 = .ok (.iload_n 1, 1) := by decide +kernel
theorem dX9_week_45 : decode cX9_week 45 = .ok (.invokevirtual 206, 3) := by decide +kernel
theorem dX9_week_48 : decode cX9_week 48 = .ok (.iload_n 3, 1) := by decide +kernel
theorem dX9_week_49 : decode cX9_week 49 = .ok (.ifCond .ne 15, 3) := by decide +kernel
theorem dX9_week_52 : decode cX9_week 52 = .ok (.aload_n 0, 1) := by decide +kernel
theorem dX9_week_53 : decode cX9_week 53 = .ok (.getfield 42, 3) := by decide +kernel
theorem dX9_week_56 : decode cX9_week 56 = .ok (.getfield 210, 3) := by decide +kernel
theorem dX9_week_59 : decode cX9_week 59 = .ok (.iload_n 2, 1) := by decide +kernel
theorem dX9_week_60 : decode cX9_week 60 = .ok (.iaload, 1) := by decide +kernel
theorem dX9_week_61 : decode cX9_week 61 = .ok (.goto 12, 3) := by decide +kernel
theorem dX9_week_64 : decode cX9_week 64 = .ok (.aload_n 0, 1) := by decide +kernel
theorem dX9_week_65 : decode cX9_week 65 = .ok (.getfield 42, 3) := by decide +kernel
theorem dX9_week_68 : decode cX9_week 68 = .ok (.getfield 213, 3) := by decide +kernel
theorem dX9_week_71 : decode cX9_week 71 = .ok (.iload_n 2, 1) := by decide +kernel
theorem dX9_week_72 : decode cX9_week 72 = .ok (.iaload, 1) := by decide +kernel
theorem dX9_week_73 : decode cX9_week 73 = .ok (.ireturn, 1) := by decide +kernel
theorem dX9_cleft_0 : decode cX9_cleft 0 = .ok (.aload_n 0, 1) := by decide +kernel
theorem dX9_cleft_1 : decode cX9_cleft 1 = .ok (.iload_n 1, 1) := by decide +kernel
theorem dX9_cleft_2 : decode cX9_cleft 2 = .ok (.invokevirtual 117, 3) := by decide +kernel
theorem dX9_cleft_5 : decode cX9_cleft 5 = .ok (.istore_n 2, 1) := by decide +kernel
theorem dX9_cleft_6 : decode cX9_cleft 6 = .ok (.iload_n 2, 1) := by decide +kernel
theorem dX9_cleft_7 : decode cX9_cleft 7 = .ok (.ifCond .eq 5, 3) := by decide +kernel
theorem dX9_cleft_10 : decode cX9_cleft 10 = .ok (.iload_n 2, 1) := by decide +kernel
theorem dX9_cleft_11 : decode cX9_cleft 11 = .ok (.ireturn, 1) := by decide +kernel
theorem dX9_cleft_12 : decode cX9_cleft 12 = .ok (.aload_n 0, 1) := by decide +kernel
theorem dX9_cleft_13 : decode cX9_cleft 13 = .ok (.getfield 42, 3) := by decide +kernel
theorem dX9_cleft_16 : decode cX9_cleft 16 = .ok (.aload_n 0, 1) := by decide +kernel
theorem dX9_cleft_17 : decode cX9_cleft 17 = .ok (.invokevirtual 147, 3) := by decide +kernel
theorem dX9_cleft_20 : decode cX9_cleft 20 = .ok (.iload_n 1, 1) := by decide +kernel
theorem dX9_cleft_21 : decode cX9_cleft 21 = .ok (.invokevirtual 206, 3) := by decide +kernel
theorem dX9_cleft_24 : decode cX9_cleft 24 = .ok (.aload_n 0, 1) := by decide +kernel
theorem dX9_cleft_25 : decode cX9_cleft 25 = .ok (.getfield 42, 3) := by decide +kernel
theorem dX9_cleft_28 : decode cX9_cleft 28 = .ok (.aload_n 0, 1) := by decide +kernel
theorem dX9_cleft_29 : decode cX9_cleft 29 = .ok (.getfield 10, 3) := by decide +kernel
theorem dX9_cleft_32 : decode cX9_cleft 32 = .ok (.invokevirtual 216, 3) := by decide +kernel
theorem dX9_cleft_35 : decode cX9_cleft 35 = .ok (.invokevirtual 220, 3) := by decide +kernel
theorem dX9_cleft_38 : decode cX9_cleft 38 = .ok (.ireturn, 1) := by decide +kernel
theorem dX9_misses_0 : decode cX9_misses 0 = .ok (.aload_n 0, 1) := by decide +kernel
theorem dX9_misses_1 : decode cX9_misses 1 = .ok (.iload_n 1, 1) := by decide +kernel
theorem dX9_misses_2 : decode cX9_misses 2 = .ok (.invokevirtual 117, 3) := by decide +kernel
theorem dX9_misses_5 : decode cX9_misses 5 = .ok (.istore_n 3, 1) := by decide +kernel
theorem dX9_misses_6 : decode cX9_misses 6 = .ok (.iload_n 3, 1) := by decide +kernel
theorem dX9_misses_7 : decode cX9_misses 7 = .ok (.ifCond .eq 6, 3) := by decide +kernel
theorem dX9_misses_10 : decode cX9_misses 10 = .ok (.iload_n 3, 1) := by decide +kernel
theorem dX9_misses_11 : decode cX9_misses 11 = .ok (.i2l, 1) := by decide +kernel
theorem dX9_misses_12 : decode cX9_misses 12 = .ok (.lreturn, 1) := by decide +kernel
theorem dX9_misses_13 : decode cX9_misses 13 = .ok (.iload_n 2, 1) := by decide +kernel
theorem dX9_misses_14 : decode cX9_misses 14 = .ok (.iconst 1, 1) := by decide +kernel
theorem dX9_misses_15 : decode cX9_misses 15 = .ok (.if_icmp .lt 14, 3) := by decide +kernel
theorem dX9_misses_18 : decode cX9_misses 18 = .ok (.iload_n 2, 1) := by decide +kernel
theorem dX9_misses_19 : decode cX9_misses 19 = .ok (.aload_n 0, 1) := by decide +kernel
theorem dX9_misses_20 : decode cX9_misses 20 = .ok (.getfield 10, 3) := by decide +kernel
theorem dX9_misses_23 : decode cX9_misses 23 = .ok (.invokevirtual 216, 3) := by decide +kernel
theorem dX9_misses_26 : decode cX9_misses 26 = .ok (.if_icmp .le 7, 3) := by decide +kernel
theorem dX9_misses_29 : decode cX9_misses 29 = .ok (.ldc2_w 200, 3) := by decide +kernel
theorem dX9_misses_32 : decode cX9_misses 32 = .ok (.lreturn, 1) := by decide +kernel
theorem dX9_misses_33 : decode cX9_misses 33 = .ok (.aload_n 0, 1) := by decide +kernel
theorem dX9_misses_34 : decode cX9_misses 34 = .ok (.getfield 42, 3) := by decide +kernel
theorem dX9_misses_37 : decode cX9_misses 37 = .ok (.aload_n 0, 1) := by decide +kernel
theorem dX9_misses_38 : decode cX9_misses 38 = .ok (.invokevirtual 147, 3) := by decide +kernel
theorem dX9_misses_41 : decode cX9_misses 41 = .ok (.iload_n 1, 1) := by decide +kernel
theorem dX9_misses_42 : decode cX9_misses 42 = .ok (.invokevirtual 206, 3) := by decide +kernel
theorem dX9_misses_45 : decode cX9_misses 45 = .ok (.aload_n 0, 1) := by decide +kernel
theorem dX9_misses_46 : decode cX9_misses 46 = .ok (.getfield 42, 3) := by decide +kernel
theorem dX9_misses_49 : decode cX9_misses 49 = .ok (.iload_n 2, 1) := by decide +kernel
theorem dX9_misses_50 : decode cX9_misses 50 = .ok (.aload_n 0, 1) := by decide +kernel
theorem dX9_misses_51 : decode cX9_misses 51 = .ok (.getfield 10, 3) := by decide +kernel
theorem dX9_misses_54 : decode cX9_misses 54 = .ok (.invokevirtual 216, 3) := by decide +kernel
theorem dX9_misses_57 : decode cX9_misses 57 = .ok (.invokevirtual 223, 3) := by decide +kernel
theorem dX9_misses_60 : decode cX9_misses 60 = .ok (.lreturn, 1) := by decide +kernel
theorem dX9_isPlace_0 : decode cX9_isPlace 0 = .ok (.iload_n 0, 1) := by decide +kernel
theorem dX9_isPlace_1 : decode cX9_isPlace 1 = .ok (.ifCond .lt 13, 3) := by decide +kernel
theorem dX9_isPlace_4 : decode cX9_isPlace 4 = .ok (.iload_n 0, 1) := by decide +kernel
theorem dX9_isPlace_5 : decode cX9_isPlace 5 = .ok (.bipush 16, 2) := by decide +kernel
theorem dX9_isPlace_7 : decode cX9_isPlace 7 = .ok (.if_icmp .ge 7, 3) := by decide +kernel
theorem dX9_isPlace_10 : decode cX9_isPlace 10 = .ok (.iconst 1, 1) := by decide +kernel
theorem dX9_isPlace_11 : decode cX9_isPlace 11 = .ok (.goto 4, 3) := by decide +kernel
theorem dX9_isPlace_14 : decode cX9_isPlace 14 = .ok (.iconst 0, 1) := by decide +kernel
theorem dX9_isPlace_15 : decode cX9_isPlace 15 = .ok (.ireturn, 1) := by decide +kernel
theorem dX9_isDay_0 : decode cX9_isDay 0 = .ok (.iload_n 0, 1) := by decide +kernel
theorem dX9_isDay_1 : decode cX9_isDay 1 = .ok (.ifCond .lt 13, 3) := by decide +kernel
theorem dX9_isDay_4 : decode cX9_isDay 4 = .ok (.iload_n 0, 1) := by decide +kernel
theorem dX9_isDay_5 : decode cX9_isDay 5 = .ok (.bipush 56, 2) := by decide +kernel
theorem dX9_isDay_7 : decode cX9_isDay 7 = .ok (.if_icmp .ge 7, 3) := by decide +kernel
theorem dX9_isDay_10 : decode cX9_isDay 10 = .ok (.iconst 1, 1) := by decide +kernel
theorem dX9_isDay_11 : decode cX9_isDay 11 = .ok (.goto 4, 3) := by decide +kernel
theorem dX9_isDay_14 : decode cX9_isDay 14 = .ok (.iconst 0, 1) := by decide +kernel
theorem dX9_isDay_15 : decode cX9_isDay 15 = .ok (.ireturn, 1) := by decide +kernel
theorem dX9_isSquare_0 : decode cX9_isSquare 0 = .ok (.iload_n 0, 1) := by decide +kernel
theorem dX9_isSquare_1 : decode cX9_isSquare 1 = .ok (.ifCond .lt 23, 3) := by decide +kernel
theorem dX9_isSquare_4 : decode cX9_isSquare 4 = .ok (.iload_n 0, 1) := by decide +kernel
theorem dX9_isSquare_5 : decode cX9_isSquare 5 = .ok (.bipush 10, 2) := by decide +kernel
theorem dX9_isSquare_7 : decode cX9_isSquare 7 = .ok (.if_icmp .ge 17, 3) := by decide +kernel
theorem dX9_isSquare_10 : decode cX9_isSquare 10 = .ok (.iload_n 1, 1) := by decide +kernel
theorem dX9_isSquare_11 : decode cX9_isSquare 11 = .ok (.ifCond .lt 13, 3) := by decide +kernel
theorem dX9_isSquare_14 : decode cX9_isSquare 14 = .ok (.iload_n 1, 1) := by decide +kernel
theorem dX9_isSquare_15 : decode cX9_isSquare 15 = .ok (.bipush 10, 2) := by decide +kernel
theorem dX9_isSquare_17 : decode cX9_isSquare 17 = .ok (.if_icmp .ge 7, 3) := by decide +kernel
theorem dX9_isSquare_20 : decode cX9_isSquare 20 = .ok (.iconst 1, 1) := by decide +kernel
theorem dX9_isSquare_21 : decode cX9_isSquare 21 = .ok (.goto 4, 3) := by decide +kernel
theorem dX9_isSquare_24 : decode cX9_isSquare 24 = .ok (.iconst 0, 1) := by decide +kernel
theorem dX9_isSquare_25 : decode cX9_isSquare 25 = .ok (.ireturn, 1) := by decide +kernel
theorem dX9_isValley_0 : decode cX9_isValley 0 = .ok (.iload_n 0, 1) := by decide +kernel
theorem dX9_isValley_1 : decode cX9_isValley 1 = .ok (.ifCond .lt 13, 3) := by decide +kernel
theorem dX9_isValley_4 : decode cX9_isValley 4 = .ok (.iload_n 0, 1) := by decide +kernel
theorem dX9_isValley_5 : decode cX9_isValley 5 = .ok (.bipush 8, 2) := by decide +kernel
theorem dX9_isValley_7 : decode cX9_isValley 7 = .ok (.if_icmp .ge 7, 3) := by decide +kernel
theorem dX9_isValley_10 : decode cX9_isValley 10 = .ok (.iconst 1, 1) := by decide +kernel
theorem dX9_isValley_11 : decode cX9_isValley 11 = .ok (.goto 4, 3) := by decide +kernel
theorem dX9_isValley_14 : decode cX9_isValley 14 = .ok (.iconst 0, 1) := by decide +kernel
theorem dX9_isValley_15 : decode cX9_isValley 15 = .ok (.ireturn, 1) := by decide +kernel
theorem dX9_hasSize_0 : decode cX9_hasSize 0 = .ok (.iload_n 0, 1) := by decide +kernel
theorem dX9_hasSize_1 : decode cX9_hasSize 1 = .ok (.iconst 1, 1) := by decide +kernel
theorem dX9_hasSize_2 : decode cX9_hasSize 2 = .ok (.if_icmp .eq 8, 3) := by decide +kernel
theorem dX9_hasSize_5 : decode cX9_hasSize 5 = .ok (.iload_n 0, 1) := by decide +kernel
theorem dX9_hasSize_6 : decode cX9_hasSize 6 = .ok (.iconst 4, 1) := by decide +kernel
theorem dX9_hasSize_7 : decode cX9_hasSize 7 = .ok (.if_icmp .ne 7, 3) := by decide +kernel
theorem dX9_hasSize_10 : decode cX9_hasSize 10 = .ok (.iconst 1, 1) := by decide +kernel
theorem dX9_hasSize_11 : decode cX9_hasSize 11 = .ok (.goto 4, 3) := by decide +kernel
theorem dX9_hasSize_14 : decode cX9_hasSize 14 = .ok (.iconst 0, 1) := by decide +kernel
theorem dX9_hasSize_15 : decode cX9_hasSize 15 = .ok (.ireturn, 1) := by decide +kernel
theorem dX9_squaredDistance_0 : decode cX9_squaredDistance 0 = .ok (.iload_n 0, 1) := by decide +kernel
theorem dX9_squaredDistance_1 : decode cX9_squaredDistance 1 = .ok (.aload_n 2, 1) := by decide +kernel
theorem dX9_squaredDistance_2 : decode cX9_squaredDistance 2 = .ok (.getfield 80, 3) := by decide +kernel
theorem dX9_squaredDistance_5 : decode cX9_squaredDistance 5 = .ok (.isub, 1) := by decide +kernel
theorem dX9_squaredDistance_6 : decode cX9_squaredDistance 6 = .ok (.iload_n 0, 1) := by decide +kernel
theorem dX9_squaredDistance_7 : decode cX9_squaredDistance 7 = .ok (.aload_n 2, 1) := by decide +kernel
theorem dX9_squaredDistance_8 : decode cX9_squaredDistance 8 = .ok (.getfield 80, 3) := by decide +kernel
theorem dX9_squaredDistance_11 : decode cX9_squaredDistance 11 = .ok (.isub, 1) := by decide +kernel
theorem dX9_squaredDistance_12 : decode cX9_squaredDistance 12 = .ok (.imul, 1) := by decide +kernel
theorem dX9_squaredDistance_13 : decode cX9_squaredDistance 13 = .ok (.iload_n 1, 1) := by decide +kernel
theorem dX9_squaredDistance_14 : decode cX9_squaredDistance 14 = .ok (.aload_n 2, 1) := by decide +kernel
theorem dX9_squaredDistance_15 : decode cX9_squaredDistance 15 = .ok (.getfield 83, 3) := by decide +kernel
theorem dX9_squaredDistance_18 : decode cX9_squaredDistance 18 = .ok (.isub, 1) := by decide +kernel
theorem dX9_squaredDistance_19 : decode cX9_squaredDistance 19 = .ok (.iload_n 1, 1) := by decide +kernel
theorem dX9_squaredDistance_20 : decode cX9_squaredDistance 20 = .ok (.aload_n 2, 1) := by decide +kernel
theorem dX9_squaredDistance_21 : decode cX9_squaredDistance 21 = .ok (.getfield 83, 3) := by decide +kernel
theorem dX9_squaredDistance_24 : decode cX9_squaredDistance 24 = .ok (.isub, 1) := by decide +kernel
theorem dX9_squaredDistance_25 : decode cX9_squaredDistance 25 = .ok (.imul, 1) := by decide +kernel
theorem dX9_squaredDistance_26 : decode cX9_squaredDistance 26 = .ok (.iadd, 1) := by decide +kernel
theorem dX9_squaredDistance_27 : decode cX9_squaredDistance 27 = .ok (.ireturn, 1) := by decide +kernel
theorem dX9_gaugeFault_0 : decode cX9_gaugeFault 0 = .ok (.iload_n 1, 1) := by decide +kernel
theorem dX9_gaugeFault_1 : decode cX9_gaugeFault 1 = .ok (.invokestatic 46, 3) := by decide +kernel
theorem dX9_gaugeFault_4 : decode cX9_gaugeFault 4 = .ok (.ifCond .eq 19, 3) := by decide +kernel
theorem dX9_gaugeFault_7 : decode cX9_gaugeFault 7 = .ok (.aload_n 0, 1) := by decide +kernel
theorem dX9_gaugeFault_8 : decode cX9_gaugeFault 8 = .ok (.getfield 10, 3) := by decide +kernel
theorem dX9_gaugeFault_11 : decode cX9_gaugeFault 11 = .ok (.getfield 57, 3) := by decide +kernel
theorem dX9_gaugeFault_14 : decode cX9_gaugeFault 14 = .ok (.iload_n 1, 1) := by decide +kernel
theorem dX9_gaugeFault_15 : decode cX9_gaugeFault 15 = .ok (.aaload, 1) := by decide +kernel
theorem dX9_gaugeFault_16 : decode cX9_gaugeFault 16 = .ok (.getfield 61, 3) := by decide +kernel
theorem dX9_gaugeFault_19 : decode cX9_gaugeFault 19 = .ok (.iconst (-1), 1) := by decide +kernel
theorem dX9_gaugeFault_20 : decode cX9_gaugeFault 20 = .ok (.if_icmp .ne 5, 3) := by decide +kernel
theorem dX9_gaugeFault_23 : decode cX9_gaugeFault 23 = .ok (.iconst (-1), 1) := by decide +kernel
theorem dX9_gaugeFault_24 : decode cX9_gaugeFault 24 = .ok (.ireturn, 1) := by decide +kernel
theorem dX9_gaugeFault_25 : decode cX9_gaugeFault 25 = .ok (.aload_n 0, 1) := by decide +kernel
theorem dX9_gaugeFault_26 : decode cX9_gaugeFault 26 = .ok (.getfield 10, 3) := by decide +kernel
theorem dX9_gaugeFault_29 : decode cX9_gaugeFault 29 = .ok (.getfield 57, 3) := by decide +kernel
theorem dX9_gaugeFault_32 : decode cX9_gaugeFault 32 = .ok (.iload_n 1, 1) := by decide +kernel
theorem dX9_gaugeFault_33 : decode cX9_gaugeFault 33 = .ok (.aaload, 1) := by decide +kernel
theorem dX9_gaugeFault_34 : decode cX9_gaugeFault 34 = .ok (.getfield 61, 3) := by decide +kernel
theorem dX9_gaugeFault_37 : decode cX9_gaugeFault 37 = .ok (.iconst 5, 1) := by decide +kernel
theorem dX9_gaugeFault_38 : decode cX9_gaugeFault 38 = .ok (.if_icmp .ne 8, 3) := by decide +kernel
theorem dX9_gaugeFault_41 : decode cX9_gaugeFault 41 = .ok (.bipush (-2), 2) := by decide +kernel
theorem dX9_gaugeFault_43 : decode cX9_gaugeFault 43 = .ok (.goto 4, 3) := by decide +kernel
theorem dX9_gaugeFault_46 : decode cX9_gaugeFault 46 = .ok (.iconst 0, 1) := by decide +kernel
theorem dX9_gaugeFault_47 : decode cX9_gaugeFault 47 = .ok (.ireturn, 1) := by decide +kernel
theorem dX9_gaugeDayFault_0 : decode cX9_gaugeDayFault 0 = .ok (.aload_n 0, 1) := by decide +kernel
theorem dX9_gaugeDayFault_1 : decode cX9_gaugeDayFault 1 = .ok (.iload_n 1, 1) := by decide +kernel
theorem dX9_gaugeDayFault_2 : decode cX9_gaugeDayFault 2 = .ok (.invokevirtual 95, 3) := by decide +kernel
theorem dX9_gaugeDayFault_5 : decode cX9_gaugeDayFault 5 = .ok (.istore_n 3, 1) := by decide +kernel
theorem dX9_gaugeDayFault_6 : decode cX9_gaugeDayFault 6 = .ok (.iload_n 3, 1) := by decide +kernel
theorem dX9_gaugeDayFault_7 : decode cX9_gaugeDayFault 7 = .ok (.ifCond .ne 14, 3) := by decide +kernel
theorem dX9_gaugeDayFault_10 : decode cX9_gaugeDayFault 10 = .ok (.iload_n 2, 1) := by decide +kernel
theorem dX9_gaugeDayFault_11 : decode cX9_gaugeDayFault 11 = .ok (.invokestatic 99, 3) := by decide +kernel
theorem dX9_gaugeDayFault_14 : decode cX9_gaugeDayFault 14 = .ok (.ifCond .ne 7, 3) := by decide +kernel
theorem dX9_gaugeDayFault_17 : decode cX9_gaugeDayFault 17 = .ok (.iconst (-1), 1) := by decide +kernel
theorem dX9_gaugeDayFault_18 : decode cX9_gaugeDayFault 18 = .ok (.goto 4, 3) := by decide +kernel
theorem dX9_gaugeDayFault_21 : decode cX9_gaugeDayFault 21 = .ok (.iload_n 3, 1) := by decide +kernel
theorem dX9_gaugeDayFault_22 : decode cX9_gaugeDayFault 22 = .ok (.ireturn, 1) := by decide +kernel
theorem dX9_dailyGaugeFault_0 : decode cX9_dailyGaugeFault 0 = .ok (.aload_n 0, 1) := by decide +kernel
theorem dX9_dailyGaugeFault_1 : decode cX9_dailyGaugeFault 1 = .ok (.iload_n 1, 1) := by decide +kernel
theorem dX9_dailyGaugeFault_2 : decode cX9_dailyGaugeFault 2 = .ok (.invokevirtual 95, 3) := by decide +kernel
theorem dX9_dailyGaugeFault_5 : decode cX9_dailyGaugeFault 5 = .ok (.istore_n 2, 1) := by decide +kernel
theorem dX9_dailyGaugeFault_6 : decode cX9_dailyGaugeFault 6 = .ok (.iload_n 2, 1) := by decide +kernel
theorem dX9_dailyGaugeFault_7 : decode cX9_dailyGaugeFault 7 = .ok (.ifCond .ne 24, 3) := by decide +kernel
theorem dX9_dailyGaugeFault_10 : decode cX9_dailyGaugeFault 10 = .ok (.aload_n 0, 1) := by decide +kernel
theorem dX9_dailyGaugeFault_11 : decode cX9_dailyGaugeFault 11 = .ok (.getfield 10, 3) := by decide +kernel
theorem dX9_dailyGaugeFault_14 : decode cX9_dailyGaugeFault 14 = .ok (.getfield 57, 3) := by decide +kernel
theorem dX9_dailyGaugeFault_17 : decode cX9_dailyGaugeFault 17 = .ok (.iload_n 1, 1) := by decide +kernel
theorem dX9_dailyGaugeFault_18 : decode cX9_dailyGaugeFault 18 = .ok (.aaload, 1) := by decide +kernel
theorem dX9_dailyGaugeFault_19 : decode cX9_dailyGaugeFault 19 = .ok (.getfield 61, 3) := by decide +kernel
theorem dX9_dailyGaugeFault_22 : decode cX9_dailyGaugeFault 22 = .ok (.iconst 3, 1) := by decide +kernel
theorem dX9_dailyGaugeFault_23 : decode cX9_dailyGaugeFault 23 = .ok (.if_icmp .ne 8, 3) := by decide +kernel
theorem dX9_dailyGaugeFault_26 : decode cX9_dailyGaugeFault 26 = .ok (.bipush (-2), 2) := by decide +kernel
theorem dX9_dailyGaugeFault_28 : decode cX9_dailyGaugeFault 28 = .ok (.goto 4, 3) := by decide +kernel
theorem dX9_dailyGaugeFault_31 : decode cX9_dailyGaugeFault 31 = .ok (.iload_n 2, 1) := by decide +kernel
theorem dX9_dailyGaugeFault_32 : decode cX9_dailyGaugeFault 32 = .ok (.ireturn, 1) := by decide +kernel
theorem dX9_kindFault_0 : decode cX9_kindFault 0 = .ok (.aload_n 0, 1) := by decide +kernel
theorem dX9_kindFault_1 : decode cX9_kindFault 1 = .ok (.iload_n 1, 1) := by decide +kernel
theorem dX9_kindFault_2 : decode cX9_kindFault 2 = .ok (.invokevirtual 95, 3) := by decide +kernel
theorem dX9_kindFault_5 : decode cX9_kindFault 5 = .ok (.istore_n 3, 1) := by decide +kernel
theorem dX9_kindFault_6 : decode cX9_kindFault 6 = .ok (.iload_n 3, 1) := by decide +kernel
theorem dX9_kindFault_7 : decode cX9_kindFault 7 = .ok (.ifCond .ne 24, 3) := by decide +kernel
theorem dX9_kindFault_10 : decode cX9_kindFault 10 = .ok (.aload_n 0, 1) := by decide +kernel
theorem dX9_kindFault_11 : decode cX9_kindFault 11 = .ok (.getfield 10, 3) := by decide +kernel
theorem dX9_kindFault_14 : decode cX9_kindFault 14 = .ok (.getfield 57, 3) := by decide +kernel
theorem dX9_kindFault_17 : decode cX9_kindFault 17 = .ok (.iload_n 1, 1) := by decide +kernel
theorem dX9_kindFault_18 : decode cX9_kindFault 18 = .ok (.aaload, 1) := by decide +kernel
theorem dX9_kindFault_19 : decode cX9_kindFault 19 = .ok (.getfield 61, 3) := by decide +kernel
theorem dX9_kindFault_22 : decode cX9_kindFault 22 = .ok (.iload_n 2, 1) := by decide +kernel
theorem dX9_kindFault_23 : decode cX9_kindFault 23 = .ok (.if_icmp .eq 8, 3) := by decide +kernel
theorem dX9_kindFault_26 : decode cX9_kindFault 26 = .ok (.bipush (-2), 2) := by decide +kernel
theorem dX9_kindFault_28 : decode cX9_kindFault 28 = .ok (.goto 4, 3) := by decide +kernel
theorem dX9_kindFault_31 : decode cX9_kindFault 31 = .ok (.iload_n 3, 1) := by decide +kernel
theorem dX9_kindFault_32 : decode cX9_kindFault 32 = .ok (.ireturn, 1) := by decide +kernel
theorem dX9_noteSecond_0 : decode cX9_noteSecond 0 = .ok (.iload_n 2, 1) := by decide +kernel
theorem dX9_noteSecond_1 : decode cX9_noteSecond 1 = .ok (.ifCond .lt 21, 3) := by decide +kernel
theorem dX9_noteSecond_4 : decode cX9_noteSecond 4 = .ok (.iload_n 2, 1) := by decide +kernel
theorem dX9_noteSecond_5 : decode cX9_noteSecond 5 = .ok (.iload_n 3, 1) := by decide +kernel
theorem dX9_noteSecond_6 : decode cX9_noteSecond 6 = .ok (.if_icmp .gt 16, 3) := by decide +kernel
theorem dX9_noteSecond_9 : decode cX9_noteSecond 9 = .ok (.aload_n 0, 1) := by decide +kernel
theorem dX9_noteSecond_10 : decode cX9_noteSecond 10 = .ok (.getfield 10, 3) := by decide +kernel
theorem dX9_noteSecond_13 : decode cX9_noteSecond 13 = .ok (.getfield 67, 3) := by decide +kernel
theorem dX9_noteSecond_16 : decode cX9_noteSecond 16 = .ok (.invokestatic 99, 3) := by decide +kernel
theorem dX9_noteSecond_19 : decode cX9_noteSecond 19 = .ok (.ifCond .ne 5, 3) := by decide +kernel
theorem dX9_noteSecond_22 : decode cX9_noteSecond 22 = .ok (.iconst (-1), 1) := by decide +kernel
theorem dX9_noteSecond_23 : decode cX9_noteSecond 23 = .ok (.ireturn, 1) := by decide +kernel
theorem dX9_noteSecond_24 : decode cX9_noteSecond 24 = .ok (.aload_n 0, 1) := by decide +kernel
theorem dX9_noteSecond_25 : decode cX9_noteSecond 25 = .ok (.getfield 10, 3) := by decide +kernel
theorem dX9_noteSecond_28 : decode cX9_noteSecond 28 = .ok (.getfield 57, 3) := by decide +kernel
theorem dX9_noteSecond_31 : decode cX9_noteSecond 31 = .ok (.iload_n 1, 1) := by decide +kernel
theorem dX9_noteSecond_32 : decode cX9_noteSecond 32 = .ok (.aaload, 1) := by decide +kernel
theorem dX9_noteSecond_33 : decode cX9_noteSecond 33 = .ok (.getfield 227, 3) := by decide +kernel
theorem dX9_noteSecond_36 : decode cX9_noteSecond 36 = .ok (.aload_n 0, 1) := by decide +kernel
theorem dX9_noteSecond_37 : decode cX9_noteSecond 37 = .ok (.getfield 10, 3) := by decide +kernel
theorem dX9_noteSecond_40 : decode cX9_noteSecond 40 = .ok (.getfield 67, 3) := by decide +kernel
theorem dX9_noteSecond_43 : decode cX9_noteSecond 43 = .ok (.iload_n 2, 1) := by decide +kernel
theorem dX9_noteSecond_44 : decode cX9_noteSecond 44 = .ok (.iastore, 1) := by decide +kernel
theorem dX9_noteSecond_45 : decode cX9_noteSecond 45 = .ok (.aload_n 0, 1) := by decide +kernel
theorem dX9_noteSecond_46 : decode cX9_noteSecond 46 = .ok (.getfield 10, 3) := by decide +kernel
theorem dX9_noteSecond_49 : decode cX9_noteSecond 49 = .ok (.dup, 1) := by decide +kernel
theorem dX9_noteSecond_50 : decode cX9_noteSecond 50 = .ok (.getfield 74, 3) := by decide +kernel
theorem dX9_noteSecond_53 : decode cX9_noteSecond 53 = .ok (.iconst 1, 1) := by decide +kernel
theorem dX9_noteSecond_54 : decode cX9_noteSecond 54 = .ok (.iadd, 1) := by decide +kernel
theorem dX9_noteSecond_55 : decode cX9_noteSecond 55 = .ok (.putfield 74, 3) := by decide +kernel
theorem dX9_noteSecond_58 : decode cX9_noteSecond 58 = .ok (.iconst 1, 1) := by decide +kernel
theorem dX9_noteSecond_59 : decode cX9_noteSecond 59 = .ok (.ireturn, 1) := by decide +kernel
theorem dX9_openBooks_0 : decode cX9_openBooks 0 = .ok (.aload_n 0, 1) := by decide +kernel
theorem dX9_openBooks_1 : decode cX9_openBooks 1 = .ok (.getfield 21, 3) := by decide +kernel
theorem dX9_openBooks_4 : decode cX9_openBooks 4 = .ok (.getfield 230, 3) := by decide +kernel
theorem dX9_openBooks_7 : decode cX9_openBooks 7 = .ok (.aload_n 0, 1) := by decide +kernel
theorem dX9_openBooks_8 : decode cX9_openBooks 8 = .ok (.getfield 10, 3) := by decide +kernel
theorem dX9_openBooks_11 : decode cX9_openBooks 11 = .ok (.getfield 74, 3) := by decide +kernel
theorem dX9_openBooks_14 : decode cX9_openBooks 14 = .ok (.if_icmp .eq 10, 3) := by decide +kernel
theorem dX9_openBooks_17 : decode cX9_openBooks 17 = .ok (.aload_n 0, 1) := by decide +kernel
theorem dX9_openBooks_18 : decode cX9_openBooks 18 = .ok (.getfield 21, 3) := by decide +kernel
theorem dX9_openBooks_21 : decode cX9_openBooks 21 = .ok (.invokevirtual 233, 3) := by decide +kernel
theorem dX9_openBooks_24 : decode cX9_openBooks 24 = .ok (.aload_n 0, 1) := by decide +kernel
theorem dX9_openBooks_25 : decode cX9_openBooks 25 = .ok (.getfield 21, 3) := by decide +kernel
theorem dX9_openBooks_28 : decode cX9_openBooks 28 = .ok (.areturn, 1) := by decide +kernel
theorem dX10_init_0 : decode cX10_init 0 = .ok (.aload_n 0, 1) := by decide +kernel
theorem dX10_init_1 : decode cX10_init 1 = .ok (.invokespecial 1, 3) := by decide +kernel
theorem dX10_init_4 : decode cX10_init 4 = .ok (.aload_n 0, 1) := by decide +kernel
theorem dX10_init_5 : decode cX10_init 5 = .ok (.bipush 16, 2) := by decide +kernel
theorem dX10_init_7 : decode cX10_init 7 = .ok (.newarray .int, 2) := by decide +kernel
theorem dX10_init_9 : decode cX10_init 9 = .ok (.dup, 1) := by decide +kernel
theorem dX10_init_10 : decode cX10_init 10 = .ok (.iconst 0, 1) := by decide +kernel
theorem dX10_init_11 : decode cX10_init 11 = .ok (.iconst (-1), 1) := by decide +kernel
theorem dX10_init_12 : decode cX10_init 12 = .ok (.iastore, 1) := by decide +kernel
theorem dX10_init_13 : decode cX10_init 13 = .ok (.dup, 1) := by decide +kernel
theorem dX10_init_14 : decode cX10_init 14 = .ok (.iconst 1, 1) := by decide +kernel
theorem dX10_init_15 : decode cX10_init 15 = .ok (.iconst (-1), 1) := by decide +kernel
theorem dX10_init_16 : decode cX10_init 16 = .ok (.iastore, 1) := by decide +kernel
theorem dX10_init_17 : decode cX10_init 17 = .ok (.dup, 1) := by decide +kernel
theorem dX10_init_18 : decode cX10_init 18 = .ok (.iconst 2, 1) := by decide +kernel
theorem dX10_init_19 : decode cX10_init 19 = .ok (.iconst (-1), 1) := by decide +kernel
theorem dX10_init_20 : decode cX10_init 20 = .ok (.iastore, 1) := by decide +kernel
theorem dX10_init_21 : decode cX10_init 21 = .ok (.dup, 1) := by decide +kernel
theorem dX10_init_22 : decode cX10_init 22 = .ok (.iconst 3, 1) := by decide +kernel
theorem dX10_init_23 : decode cX10_init 23 = .ok (.iconst (-1), 1) := by decide +kernel
theorem dX10_init_24 : decode cX10_init 24 = .ok (.iastore, 1) := by decide +kernel
theorem dX10_init_25 : decode cX10_init 25 = .ok (.dup, 1) := by decide +kernel
theorem dX10_init_26 : decode cX10_init 26 = .ok (.iconst 4, 1) := by decide +kernel
theorem dX10_init_27 : decode cX10_init 27 = .ok (.iconst (-1), 1) := by decide +kernel
theorem dX10_init_28 : decode cX10_init 28 = .ok (.iastore, 1) := by decide +kernel
theorem dX10_init_29 : decode cX10_init 29 = .ok (.dup, 1) := by decide +kernel
theorem dX10_init_30 : decode cX10_init 30 = .ok (.iconst 5, 1) := by decide +kernel
theorem dX10_init_31 : decode cX10_init 31 = .ok (.iconst (-1), 1) := by decide +kernel
theorem dX10_init_32 : decode cX10_init 32 = .ok (.iastore, 1) := by decide +kernel
theorem dX10_init_33 : decode cX10_init 33 = .ok (.dup, 1) := by decide +kernel
theorem dX10_init_34 : decode cX10_init 34 = .ok (.bipush 6, 2) := by decide +kernel
theorem dX10_init_36 : decode cX10_init 36 = .ok (.iconst (-1), 1) := by decide +kernel
theorem dX10_init_37 : decode cX10_init 37 = .ok (.iastore, 1) := by decide +kernel
theorem dX10_init_38 : decode cX10_init 38 = .ok (.dup, 1) := by decide +kernel
theorem dX10_init_39 : decode cX10_init 39 = .ok (.bipush 7, 2) := by decide +kernel
theorem dX10_init_41 : decode cX10_init 41 = .ok (.iconst (-1), 1) := by decide +kernel
theorem dX10_init_42 : decode cX10_init 42 = .ok (.iastore, 1) := by decide +kernel
theorem dX10_init_43 : decode cX10_init 43 = .ok (.dup, 1) := by decide +kernel
theorem dX10_init_44 : decode cX10_init 44 = .ok (.bipush 8, 2) := by decide +kernel
theorem dX10_init_46 : decode cX10_init 46 = .ok (.iconst (-1), 1) := by decide +kernel
theorem dX10_init_47 : decode cX10_init 47 = .ok (.iastore, 1) := by decide +kernel
theorem dX10_init_48 : decode cX10_init 48 = .ok (.dup, 1) := by decide +kernel
theorem dX10_init_49 : decode cX10_init 49 = .ok (.bipush 9, 2) := by decide +kernel
theorem dX10_init_51 : decode cX10_init 51 = .ok (.iconst (-1), 1) := by decide +kernel
theorem dX10_init_52 : decode cX10_init 52 = .ok (.iastore, 1) := by decide +kernel
theorem dX10_init_53 : decode cX10_init 53 = .ok (.dup, 1) := by decide +kernel
theorem dX10_init_54 : decode cX10_init 54 = .ok (.bipush 10, 2) := by decide +kernel
theorem dX10_init_56 : decode cX10_init 56 = .ok (.iconst (-1), 1) := by decide +kernel
theorem dX10_init_57 : decode cX10_init 57 = .ok (.iastore, 1) := by decide +kernel
theorem dX10_init_58 : decode cX10_init 58 = .ok (.dup, 1) := by decide +kernel
theorem dX10_init_59 : decode cX10_init 59 = .ok (.bipush 11, 2) := by decide +kernel
theorem dX10_init_61 : decode cX10_init 61 = .ok (.iconst (-1), 1) := by decide +kernel
theorem dX10_init_62 : decode cX10_init 62 = .ok (.iastore, 1) := by decide +kernel
theorem dX10_init_63 : decode cX10_init 63 = .ok (.dup, 1) := by decide +kernel
theorem dX10_init_64 : decode cX10_init 64 = .ok (.bipush 12, 2) := by decide +kernel
theorem dX10_init_66 : decode cX10_init 66 = .ok (.iconst (-1), 1) := by decide +kernel
theorem dX10_init_67 : decode cX10_init 67 = .ok (.iastore, 1) := by decide +kernel
theorem dX10_init_68 : decode cX10_init 68 = .ok (.dup, 1) := by decide +kernel
theorem dX10_init_69 : decode cX10_init 69 = .ok (.bipush 13, 2) := by decide +kernel
theorem dX10_init_71 : decode cX10_init 71 = .ok (.iconst (-1), 1) := by decide +kernel
theorem dX10_init_72 : decode cX10_init 72 = .ok (.iastore, 1) := by decide +kernel
theorem dX10_init_73 : decode cX10_init 73 = .ok (.dup, 1) := by decide +kernel
theorem dX10_init_74 : decode cX10_init 74 = .ok (.bipush 14, 2) := by decide +kernel
theorem dX10_init_76 : decode cX10_init 76 = .ok (.iconst (-1), 1) := by decide +kernel
theorem dX10_init_77 : decode cX10_init 77 = .ok (.iastore, 1) := by decide +kernel
theorem dX10_init_78 : decode cX10_init 78 = .ok (.dup, 1) := by decide +kernel
theorem dX10_init_79 : decode cX10_init 79 = .ok (.bipush 15, 2) := by decide +kernel
theorem dX10_init_81 : decode cX10_init 81 = .ok (.iconst (-1), 1) := by decide +kernel
theorem dX10_init_82 : decode cX10_init 82 = .ok (.iastore, 1) := by decide +kernel
theorem dX10_init_83 : decode cX10_init 83 = .ok (.putfield 9, 3) := by decide +kernel
theorem dX10_init_86 : decode cX10_init 86 = .ok (.aload_n 0, 1) := by decide +kernel
theorem dX10_init_87 : decode cX10_init 87 = .ok (.bipush 16, 2) := by decide +kernel
theorem dX10_init_89 : decode cX10_init 89 = .ok (.newarray .int, 2) := by decide +kernel
theorem dX10_init_91 : decode cX10_init 91 = .ok (.putfield 13, 3) := by decide +kernel
theorem dX10_init_94 : decode cX10_init 94 = .ok (.aload_n 0, 1) := by decide +kernel
theorem dX10_init_95 : decode cX10_init 95 = .ok (.bipush 16, 2) := by decide +kernel
theorem dX10_init_97 : decode cX10_init 97 = .ok (.newarray .int, 2) := by decide +kernel
theorem dX10_init_99 : decode cX10_init 99 = .ok (.putfield 16, 3) := by decide +kernel
theorem dX10_init_102 : decode cX10_init 102 = .ok (.aload_n 0, 1) := by decide +kernel
theorem dX10_init_103 : decode cX10_init 103 = .ok (.bipush 16, 2) := by decide +kernel
theorem dX10_init_105 : decode cX10_init 105 = .ok (.newarray .int, 2) := by decide +kernel
theorem dX10_init_107 : decode cX10_init 107 = .ok (.putfield 19, 3) := by decide +kernel
theorem dX10_init_110 : decode cX10_init 110 = .ok (.aload_n 0, 1) := by decide +kernel
theorem dX10_init_111 : decode cX10_init 111 = .ok (.bipush 16, 2) := by decide +kernel
theorem dX10_init_113 : decode cX10_init 113 = .ok (.newarray .int, 2) := by decide +kernel
theorem dX10_init_115 : decode cX10_init 115 = .ok (.putfield 22, 3) := by decide +kernel
theorem dX10_init_118 : decode cX10_init 118 = .ok (.aload_n 0, 1) := by decide +kernel
theorem dX10_init_119 : decode cX10_init 119 = .ok (.bipush 16, 2) := by decide +kernel
theorem dX10_init_121 : decode cX10_init 121 = .ok (.newarray .int, 2) := by decide +kernel
theorem dX10_init_123 : decode cX10_init 123 = .ok (.putfield 25, 3) := by decide +kernel
theorem dX10_init_126 : decode cX10_init 126 = .ok (.aload_n 0, 1) := by decide +kernel
theorem dX10_init_127 : decode cX10_init 127 = .ok (.sipush 896, 3) := by decide +kernel
theorem dX10_init_130 : decode cX10_init 130 = .ok (.newarray .int, 2) := by decide +kernel
theorem dX10_init_132 : decode cX10_init 132 = .ok (.putfield 28, 3) := by decide +kernel
theorem dX10_init_135 : decode cX10_init 135 = .ok (.aload_n 0, 1) := by decide +kernel
theorem dX10_init_136 : decode cX10_init 136 = .ok (.sipush 896, 3) := by decide +kernel
theorem dX10_init_139 : decode cX10_init 139 = .ok (.newarray .int, 2) := by decide +kernel
theorem dX10_init_141 : decode cX10_init 141 = .ok (.putfield 31, 3) := by decide +kernel
theorem dX10_init_144 : decode cX10_init 144 = .ok (.aload_n 0, 1) := by decide +kernel
theorem dX10_init_145 : decode cX10_init 145 = .ok (.sipush 896, 3) := by decide +kernel
theorem dX10_init_148 : decode cX10_init 148 = .ok (.newarray .int, 2) := by decide +kernel
theorem dX10_init_150 : decode cX10_init 150 = .ok (.putfield 34, 3) := by decide +kernel
theorem dX10_init_153 : decode cX10_init 153 = .ok (.aload_n 0, 1) := by decide +kernel
theorem dX10_init_154 : decode cX10_init 154 = .ok (.sipush 896, 3) := by decide +kernel
theorem dX10_init_157 : decode cX10_init 157 = .ok (.newarray .int, 2) := by decide +kernel
theorem dX10_init_159 : decode cX10_init 159 = .ok (.putfield 37, 3) := by decide +kernel
theorem dX10_init_162 : decode cX10_init 162 = .ok (.aload_n 0, 1) := by decide +kernel
theorem dX10_init_163 : decode cX10_init 163 = .ok (.bipush 100, 2) := by decide +kernel
theorem dX10_init_165 : decode cX10_init 165 = .ok (.newarray .int, 2) := by decide +kernel
theorem dX10_init_167 : decode cX10_init 167 = .ok (.putfield 40, 3) := by decide +kernel
theorem dX10_init_170 : decode cX10_init 170 = .ok (.aload_n 0, 1) := by decide +kernel
theorem dX10_init_171 : decode cX10_init 171 = .ok (.bipush 100, 2) := by decide +kernel
theorem dX10_init_173 : decode cX10_init 173 = .ok (.newarray .int, 2) := by decide +kernel
theorem dX10_init_175 : decode cX10_init 175 = .ok (.putfield 43, 3) := by decide +kernel
theorem dX10_init_178 : decode cX10_init 178 = .ok (.aload_n 0, 1) := by decide +kernel
theorem dX10_init_179 : decode cX10_init 179 = .ok (.bipush 100, 2) := by decide +kernel
theorem dX10_init_181 : decode cX10_init 181 = .ok (.newarray .int, 2) := by decide +kernel
theorem dX10_init_183 : decode cX10_init 183 = .ok (.putfield 46, 3) := by decide +kernel
theorem dX10_init_186 : decode cX10_init 186 = .ok (.aload_n 0, 1) := by decide +kernel
theorem dX10_init_187 : decode cX10_init 187 = .ok (.bipush 100, 2) := by decide +kernel
theorem dX10_init_189 : decode cX10_init 189 = .ok (.newarray .int, 2) := by decide +kernel
theorem dX10_init_191 : decode cX10_init 191 = .ok (.putfield 49, 3) := by decide +kernel
theorem dX10_init_194 : decode cX10_init 194 = .ok (.aload_n 0, 1) := by decide +kernel
theorem dX10_init_195 : decode cX10_init 195 = .ok (.sipush 2000, 3) := by decide +kernel
theorem dX10_init_198 : decode cX10_init 198 = .ok (.putfield 52, 3) := by decide +kernel
theorem dX10_init_201 : decode cX10_init 201 = .ok (.aload_n 0, 1) := by decide +kernel
theorem dX10_init_202 : decode cX10_init 202 = .ok (.iconst 4, 1) := by decide +kernel
theorem dX10_init_203 : decode cX10_init 203 = .ok (.putfield 56, 3) := by decide +kernel
theorem dX10_init_206 : decode cX10_init 206 = .ok (.aload_n 0, 1) := by decide +kernel
theorem dX10_init_207 : decode cX10_init 207 = .ok (.bipush 10, 2) := by decide +kernel
theorem dX10_init_209 : decode cX10_init 209 = .ok (.putfield 59, 3) := by decide +kernel
theorem dX10_init_212 : decode cX10_init 212 = .ok (.aload_n 0, 1) := by decide +kernel
theorem dX10_init_213 : decode cX10_init 213 = .ok (.bipush 20, 2) := by decide +kernel
theorem dX10_init_215 : decode cX10_init 215 = .ok (.putfield 62, 3) := by decide +kernel
theorem dX10_init_218 : decode cX10_init 218 = .ok (.aload_n 0, 1) := by decide +kernel
theorem dX10_init_219 : decode cX10_init 219 = .ok (.bipush 8, 2) := by decide +kernel
theorem dX10_init_221 : decode cX10_init 221 = .ok (.newarray .int, 2) := by decide +kernel
theorem dX10_init_223 : decode cX10_init 223 = .ok (.dup, 1) := by decide +kernel
theorem dX10_init_224 : decode cX10_init 224 = .ok (.iconst 0, 1) := by decide +kernel
theorem dX10_init_225 : decode cX10_init 225 = .ok (.iconst 1, 1) := by decide +kernel
theorem dX10_init_226 : decode cX10_init 226 = .ok (.iastore, 1) := by decide +kernel
theorem dX10_init_227 : decode cX10_init 227 = .ok (.dup, 1) := by decide +kernel
theorem dX10_init_228 : decode cX10_init 228 = .ok (.iconst 1, 1) := by decide +kernel
theorem dX10_init_229 : decode cX10_init 229 = .ok (.iconst 0, 1) := by decide +kernel
theorem dX10_init_230 : decode cX10_init 230 = .ok (.iastore, 1) := by decide +kernel
theorem dX10_init_231 : decode cX10_init 231 = .ok (.dup, 1) := by decide +kernel
theorem dX10_init_232 : decode cX10_init 232 = .ok (.iconst 2, 1) := by decide +kernel
theorem dX10_init_233 : decode cX10_init 233 = .ok (.iconst 0, 1) := by decide +kernel
theorem dX10_init_234 : decode cX10_init 234 = .ok (.iastore, 1) := by decide +kernel
theorem dX10_init_235 : decode cX10_init 235 = .ok (.dup, 1) := by decide +kernel
theorem dX10_init_236 : decode cX10_init 236 = .ok (.iconst 3, 1) := by decide +kernel
theorem dX10_init_237 : decode cX10_init 237 = .ok (.iconst 0, 1) := by decide +kernel
theorem dX10_init_238 : decode cX10_init 238 = .ok (.iastore, 1) := by decide +kernel
theorem dX10_init_239 : decode cX10_init 239 = .ok (.dup, 1) := by decide +kernel
theorem dX10_init_240 : decode cX10_init 240 = .ok (.iconst 4, 1) := by decide +kernel
theorem dX10_init_241 : decode cX10_init 241 = .ok (.iconst 0, 1) := by decide +kernel
theorem dX10_init_242 : decode cX10_init 242 = .ok (.iastore, 1) := by decide +kernel
theorem dX10_init_243 : decode cX10_init 243 = .ok (.dup, 1) := by decide +kernel
theorem dX10_init_244 : decode cX10_init 244 = .ok (.iconst 5, 1) := by decide +kernel
theorem dX10_init_245 : decode cX10_init 245 = .ok (.iconst 0, 1) := by decide +kernel
theorem dX10_init_246 : decode cX10_init 246 = .ok (.iastore, 1) := by decide +kernel
theorem dX10_init_247 : decode cX10_init 247 = .ok (.dup, 1) := by decide +kernel
theorem dX10_init_248 : decode cX10_init 248 = .ok (.bipush 6, 2) := by decide +kernel
theorem dX10_init_250 : decode cX10_init 250 = .ok (.iconst 0, 1) := by decide +kernel
theorem dX10_init_251 : decode cX10_init 251 = .ok (.iastore, 1) := by decide +kernel
theorem dX10_init_252 : decode cX10_init 252 = .ok (.dup, 1) := by decide +kernel
theorem dX10_init_253 : decode cX10_init 253 = .ok (.bipush 7, 2) := by decide +kernel
theorem dX10_init_255 : decode cX10_init 255 = .ok (.iconst 0, 1) := by decide +kernel
theorem dX10_init_256 : decode cX10_init 256 = .ok (.iastore, 1) := by decide +kernel
theorem dX10_init_257 : decode cX10_init 257 = .ok (.putfield 65, 3) := by decide +kernel
theorem dX10_init_260 : decode cX10_init 260 = .ok (.aload_n 0, 1) := by decide +kernel
theorem dX10_init_261 : decode cX10_init 261 = .ok (.sipush 800, 3) := by decide +kernel
theorem dX10_init_264 : decode cX10_init 264 = .ok (.newarray .boolean, 2) := by decide +kernel
theorem dX10_init_266 : decode cX10_init 266 = .ok (.putfield 68, 3) := by decide +kernel
theorem dX10_init_269 : decode cX10_init 269 = .ok (.aload_n 0, 1) := by decide +kernel
theorem dX10_init_270 : decode cX10_init 270 = .ok (.bipush 16, 2) := by decide +kernel
theorem dX10_init_272 : decode cX10_init 272 = .ok (.newarray .int, 2) := by decide +kernel
theorem dX10_init_274 : decode cX10_init 274 = .ok (.putfield 72, 3) := by decide +kernel
theorem dX10_init_277 : decode cX10_init 277 = .ok (.aload_n 0, 1) := by decide +kernel
theorem dX10_init_278 : decode cX10_init 278 = .ok (.iconst 4, 1) := by decide +kernel
theorem dX10_init_279 : decode cX10_init 279 = .ok (.newarray .int, 2) := by decide +kernel
theorem dX10_init_281 : decode cX10_init 281 = .ok (.putfield 75, 3) := by decide +kernel
theorem dX10_init_284 : decode cX10_init 284 = .ok (.aload_n 0, 1) := by decide +kernel
theorem dX10_init_285 : decode cX10_init 285 = .ok (.bipush 8, 2) := by decide +kernel
theorem dX10_init_287 : decode cX10_init 287 = .ok (.newarray .long, 2) := by decide +kernel
theorem dX10_init_289 : decode cX10_init 289 = .ok (.putfield 78, 3) := by decide +kernel
theorem dX10_init_292 : decode cX10_init 292 = .ok (.aload_n 0, 1) := by decide +kernel
theorem dX10_init_293 : decode cX10_init 293 = .ok (.bipush 8, 2) := by decide +kernel
theorem dX10_init_295 : decode cX10_init 295 = .ok (.newarray .long, 2) := by decide +kernel
theorem dX10_init_297 : decode cX10_init 297 = .ok (.putfield 82, 3) := by decide +kernel
theorem dX10_init_300 : decode cX10_init 300 = .ok (.return_, 1) := by decide +kernel
theorem dX10_isIn_0 : decode cX10_isIn 0 = .ok (.iload_n 0, 1) := by decide +kernel
theorem dX10_isIn_1 : decode cX10_isIn 1 = .ok (.iload_n 1, 1) := by decide +kernel
theorem dX10_isIn_2 : decode cX10_isIn 2 = .ok (.if_icmp .lt 12, 3) := by decide +kernel
theorem dX10_isIn_5 : decode cX10_isIn 5 = .ok (.iload_n 0, 1) := by decide +kernel
theorem dX10_isIn_6 : decode cX10_isIn 6 = .ok (.iload_n 2, 1) := by decide +kernel
theorem dX10_isIn_7 : decode cX10_isIn 7 = .ok (.if_icmp .gt 7, 3) := by decide +kernel
theorem dX10_isIn_10 : decode cX10_isIn 10 = .ok (.iconst 1, 1) := by decide +kernel
theorem dX10_isIn_11 : decode cX10_isIn 11 = .ok (.goto 4, 3) := by decide +kernel
theorem dX10_isIn_14 : decode cX10_isIn 14 = .ok (.iconst 0, 1) := by decide +kernel
theorem dX10_isIn_15 : decode cX10_isIn 15 = .ok (.ireturn, 1) := by decide +kernel
theorem dX10_at_0 : decode cX10_at 0 = .ok (.bipush 56, 2) := by decide +kernel
theorem dX10_at_2 : decode cX10_at 2 = .ok (.iload_n 0, 1) := by decide +kernel
theorem dX10_at_3 : decode cX10_at 3 = .ok (.imul, 1) := by decide +kernel
theorem dX10_at_4 : decode cX10_at 4 = .ok (.iload_n 1, 1) := by decide +kernel
theorem dX10_at_5 : decode cX10_at 5 = .ok (.iadd, 1) := by decide +kernel
theorem dX10_at_6 : decode cX10_at 6 = .ok (.ireturn, 1) := by decide +kernel
theorem dX10_isGauge_0 : decode cX10_isGauge 0 = .ok (.aload_n 0, 1) := by decide +kernel
theorem dX10_isGauge_1 : decode cX10_isGauge 1 = .ok (.getfield 9, 3) := by decide +kernel
theorem dX10_isGauge_4 : decode cX10_isGauge 4 = .ok (.iload_n 1, 1) := by decide +kernel
theorem dX10_isGauge_5 : decode cX10_isGauge 5 = .ok (.iaload, 1) := by decide +kernel
theorem dX10_isGauge_6 : decode cX10_isGauge 6 = .ok (.iconst (-1), 1) := by decide +kernel
theorem dX10_isGauge_7 : decode cX10_isGauge 7 = .ok (.if_icmp .eq 17, 3) := by decide +kernel
theorem dX10_isGauge_10 : decode cX10_isGauge 10 = .ok (.aload_n 0, 1) := by decide +kernel
theorem dX10_isGauge_11 : decode cX10_isGauge 11 = .ok (.getfield 9, 3) := by decide +kernel
theorem dX10_isGauge_14 : decode cX10_isGauge 14 = .ok (.iload_n 1, 1) := by decide +kernel
theorem dX10_isGauge_15 : decode cX10_isGauge 15 = .ok (.iaload, 1) := by decide +kernel
theorem dX10_isGauge_16 : decode cX10_isGauge 16 = .ok (.iconst 5, 1) := by decide +kernel
theorem dX10_isGauge_17 : decode cX10_isGauge 17 = .ok (.if_icmp .eq 7, 3) := by decide +kernel
theorem dX10_isGauge_20 : decode cX10_isGauge 20 = .ok (.iconst 1, 1) := by decide +kernel
theorem dX10_isGauge_21 : decode cX10_isGauge 21 = .ok (.goto 4, 3) := by decide +kernel
theorem dX10_isGauge_24 : decode cX10_isGauge 24 = .ok (.iconst 0, 1) := by decide +kernel
theorem dX10_isGauge_25 : decode cX10_isGauge 25 = .ok (.ireturn, 1) := by decide +kernel
theorem dX10_fails_0 : decode cX10_fails 0 = .ok (.iload_n 1, 1) := by decide +kernel
theorem dX10_fails_1 : decode cX10_fails 1 = .ok (.iconst 0, 1) := by decide +kernel
theorem dX10_fails_2 : decode cX10_fails 2 = .ok (.bipush 15, 2) := by decide +kernel
theorem dX10_fails_4 : decode cX10_fails 4 = .ok (.invokestatic 85, 3) := by decide +kernel
theorem dX10_fails_7 : decode cX10_fails 7 = .ok (.ifCond .eq 13, 3) := by decide +kernel
theorem dX10_fails_10 : decode cX10_fails 10 = .ok (.aload_n 0, 1) := by decide +kernel
theorem dX10_fails_11 : decode cX10_fails 11 = .ok (.getfield 9, 3) := by decide +kernel
theorem dX10_fails_14 : decode cX10_fails 14 = .ok (.iload_n 1, 1) := by decide +kernel
theorem dX10_fails_15 : decode cX10_fails 15 = .ok (.iaload, 1) := by decide +kernel
theorem dX10_fails_16 : decode cX10_fails 16 = .ok (.iconst (-1), 1) := by decide +kernel
theorem dX10_fails_17 : decode cX10_fails 17 = .ok (.if_icmp .ne 5, 3) := by decide +kernel
theorem dX10_fails_20 : decode cX10_fails 20 = .ok (.iconst (-1), 1) := by decide +kernel
theorem dX10_fails_21 : decode cX10_fails 21 = .ok (.ireturn, 1) := by decide +kernel
theorem dX10_fails_22 : decode cX10_fails 22 = .ok (.aload_n 0, 1) := by decide +kernel
theorem dX10_fails_23 : decode cX10_fails 23 = .ok (.getfield 9, 3) := by decide +kernel
theorem dX10_fails_26 : decode cX10_fails 26 = .ok (.iload_n 1, 1) := by decide +kernel
theorem dX10_fails_27 : decode cX10_fails 27 = .ok (.iaload, 1) := by decide +kernel
theorem dX10_fails_28 : decode cX10_fails 28 = .ok (.iload_n 2, 1) := by decide +kernel
theorem dX10_fails_29 : decode cX10_fails 29 = .ok (.iload_n 3, 1) := by decide +kernel
theorem dX10_fails_30 : decode cX10_fails 30 = .ok (.invokestatic 85, 3) := by decide +kernel
theorem dX10_fails_33 : decode cX10_fails 33 = .ok (.ifCond .eq 7, 3) := by decide +kernel
theorem dX10_fails_36 : decode cX10_fails 36 = .ok (.iconst 0, 1) := by decide +kernel
theorem dX10_fails_37 : decode cX10_fails 37 = .ok (.goto 5, 3) := by decide +kernel
theorem dX10_fails_40 : decode cX10_fails 40 = .ok (.bipush (-2), 2) := by decide +kernel
theorem dX10_fails_42 : decode cX10_fails 42 = .ok (.ireturn, 1) := by decide +kernel
theorem dX10_put_0 : decode cX10_put 0 = .ok (.iload_n 2, 1) := by decide +kernel
theorem dX10_put_1 : decode cX10_put 1 = .ok (.iconst 1, 1) := by decide +kernel
theorem dX10_put_2 : decode cX10_put 2 = .ok (.if_icmp .eq 8, 3) := by decide +kernel
theorem dX10_put_5 : decode cX10_put 5 = .ok (.iload_n 2, 1) := by decide +kernel
theorem dX10_put_6 : decode cX10_put 6 = .ok (.iconst 4, 1) := by decide +kernel
theorem dX10_put_7 : decode cX10_put 7 = .ok (.if_icmp .ne 7, 3) := by decide +kernel
theorem dX10_put_10 : decode cX10_put 10 = .ok (.iconst 1, 1) := by decide +kernel
theorem dX10_put_11 : decode cX10_put 11 = .ok (.goto 4, 3) := by decide +kernel
theorem dX10_put_14 : decode cX10_put 14 = .ok (.iconst 0, 1) := by decide +kernel
theorem dX10_put_15 : decode cX10_put 15 = .ok (.istore 6, 2) := by decide +kernel
theorem dX10_put_17 : decode cX10_put 17 = .ok (.iload_n 1, 1) := by decide +kernel
theorem dX10_put_18 : decode cX10_put 18 = .ok (.iconst 0, 1) := by decide +kernel
theorem dX10_put_19 : decode cX10_put 19 = .ok (.bipush 15, 2) := by decide +kernel
theorem dX10_put_21 : decode cX10_put 21 = .ok (.invokestatic 85, 3) := by decide +kernel
theorem dX10_put_24 : decode cX10_put 24 = .ok (.ifCond .eq 59, 3) := by decide +kernel
theorem dX10_put_27 : decode cX10_put 27 = .ok (.aload_n 0, 1) := by decide +kernel
theorem dX10_put_28 : decode cX10_put 28 = .ok (.getfield 9, 3) := by decide +kernel
theorem dX10_put_31 : decode cX10_put 31 = .ok (.iload_n 1, 1) := by decide +kernel
theorem dX10_put_32 : decode cX10_put 32 = .ok (.iaload, 1) := by decide +kernel
theorem dX10_put_33 : decode cX10_put 33 = .ok (.iconst (-1), 1) := by decide +kernel
theorem dX10_put_34 : decode cX10_put 34 = .ok (.if_icmp .ne 49, 3) := by decide +kernel
theorem dX10_put_37 : decode cX10_put 37 = .ok (.iload_n 2, 1) := by decide +kernel
theorem dX10_put_38 : decode cX10_put 38 = .ok (.iconst 0, 1) := by decide +kernel
theorem dX10_put_39 : decode cX10_put 39 = .ok (.iconst 5, 1) := by decide +kernel
theorem dX10_put_40 : decode cX10_put 40 = .ok (.invokestatic 85, 3) := by decide +kernel
theorem dX10_put_43 : decode cX10_put 43 = .ok (.ifCond .eq 40, 3) := by decide +kernel
theorem dX10_put_46 : decode cX10_put 46 = .ok (.iload_n 3, 1) := by decide +kernel
theorem dX10_put_47 : decode cX10_put 47 = .ok (.iconst 0, 1) := by decide +kernel
theorem dX10_put_48 : decode cX10_put 48 = .ok (.bipush 9, 2) := by decide +kernel
theorem dX10_put_50 : decode cX10_put 50 = .ok (.invokestatic 85, 3) := by decide +kernel
theorem dX10_put_53 : decode cX10_put 53 = .ok (.ifCond .eq 30, 3) := by decide +kernel
theorem dX10_put_56 : decode cX10_put 56 = .ok (.iload 4, 2) := by decide +kernel
theorem dX10_put_58 : decode cX10_put 58 = .ok (.iconst 0, 1) := by decide +kernel
theorem dX10_put_59 : decode cX10_put 59 = .ok (.bipush 9, 2) := by decide +kernel
theorem dX10_put_61 : decode cX10_put 61 = .ok (.invokestatic 85, 3) := by decide +kernel
theorem dX10_put_64 : decode cX10_put 64 = .ok (.ifCond .eq 19, 3) := by decide +kernel
theorem dX10_put_67 : decode cX10_put 67 = .ok (.iload 6, 2) := by decide +kernel
theorem dX10_put_69 : decode cX10_put 69 = .ok (.ifCond .eq 16, 3) := by decide +kernel
theorem dX10_put_72 : decode cX10_put 72 = .ok (.iload 5, 2) := by decide +kernel
theorem dX10_put_74 : decode cX10_put 74 = .ok (.iconst 1, 1) := by decide +kernel
theorem dX10_put_75 : decode cX10_put 75 = .ok (.bipush 20, 2) := by decide +kernel
theorem dX10_put_77 : decode cX10_put 77 = .ok (.invokestatic 85, 3) := by decide +kernel
theorem dX10_put_80 : decode cX10_put 80 = .ok (.ifCond .ne 5, 3) := by decide +kernel
theorem dX10_put_83 : decode cX10_put 83 = .ok (.iconst (-1), 1) := by decide +kernel
theorem dX10_put_84 : decode cX10_put 84 = .ok (.ireturn, 1) := by decide +kernel
theorem dX10_put_85 : decode cX10_put 85 = .ok (.aload_n 0, 1) := by decide +kernel
theorem dX10_put_86 : decode cX10_put 86 = .ok (.getfield 9, 3) := by decide +kernel
theorem dX10_put_89 : decode cX10_put 89 = .ok (.iload_n 1, 1) := by decide +kernel
theorem dX10_put_90 : decode cX10_put 90 = .ok (.iload_n 2, 1) := by decide +kernel
theorem dX10_put_91 : decode cX10_put 91 = .ok (.iastore, 1) := by decide +kernel
theorem dX10_put_92 : decode cX10_put 92 = .ok (.aload_n 0, 1) := by decide +kernel
theorem dX10_put_93 : decode cX10_put 93 = .ok (.getfield 13, 3) := by decide +kernel
theorem dX10_put_96 : decode cX10_put 96 = .ok (.iload_n 1, 1) := by decide +kernel
theorem dX10_put_97 : decode cX10_put 97 = .ok (.iload_n 3, 1) := by decide +kernel
theorem dX10_put_98 : decode cX10_put 98 = .ok (.iastore, 1) := by decide +kernel
theorem dX10_put_99 : decode cX10_put 99 = .ok (.aload_n 0, 1) := by decide +kernel
theorem dX10_put_100 : decode cX10_put 100 = .ok (.getfield 16, 3) := by decide +kernel
theorem dX10_put_103 : decode cX10_put 103 = .ok (.iload_n 1, 1) := by decide +kernel
theorem dX10_put_104 : decode cX10_put 104 = .ok (.iload 4, 2) := by decide +kernel
theorem dX10_put_106 : decode cX10_put 106 = .ok (.iastore, 1) := by decide +kernel
theorem dX10_put_107 : decode cX10_put 107 = .ok (.aload_n 0, 1) := by decide +kernel
theorem dX10_put_108 : decode cX10_put 108 = .ok (.getfield 19, 3) := by decide +kernel
theorem dX10_put_111 : decode cX10_put 111 = .ok (.iload_n 1, 1) := by decide +kernel
theorem dX10_put_112 : decode cX10_put 112 = .ok (.iload 6, 2) := by decide +kernel
theorem dX10_put_114 : decode cX10_put 114 = .ok (.ifCond .eq 8, 3) := by decide +kernel
theorem dX10_put_117 : decode cX10_put 117 = .ok (.iload 5, 2) := by decide +kernel
theorem dX10_put_119 : decode cX10_put 119 = .ok (.goto 4, 3) := by decide +kernel
theorem dX10_put_122 : decode cX10_put 122 = .ok (.iconst 0, 1) := by decide +kernel
theorem dX10_put_123 : decode cX10_put 123 = .ok (.iastore, 1) := by decide +kernel
theorem dX10_put_124 : decode cX10_put 124 = .ok (.aload_n 0, 1) := by decide +kernel
theorem dX10_put_125 : decode cX10_put 125 = .ok (.getfield 22, 3) := by decide +kernel
theorem dX10_put_128 : decode cX10_put 128 = .ok (.iload_n 1, 1) := by decide +kernel
theorem dX10_put_129 : decode cX10_put 129 = .ok (.iload_n 2, 1) := by decide +kernel
theorem dX10_put_130 : decode cX10_put 130 = .ok (.iconst 5, 1) := by decide +kernel
theorem dX10_put_131 : decode cX10_put 131 = .ok (.if_icmp .ne 7, 3) := by decide +kernel
theorem dX10_put_134 : decode cX10_put 134 = .ok (.iconst 0, 1) := by decide +kernel
theorem dX10_put_135 : decode cX10_put 135 = .ok (.goto 7, 3) := by decide +kernel
theorem dX10_put_138 : decode cX10_put 138 = .ok (.aload_n 0, 1) := by decide +kernel
theorem dX10_put_139 : decode cX10_put 139 = .ok (.getfield 89, 3) := by decide +kernel
theorem dX10_put_142 : decode cX10_put 142 = .ok (.iastore, 1) := by decide +kernel
theorem dX10_put_143 : decode cX10_put 143 = .ok (.aload_n 0, 1) := by decide +kernel
theorem dX10_put_144 : decode cX10_put 144 = .ok (.getfield 25, 3) := by decide +kernel
theorem dX10_put_147 : decode cX10_put 147 = .ok (.iload_n 1, 1) := by decide +kernel
theorem dX10_put_148 : decode cX10_put 148 = .ok (.iconst 0, 1) := by decide +kernel
theorem dX10_put_149 : decode cX10_put 149 = .ok (.iastore, 1) := by decide +kernel
theorem dX10_put_150 : decode cX10_put 150 = .ok (.iconst 0, 1) := by decide +kernel
theorem dX10_put_151 : decode cX10_put 151 = .ok (.istore 7, 2) := by decide +kernel
theorem dX10_put_153 : decode cX10_put 153 = .ok (.iload 7, 2) := by decide +kernel
theorem dX10_put_155 : decode cX10_put 155 = .ok (.bipush 56, 2) := by decide +kernel
theorem dX10_put_157 : decode cX10_put 157 = .ok (.if_icmp .ge 57, 3) := by decide +kernel
theorem dX10_put_160 : decode cX10_put 160 = .ok (.aload_n 0, 1) := by decide +kernel
theorem dX10_put_161 : decode cX10_put 161 = .ok (.getfield 28, 3) := by decide +kernel
theorem dX10_put_164 : decode cX10_put 164 = .ok (.iload_n 1, 1) := by decide +kernel
theorem dX10_put_165 : decode cX10_put 165 = .ok (.iload 7, 2) := by decide +kernel
theorem dX10_put_167 : decode cX10_put 167 = .ok (.invokestatic 92, 3) := by decide +kernel
theorem dX10_put_170 : decode cX10_put 170 = .ok (.iconst (-1), 1) := by decide +kernel
theorem dX10_put_171 : decode cX10_put 171 = .ok (.iastore, 1) := by decide +kernel
theorem dX10_put_172 : decode cX10_put 172 = .ok (.aload_n 0, 1) := by decide +kernel
theorem dX10_put_173 : decode cX10_put 173 = .ok (.getfield 31, 3) := by decide +kernel
theorem dX10_put_176 : decode cX10_put 176 = .ok (.iload_n 1, 1) := by decide +kernel
theorem dX10_put_177 : decode cX10_put 177 = .ok (.iload 7, 2) := by decide +kernel
theorem dX10_put_179 : decode cX10_put 179 = .ok (.invokestatic 92, 3) := by decide +kernel
theorem dX10_put_182 : decode cX10_put 182 = .ok (.iconst (-1), 1) := by decide +kernel
theorem dX10_put_183 : decode cX10_put 183 = .ok (.iastore, 1) := by decide +kernel
theorem dX10_put_184 : decode cX10_put 184 = .ok (.aload_n 0, 1) := by decide +kernel
theorem dX10_put_185 : decode cX10_put 185 = .ok (.getfield 34, 3) := by decide +kernel
theorem dX10_put_188 : decode cX10_put 188 = .ok (.iload_n 1, 1) := by decide +kernel
theorem dX10_put_189 : decode cX10_put 189 = .ok (.iload 7, 2) := by decide +kernel
theorem dX10_put_191 : decode cX10_put 191 = .ok (.invokestatic 92, 3) := by decide +kernel
theorem dX10_put_194 : decode cX10_put 194 = .ok (.iconst (-1), 1) := by decide +kernel
theorem dX10_put_195 : decode cX10_put 195 = .ok (.iastore, 1) := by decide +kernel
theorem dX10_put_196 : decode cX10_put 196 = .ok (.aload_n 0, 1) := by decide +kernel
theorem dX10_put_197 : decode cX10_put 197 = .ok (.getfield 37, 3) := by decide +kernel
theorem dX10_put_200 : decode cX10_put 200 = .ok (.iload_n 1, 1) := by decide +kernel
theorem dX10_put_201 : decode cX10_put 201 = .ok (.iload 7, 2) := by decide +kernel
theorem dX10_put_203 : decode cX10_put 203 = .ok (.invokestatic 92, 3) := by decide +kernel
theorem dX10_put_206 : decode cX10_put 206 = .ok (.iconst (-1), 1) := by decide +kernel
theorem dX10_put_207 : decode cX10_put 207 = .ok (.iastore, 1) := by decide +kernel
theorem dX10_put_208 : decode cX10_put 208 = .ok (.iinc 7 1, 3) := by decide +kernel
theorem dX10_put_211 : decode cX10_put 211 = .ok (.goto (-58), 3) := by decide +kernel
theorem dX10_put_214 : decode cX10_put 214 = .ok (.iload_n 1, 1) := by decide +kernel
theorem dX10_put_215 : decode cX10_put 215 = .ok (.ireturn, 1) := by decide +kernel
theorem dX10_lift_0 : decode cX10_lift 0 = .ok (.aload_n 0, 1) := by decide +kernel
theorem dX10_lift_1 : decode cX10_lift 1 = .ok (.iload_n 1, 1) := by decide +kernel
theorem dX10_lift_2 : decode cX10_lift 2 = .ok (.iconst 0, 1) := by decide +kernel
theorem dX10_lift_3 : decode cX10_lift 3 = .ok (.iconst 5, 1) := by decide +kernel
theorem dX10_lift_4 : decode cX10_lift 4 = .ok (.invokevirtual 96, 3) := by decide +kernel
theorem dX10_lift_7 : decode cX10_lift 7 = .ok (.ifCond .eq 5, 3) := by decide +kernel
theorem dX10_lift_10 : decode cX10_lift 10 = .ok (.iconst (-1), 1) := by decide +kernel
theorem dX10_lift_11 : decode cX10_lift 11 = .ok (.ireturn, 1) := by decide +kernel
theorem dX10_lift_12 : decode cX10_lift 12 = .ok (.aload_n 0, 1) := by decide +kernel
theorem dX10_lift_13 : decode cX10_lift 13 = .ok (.getfield 9, 3) := by decide +kernel
theorem dX10_lift_16 : decode cX10_lift 16 = .ok (.iload_n 1, 1) := by decide +kernel
theorem dX10_lift_17 : decode cX10_lift 17 = .ok (.iaload, 1) := by decide +kernel
theorem dX10_lift_18 : decode cX10_lift 18 = .ok (.istore_n 2, 1) := by decide +kernel
theorem dX10_lift_19 : decode cX10_lift 19 = .ok (.aload_n 0, 1) := by decide +kernel
theorem dX10_lift_20 : decode cX10_lift 20 = .ok (.getfield 9, 3) := by decide +kernel
theorem dX10_lift_23 : decode cX10_lift 23 = .ok (.iload_n 1, 1) := by decide +kernel
theorem dX10_lift_24 : decode cX10_lift 24 = .ok (.iconst (-1), 1) := by decide +kernel
theorem dX10_lift_25 : decode cX10_lift 25 = .ok (.iastore, 1) := by decide +kernel
theorem dX10_lift_26 : decode cX10_lift 26 = .ok (.iconst 0, 1) := by decide +kernel
theorem dX10_lift_27 : decode cX10_lift 27 = .ok (.istore_n 3, 1) := by decide +kernel
theorem dX10_lift_28 : decode cX10_lift 28 = .ok (.iload_n 3, 1) := by decide +kernel
theorem dX10_lift_29 : decode cX10_lift 29 = .ok (.aload_n 0, 1) := by decide +kernel
theorem dX10_lift_30 : decode cX10_lift 30 = .ok (.getfield 100, 3) := by decide +kernel
theorem dX10_lift_33 : decode cX10_lift 33 = .ok (.if_icmp .ge 26, 3) := by decide +kernel
theorem dX10_lift_36 : decode cX10_lift 36 = .ok (.aload_n 0, 1) := by decide +kernel
theorem dX10_lift_37 : decode cX10_lift 37 = .ok (.getfield 40, 3) := by decide +kernel
theorem dX10_lift_40 : decode cX10_lift 40 = .ok (.iload_n 3, 1) := by decide +kernel
theorem dX10_lift_41 : decode cX10_lift 41 = .ok (.iaload, 1) := by decide +kernel
theorem dX10_lift_42 : decode cX10_lift 42 = .ok (.iload_n 1, 1) := by decide +kernel
theorem dX10_lift_43 : decode cX10_lift 43 = .ok (.if_icmp .ne 10, 3) := by decide +kernel
theorem dX10_lift_46 : decode cX10_lift 46 = .ok (.aload_n 0, 1) := by decide +kernel
theorem dX10_lift_47 : decode cX10_lift 47 = .ok (.getfield 40, 3) := by decide +kernel
theorem dX10_lift_50 : decode cX10_lift 50 = .ok (.iload_n 3, 1) := by decide +kernel
theorem dX10_lift_51 : decode cX10_lift 51 = .ok (.iconst (-1), 1) := by decide +kernel
theorem dX10_lift_52 : decode cX10_lift 52 = .ok (.iastore, 1) := by decide +kernel
theorem dX10_lift_53 : decode cX10_lift 53 = .ok (.iinc 3 1, 3) := by decide +kernel
theorem dX10_lift_56 : decode cX10_lift 56 = .ok (.goto (-28), 3) := by decide +kernel
theorem dX10_lift_59 : decode cX10_lift 59 = .ok (.iload_n 2, 1) := by decide +kernel
theorem dX10_lift_60 : decode cX10_lift 60 = .ok (.ireturn, 1) := by decide +kernel
theorem dX10_look_0 : decode cX10_look 0 = .ok (.aload_n 0, 1) := by decide +kernel
theorem dX10_look_1 : decode cX10_look 1 = .ok (.iload_n 1, 1) := by decide +kernel
theorem dX10_look_2 : decode cX10_look 2 = .ok (.iconst 0, 1) := by decide +kernel
theorem dX10_look_3 : decode cX10_look 3 = .ok (.iconst 5, 1) := by decide +kernel
