theorem dX0_init_0 : decode cX0_init 0 = .ok (.aload_n 0, 1) := by decide +kernel
theorem dX0_init_1 : decode cX0_init 1 = .ok (.invokespecial 3, 3) := by decide +kernel
theorem dX0_init_4 : decode cX0_init 4 = .ok (.aload_n 0, 1) := by decide +kernel
theorem dX0_init_5 : decode cX0_init 5 = .ok (.bipush 16, 2) := by decide +kernel
theorem dX0_init_7 : decode cX0_init 7 = .ok (.bipush 56, 2) := by decide +kernel
theorem dX0_init_9 : decode cX0_init 9 = .ok (.multianewarray 9 2, 4) := by decide +kernel
theorem dX0_init_13 : decode cX0_init 13 = .ok (.putfield 11, 3) := by decide +kernel
theorem dX0_init_16 : decode cX0_init 16 = .ok (.aload_n 0, 1) := by decide +kernel
theorem dX0_init_17 : decode cX0_init 17 = .ok (.bipush 16, 2) := by decide +kernel
theorem dX0_init_19 : decode cX0_init 19 = .ok (.bipush 56, 2) := by decide +kernel
theorem dX0_init_21 : decode cX0_init 21 = .ok (.multianewarray 9 2, 4) := by decide +kernel
theorem dX0_init_25 : decode cX0_init 25 = .ok (.putfield 16, 3) := by decide +kernel
theorem dX0_init_28 : decode cX0_init 28 = .ok (.aload_n 0, 1) := by decide +kernel
theorem dX0_init_29 : decode cX0_init 29 = .ok (.bipush 16, 2) := by decide +kernel
theorem dX0_init_31 : decode cX0_init 31 = .ok (.bipush 56, 2) := by decide +kernel
theorem dX0_init_33 : decode cX0_init 33 = .ok (.multianewarray 9 2, 4) := by decide +kernel
theorem dX0_init_37 : decode cX0_init 37 = .ok (.putfield 19, 3) := by decide +kernel
theorem dX0_init_40 : decode cX0_init 40 = .ok (.aload_n 0, 1) := by decide +kernel
theorem dX0_init_41 : decode cX0_init 41 = .ok (.bipush 16, 2) := by decide +kernel
theorem dX0_init_43 : decode cX0_init 43 = .ok (.bipush 56, 2) := by decide +kernel
theorem dX0_init_45 : decode cX0_init 45 = .ok (.multianewarray 9 2, 4) := by decide +kernel
theorem dX0_init_49 : decode cX0_init 49 = .ok (.putfield 22, 3) := by decide +kernel
theorem dX0_init_52 : decode cX0_init 52 = .ok (.aload_n 0, 1) := by decide +kernel
theorem dX0_init_53 : decode cX0_init 53 = .ok (.bipush 56, 2) := by decide +kernel
theorem dX0_init_55 : decode cX0_init 55 = .ok (.newarray .int, 2) := by decide +kernel
theorem dX0_init_57 : decode cX0_init 57 = .ok (.putfield 25, 3) := by decide +kernel
theorem dX0_init_60 : decode cX0_init 60 = .ok (.aload_n 0, 1) := by decide +kernel
theorem dX0_init_61 : decode cX0_init 61 = .ok (.aload_n 1, 1) := by decide +kernel
theorem dX0_init_62 : decode cX0_init 62 = .ok (.putfield 29, 3) := by decide +kernel
theorem dX0_init_65 : decode cX0_init 65 = .ok (.iconst 0, 1) := by decide +kernel
theorem dX0_init_66 : decode cX0_init 66 = .ok (.istore_n 2, 1) := by decide +kernel
theorem dX0_init_67 : decode cX0_init 67 = .ok (.iload_n 2, 1) := by decide +kernel
theorem dX0_init_68 : decode cX0_init 68 = .ok (.bipush 16, 2) := by decide +kernel
theorem dX0_init_70 : decode cX0_init 70 = .ok (.if_icmp .ge 39, 3) := by decide +kernel
theorem dX0_init_73 : decode cX0_init 73 = .ok (.aload_n 0, 1) := by decide +kernel
theorem dX0_init_74 : decode cX0_init 74 = .ok (.getfield 11, 3) := by decide +kernel
theorem dX0_init_77 : decode cX0_init 77 = .ok (.iload_n 2, 1) := by decide +kernel
theorem dX0_init_78 : decode cX0_init 78 = .ok (.aaload, 1) := by decide +kernel
theorem dX0_init_79 : decode cX0_init 79 = .ok (.iconst (-1), 1) := by decide +kernel
theorem dX0_init_80 : decode cX0_init 80 = .ok (.invokestatic 33, 3) := by decide +kernel
theorem dX0_init_83 : decode cX0_init 83 = .ok (.aload_n 0, 1) := by decide +kernel
theorem dX0_init_84 : decode cX0_init 84 = .ok (.getfield 19, 3) := by decide +kernel
theorem dX0_init_87 : decode cX0_init 87 = .ok (.iload_n 2, 1) := by decide +kernel
theorem dX0_init_88 : decode cX0_init 88 = .ok (.aaload, 1) := by decide +kernel
theorem dX0_init_89 : decode cX0_init 89 = .ok (.iconst (-1), 1) := by decide +kernel
theorem dX0_init_90 : decode cX0_init 90 = .ok (.invokestatic 33, 3) := by decide +kernel
theorem dX0_init_93 : decode cX0_init 93 = .ok (.aload_n 0, 1) := by decide +kernel
theorem dX0_init_94 : decode cX0_init 94 = .ok (.getfield 22, 3) := by decide +kernel
theorem dX0_init_97 : decode cX0_init 97 = .ok (.iload_n 2, 1) := by decide +kernel
theorem dX0_init_98 : decode cX0_init 98 = .ok (.aaload, 1) := by decide +kernel
theorem dX0_init_99 : decode cX0_init 99 = .ok (.iconst (-1), 1) := by decide +kernel
theorem dX0_init_100 : decode cX0_init 100 = .ok (.invokestatic 33, 3) := by decide +kernel
theorem dX0_init_103 : decode cX0_init 103 = .ok (.iinc 2 1, 3) := by decide +kernel
theorem dX0_init_106 : decode cX0_init 106 = .ok (.goto (-39), 3) := by decide +kernel
theorem dX0_init_109 : decode cX0_init 109 = .ok (.return_, 1) := by decide +kernel
theorem dX0_doubtOf_0 : decode cX0_doubtOf 0 = .ok (.iload_n 1, 1) := by decide +kernel
theorem dX0_doubtOf_1 : decode cX0_doubtOf 1 = .ok (.invokestatic 39, 3) := by decide +kernel
theorem dX0_doubtOf_4 : decode cX0_doubtOf 4 = .ok (.ifCond .eq 21, 3) := by decide +kernel
theorem dX0_doubtOf_7 : decode cX0_doubtOf 7 = .ok (.iload_n 2, 1) := by decide +kernel
theorem dX0_doubtOf_8 : decode cX0_doubtOf 8 = .ok (.invokestatic 43, 3) := by decide +kernel
theorem dX0_doubtOf_11 : decode cX0_doubtOf 11 = .ok (.ifCond .eq 14, 3) := by decide +kernel
theorem dX0_doubtOf_14 : decode cX0_doubtOf 14 = .ok (.aload_n 0, 1) := by decide +kernel
theorem dX0_doubtOf_15 : decode cX0_doubtOf 15 = .ok (.getfield 16, 3) := by decide +kernel
theorem dX0_doubtOf_18 : decode cX0_doubtOf 18 = .ok (.iload_n 1, 1) := by decide +kernel
theorem dX0_doubtOf_19 : decode cX0_doubtOf 19 = .ok (.aaload, 1) := by decide +kernel
theorem dX0_doubtOf_20 : decode cX0_doubtOf 20 = .ok (.iload_n 2, 1) := by decide +kernel
theorem dX0_doubtOf_21 : decode cX0_doubtOf 21 = .ok (.iaload, 1) := by decide +kernel
theorem dX0_doubtOf_22 : decode cX0_doubtOf 22 = .ok (.goto 4, 3) := by decide +kernel
theorem dX0_doubtOf_25 : decode cX0_doubtOf 25 = .ok (.iconst 0, 1) := by decide +kernel
theorem dX0_doubtOf_26 : decode cX0_doubtOf 26 = .ok (.ireturn, 1) := by decide +kernel
theorem dX0_trustedOf_0 : decode cX0_trustedOf 0 = .ok (.iload_n 1, 1) := by decide +kernel
theorem dX0_trustedOf_1 : decode cX0_trustedOf 1 = .ok (.invokestatic 39, 3) := by decide +kernel
theorem dX0_trustedOf_4 : decode cX0_trustedOf 4 = .ok (.ifCond .eq 21, 3) := by decide +kernel
theorem dX0_trustedOf_7 : decode cX0_trustedOf 7 = .ok (.iload_n 2, 1) := by decide +kernel
theorem dX0_trustedOf_8 : decode cX0_trustedOf 8 = .ok (.invokestatic 43, 3) := by decide +kernel
theorem dX0_trustedOf_11 : decode cX0_trustedOf 11 = .ok (.ifCond .eq 14, 3) := by decide +kernel
theorem dX0_trustedOf_14 : decode cX0_trustedOf 14 = .ok (.aload_n 0, 1) := by decide +kernel
theorem dX0_trustedOf_15 : decode cX0_trustedOf 15 = .ok (.getfield 19, 3) := by decide +kernel
theorem dX0_trustedOf_18 : decode cX0_trustedOf 18 = .ok (.iload_n 1, 1) := by decide +kernel
theorem dX0_trustedOf_19 : decode cX0_trustedOf 19 = .ok (.aaload, 1) := by decide +kernel
theorem dX0_trustedOf_20 : decode cX0_trustedOf 20 = .ok (.iload_n 2, 1) := by decide +kernel
theorem dX0_trustedOf_21 : decode cX0_trustedOf 21 = .ok (.iaload, 1) := by decide +kernel
theorem dX0_trustedOf_22 : decode cX0_trustedOf 22 = .ok (.goto 4, 3) := by decide +kernel
theorem dX0_trustedOf_25 : decode cX0_trustedOf 25 = .ok (.iconst (-1), 1) := by decide +kernel
theorem dX0_trustedOf_26 : decode cX0_trustedOf 26 = .ok (.ireturn, 1) := by decide +kernel
theorem dX0_toldOf_0 : decode cX0_toldOf 0 = .ok (.iload_n 1, 1) := by decide +kernel
theorem dX0_toldOf_1 : decode cX0_toldOf 1 = .ok (.invokestatic 39, 3) := by decide +kernel
theorem dX0_toldOf_4 : decode cX0_toldOf 4 = .ok (.ifCond .eq 21, 3) := by decide +kernel
theorem dX0_toldOf_7 : decode cX0_toldOf 7 = .ok (.iload_n 2, 1) := by decide +kernel
theorem dX0_toldOf_8 : decode cX0_toldOf 8 = .ok (.invokestatic 43, 3) := by decide +kernel
theorem dX0_toldOf_11 : decode cX0_toldOf 11 = .ok (.ifCond .eq 14, 3) := by decide +kernel
theorem dX0_toldOf_14 : decode cX0_toldOf 14 = .ok (.aload_n 0, 1) := by decide +kernel
theorem dX0_toldOf_15 : decode cX0_toldOf 15 = .ok (.getfield 22, 3) := by decide +kernel
theorem dX0_toldOf_18 : decode cX0_toldOf 18 = .ok (.iload_n 1, 1) := by decide +kernel
theorem dX0_toldOf_19 : decode cX0_toldOf 19 = .ok (.aaload, 1) := by decide +kernel
theorem dX0_toldOf_20 : decode cX0_toldOf 20 = .ok (.iload_n 2, 1) := by decide +kernel
theorem dX0_toldOf_21 : decode cX0_toldOf 21 = .ok (.iaload, 1) := by decide +kernel
theorem dX0_toldOf_22 : decode cX0_toldOf 22 = .ok (.goto 4, 3) := by decide +kernel
theorem dX0_toldOf_25 : decode cX0_toldOf 25 = .ok (.iconst (-1), 1) := by decide +kernel
theorem dX0_toldOf_26 : decode cX0_toldOf 26 = .ok (.ireturn, 1) := by decide +kernel
theorem dX0_rewrite_0 : decode cX0_rewrite 0 = .ok (.aload_n 0, 1) := by decide +kernel
theorem dX0_rewrite_1 : decode cX0_rewrite 1 = .ok (.getfield 29, 3) := by decide +kernel
theorem dX0_rewrite_4 : decode cX0_rewrite 4 = .ok (.invokevirtual 46, 3) := by decide +kernel
theorem dX0_rewrite_7 : decode cX0_rewrite 7 = .ok (.istore_n 1, 1) := by decide +kernel
theorem dX0_rewrite_8 : decode cX0_rewrite 8 = .ok (.iconst 0, 1) := by decide +kernel
theorem dX0_rewrite_9 : decode cX0_rewrite 9 = .ok (.istore_n 2, 1) := by decide +kernel
theorem dX0_rewrite_10 : decode cX0_rewrite 10 = .ok (.iload_n 2, 1) := by decide +kernel
theorem dX0_rewrite_11 : decode cX0_rewrite 11 = .ok (.bipush 16, 2) := by decide +kernel
theorem dX0_rewrite_13 : decode cX0_rewrite 13 = .ok (.if_icmp .ge 41, 3) := by decide +kernel
theorem dX0_rewrite_16 : decode cX0_rewrite 16 = .ok (.iconst 0, 1) := by decide +kernel
theorem dX0_rewrite_17 : decode cX0_rewrite 17 = .ok (.istore_n 3, 1) := by decide +kernel
theorem dX0_rewrite_18 : decode cX0_rewrite 18 = .ok (.iload_n 3, 1) := by decide +kernel
theorem dX0_rewrite_19 : decode cX0_rewrite 19 = .ok (.iload_n 1, 1) := by decide +kernel
theorem dX0_rewrite_20 : decode cX0_rewrite 20 = .ok (.if_icmp .ge 28, 3) := by decide +kernel
theorem dX0_rewrite_23 : decode cX0_rewrite 23 = .ok (.aload_n 0, 1) := by decide +kernel
theorem dX0_rewrite_24 : decode cX0_rewrite 24 = .ok (.getfield 11, 3) := by decide +kernel
theorem dX0_rewrite_27 : decode cX0_rewrite 27 = .ok (.iload_n 2, 1) := by decide +kernel
theorem dX0_rewrite_28 : decode cX0_rewrite 28 = .ok (.aaload, 1) := by decide +kernel
theorem dX0_rewrite_29 : decode cX0_rewrite 29 = .ok (.iload_n 3, 1) := by decide +kernel
theorem dX0_rewrite_30 : decode cX0_rewrite 30 = .ok (.aload_n 0, 1) := by decide +kernel
theorem dX0_rewrite_31 : decode cX0_rewrite 31 = .ok (.getfield 29, 3) := by decide +kernel
theorem dX0_rewrite_34 : decode cX0_rewrite 34 = .ok (.iload_n 2, 1) := by decide +kernel
theorem dX0_rewrite_35 : decode cX0_rewrite 35 = .ok (.iload_n 3, 1) := by decide +kernel
theorem dX0_rewrite_36 : decode cX0_rewrite 36 = .ok (.bipush 56, 2) := by decide +kernel
theorem dX0_rewrite_38 : decode cX0_rewrite 38 = .ok (.invokevirtual 52, 3) := by decide +kernel
theorem dX0_rewrite_41 : decode cX0_rewrite 41 = .ok (.iastore, 1) := by decide +kernel
theorem dX0_rewrite_42 : decode cX0_rewrite 42 = .ok (.iinc 3 1, 3) := by decide +kernel
theorem dX0_rewrite_45 : decode cX0_rewrite 45 = .ok (.goto (-27), 3) := by decide +kernel
theorem dX0_rewrite_48 : decode cX0_rewrite 48 = .ok (.iinc 2 1, 3) := by decide +kernel
theorem dX0_rewrite_51 : decode cX0_rewrite 51 = .ok (.goto (-41), 3) := by decide +kernel
theorem dX0_rewrite_54 : decode cX0_rewrite 54 = .ok (.iconst 0, 1) := by decide +kernel
theorem dX0_rewrite_55 : decode cX0_rewrite 55 = .ok (.istore_n 2, 1) := by decide +kernel
theorem dX0_rewrite_56 : decode cX0_rewrite 56 = .ok (.iload_n 2, 1) := by decide +kernel
theorem dX0_rewrite_57 : decode cX0_rewrite 57 = .ok (.bipush 16, 2) := by decide +kernel
theorem dX0_rewrite_59 : decode cX0_rewrite 59 = .ok (.if_icmp .ge 28, 3) := by decide +kernel
theorem dX0_rewrite_62 : decode cX0_rewrite 62 = .ok (.iconst 0, 1) := by decide +kernel
theorem dX0_rewrite_63 : decode cX0_rewrite 63 = .ok (.istore_n 3, 1) := by decide +kernel
theorem dX0_rewrite_64 : decode cX0_rewrite 64 = .ok (.iload_n 3, 1) := by decide +kernel
theorem dX0_rewrite_65 : decode cX0_rewrite 65 = .ok (.iload_n 1, 1) := by decide +kernel
theorem dX0_rewrite_66 : decode cX0_rewrite 66 = .ok (.if_icmp .ge 15, 3) := by decide +kernel
theorem dX0_rewrite_69 : decode cX0_rewrite 69 = .ok (.aload_n 0, 1) := by decide +kernel
theorem dX0_rewrite_70 : decode cX0_rewrite 70 = .ok (.iload_n 2, 1) := by decide +kernel
theorem dX0_rewrite_71 : decode cX0_rewrite 71 = .ok (.iload_n 3, 1) := by decide +kernel
theorem dX0_rewrite_72 : decode cX0_rewrite 72 = .ok (.invokevirtual 56, 3) := by decide +kernel
theorem dX0_rewrite_75 : decode cX0_rewrite 75 = .ok (.iinc 3 1, 3) := by decide +kernel
theorem dX0_rewrite_78 : decode cX0_rewrite 78 = .ok (.goto (-14), 3) := by decide +kernel
theorem dX0_rewrite_81 : decode cX0_rewrite 81 = .ok (.iinc 2 1, 3) := by decide +kernel
theorem dX0_rewrite_84 : decode cX0_rewrite 84 = .ok (.goto (-28), 3) := by decide +kernel
theorem dX0_rewrite_87 : decode cX0_rewrite 87 = .ok (.iconst 0, 1) := by decide +kernel
theorem dX0_rewrite_88 : decode cX0_rewrite 88 = .ok (.istore_n 2, 1) := by decide +kernel
theorem dX0_rewrite_89 : decode cX0_rewrite 89 = .ok (.iload_n 2, 1) := by decide +kernel
theorem dX0_rewrite_90 : decode cX0_rewrite 90 = .ok (.bipush 16, 2) := by decide +kernel
theorem dX0_rewrite_92 : decode cX0_rewrite 92 = .ok (.if_icmp .ge 31, 3) := by decide +kernel
theorem dX0_rewrite_95 : decode cX0_rewrite 95 = .ok (.aload_n 0, 1) := by decide +kernel
theorem dX0_rewrite_96 : decode cX0_rewrite 96 = .ok (.getfield 29, 3) := by decide +kernel
theorem dX0_rewrite_99 : decode cX0_rewrite 99 = .ok (.getfield 60, 3) := by decide +kernel
theorem dX0_rewrite_102 : decode cX0_rewrite 102 = .ok (.iload_n 2, 1) := by decide +kernel
theorem dX0_rewrite_103 : decode cX0_rewrite 103 = .ok (.aaload, 1) := by decide +kernel
theorem dX0_rewrite_104 : decode cX0_rewrite 104 = .ok (.getfield 64, 3) := by decide +kernel
theorem dX0_rewrite_107 : decode cX0_rewrite 107 = .ok (.iconst 3, 1) := by decide +kernel
theorem dX0_rewrite_108 : decode cX0_rewrite 108 = .ok (.if_icmp .ne 9, 3) := by decide +kernel
theorem dX0_rewrite_111 : decode cX0_rewrite 111 = .ok (.aload_n 0, 1) := by decide +kernel
theorem dX0_rewrite_112 : decode cX0_rewrite 112 = .ok (.iload_n 2, 1) := by decide +kernel
theorem dX0_rewrite_113 : decode cX0_rewrite 113 = .ok (.iload_n 1, 1) := by decide +kernel
theorem dX0_rewrite_114 : decode cX0_rewrite 114 = .ok (.invokevirtual 70, 3) := by decide +kernel
theorem dX0_rewrite_117 : decode cX0_rewrite 117 = .ok (.iinc 2 1, 3) := by decide +kernel
theorem dX0_rewrite_120 : decode cX0_rewrite 120 = .ok (.goto (-31), 3) := by decide +kernel
theorem dX0_rewrite_123 : decode cX0_rewrite 123 = .ok (.aload_n 0, 1) := by decide +kernel
theorem dX0_rewrite_124 : decode cX0_rewrite 124 = .ok (.aload_n 0, 1) := by decide +kernel
theorem dX0_rewrite_125 : decode cX0_rewrite 125 = .ok (.getfield 29, 3) := by decide +kernel
theorem dX0_rewrite_128 : decode cX0_rewrite 128 = .ok (.getfield 73, 3) := by decide +kernel
theorem dX0_rewrite_131 : decode cX0_rewrite 131 = .ok (.putfield 76, 3) := by decide +kernel
theorem dX0_rewrite_134 : decode cX0_rewrite 134 = .ok (.return_, 1) := by decide +kernel
theorem dX0_writeTrust_0 : decode cX0_writeTrust 0 = .ok (.aload_n 0, 1) := by decide +kernel
theorem dX0_writeTrust_1 : decode cX0_writeTrust 1 = .ok (.iload_n 1, 1) := by decide +kernel
theorem dX0_writeTrust_2 : decode cX0_writeTrust 2 = .ok (.iload_n 2, 1) := by decide +kernel
theorem dX0_writeTrust_3 : decode cX0_writeTrust 3 = .ok (.invokevirtual 79, 3) := by decide +kernel
theorem dX0_writeTrust_6 : decode cX0_writeTrust 6 = .ok (.istore_n 3, 1) := by decide +kernel
theorem dX0_writeTrust_7 : decode cX0_writeTrust 7 = .ok (.iload_n 3, 1) := by decide +kernel
theorem dX0_writeTrust_8 : decode cX0_writeTrust 8 = .ok (.ifCond .ne 14, 3) := by decide +kernel
theorem dX0_writeTrust_11 : decode cX0_writeTrust 11 = .ok (.aload_n 0, 1) := by decide +kernel
theorem dX0_writeTrust_12 : decode cX0_writeTrust 12 = .ok (.getfield 11, 3) := by decide +kernel
theorem dX0_writeTrust_15 : decode cX0_writeTrust 15 = .ok (.iload_n 1, 1) := by decide +kernel
theorem dX0_writeTrust_16 : decode cX0_writeTrust 16 = .ok (.aaload, 1) := by decide +kernel
theorem dX0_writeTrust_17 : decode cX0_writeTrust 17 = .ok (.iload_n 2, 1) := by decide +kernel
theorem dX0_writeTrust_18 : decode cX0_writeTrust 18 = .ok (.iaload, 1) := by decide +kernel
theorem dX0_writeTrust_19 : decode cX0_writeTrust 19 = .ok (.goto 4, 3) := by decide +kernel
theorem dX0_writeTrust_22 : decode cX0_writeTrust 22 = .ok (.iconst (-1), 1) := by decide +kernel
theorem dX0_writeTrust_23 : decode cX0_writeTrust 23 = .ok (.istore 4, 2) := by decide +kernel
theorem dX0_writeTrust_25 : decode cX0_writeTrust 25 = .ok (.aload_n 0, 1) := by decide +kernel
theorem dX0_writeTrust_26 : decode cX0_writeTrust 26 = .ok (.getfield 16, 3) := by decide +kernel
theorem dX0_writeTrust_29 : decode cX0_writeTrust 29 = .ok (.iload_n 1, 1) := by decide +kernel
theorem dX0_writeTrust_30 : decode cX0_writeTrust 30 = .ok (.aaload, 1) := by decide +kernel
theorem dX0_writeTrust_31 : decode cX0_writeTrust 31 = .ok (.iload_n 2, 1) := by decide +kernel
theorem dX0_writeTrust_32 : decode cX0_writeTrust 32 = .ok (.iload_n 3, 1) := by decide +kernel
theorem dX0_writeTrust_33 : decode cX0_writeTrust 33 = .ok (.iastore, 1) := by decide +kernel
theorem dX0_writeTrust_34 : decode cX0_writeTrust 34 = .ok (.aload_n 0, 1) := by decide +kernel
theorem dX0_writeTrust_35 : decode cX0_writeTrust 35 = .ok (.getfield 19, 3) := by decide +kernel
theorem dX0_writeTrust_38 : decode cX0_writeTrust 38 = .ok (.iload_n 1, 1) := by decide +kernel
theorem dX0_writeTrust_39 : decode cX0_writeTrust 39 = .ok (.aaload, 1) := by decide +kernel
theorem dX0_writeTrust_40 : decode cX0_writeTrust 40 = .ok (.iload_n 2, 1) := by decide +kernel
theorem dX0_writeTrust_41 : decode cX0_writeTrust 41 = .ok (.iload 4, 2) := by decide +kernel
theorem dX0_writeTrust_43 : decode cX0_writeTrust 43 = .ok (.iastore, 1) := by decide +kernel
theorem dX0_writeTrust_44 : decode cX0_writeTrust 44 = .ok (.aload_n 0, 1) := by decide +kernel
theorem dX0_writeTrust_45 : decode cX0_writeTrust 45 = .ok (.getfield 22, 3) := by decide +kernel
theorem dX0_writeTrust_48 : decode cX0_writeTrust 48 = .ok (.iload_n 1, 1) := by decide +kernel
theorem dX0_writeTrust_49 : decode cX0_writeTrust 49 = .ok (.aaload, 1) := by decide +kernel
theorem dX0_writeTrust_50 : decode cX0_writeTrust 50 = .ok (.iload_n 2, 1) := by decide +kernel
theorem dX0_writeTrust_51 : decode cX0_writeTrust 51 = .ok (.iload 4, 2) := by decide +kernel
theorem dX0_writeTrust_53 : decode cX0_writeTrust 53 = .ok (.iastore, 1) := by decide +kernel
theorem dX0_writeTrust_54 : decode cX0_writeTrust 54 = .ok (.return_, 1) := by decide +kernel
theorem dX0_doubtingRule_0 : decode cX0_doubtingRule 0 = .ok (.aload_n 0, 1) := by decide +kernel
theorem dX0_doubtingRule_1 : decode cX0_doubtingRule 1 = .ok (.getfield 11, 3) := by decide +kernel
theorem dX0_doubtingRule_4 : decode cX0_doubtingRule 4 = .ok (.iload_n 1, 1) := by decide +kernel
theorem dX0_doubtingRule_5 : decode cX0_doubtingRule 5 = .ok (.aaload, 1) := by decide +kernel
theorem dX0_doubtingRule_6 : decode cX0_doubtingRule 6 = .ok (.iload_n 2, 1) := by decide +kernel
theorem dX0_doubtingRule_7 : decode cX0_doubtingRule 7 = .ok (.iaload, 1) := by decide +kernel
theorem dX0_doubtingRule_8 : decode cX0_doubtingRule 8 = .ok (.istore_n 3, 1) := by decide +kernel
theorem dX0_doubtingRule_9 : decode cX0_doubtingRule 9 = .ok (.iload_n 3, 1) := by decide +kernel
theorem dX0_doubtingRule_10 : decode cX0_doubtingRule 10 = .ok (.iconst (-1), 1) := by decide +kernel
theorem dX0_doubtingRule_11 : decode cX0_doubtingRule 11 = .ok (.if_icmp .ne 5, 3) := by decide +kernel
theorem dX0_doubtingRule_14 : decode cX0_doubtingRule 14 = .ok (.iconst 0, 1) := by decide +kernel
theorem dX0_doubtingRule_15 : decode cX0_doubtingRule 15 = .ok (.ireturn, 1) := by decide +kernel
theorem dX0_doubtingRule_16 : decode cX0_doubtingRule 16 = .ok (.iload_n 3, 1) := by decide +kernel
theorem dX0_doubtingRule_17 : decode cX0_doubtingRule 17 = .ok (.aload_n 0, 1) := by decide +kernel
theorem dX0_doubtingRule_18 : decode cX0_doubtingRule 18 = .ok (.getfield 29, 3) := by decide +kernel
theorem dX0_doubtingRule_21 : decode cX0_doubtingRule 21 = .ok (.iconst 0, 1) := by decide +kernel
theorem dX0_doubtingRule_22 : decode cX0_doubtingRule 22 = .ok (.invokevirtual 83, 3) := by decide +kernel
theorem dX0_doubtingRule_25 : decode cX0_doubtingRule 25 = .ok (.if_icmp .le 5, 3) := by decide +kernel
theorem dX0_doubtingRule_28 : decode cX0_doubtingRule 28 = .ok (.iconst 1, 1) := by decide +kernel
theorem dX0_doubtingRule_29 : decode cX0_doubtingRule 29 = .ok (.ireturn, 1) := by decide +kernel
theorem dX0_doubtingRule_30 : decode cX0_doubtingRule 30 = .ok (.iload_n 3, 1) := by decide +kernel
theorem dX0_doubtingRule_31 : decode cX0_doubtingRule 31 = .ok (.ifCond .ne 14, 3) := by decide +kernel
theorem dX0_doubtingRule_34 : decode cX0_doubtingRule 34 = .ok (.aload_n 0, 1) := by decide +kernel
theorem dX0_doubtingRule_35 : decode cX0_doubtingRule 35 = .ok (.iload_n 1, 1) := by decide +kernel
theorem dX0_doubtingRule_36 : decode cX0_doubtingRule 36 = .ok (.iload_n 2, 1) := by decide +kernel
theorem dX0_doubtingRule_37 : decode cX0_doubtingRule 37 = .ok (.invokevirtual 87, 3) := by decide +kernel
theorem dX0_doubtingRule_40 : decode cX0_doubtingRule 40 = .ok (.ifCond .eq 5, 3) := by decide +kernel
theorem dX0_doubtingRule_43 : decode cX0_doubtingRule 43 = .ok (.iconst 2, 1) := by decide +kernel
theorem dX0_doubtingRule_44 : decode cX0_doubtingRule 44 = .ok (.ireturn, 1) := by decide +kernel
theorem dX0_doubtingRule_45 : decode cX0_doubtingRule 45 = .ok (.aload_n 0, 1) := by decide +kernel
theorem dX0_doubtingRule_46 : decode cX0_doubtingRule 46 = .ok (.getfield 29, 3) := by decide +kernel
theorem dX0_doubtingRule_49 : decode cX0_doubtingRule 49 = .ok (.getfield 60, 3) := by decide +kernel
theorem dX0_doubtingRule_52 : decode cX0_doubtingRule 52 = .ok (.iload_n 1, 1) := by decide +kernel
theorem dX0_doubtingRule_53 : decode cX0_doubtingRule 53 = .ok (.aaload, 1) := by decide +kernel
theorem dX0_doubtingRule_54 : decode cX0_doubtingRule 54 = .ok (.iload_n 2, 1) := by decide +kernel
theorem dX0_doubtingRule_55 : decode cX0_doubtingRule 55 = .ok (.aload_n 0, 1) := by decide +kernel
theorem dX0_doubtingRule_56 : decode cX0_doubtingRule 56 = .ok (.getfield 29, 3) := by decide +kernel
theorem dX0_doubtingRule_59 : decode cX0_doubtingRule 59 = .ok (.iconst 3, 1) := by decide +kernel
theorem dX0_doubtingRule_60 : decode cX0_doubtingRule 60 = .ok (.invokevirtual 83, 3) := by decide +kernel
theorem dX0_doubtingRule_63 : decode cX0_doubtingRule 63 = .ok (.invokevirtual 91, 3) := by decide +kernel
theorem dX0_doubtingRule_66 : decode cX0_doubtingRule 66 = .ok (.ifCond .eq 7, 3) := by decide +kernel
theorem dX0_doubtingRule_69 : decode cX0_doubtingRule 69 = .ok (.iconst 3, 1) := by decide +kernel
theorem dX0_doubtingRule_70 : decode cX0_doubtingRule 70 = .ok (.goto 4, 3) := by decide +kernel
theorem dX0_doubtingRule_73 : decode cX0_doubtingRule 73 = .ok (.iconst 0, 1) := by decide +kernel
theorem dX0_doubtingRule_74 : decode cX0_doubtingRule 74 = .ok (.ireturn, 1) := by decide +kernel
theorem dX0_isDryAmongWet_0 : decode cX0_isDryAmongWet 0 = .ok (.aload_n 0, 1) := by decide +kernel
theorem dX0_isDryAmongWet_1 : decode cX0_isDryAmongWet 1 = .ok (.getfield 29, 3) := by decide +kernel
theorem dX0_isDryAmongWet_4 : decode cX0_isDryAmongWet 4 = .ok (.getfield 60, 3) := by decide +kernel
theorem dX0_isDryAmongWet_7 : decode cX0_isDryAmongWet 7 = .ok (.iload_n 1, 1) := by decide +kernel
theorem dX0_isDryAmongWet_8 : decode cX0_isDryAmongWet 8 = .ok (.aaload, 1) := by decide +kernel
theorem dX0_isDryAmongWet_9 : decode cX0_isDryAmongWet 9 = .ok (.astore_n 3, 1) := by decide +kernel
theorem dX0_isDryAmongWet_10 : decode cX0_isDryAmongWet 10 = .ok (.aload_n 0, 1) := by decide +kernel
theorem dX0_isDryAmongWet_11 : decode cX0_isDryAmongWet 11 = .ok (.getfield 29, 3) := by decide +kernel
theorem dX0_isDryAmongWet_14 : decode cX0_isDryAmongWet 14 = .ok (.iconst 1, 1) := by decide +kernel
theorem dX0_isDryAmongWet_15 : decode cX0_isDryAmongWet 15 = .ok (.invokevirtual 83, 3) := by decide +kernel
theorem dX0_isDryAmongWet_18 : decode cX0_isDryAmongWet 18 = .ok (.istore 4, 2) := by decide +kernel
theorem dX0_isDryAmongWet_20 : decode cX0_isDryAmongWet 20 = .ok (.aload_n 0, 1) := by decide +kernel
theorem dX0_isDryAmongWet_21 : decode cX0_isDryAmongWet 21 = .ok (.getfield 29, 3) := by decide +kernel
theorem dX0_isDryAmongWet_24 : decode cX0_isDryAmongWet 24 = .ok (.iconst 2, 1) := by decide +kernel
theorem dX0_isDryAmongWet_25 : decode cX0_isDryAmongWet 25 = .ok (.invokevirtual 83, 3) := by decide +kernel
theorem dX0_isDryAmongWet_28 : decode cX0_isDryAmongWet 28 = .ok (.istore 5, 2) := by decide +kernel
theorem dX0_isDryAmongWet_30 : decode cX0_isDryAmongWet 30 = .ok (.iconst 0, 1) := by decide +kernel
theorem dX0_isDryAmongWet_31 : decode cX0_isDryAmongWet 31 = .ok (.istore 6, 2) := by decide +kernel
theorem dX0_isDryAmongWet_33 : decode cX0_isDryAmongWet 33 = .ok (.iconst 0, 1) := by decide +kernel
theorem dX0_isDryAmongWet_34 : decode cX0_isDryAmongWet 34 = .ok (.istore 7, 2) := by decide +kernel
theorem dX0_isDryAmongWet_36 : decode cX0_isDryAmongWet 36 = .ok (.iload 7, 2) := by decide +kernel
theorem dX0_isDryAmongWet_38 : decode cX0_isDryAmongWet 38 = .ok (.bipush 16, 2) := by decide +kernel
theorem dX0_isDryAmongWet_40 : decode cX0_isDryAmongWet 40 = .ok (.if_icmp .ge 76, 3) := by decide +kernel
theorem dX0_isDryAmongWet_43 : decode cX0_isDryAmongWet 43 = .ok (.iload 7, 2) := by decide +kernel
theorem dX0_isDryAmongWet_45 : decode cX0_isDryAmongWet 45 = .ok (.iload_n 1, 1) := by decide +kernel
theorem dX0_isDryAmongWet_46 : decode cX0_isDryAmongWet 46 = .ok (.if_icmp .eq 64, 3) := by decide +kernel
theorem dX0_isDryAmongWet_49 : decode cX0_isDryAmongWet 49 = .ok (.aload_n 0, 1) := by decide +kernel
theorem dX0_isDryAmongWet_50 : decode cX0_isDryAmongWet 50 = .ok (.getfield 11, 3) := by decide +kernel
theorem dX0_isDryAmongWet_53 : decode cX0_isDryAmongWet 53 = .ok (.iload 7, 2) := by decide +kernel
theorem dX0_isDryAmongWet_55 : decode cX0_isDryAmongWet 55 = .ok (.aaload, 1) := by decide +kernel
theorem dX0_isDryAmongWet_56 : decode cX0_isDryAmongWet 56 = .ok (.iload_n 2, 1) := by decide +kernel
theorem dX0_isDryAmongWet_57 : decode cX0_isDryAmongWet 57 = .ok (.iaload, 1) := by decide +kernel
theorem dX0_isDryAmongWet_58 : decode cX0_isDryAmongWet 58 = .ok (.iconst (-1), 1) := by decide +kernel
theorem dX0_isDryAmongWet_59 : decode cX0_isDryAmongWet 59 = .ok (.if_icmp .eq 51, 3) := by decide +kernel
theorem dX0_isDryAmongWet_62 : decode cX0_isDryAmongWet 62 = .ok (.aload_n 3, 1) := by decide +kernel
theorem dX0_isDryAmongWet_63 : decode cX0_isDryAmongWet 63 = .ok (.getfield 94, 3) := by decide +kernel
theorem dX0_isDryAmongWet_66 : decode cX0_isDryAmongWet 66 = .ok (.aload_n 3, 1) := by decide +kernel
theorem dX0_isDryAmongWet_67 : decode cX0_isDryAmongWet 67 = .ok (.getfield 97, 3) := by decide +kernel
theorem dX0_isDryAmongWet_70 : decode cX0_isDryAmongWet 70 = .ok (.aload_n 0, 1) := by decide +kernel
theorem dX0_isDryAmongWet_71 : decode cX0_isDryAmongWet 71 = .ok (.getfield 29, 3) := by decide +kernel
theorem dX0_isDryAmongWet_74 : decode cX0_isDryAmongWet 74 = .ok (.getfield 60, 3) := by decide +kernel
theorem dX0_isDryAmongWet_77 : decode cX0_isDryAmongWet 77 = .ok (.iload 7, 2) := by decide +kernel
theorem dX0_isDryAmongWet_79 : decode cX0_isDryAmongWet 79 = .ok (.aaload, 1) := by decide +kernel
theorem dX0_isDryAmongWet_80 : decode cX0_isDryAmongWet 80 = .ok (.invokestatic 100, 3) := by decide +kernel
theorem dX0_isDryAmongWet_83 : decode cX0_isDryAmongWet 83 = .ok (.iload 4, 2) := by decide +kernel
theorem dX0_isDryAmongWet_85 : decode cX0_isDryAmongWet 85 = .ok (.if_icmp .le 6, 3) := by decide +kernel
theorem dX0_isDryAmongWet_88 : decode cX0_isDryAmongWet 88 = .ok (.goto 22, 3) := by decide +kernel
theorem dX0_isDryAmongWet_91 : decode cX0_isDryAmongWet 91 = .ok (.aload_n 0, 1) := by decide +kernel
theorem dX0_isDryAmongWet_92 : decode cX0_isDryAmongWet 92 = .ok (.getfield 11, 3) := by decide +kernel
theorem dX0_isDryAmongWet_95 : decode cX0_isDryAmongWet 95 = .ok (.iload 7, 2) := by decide +kernel
theorem dX0_isDryAmongWet_97 : decode cX0_isDryAmongWet 97 = .ok (.aaload, 1) := by decide +kernel
theorem dX0_isDryAmongWet_98 : decode cX0_isDryAmongWet 98 = .ok (.iload_n 2, 1) := by decide +kernel
theorem dX0_isDryAmongWet_99 : decode cX0_isDryAmongWet 99 = .ok (.iaload, 1) := by decide +kernel
theorem dX0_isDryAmongWet_100 : decode cX0_isDryAmongWet 100 = .ok (.iload 5, 2) := by decide +kernel
theorem dX0_isDryAmongWet_102 : decode cX0_isDryAmongWet 102 = .ok (.if_icmp .ge 5, 3) := by decide +kernel
theorem dX0_isDryAmongWet_105 : decode cX0_isDryAmongWet 105 = .ok (.iconst 0, 1) := by decide +kernel
theorem dX0_isDryAmongWet_106 : decode cX0_isDryAmongWet 106 = .ok (.ireturn, 1) := by decide +kernel
theorem dX0_isDryAmongWet_107 : decode cX0_isDryAmongWet 107 = .ok (.iinc 6 1, 3) := by decide +kernel
theorem dX0_isDryAmongWet_110 : decode cX0_isDryAmongWet 110 = .ok (.iinc 7 1, 3) := by decide +kernel
theorem dX0_isDryAmongWet_113 : decode cX0_isDryAmongWet 113 = .ok (.goto (-77), 3) := by decide +kernel
theorem dX0_isDryAmongWet_116 : decode cX0_isDryAmongWet 116 = .ok (.iload 6, 2) := by decide +kernel
theorem dX0_isDryAmongWet_118 : decode cX0_isDryAmongWet 118 = .ok (.iconst 2, 1) := by decide +kernel
theorem dX0_isDryAmongWet_119 : decode cX0_isDryAmongWet 119 = .ok (.if_icmp .lt 7, 3) := by decide +kernel
theorem dX0_isDryAmongWet_122 : decode cX0_isDryAmongWet 122 = .ok (.iconst 1, 1) := by decide +kernel
theorem dX0_isDryAmongWet_123 : decode cX0_isDryAmongWet 123 = .ok (.goto 4, 3) := by decide +kernel
theorem dX0_isDryAmongWet_126 : decode cX0_isDryAmongWet 126 = .ok (.iconst 0, 1) := by decide +kernel
theorem dX0_isDryAmongWet_127 : decode cX0_isDryAmongWet 127 = .ok (.ireturn, 1) := by decide +kernel
theorem dX0_writeSpread_0 : decode cX0_writeSpread 0 = .ok (.aload_n 0, 1) := by decide +kernel
theorem dX0_writeSpread_1 : decode cX0_writeSpread 1 = .ok (.getfield 29, 3) := by decide +kernel
theorem dX0_writeSpread_4 : decode cX0_writeSpread 4 = .ok (.getfield 60, 3) := by decide +kernel
theorem dX0_writeSpread_7 : decode cX0_writeSpread 7 = .ok (.iload_n 1, 1) := by decide +kernel
theorem dX0_writeSpread_8 : decode cX0_writeSpread 8 = .ok (.aaload, 1) := by decide +kernel
theorem dX0_writeSpread_9 : decode cX0_writeSpread 9 = .ok (.astore_n 3, 1) := by decide +kernel
theorem dX0_writeSpread_10 : decode cX0_writeSpread 10 = .ok (.aload_n 3, 1) := by decide +kernel
theorem dX0_writeSpread_11 : decode cX0_writeSpread 11 = .ok (.getfield 104, 3) := by decide +kernel
theorem dX0_writeSpread_14 : decode cX0_writeSpread 14 = .ok (.istore 4, 2) := by decide +kernel
theorem dX0_writeSpread_16 : decode cX0_writeSpread 16 = .ok (.aload_n 3, 1) := by decide +kernel
theorem dX0_writeSpread_17 : decode cX0_writeSpread 17 = .ok (.getfield 104, 3) := by decide +kernel
theorem dX0_writeSpread_20 : decode cX0_writeSpread 20 = .ok (.istore 5, 2) := by decide +kernel
theorem dX0_writeSpread_22 : decode cX0_writeSpread 22 = .ok (.iload 5, 2) := by decide +kernel
theorem dX0_writeSpread_24 : decode cX0_writeSpread 24 = .ok (.ifCond .lt 41, 3) := by decide +kernel
theorem dX0_writeSpread_27 : decode cX0_writeSpread 27 = .ok (.iload 5, 2) := by decide +kernel
theorem dX0_writeSpread_29 : decode cX0_writeSpread 29 = .ok (.iload_n 2, 1) := by decide +kernel
theorem dX0_writeSpread_30 : decode cX0_writeSpread 30 = .ok (.if_icmp .ge 35, 3) := by decide +kernel
theorem dX0_writeSpread_33 : decode cX0_writeSpread 33 = .ok (.aload_n 3, 1) := by decide +kernel
theorem dX0_writeSpread_34 : decode cX0_writeSpread 34 = .ok (.getfield 107, 3) := by decide +kernel
theorem dX0_writeSpread_37 : decode cX0_writeSpread 37 = .ok (.iload 5, 2) := by decide +kernel
theorem dX0_writeSpread_39 : decode cX0_writeSpread 39 = .ok (.iaload, 1) := by decide +kernel
theorem dX0_writeSpread_40 : decode cX0_writeSpread 40 = .ok (.iconst (-1), 1) := by decide +kernel
theorem dX0_writeSpread_41 : decode cX0_writeSpread 41 = .ok (.if_icmp .eq 18, 3) := by decide +kernel
theorem dX0_writeSpread_44 : decode cX0_writeSpread 44 = .ok (.aload_n 0, 1) := by decide +kernel
theorem dX0_writeSpread_45 : decode cX0_writeSpread 45 = .ok (.iload_n 1, 1) := by decide +kernel
theorem dX0_writeSpread_46 : decode cX0_writeSpread 46 = .ok (.iload 4, 2) := by decide +kernel
theorem dX0_writeSpread_48 : decode cX0_writeSpread 48 = .ok (.iload 5, 2) := by decide +kernel
theorem dX0_writeSpread_50 : decode cX0_writeSpread 50 = .ok (.invokevirtual 110, 3) := by decide +kernel
theorem dX0_writeSpread_53 : decode cX0_writeSpread 53 = .ok (.iload 5, 2) := by decide +kernel
theorem dX0_writeSpread_55 : decode cX0_writeSpread 55 = .ok (.iconst 1, 1) := by decide +kernel
theorem dX0_writeSpread_56 : decode cX0_writeSpread 56 = .ok (.iadd, 1) := by decide +kernel
theorem dX0_writeSpread_57 : decode cX0_writeSpread 57 = .ok (.istore 4, 2) := by decide +kernel
theorem dX0_writeSpread_59 : decode cX0_writeSpread 59 = .ok (.iinc 5 1, 3) := by decide +kernel
theorem dX0_writeSpread_62 : decode cX0_writeSpread 62 = .ok (.goto (-40), 3) := by decide +kernel
theorem dX0_writeSpread_65 : decode cX0_writeSpread 65 = .ok (.return_, 1) := by decide +kernel
theorem dX0_spread_0 : decode cX0_spread 0 = .ok (.aload_n 0, 1) := by decide +kernel
theorem dX0_spread_1 : decode cX0_spread 1 = .ok (.getfield 29, 3) := by decide +kernel
theorem dX0_spread_4 : decode cX0_spread 4 = .ok (.getfield 60, 3) := by decide +kernel
theorem dX0_spread_7 : decode cX0_spread 7 = .ok (.iload_n 1, 1) := by decide +kernel
theorem dX0_spread_8 : decode cX0_spread 8 = .ok (.aaload, 1) := by decide +kernel
theorem dX0_spread_9 : decode cX0_spread 9 = .ok (.getfield 107, 3) := by decide +kernel
theorem dX0_spread_12 : decode cX0_spread 12 = .ok (.iload_n 3, 1) := by decide +kernel
theorem dX0_spread_13 : decode cX0_spread 13 = .ok (.iaload, 1) := by decide +kernel
theorem dX0_spread_14 : decode cX0_spread 14 = .ok (.istore 4, 2) := by decide +kernel
theorem dX0_spread_16 : decode cX0_spread 16 = .ok (.aload_n 0, 1) := by decide +kernel
theorem dX0_spread_17 : decode cX0_spread 17 = .ok (.iload_n 1, 1) := by decide +kernel
theorem dX0_spread_18 : decode cX0_spread 18 = .ok (.iload_n 2, 1) := by decide +kernel
theorem dX0_spread_19 : decode cX0_spread 19 = .ok (.iload_n 3, 1) := by decide +kernel
theorem dX0_spread_20 : decode cX0_spread 20 = .ok (.invokevirtual 114, 3) := by decide +kernel
theorem dX0_spread_23 : decode cX0_spread 23 = .ok (.istore 5, 2) := by decide +kernel
theorem dX0_spread_25 : decode cX0_spread 25 = .ok (.iload 5, 2) := by decide +kernel
theorem dX0_spread_27 : decode cX0_spread 27 = .ok (.iconst (-1), 1) := by decide +kernel
theorem dX0_spread_28 : decode cX0_spread 28 = .ok (.if_icmp .ne 7, 3) := by decide +kernel
theorem dX0_spread_31 : decode cX0_spread 31 = .ok (.iconst 0, 1) := by decide +kernel
theorem dX0_spread_32 : decode cX0_spread 32 = .ok (.goto 11, 3) := by decide +kernel
theorem dX0_spread_35 : decode cX0_spread 35 = .ok (.aload_n 0, 1) := by decide +kernel
theorem dX0_spread_36 : decode cX0_spread 36 = .ok (.iload 5, 2) := by decide +kernel
theorem dX0_spread_38 : decode cX0_spread 38 = .ok (.iload_n 2, 1) := by decide +kernel
theorem dX0_spread_39 : decode cX0_spread 39 = .ok (.iload_n 3, 1) := by decide +kernel
theorem dX0_spread_40 : decode cX0_spread 40 = .ok (.invokevirtual 117, 3) := by decide +kernel
theorem dX0_spread_43 : decode cX0_spread 43 = .ok (.istore 6, 2) := by decide +kernel
theorem dX0_spread_45 : decode cX0_spread 45 = .ok (.iload 5, 2) := by decide +kernel
theorem dX0_spread_47 : decode cX0_spread 47 = .ok (.iconst (-1), 1) := by decide +kernel
theorem dX0_spread_48 : decode cX0_spread 48 = .ok (.if_icmp .eq 8, 3) := by decide +kernel
theorem dX0_spread_51 : decode cX0_spread 51 = .ok (.iload 6, 2) := by decide +kernel
theorem dX0_spread_53 : decode cX0_spread 53 = .ok (.ifCond .gt 40, 3) := by decide +kernel
theorem dX0_spread_56 : decode cX0_spread 56 = .ok (.iload_n 2, 1) := by decide +kernel
theorem dX0_spread_57 : decode cX0_spread 57 = .ok (.istore 7, 2) := by decide +kernel
theorem dX0_spread_59 : decode cX0_spread 59 = .ok (.iload 7, 2) := by decide +kernel
theorem dX0_spread_61 : decode cX0_spread 61 = .ok (.iload_n 3, 1) := by decide +kernel
theorem dX0_spread_62 : decode cX0_spread 62 = .ok (.if_icmp .gt 30, 3) := by decide +kernel
theorem dX0_spread_65 : decode cX0_spread 65 = .ok (.aload_n 0, 1) := by decide +kernel
theorem dX0_spread_66 : decode cX0_spread 66 = .ok (.getfield 22, 3) := by decide +kernel
theorem dX0_spread_69 : decode cX0_spread 69 = .ok (.iload_n 1, 1) := by decide +kernel
theorem dX0_spread_70 : decode cX0_spread 70 = .ok (.aaload, 1) := by decide +kernel
theorem dX0_spread_71 : decode cX0_spread 71 = .ok (.iload 7, 2) := by decide +kernel
theorem dX0_spread_73 : decode cX0_spread 73 = .ok (.iload 7, 2) := by decide +kernel
theorem dX0_spread_75 : decode cX0_spread 75 = .ok (.iload_n 3, 1) := by decide +kernel
theorem dX0_spread_76 : decode cX0_spread 76 = .ok (.if_icmp .ne 8, 3) := by decide +kernel
theorem dX0_spread_79 : decode cX0_spread 79 = .ok (.iload 4, 2) := by decide +kernel
theorem dX0_spread_81 : decode cX0_spread 81 = .ok (.goto 4, 3) := by decide +kernel
theorem dX0_spread_84 : decode cX0_spread 84 = .ok (.iconst 0, 1) := by decide +kernel
theorem dX0_spread_85 : decode cX0_spread 85 = .ok (.iastore, 1) := by decide +kernel
theorem dX0_spread_86 : decode cX0_spread 86 = .ok (.iinc 7 1, 3) := by decide +kernel
theorem dX0_spread_89 : decode cX0_spread 89 = .ok (.goto (-30), 3) := by decide +kernel
theorem dX0_spread_92 : decode cX0_spread 92 = .ok (.return_, 1) := by decide +kernel
theorem dX0_spread_93 : decode cX0_spread 93 = .ok (.iload 4, 2) := by decide +kernel
theorem dX0_spread_95 : decode cX0_spread 95 = .ok (.istore 7, 2) := by decide +kernel
theorem dX0_spread_97 : decode cX0_spread 97 = .ok (.iload_n 2, 1) := by decide +kernel
theorem dX0_spread_98 : decode cX0_spread 98 = .ok (.istore 8, 2) := by decide +kernel
theorem dX0_spread_100 : decode cX0_spread 100 = .ok (.iload 8, 2) := by decide +kernel
theorem dX0_spread_102 : decode cX0_spread 102 = .ok (.iload_n 3, 1) := by decide +kernel
theorem dX0_spread_103 : decode cX0_spread 103 = .ok (.if_icmp .gt 71, 3) := by decide +kernel
theorem dX0_spread_106 : decode cX0_spread 106 = .ok (.aload_n 0, 1) := by decide +kernel
theorem dX0_spread_107 : decode cX0_spread 107 = .ok (.getfield 22, 3) := by decide +kernel
theorem dX0_spread_110 : decode cX0_spread 110 = .ok (.iload_n 1, 1) := by decide +kernel
theorem dX0_spread_111 : decode cX0_spread 111 = .ok (.aaload, 1) := by decide +kernel
theorem dX0_spread_112 : decode cX0_spread 112 = .ok (.iload 8, 2) := by decide +kernel
theorem dX0_spread_114 : decode cX0_spread 114 = .ok (.iload 4, 2) := by decide +kernel
theorem dX0_spread_116 : decode cX0_spread 116 = .ok (.aload_n 0, 1) := by decide +kernel
theorem dX0_spread_117 : decode cX0_spread 117 = .ok (.getfield 19, 3) := by decide +kernel
theorem dX0_spread_120 : decode cX0_spread 120 = .ok (.iload 5, 2) := by decide +kernel
theorem dX0_spread_122 : decode cX0_spread 122 = .ok (.aaload, 1) := by decide +kernel
theorem dX0_spread_123 : decode cX0_spread 123 = .ok (.iload 8, 2) := by decide +kernel
theorem dX0_spread_125 : decode cX0_spread 125 = .ok (.iaload, 1) := by decide +kernel
theorem dX0_spread_126 : decode cX0_spread 126 = .ok (.imul, 1) := by decide +kernel
theorem dX0_spread_127 : decode cX0_spread 127 = .ok (.iload 6, 2) := by decide +kernel
theorem dX0_spread_129 : decode cX0_spread 129 = .ok (.idiv, 1) := by decide +kernel
theorem dX0_spread_130 : decode cX0_spread 130 = .ok (.iastore, 1) := by decide +kernel
theorem dX0_spread_131 : decode cX0_spread 131 = .ok (.aload_n 0, 1) := by decide +kernel
theorem dX0_spread_132 : decode cX0_spread 132 = .ok (.getfield 25, 3) := by decide +kernel
theorem dX0_spread_135 : decode cX0_spread 135 = .ok (.iload 8, 2) := by decide +kernel
theorem dX0_spread_137 : decode cX0_spread 137 = .ok (.iload 4, 2) := by decide +kernel
theorem dX0_spread_139 : decode cX0_spread 139 = .ok (.aload_n 0, 1) := by decide +kernel
theorem dX0_spread_140 : decode cX0_spread 140 = .ok (.getfield 19, 3) := by decide +kernel
theorem dX0_spread_143 : decode cX0_spread 143 = .ok (.iload 5, 2) := by decide +kernel
theorem dX0_spread_145 : decode cX0_spread 145 = .ok (.aaload, 1) := by decide +kernel
theorem dX0_spread_146 : decode cX0_spread 146 = .ok (.iload 8, 2) := by decide +kernel
theorem dX0_spread_148 : decode cX0_spread 148 = .ok (.iaload, 1) := by decide +kernel
theorem dX0_spread_149 : decode cX0_spread 149 = .ok (.imul, 1) := by decide +kernel
theorem dX0_spread_150 : decode cX0_spread 150 = .ok (.iload 6, 2) := by decide +kernel
theorem dX0_spread_152 : decode cX0_spread 152 = .ok (.irem, 1) := by decide +kernel
theorem dX0_spread_153 : decode cX0_spread 153 = .ok (.iastore, 1) := by decide +kernel
theorem dX0_spread_154 : decode cX0_spread 154 = .ok (.iload 7, 2) := by decide +kernel
theorem dX0_spread_156 : decode cX0_spread 156 = .ok (.aload_n 0, 1) := by decide +kernel
theorem dX0_spread_157 : decode cX0_spread 157 = .ok (.getfield 22, 3) := by decide +kernel
theorem dX0_spread_160 : decode cX0_spread 160 = .ok (.iload_n 1, 1) := by decide +kernel
theorem dX0_spread_161 : decode cX0_spread 161 = .ok (.aaload, 1) := by decide +kernel
theorem dX0_spread_162 : decode cX0_spread 162 = .ok (.iload 8, 2) := by decide +kernel
theorem dX0_spread_164 : decode cX0_spread 164 = .ok (.iaload, 1) := by decide +kernel
theorem dX0_spread_165 : decode cX0_spread 165 = .ok (.isub, 1) := by decide +kernel
theorem dX0_spread_166 : decode cX0_spread 166 = .ok (.istore 7, 2) := by decide +kernel
theorem dX0_spread_168 : decode cX0_spread 168 = .ok (.iinc 8 1, 3) := by decide +kernel
theorem dX0_spread_171 : decode cX0_spread 171 = .ok (.goto (-71), 3) := by decide +kernel
theorem dX0_spread_174 : decode cX0_spread 174 = .ok (.aload_n 0, 1) := by decide +kernel
theorem dX0_spread_175 : decode cX0_spread 175 = .ok (.iload_n 1, 1) := by decide +kernel
theorem dX0_spread_176 : decode cX0_spread 176 = .ok (.iload_n 2, 1) := by decide +kernel
theorem dX0_spread_177 : decode cX0_spread 177 = .ok (.iload_n 3, 1) := by decide +kernel
theorem dX0_spread_178 : decode cX0_spread 178 = .ok (.iload 7, 2) := by decide +kernel
theorem dX0_spread_180 : decode cX0_spread 180 = .ok (.invokevirtual 120, 3) := by decide +kernel
theorem dX0_spread_183 : decode cX0_spread 183 = .ok (.return_, 1) := by decide +kernel
theorem dX0_sumTrusted_0 : decode cX0_sumTrusted 0 = .ok (.iconst 0, 1) := by decide +kernel
theorem dX0_sumTrusted_1 : decode cX0_sumTrusted 1 = .ok (.istore 4, 2) := by decide +kernel
theorem dX0_sumTrusted_3 : decode cX0_sumTrusted 3 = .ok (.iload_n 2, 1) := by decide +kernel
theorem dX0_sumTrusted_4 : decode cX0_sumTrusted 4 = .ok (.istore 5, 2) := by decide +kernel
theorem dX0_sumTrusted_6 : decode cX0_sumTrusted 6 = .ok (.iload 5, 2) := by decide +kernel
theorem dX0_sumTrusted_8 : decode cX0_sumTrusted 8 = .ok (.iload_n 3, 1) := by decide +kernel
theorem dX0_sumTrusted_9 : decode cX0_sumTrusted 9 = .ok (.if_icmp .gt 23, 3) := by decide +kernel
theorem dX0_sumTrusted_12 : decode cX0_sumTrusted 12 = .ok (.iload 4, 2) := by decide +kernel
theorem dX0_sumTrusted_14 : decode cX0_sumTrusted 14 = .ok (.aload_n 0, 1) := by decide +kernel
theorem dX0_sumTrusted_15 : decode cX0_sumTrusted 15 = .ok (.getfield 19, 3) := by decide +kernel
theorem dX0_sumTrusted_18 : decode cX0_sumTrusted 18 = .ok (.iload_n 1, 1) := by decide +kernel
theorem dX0_sumTrusted_19 : decode cX0_sumTrusted 19 = .ok (.aaload, 1) := by decide +kernel
theorem dX0_sumTrusted_20 : decode cX0_sumTrusted 20 = .ok (.iload 5, 2) := by decide +kernel
theorem dX0_sumTrusted_22 : decode cX0_sumTrusted 22 = .ok (.iaload, 1) := by decide +kernel
theorem dX0_sumTrusted_23 : decode cX0_sumTrusted 23 = .ok (.iadd, 1) := by decide +kernel
theorem dX0_sumTrusted_24 : decode cX0_sumTrusted 24 = .ok (.istore 4, 2) := by decide +kernel
theorem dX0_sumTrusted_26 : decode cX0_sumTrusted 26 = .ok (.iinc 5 1, 3) := by decide +kernel
theorem dX0_sumTrusted_29 : decode cX0_sumTrusted 29 = .ok (.goto (-23), 3) := by decide +kernel
theorem dX0_sumTrusted_32 : decode cX0_sumTrusted 32 = .ok (.iload 4, 2) := by decide +kernel
theorem dX0_sumTrusted_34 : decode cX0_sumTrusted 34 = .ok (.ireturn, 1) := by decide +kernel
theorem dX0_spreadRest_0 : decode cX0_spreadRest 0 = .ok (.iconst 0, 1) := by decide +kernel
theorem dX0_spreadRest_1 : decode cX0_spreadRest 1 = .ok (.istore 5, 2) := by decide +kernel
theorem dX0_spreadRest_3 : decode cX0_spreadRest 3 = .ok (.iload 5, 2) := by decide +kernel
theorem dX0_spreadRest_5 : decode cX0_spreadRest 5 = .ok (.iload 4, 2) := by decide +kernel
theorem dX0_spreadRest_7 : decode cX0_spreadRest 7 = .ok (.if_icmp .ge 71, 3) := by decide +kernel
theorem dX0_spreadRest_10 : decode cX0_spreadRest 10 = .ok (.iload_n 2, 1) := by decide +kernel
theorem dX0_spreadRest_11 : decode cX0_spreadRest 11 = .ok (.istore 6, 2) := by decide +kernel
theorem dX0_spreadRest_13 : decode cX0_spreadRest 13 = .ok (.iload_n 2, 1) := by decide +kernel
theorem dX0_spreadRest_14 : decode cX0_spreadRest 14 = .ok (.iconst 1, 1) := by decide +kernel
theorem dX0_spreadRest_15 : decode cX0_spreadRest 15 = .ok (.iadd, 1) := by decide +kernel
theorem dX0_spreadRest_16 : decode cX0_spreadRest 16 = .ok (.istore 7, 2) := by decide +kernel
theorem dX0_spreadRest_18 : decode cX0_spreadRest 18 = .ok (.iload 7, 2) := by decide +kernel
theorem dX0_spreadRest_20 : decode cX0_spreadRest 20 = .ok (.iload_n 3, 1) := by decide +kernel
theorem dX0_spreadRest_21 : decode cX0_spreadRest 21 = .ok (.if_icmp .gt 30, 3) := by decide +kernel
theorem dX0_spreadRest_24 : decode cX0_spreadRest 24 = .ok (.aload_n 0, 1) := by decide +kernel
theorem dX0_spreadRest_25 : decode cX0_spreadRest 25 = .ok (.getfield 25, 3) := by decide +kernel
theorem dX0_spreadRest_28 : decode cX0_spreadRest 28 = .ok (.iload 7, 2) := by decide +kernel
theorem dX0_spreadRest_30 : decode cX0_spreadRest 30 = .ok (.iaload, 1) := by decide +kernel
theorem dX0_spreadRest_31 : decode cX0_spreadRest 31 = .ok (.aload_n 0, 1) := by decide +kernel
theorem dX0_spreadRest_32 : decode cX0_spreadRest 32 = .ok (.getfield 25, 3) := by decide +kernel
theorem dX0_spreadRest_35 : decode cX0_spreadRest 35 = .ok (.iload 6, 2) := by decide +kernel
theorem dX0_spreadRest_37 : decode cX0_spreadRest 37 = .ok (.iaload, 1) := by decide +kernel
theorem dX0_spreadRest_38 : decode cX0_spreadRest 38 = .ok (.if_icmp .le 7, 3) := by decide +kernel
theorem dX0_spreadRest_41 : decode cX0_spreadRest 41 = .ok (.iload 7, 2) := by decide +kernel
theorem dX0_spreadRest_43 : decode cX0_spreadRest 43 = .ok (.istore 6, 2) := by decide +kernel
theorem dX0_spreadRest_45 : decode cX0_spreadRest 45 = .ok (.iinc 7 1, 3) := by decide +kernel
theorem dX0_spreadRest_48 : decode cX0_spreadRest 48 = .ok (.goto (-30), 3) := by decide +kernel
theorem dX0_spreadRest_51 : decode cX0_spreadRest 51 = .ok (.aload_n 0, 1) := by decide +kernel
theorem dX0_spreadRest_52 : decode cX0_spreadRest 52 = .ok (.getfield 22, 3) := by decide +kernel
theorem dX0_spreadRest_55 : decode cX0_spreadRest 55 = .ok (.iload_n 1, 1) := by decide +kernel
theorem dX0_spreadRest_56 : decode cX0_spreadRest 56 = .ok (.aaload, 1) := by decide +kernel
theorem dX0_spreadRest_57 : decode cX0_spreadRest 57 = .ok (.iload 6, 2) := by decide +kernel
theorem dX0_spreadRest_59 : decode cX0_spreadRest 59 = .ok (.dup2, 1) := by decide +kernel
theorem dX0_spreadRest_60 : decode cX0_spreadRest 60 = .ok (.iaload, 1) := by decide +kernel
theorem dX0_spreadRest_61 : decode cX0_spreadRest 61 = .ok (.iconst 1, 1) := by decide +kernel
theorem dX0_spreadRest_62 : decode cX0_spreadRest 62 = .ok (.iadd, 1) := by decide +kernel
theorem dX0_spreadRest_63 : decode cX0_spreadRest 63 = .ok (.iastore, 1) := by decide +kernel
theorem dX0_spreadRest_64 : decode cX0_spreadRest 64 = .ok (.aload_n 0, 1) := by decide +kernel
theorem dX0_spreadRest_65 : decode cX0_spreadRest 65 = .ok (.getfield 25, 3) := by decide +kernel
theorem dX0_spreadRest_68 : decode cX0_spreadRest 68 = .ok (.iload 6, 2) := by decide +kernel
theorem dX0_spreadRest_70 : decode cX0_spreadRest 70 = .ok (.iconst (-1), 1) := by decide +kernel
theorem dX0_spreadRest_71 : decode cX0_spreadRest 71 = .ok (.iastore, 1) := by decide +kernel
theorem dX0_spreadRest_72 : decode cX0_spreadRest 72 = .ok (.iinc 5 1, 3) := by decide +kernel
theorem dX0_spreadRest_75 : decode cX0_spreadRest 75 = .ok (.goto (-72), 3) := by decide +kernel
theorem dX0_spreadRest_78 : decode cX0_spreadRest 78 = .ok (.return_, 1) := by decide +kernel
theorem dX0_nearestTrusted_0 : decode cX0_nearestTrusted 0 = .ok (.aload_n 0, 1) := by decide +kernel
theorem dX0_nearestTrusted_1 : decode cX0_nearestTrusted 1 = .ok (.getfield 29, 3) := by decide +kernel
theorem dX0_nearestTrusted_4 : decode cX0_nearestTrusted 4 = .ok (.getfield 60, 3) := by decide +kernel
theorem dX0_nearestTrusted_7 : decode cX0_nearestTrusted 7 = .ok (.iload_n 1, 1) := by decide +kernel
theorem dX0_nearestTrusted_8 : decode cX0_nearestTrusted 8 = .ok (.aaload, 1) := by decide +kernel
theorem dX0_nearestTrusted_9 : decode cX0_nearestTrusted 9 = .ok (.astore 4, 2) := by decide +kernel
theorem dX0_nearestTrusted_11 : decode cX0_nearestTrusted 11 = .ok (.iconst (-1), 1) := by decide +kernel
theorem dX0_nearestTrusted_12 : decode cX0_nearestTrusted 12 = .ok (.istore 5, 2) := by decide +kernel
theorem dX0_nearestTrusted_14 : decode cX0_nearestTrusted 14 = .ok (.iconst 0, 1) := by decide +kernel
theorem dX0_nearestTrusted_15 : decode cX0_nearestTrusted 15 = .ok (.istore 6, 2) := by decide +kernel
theorem dX0_nearestTrusted_17 : decode cX0_nearestTrusted 17 = .ok (.iconst 0, 1) := by decide +kernel
theorem dX0_nearestTrusted_18 : decode cX0_nearestTrusted 18 = .ok (.istore 7, 2) := by decide +kernel
theorem dX0_nearestTrusted_20 : decode cX0_nearestTrusted 20 = .ok (.iload 7, 2) := by decide +kernel
theorem dX0_nearestTrusted_22 : decode cX0_nearestTrusted 22 = .ok (.bipush 16, 2) := by decide +kernel
theorem dX0_nearestTrusted_24 : decode cX0_nearestTrusted 24 = .ok (.if_icmp .ge 66, 3) := by decide +kernel
theorem dX0_nearestTrusted_27 : decode cX0_nearestTrusted 27 = .ok (.aload 4, 2) := by decide +kernel
theorem dX0_nearestTrusted_29 : decode cX0_nearestTrusted 29 = .ok (.getfield 94, 3) := by decide +kernel
theorem dX0_nearestTrusted_32 : decode cX0_nearestTrusted 32 = .ok (.aload 4, 2) := by decide +kernel
theorem dX0_nearestTrusted_34 : decode cX0_nearestTrusted 34 = .ok (.getfield 97, 3) := by decide +kernel
theorem dX0_nearestTrusted_37 : decode cX0_nearestTrusted 37 = .ok (.aload_n 0, 1) := by decide +kernel
theorem dX0_nearestTrusted_38 : decode cX0_nearestTrusted 38 = .ok (.getfield 29, 3) := by decide +kernel
theorem dX0_nearestTrusted_41 : decode cX0_nearestTrusted 41 = .ok (.getfield 60, 3) := by decide +kernel
theorem dX0_nearestTrusted_44 : decode cX0_nearestTrusted 44 = .ok (.iload 7, 2) := by decide +kernel
theorem dX0_nearestTrusted_46 : decode cX0_nearestTrusted 46 = .ok (.aaload, 1) := by decide +kernel
theorem dX0_nearestTrusted_47 : decode cX0_nearestTrusted 47 = .ok (.invokestatic 100, 3) := by decide +kernel
theorem dX0_nearestTrusted_50 : decode cX0_nearestTrusted 50 = .ok (.istore 8, 2) := by decide +kernel
theorem dX0_nearestTrusted_52 : decode cX0_nearestTrusted 52 = .ok (.iload 5, 2) := by decide +kernel
theorem dX0_nearestTrusted_54 : decode cX0_nearestTrusted 54 = .ok (.iconst (-1), 1) := by decide +kernel
theorem dX0_nearestTrusted_55 : decode cX0_nearestTrusted 55 = .ok (.if_icmp .eq 10, 3) := by decide +kernel
theorem dX0_nearestTrusted_58 : decode cX0_nearestTrusted 58 = .ok (.iload 8, 2) := by decide +kernel
theorem dX0_nearestTrusted_60 : decode cX0_nearestTrusted 60 = .ok (.iload 6, 2) := by decide +kernel
theorem dX0_nearestTrusted_62 : decode cX0_nearestTrusted 62 = .ok (.if_icmp .ge 22, 3) := by decide +kernel
theorem dX0_nearestTrusted_65 : decode cX0_nearestTrusted 65 = .ok (.aload_n 0, 1) := by decide +kernel
theorem dX0_nearestTrusted_66 : decode cX0_nearestTrusted 66 = .ok (.iload 7, 2) := by decide +kernel
theorem dX0_nearestTrusted_68 : decode cX0_nearestTrusted 68 = .ok (.iload_n 2, 1) := by decide +kernel
theorem dX0_nearestTrusted_69 : decode cX0_nearestTrusted 69 = .ok (.iload_n 3, 1) := by decide +kernel
theorem dX0_nearestTrusted_70 : decode cX0_nearestTrusted 70 = .ok (.invokevirtual 124, 3) := by decide +kernel
theorem dX0_nearestTrusted_73 : decode cX0_nearestTrusted 73 = .ok (.ifCond .eq 11, 3) := by decide +kernel
theorem dX0_nearestTrusted_76 : decode cX0_nearestTrusted 76 = .ok (.iload 7, 2) := by decide +kernel
theorem dX0_nearestTrusted_78 : decode cX0_nearestTrusted 78 = .ok (.istore 5, 2) := by decide +kernel
theorem dX0_nearestTrusted_80 : decode cX0_nearestTrusted 80 = .ok (.iload 8, 2) := by decide +kernel
theorem dX0_nearestTrusted_82 : decode cX0_nearestTrusted 82 = .ok (.istore 6, 2) := by decide +kernel
theorem dX0_nearestTrusted_84 : decode cX0_nearestTrusted 84 = .ok (.iinc 7 1, 3) := by decide +kernel
theorem dX0_nearestTrusted_87 : decode cX0_nearestTrusted 87 = .ok (.goto (-67), 3) := by decide +kernel
theorem dX0_nearestTrusted_90 : decode cX0_nearestTrusted 90 = .ok (.iload 5, 2) := by decide +kernel
theorem dX0_nearestTrusted_92 : decode cX0_nearestTrusted 92 = .ok (.ireturn, 1) := by decide +kernel
theorem dX0_isTrustedThrough_0 : decode cX0_isTrustedThrough 0 = .ok (.iload_n 2, 1) := by decide +kernel
theorem dX0_isTrustedThrough_1 : decode cX0_isTrustedThrough 1 = .ok (.istore 4, 2) := by decide +kernel
theorem dX0_isTrustedThrough_3 : decode cX0_isTrustedThrough 3 = .ok (.iload 4, 2) := by decide +kernel
theorem dX0_isTrustedThrough_5 : decode cX0_isTrustedThrough 5 = .ok (.iload_n 3, 1) := by decide +kernel
theorem dX0_isTrustedThrough_6 : decode cX0_isTrustedThrough 6 = .ok (.if_icmp .gt 24, 3) := by decide +kernel
theorem dX0_isTrustedThrough_9 : decode cX0_isTrustedThrough 9 = .ok (.aload_n 0, 1) := by decide +kernel
theorem dX0_isTrustedThrough_10 : decode cX0_isTrustedThrough 10 = .ok (.getfield 19, 3) := by decide +kernel
theorem dX0_isTrustedThrough_13 : decode cX0_isTrustedThrough 13 = .ok (.iload_n 1, 1) := by decide +kernel
theorem dX0_isTrustedThrough_14 : decode cX0_isTrustedThrough 14 = .ok (.aaload, 1) := by decide +kernel
theorem dX0_isTrustedThrough_15 : decode cX0_isTrustedThrough 15 = .ok (.iload 4, 2) := by decide +kernel
theorem dX0_isTrustedThrough_17 : decode cX0_isTrustedThrough 17 = .ok (.iaload, 1) := by decide +kernel
theorem dX0_isTrustedThrough_18 : decode cX0_isTrustedThrough 18 = .ok (.iconst (-1), 1) := by decide +kernel
theorem dX0_isTrustedThrough_19 : decode cX0_isTrustedThrough 19 = .ok (.if_icmp .ne 5, 3) := by decide +kernel
theorem dX0_isTrustedThrough_22 : decode cX0_isTrustedThrough 22 = .ok (.iconst 0, 1) := by decide +kernel
theorem dX0_isTrustedThrough_23 : decode cX0_isTrustedThrough 23 = .ok (.ireturn, 1) := by decide +kernel
theorem dX0_isTrustedThrough_24 : decode cX0_isTrustedThrough 24 = .ok (.iinc 4 1, 3) := by decide +kernel
theorem dX0_isTrustedThrough_27 : decode cX0_isTrustedThrough 27 = .ok (.goto (-24), 3) := by decide +kernel
theorem dX0_isTrustedThrough_30 : decode cX0_isTrustedThrough 30 = .ok (.iconst 1, 1) := by decide +kernel
theorem dX0_isTrustedThrough_31 : decode cX0_isTrustedThrough 31 = .ok (.ireturn, 1) := by decide +kernel
theorem dX1_init_0 : decode cX1_init 0 = .ok (.aload_n 0, 1) := by decide +kernel
theorem dX1_init_1 : decode cX1_init 1 = .ok (.invokespecial 3, 3) := by decide +kernel
theorem dX1_init_4 : decode cX1_init 4 = .ok (.aload_n 0, 1) := by decide +kernel
theorem dX1_init_5 : decode cX1_init 5 = .ok (.new 9, 3) := by decide +kernel
theorem dX1_init_8 : decode cX1_init 8 = .ok (.dup, 1) := by decide +kernel
theorem dX1_init_9 : decode cX1_init 9 = .ok (.invokespecial 11, 3) := by decide +kernel
theorem dX1_init_12 : decode cX1_init 12 = .ok (.putfield 12, 3) := by decide +kernel
theorem dX1_init_15 : decode cX1_init 15 = .ok (.aload_n 0, 1) := by decide +kernel
theorem dX1_init_16 : decode cX1_init 16 = .ok (.bipush 8, 2) := by decide +kernel
theorem dX1_init_18 : decode cX1_init 18 = .ok (.newarray .int, 2) := by decide +kernel
theorem dX1_init_20 : decode cX1_init 20 = .ok (.putfield 18, 3) := by decide +kernel
theorem dX1_init_23 : decode cX1_init 23 = .ok (.aload_n 0, 1) := by decide +kernel
theorem dX1_init_24 : decode cX1_init 24 = .ok (.bipush 8, 2) := by decide +kernel
theorem dX1_init_26 : decode cX1_init 26 = .ok (.newarray .int, 2) := by decide +kernel
theorem dX1_init_28 : decode cX1_init 28 = .ok (.putfield 22, 3) := by decide +kernel
theorem dX1_init_31 : decode cX1_init 31 = .ok (.aload_n 0, 1) := by decide +kernel
theorem dX1_init_32 : decode cX1_init 32 = .ok (.aload_n 1, 1) := by decide +kernel
theorem dX1_init_33 : decode cX1_init 33 = .ok (.putfield 25, 3) := by decide +kernel
theorem dX1_init_36 : decode cX1_init 36 = .ok (.return_, 1) := by decide +kernel
theorem dX1_sumWeeks_0 : decode cX1_sumWeeks 0 = .ok (.aload_n 0, 1) := by decide +kernel
theorem dX1_sumWeeks_1 : decode cX1_sumWeeks 1 = .ok (.iload_n 2, 1) := by decide +kernel
theorem dX1_sumWeeks_2 : decode cX1_sumWeeks 2 = .ok (.invokevirtual 29, 3) := by decide +kernel
theorem dX1_sumWeeks_5 : decode cX1_sumWeeks 5 = .ok (.aload_n 0, 1) := by decide +kernel
theorem dX1_sumWeeks_6 : decode cX1_sumWeeks 6 = .ok (.getfield 18, 3) := by decide +kernel
theorem dX1_sumWeeks_9 : decode cX1_sumWeeks 9 = .ok (.iconst 0, 1) := by decide +kernel
theorem dX1_sumWeeks_10 : decode cX1_sumWeeks 10 = .ok (.invokestatic 33, 3) := by decide +kernel
theorem dX1_sumWeeks_13 : decode cX1_sumWeeks 13 = .ok (.aload_n 0, 1) := by decide +kernel
theorem dX1_sumWeeks_14 : decode cX1_sumWeeks 14 = .ok (.getfield 22, 3) := by decide +kernel
theorem dX1_sumWeeks_17 : decode cX1_sumWeeks 17 = .ok (.iconst 0, 1) := by decide +kernel
theorem dX1_sumWeeks_18 : decode cX1_sumWeeks 18 = .ok (.invokestatic 33, 3) := by decide +kernel
theorem dX1_sumWeeks_21 : decode cX1_sumWeeks 21 = .ok (.iconst 0, 1) := by decide +kernel
theorem dX1_sumWeeks_22 : decode cX1_sumWeeks 22 = .ok (.istore_n 3, 1) := by decide +kernel
theorem dX1_sumWeeks_23 : decode cX1_sumWeeks 23 = .ok (.iload_n 3, 1) := by decide +kernel
theorem dX1_sumWeeks_24 : decode cX1_sumWeeks 24 = .ok (.bipush 56, 2) := by decide +kernel
theorem dX1_sumWeeks_26 : decode cX1_sumWeeks 26 = .ok (.if_icmp .ge 65, 3) := by decide +kernel
theorem dX1_sumWeeks_29 : decode cX1_sumWeeks 29 = .ok (.aload_n 1, 1) := by decide +kernel
theorem dX1_sumWeeks_30 : decode cX1_sumWeeks 30 = .ok (.iload_n 2, 1) := by decide +kernel
theorem dX1_sumWeeks_31 : decode cX1_sumWeeks 31 = .ok (.iload_n 3, 1) := by decide +kernel
theorem dX1_sumWeeks_32 : decode cX1_sumWeeks 32 = .ok (.invokevirtual 39, 3) := by decide +kernel
theorem dX1_sumWeeks_35 : decode cX1_sumWeeks 35 = .ok (.istore 4, 2) := by decide +kernel
theorem dX1_sumWeeks_37 : decode cX1_sumWeeks 37 = .ok (.aload_n 0, 1) := by decide +kernel
theorem dX1_sumWeeks_38 : decode cX1_sumWeeks 38 = .ok (.aload_n 1, 1) := by decide +kernel
theorem dX1_sumWeeks_39 : decode cX1_sumWeeks 39 = .ok (.iload_n 3, 1) := by decide +kernel
theorem dX1_sumWeeks_40 : decode cX1_sumWeeks 40 = .ok (.invokevirtual 45, 3) := by decide +kernel
theorem dX1_sumWeeks_43 : decode cX1_sumWeeks 43 = .ok (.istore 5, 2) := by decide +kernel
theorem dX1_sumWeeks_45 : decode cX1_sumWeeks 45 = .ok (.iload 4, 2) := by decide +kernel
theorem dX1_sumWeeks_47 : decode cX1_sumWeeks 47 = .ok (.iconst (-1), 1) := by decide +kernel
theorem dX1_sumWeeks_48 : decode cX1_sumWeeks 48 = .ok (.if_icmp .eq 37, 3) := by decide +kernel
theorem dX1_sumWeeks_51 : decode cX1_sumWeeks 51 = .ok (.iload 5, 2) := by decide +kernel
theorem dX1_sumWeeks_53 : decode cX1_sumWeeks 53 = .ok (.iconst (-1), 1) := by decide +kernel
theorem dX1_sumWeeks_54 : decode cX1_sumWeeks 54 = .ok (.if_icmp .eq 31, 3) := by decide +kernel
theorem dX1_sumWeeks_57 : decode cX1_sumWeeks 57 = .ok (.aload_n 0, 1) := by decide +kernel
theorem dX1_sumWeeks_58 : decode cX1_sumWeeks 58 = .ok (.getfield 18, 3) := by decide +kernel
theorem dX1_sumWeeks_61 : decode cX1_sumWeeks 61 = .ok (.iload_n 3, 1) := by decide +kernel
theorem dX1_sumWeeks_62 : decode cX1_sumWeeks 62 = .ok (.bipush 7, 2) := by decide +kernel
theorem dX1_sumWeeks_64 : decode cX1_sumWeeks 64 = .ok (.idiv, 1) := by decide +kernel
theorem dX1_sumWeeks_65 : decode cX1_sumWeeks 65 = .ok (.dup2, 1) := by decide +kernel
theorem dX1_sumWeeks_66 : decode cX1_sumWeeks 66 = .ok (.iaload, 1) := by decide +kernel
theorem dX1_sumWeeks_67 : decode cX1_sumWeeks 67 = .ok (.iload 4, 2) := by decide +kernel
theorem dX1_sumWeeks_69 : decode cX1_sumWeeks 69 = .ok (.iadd, 1) := by decide +kernel
theorem dX1_sumWeeks_70 : decode cX1_sumWeeks 70 = .ok (.iastore, 1) := by decide +kernel
theorem dX1_sumWeeks_71 : decode cX1_sumWeeks 71 = .ok (.aload_n 0, 1) := by decide +kernel
theorem dX1_sumWeeks_72 : decode cX1_sumWeeks 72 = .ok (.getfield 22, 3) := by decide +kernel
theorem dX1_sumWeeks_75 : decode cX1_sumWeeks 75 = .ok (.iload_n 3, 1) := by decide +kernel
theorem dX1_sumWeeks_76 : decode cX1_sumWeeks 76 = .ok (.bipush 7, 2) := by decide +kernel
theorem dX1_sumWeeks_78 : decode cX1_sumWeeks 78 = .ok (.idiv, 1) := by decide +kernel
theorem dX1_sumWeeks_79 : decode cX1_sumWeeks 79 = .ok (.dup2, 1) := by decide +kernel
theorem dX1_sumWeeks_80 : decode cX1_sumWeeks 80 = .ok (.iaload, 1) := by decide +kernel
theorem dX1_sumWeeks_81 : decode cX1_sumWeeks 81 = .ok (.iload 5, 2) := by decide +kernel
theorem dX1_sumWeeks_83 : decode cX1_sumWeeks 83 = .ok (.iadd, 1) := by decide +kernel
theorem dX1_sumWeeks_84 : decode cX1_sumWeeks 84 = .ok (.iastore, 1) := by decide +kernel
theorem dX1_sumWeeks_85 : decode cX1_sumWeeks 85 = .ok (.iinc 3 1, 3) := by decide +kernel
theorem dX1_sumWeeks_88 : decode cX1_sumWeeks 88 = .ok (.goto (-65), 3) := by decide +kernel
theorem dX1_sumWeeks_91 : decode cX1_sumWeeks 91 = .ok (.return_, 1) := by decide +kernel
theorem dX1_gatherNeighbours_0 : decode cX1_gatherNeighbours 0 = .ok (.aload_n 0, 1) := by decide +kernel
theorem dX1_gatherNeighbours_1 : decode cX1_gatherNeighbours 1 = .ok (.getfield 12, 3) := by decide +kernel
theorem dX1_gatherNeighbours_4 : decode cX1_gatherNeighbours 4 = .ok (.iconst 0, 1) := by decide +kernel
theorem dX1_gatherNeighbours_5 : decode cX1_gatherNeighbours 5 = .ok (.putfield 49, 3) := by decide +kernel
theorem dX1_gatherNeighbours_8 : decode cX1_gatherNeighbours 8 = .ok (.iload_n 1, 1) := by decide +kernel
theorem dX1_gatherNeighbours_9 : decode cX1_gatherNeighbours 9 = .ok (.invokestatic 53, 3) := by decide +kernel
theorem dX1_gatherNeighbours_12 : decode cX1_gatherNeighbours 12 = .ok (.ifCond .ne 4, 3) := by decide +kernel
theorem dX1_gatherNeighbours_15 : decode cX1_gatherNeighbours 15 = .ok (.return_, 1) := by decide +kernel
theorem dX1_gatherNeighbours_16 : decode cX1_gatherNeighbours 16 = .ok (.aload_n 0, 1) := by decide +kernel
theorem dX1_gatherNeighbours_17 : decode cX1_gatherNeighbours 17 = .ok (.getfield 25, 3) := by decide +kernel
theorem dX1_gatherNeighbours_20 : decode cX1_gatherNeighbours 20 = .ok (.getfield 57, 3) := by decide +kernel
theorem dX1_gatherNeighbours_23 : decode cX1_gatherNeighbours 23 = .ok (.iload_n 1, 1) := by decide +kernel
theorem dX1_gatherNeighbours_24 : decode cX1_gatherNeighbours 24 = .ok (.aaload, 1) := by decide +kernel
theorem dX1_gatherNeighbours_25 : decode cX1_gatherNeighbours 25 = .ok (.astore_n 2, 1) := by decide +kernel
theorem dX1_gatherNeighbours_26 : decode cX1_gatherNeighbours 26 = .ok (.iconst 0, 1) := by decide +kernel
theorem dX1_gatherNeighbours_27 : decode cX1_gatherNeighbours 27 = .ok (.istore_n 3, 1) := by decide +kernel
theorem dX1_gatherNeighbours_28 : decode cX1_gatherNeighbours 28 = .ok (.iload_n 3, 1) := by decide +kernel
theorem dX1_gatherNeighbours_29 : decode cX1_gatherNeighbours 29 = .ok (.bipush 16, 2) := by decide +kernel
theorem dX1_gatherNeighbours_31 : decode cX1_gatherNeighbours 31 = .ok (.if_icmp .ge 57, 3) := by decide +kernel
theorem dX1_gatherNeighbours_34 : decode cX1_gatherNeighbours 34 = .ok (.iload_n 3, 1) := by decide +kernel
theorem dX1_gatherNeighbours_35 : decode cX1_gatherNeighbours 35 = .ok (.iload_n 1, 1) := by decide +kernel
theorem dX1_gatherNeighbours_36 : decode cX1_gatherNeighbours 36 = .ok (.if_icmp .eq 46, 3) := by decide +kernel
theorem dX1_gatherNeighbours_39 : decode cX1_gatherNeighbours 39 = .ok (.aload_n 0, 1) := by decide +kernel
theorem dX1_gatherNeighbours_40 : decode cX1_gatherNeighbours 40 = .ok (.getfield 25, 3) := by decide +kernel
theorem dX1_gatherNeighbours_43 : decode cX1_gatherNeighbours 43 = .ok (.getfield 57, 3) := by decide +kernel
theorem dX1_gatherNeighbours_46 : decode cX1_gatherNeighbours 46 = .ok (.iload_n 3, 1) := by decide +kernel
theorem dX1_gatherNeighbours_47 : decode cX1_gatherNeighbours 47 = .ok (.aaload, 1) := by decide +kernel
theorem dX1_gatherNeighbours_48 : decode cX1_gatherNeighbours 48 = .ok (.invokevirtual 63, 3) := by decide +kernel
theorem dX1_gatherNeighbours_51 : decode cX1_gatherNeighbours 51 = .ok (.ifCond .eq 31, 3) := by decide +kernel
theorem dX1_gatherNeighbours_54 : decode cX1_gatherNeighbours 54 = .ok (.aload_n 0, 1) := by decide +kernel
theorem dX1_gatherNeighbours_55 : decode cX1_gatherNeighbours 55 = .ok (.getfield 12, 3) := by decide +kernel
theorem dX1_gatherNeighbours_58 : decode cX1_gatherNeighbours 58 = .ok (.iload_n 3, 1) := by decide +kernel
theorem dX1_gatherNeighbours_59 : decode cX1_gatherNeighbours 59 = .ok (.aload_n 2, 1) := by decide +kernel
theorem dX1_gatherNeighbours_60 : decode cX1_gatherNeighbours 60 = .ok (.getfield 69, 3) := by decide +kernel
theorem dX1_gatherNeighbours_63 : decode cX1_gatherNeighbours 63 = .ok (.aload_n 2, 1) := by decide +kernel
theorem dX1_gatherNeighbours_64 : decode cX1_gatherNeighbours 64 = .ok (.getfield 72, 3) := by decide +kernel
theorem dX1_gatherNeighbours_67 : decode cX1_gatherNeighbours 67 = .ok (.aload_n 0, 1) := by decide +kernel
theorem dX1_gatherNeighbours_68 : decode cX1_gatherNeighbours 68 = .ok (.getfield 25, 3) := by decide +kernel
theorem dX1_gatherNeighbours_71 : decode cX1_gatherNeighbours 71 = .ok (.getfield 57, 3) := by decide +kernel
theorem dX1_gatherNeighbours_74 : decode cX1_gatherNeighbours 74 = .ok (.iload_n 3, 1) := by decide +kernel
theorem dX1_gatherNeighbours_75 : decode cX1_gatherNeighbours 75 = .ok (.aaload, 1) := by decide +kernel
theorem dX1_gatherNeighbours_76 : decode cX1_gatherNeighbours 76 = .ok (.invokestatic 75, 3) := by decide +kernel
theorem dX1_gatherNeighbours_79 : decode cX1_gatherNeighbours 79 = .ok (.invokevirtual 79, 3) := by decide +kernel
theorem dX1_gatherNeighbours_82 : decode cX1_gatherNeighbours 82 = .ok (.iinc 3 1, 3) := by decide +kernel
theorem dX1_gatherNeighbours_85 : decode cX1_gatherNeighbours 85 = .ok (.goto (-57), 3) := by decide +kernel
theorem dX1_gatherNeighbours_88 : decode cX1_gatherNeighbours 88 = .ok (.return_, 1) := by decide +kernel
theorem dX1_sumOfNeighbours_0 : decode cX1_sumOfNeighbours 0 = .ok (.iconst 0, 1) := by decide +kernel
theorem dX1_sumOfNeighbours_1 : decode cX1_sumOfNeighbours 1 = .ok (.istore_n 3, 1) := by decide +kernel
theorem dX1_sumOfNeighbours_2 : decode cX1_sumOfNeighbours 2 = .ok (.iconst 0, 1) := by decide +kernel
theorem dX1_sumOfNeighbours_3 : decode cX1_sumOfNeighbours 3 = .ok (.istore 4, 2) := by decide +kernel
theorem dX1_sumOfNeighbours_5 : decode cX1_sumOfNeighbours 5 = .ok (.iload 4, 2) := by decide +kernel
theorem dX1_sumOfNeighbours_7 : decode cX1_sumOfNeighbours 7 = .ok (.aload_n 0, 1) := by decide +kernel
theorem dX1_sumOfNeighbours_8 : decode cX1_sumOfNeighbours 8 = .ok (.getfield 12, 3) := by decide +kernel
theorem dX1_sumOfNeighbours_11 : decode cX1_sumOfNeighbours 11 = .ok (.getfield 49, 3) := by decide +kernel
theorem dX1_sumOfNeighbours_14 : decode cX1_sumOfNeighbours 14 = .ok (.if_icmp .ge 38, 3) := by decide +kernel
theorem dX1_sumOfNeighbours_17 : decode cX1_sumOfNeighbours 17 = .ok (.aload_n 1, 1) := by decide +kernel
theorem dX1_sumOfNeighbours_18 : decode cX1_sumOfNeighbours 18 = .ok (.aload_n 0, 1) := by decide +kernel
theorem dX1_sumOfNeighbours_19 : decode cX1_sumOfNeighbours 19 = .ok (.getfield 12, 3) := by decide +kernel
theorem dX1_sumOfNeighbours_22 : decode cX1_sumOfNeighbours 22 = .ok (.iload 4, 2) := by decide +kernel
theorem dX1_sumOfNeighbours_24 : decode cX1_sumOfNeighbours 24 = .ok (.invokevirtual 83, 3) := by decide +kernel
theorem dX1_sumOfNeighbours_27 : decode cX1_sumOfNeighbours 27 = .ok (.iload_n 2, 1) := by decide +kernel
theorem dX1_sumOfNeighbours_28 : decode cX1_sumOfNeighbours 28 = .ok (.invokevirtual 39, 3) := by decide +kernel
theorem dX1_sumOfNeighbours_31 : decode cX1_sumOfNeighbours 31 = .ok (.istore 5, 2) := by decide +kernel
theorem dX1_sumOfNeighbours_33 : decode cX1_sumOfNeighbours 33 = .ok (.iload 5, 2) := by decide +kernel
theorem dX1_sumOfNeighbours_35 : decode cX1_sumOfNeighbours 35 = .ok (.iconst (-1), 1) := by decide +kernel
theorem dX1_sumOfNeighbours_36 : decode cX1_sumOfNeighbours 36 = .ok (.if_icmp .ne 5, 3) := by decide +kernel
theorem dX1_sumOfNeighbours_39 : decode cX1_sumOfNeighbours 39 = .ok (.iconst (-1), 1) := by decide +kernel
theorem dX1_sumOfNeighbours_40 : decode cX1_sumOfNeighbours 40 = .ok (.ireturn, 1) := by decide +kernel
theorem dX1_sumOfNeighbours_41 : decode cX1_sumOfNeighbours 41 = .ok (.iload_n 3, 1) := by decide +kernel
theorem dX1_sumOfNeighbours_42 : decode cX1_sumOfNeighbours 42 = .ok (.iload 5, 2) := by decide +kernel
theorem dX1_sumOfNeighbours_44 : decode cX1_sumOfNeighbours 44 = .ok (.iadd, 1) := by decide +kernel
theorem dX1_sumOfNeighbours_45 : decode cX1_sumOfNeighbours 45 = .ok (.istore_n 3, 1) := by decide +kernel
theorem dX1_sumOfNeighbours_46 : decode cX1_sumOfNeighbours 46 = .ok (.iinc 4 1, 3) := by decide +kernel
theorem dX1_sumOfNeighbours_49 : decode cX1_sumOfNeighbours 49 = .ok (.goto (-44), 3) := by decide +kernel
theorem dX1_sumOfNeighbours_52 : decode cX1_sumOfNeighbours 52 = .ok (.iload_n 3, 1) := by decide +kernel
theorem dX1_sumOfNeighbours_53 : decode cX1_sumOfNeighbours 53 = .ok (.ireturn, 1) := by decide +kernel
theorem dX1_leastBreak_0 : decode cX1_leastBreak 0 = .ok (.iconst (-1), 1) := by decide +kernel
theorem dX1_leastBreak_1 : decode cX1_leastBreak 1 = .ok (.istore_n 2, 1) := by decide +kernel
theorem dX1_leastBreak_2 : decode cX1_leastBreak 2 = .ok (.lconst 0, 1) := by decide +kernel
theorem dX1_leastBreak_3 : decode cX1_leastBreak 3 = .ok (.lstore_n 3, 1) := by decide +kernel
theorem dX1_leastBreak_4 : decode cX1_leastBreak 4 = .ok (.iconst 1, 1) := by decide +kernel
theorem dX1_leastBreak_5 : decode cX1_leastBreak 5 = .ok (.istore 5, 2) := by decide +kernel
theorem dX1_leastBreak_7 : decode cX1_leastBreak 7 = .ok (.iload 5, 2) := by decide +kernel
theorem dX1_leastBreak_9 : decode cX1_leastBreak 9 = .ok (.iload_n 1, 1) := by decide +kernel
theorem dX1_leastBreak_10 : decode cX1_leastBreak 10 = .ok (.if_icmp .gt 43, 3) := by decide +kernel
theorem dX1_leastBreak_13 : decode cX1_leastBreak 13 = .ok (.iload 5, 2) := by decide +kernel
theorem dX1_leastBreak_15 : decode cX1_leastBreak 15 = .ok (.bipush 8, 2) := by decide +kernel
theorem dX1_leastBreak_17 : decode cX1_leastBreak 17 = .ok (.if_icmp .ge 36, 3) := by decide +kernel
theorem dX1_leastBreak_20 : decode cX1_leastBreak 20 = .ok (.aload_n 0, 1) := by decide +kernel
theorem dX1_leastBreak_21 : decode cX1_leastBreak 21 = .ok (.iload 5, 2) := by decide +kernel
theorem dX1_leastBreak_23 : decode cX1_leastBreak 23 = .ok (.iload_n 1, 1) := by decide +kernel
theorem dX1_leastBreak_24 : decode cX1_leastBreak 24 = .ok (.invokevirtual 87, 3) := by decide +kernel
theorem dX1_leastBreak_27 : decode cX1_leastBreak 27 = .ok (.lstore 6, 2) := by decide +kernel
theorem dX1_leastBreak_29 : decode cX1_leastBreak 29 = .ok (.iload_n 2, 1) := by decide +kernel
theorem dX1_leastBreak_30 : decode cX1_leastBreak 30 = .ok (.iconst (-1), 1) := by decide +kernel
theorem dX1_leastBreak_31 : decode cX1_leastBreak 31 = .ok (.if_icmp .eq 10, 3) := by decide +kernel
theorem dX1_leastBreak_34 : decode cX1_leastBreak 34 = .ok (.lload 6, 2) := by decide +kernel
theorem dX1_leastBreak_36 : decode cX1_leastBreak 36 = .ok (.lload_n 3, 1) := by decide +kernel
theorem dX1_leastBreak_37 : decode cX1_leastBreak 37 = .ok (.lcmp, 1) := by decide +kernel
theorem dX1_leastBreak_38 : decode cX1_leastBreak 38 = .ok (.ifCond .ge 9, 3) := by decide +kernel
theorem dX1_leastBreak_41 : decode cX1_leastBreak 41 = .ok (.iload 5, 2) := by decide +kernel
theorem dX1_leastBreak_43 : decode cX1_leastBreak 43 = .ok (.istore_n 2, 1) := by decide +kernel
theorem dX1_leastBreak_44 : decode cX1_leastBreak 44 = .ok (.lload 6, 2) := by decide +kernel
theorem dX1_leastBreak_46 : decode cX1_leastBreak 46 = .ok (.lstore_n 3, 1) := by decide +kernel
theorem dX1_leastBreak_47 : decode cX1_leastBreak 47 = .ok (.iinc 5 1, 3) := by decide +kernel
theorem dX1_leastBreak_50 : decode cX1_leastBreak 50 = .ok (.goto (-43), 3) := by decide +kernel
theorem dX1_leastBreak_53 : decode cX1_leastBreak 53 = .ok (.iload_n 2, 1) := by decide +kernel
theorem dX1_leastBreak_54 : decode cX1_leastBreak 54 = .ok (.ireturn, 1) := by decide +kernel
theorem dX1_missesAt_0 : decode cX1_missesAt 0 = .ok (.aload_n 0, 1) := by decide +kernel
theorem dX1_missesAt_1 : decode cX1_missesAt 1 = .ok (.iconst 0, 1) := by decide +kernel
theorem dX1_missesAt_2 : decode cX1_missesAt 2 = .ok (.iload_n 1, 1) := by decide +kernel
theorem dX1_missesAt_3 : decode cX1_missesAt 3 = .ok (.iconst 1, 1) := by decide +kernel
theorem dX1_missesAt_4 : decode cX1_missesAt 4 = .ok (.isub, 1) := by decide +kernel
theorem dX1_missesAt_5 : decode cX1_missesAt 5 = .ok (.invokevirtual 91, 3) := by decide +kernel
theorem dX1_missesAt_8 : decode cX1_missesAt 8 = .ok (.aload_n 0, 1) := by decide +kernel
theorem dX1_missesAt_9 : decode cX1_missesAt 9 = .ok (.iload_n 1, 1) := by decide +kernel
theorem dX1_missesAt_10 : decode cX1_missesAt 10 = .ok (.iload_n 2, 1) := by decide +kernel
theorem dX1_missesAt_11 : decode cX1_missesAt 11 = .ok (.invokevirtual 91, 3) := by decide +kernel
theorem dX1_missesAt_14 : decode cX1_missesAt 14 = .ok (.ladd, 1) := by decide +kernel
theorem dX1_missesAt_15 : decode cX1_missesAt 15 = .ok (.lreturn, 1) := by decide +kernel
theorem dX1_missesOfPart_0 : decode cX1_missesOfPart 0 = .ok (.lconst 0, 1) := by decide +kernel
theorem dX1_missesOfPart_1 : decode cX1_missesOfPart 1 = .ok (.lstore_n 3, 1) := by decide +kernel
theorem dX1_missesOfPart_2 : decode cX1_missesOfPart 2 = .ok (.lconst 0, 1) := by decide +kernel
theorem dX1_missesOfPart_3 : decode cX1_missesOfPart 3 = .ok (.lstore 5, 2) := by decide +kernel
theorem dX1_missesOfPart_5 : decode cX1_missesOfPart 5 = .ok (.iconst 0, 1) := by decide +kernel
theorem dX1_missesOfPart_6 : decode cX1_missesOfPart 6 = .ok (.iload_n 1, 1) := by decide +kernel
theorem dX1_missesOfPart_7 : decode cX1_missesOfPart 7 = .ok (.invokestatic 94, 3) := by decide +kernel
theorem dX1_missesOfPart_10 : decode cX1_missesOfPart 10 = .ok (.istore 7, 2) := by decide +kernel
theorem dX1_missesOfPart_12 : decode cX1_missesOfPart 12 = .ok (.iload 7, 2) := by decide +kernel
theorem dX1_missesOfPart_14 : decode cX1_missesOfPart 14 = .ok (.iload_n 2, 1) := by decide +kernel
theorem dX1_missesOfPart_15 : decode cX1_missesOfPart 15 = .ok (.if_icmp .gt 40, 3) := by decide +kernel
theorem dX1_missesOfPart_18 : decode cX1_missesOfPart 18 = .ok (.iload 7, 2) := by decide +kernel
theorem dX1_missesOfPart_20 : decode cX1_missesOfPart 20 = .ok (.bipush 8, 2) := by decide +kernel
theorem dX1_missesOfPart_22 : decode cX1_missesOfPart 22 = .ok (.if_icmp .ge 33, 3) := by decide +kernel
theorem dX1_missesOfPart_25 : decode cX1_missesOfPart 25 = .ok (.lload_n 3, 1) := by decide +kernel
theorem dX1_missesOfPart_26 : decode cX1_missesOfPart 26 = .ok (.aload_n 0, 1) := by decide +kernel
theorem dX1_missesOfPart_27 : decode cX1_missesOfPart 27 = .ok (.getfield 18, 3) := by decide +kernel
theorem dX1_missesOfPart_30 : decode cX1_missesOfPart 30 = .ok (.iload 7, 2) := by decide +kernel
theorem dX1_missesOfPart_32 : decode cX1_missesOfPart 32 = .ok (.iaload, 1) := by decide +kernel
theorem dX1_missesOfPart_33 : decode cX1_missesOfPart 33 = .ok (.i2l, 1) := by decide +kernel
theorem dX1_missesOfPart_34 : decode cX1_missesOfPart 34 = .ok (.ladd, 1) := by decide +kernel
theorem dX1_missesOfPart_35 : decode cX1_missesOfPart 35 = .ok (.lstore_n 3, 1) := by decide +kernel
theorem dX1_missesOfPart_36 : decode cX1_missesOfPart 36 = .ok (.lload 5, 2) := by decide +kernel
theorem dX1_missesOfPart_38 : decode cX1_missesOfPart 38 = .ok (.aload_n 0, 1) := by decide +kernel
theorem dX1_missesOfPart_39 : decode cX1_missesOfPart 39 = .ok (.getfield 22, 3) := by decide +kernel
theorem dX1_missesOfPart_42 : decode cX1_missesOfPart 42 = .ok (.iload 7, 2) := by decide +kernel
theorem dX1_missesOfPart_44 : decode cX1_missesOfPart 44 = .ok (.iaload, 1) := by decide +kernel
theorem dX1_missesOfPart_45 : decode cX1_missesOfPart 45 = .ok (.i2l, 1) := by decide +kernel
theorem dX1_missesOfPart_46 : decode cX1_missesOfPart 46 = .ok (.ladd, 1) := by decide +kernel
theorem dX1_missesOfPart_47 : decode cX1_missesOfPart 47 = .ok (.lstore 5, 2) := by decide +kernel
theorem dX1_missesOfPart_49 : decode cX1_missesOfPart 49 = .ok (.iinc 7 1, 3) := by decide +kernel
theorem dX1_missesOfPart_52 : decode cX1_missesOfPart 52 = .ok (.goto (-40), 3) := by decide +kernel
theorem dX1_missesOfPart_55 : decode cX1_missesOfPart 55 = .ok (.lload 5, 2) := by decide +kernel
theorem dX1_missesOfPart_57 : decode cX1_missesOfPart 57 = .ok (.lconst 0, 1) := by decide +kernel
theorem dX1_missesOfPart_58 : decode cX1_missesOfPart 58 = .ok (.lcmp, 1) := by decide +kernel
theorem dX1_missesOfPart_59 : decode cX1_missesOfPart 59 = .ok (.ifCond .gt 9, 3) := by decide +kernel
theorem dX1_missesOfPart_62 : decode cX1_missesOfPart 62 = .ok (.lload_n 3, 1) := by decide +kernel
theorem dX1_missesOfPart_63 : decode cX1_missesOfPart 63 = .ok (.ldc2_w 99, 3) := by decide +kernel
theorem dX1_missesOfPart_66 : decode cX1_missesOfPart 66 = .ok (.lmul, 1) := by decide +kernel
theorem dX1_missesOfPart_67 : decode cX1_missesOfPart 67 = .ok (.lreturn, 1) := by decide +kernel
theorem dX1_missesOfPart_68 : decode cX1_missesOfPart 68 = .ok (.lconst 0, 1) := by decide +kernel
theorem dX1_missesOfPart_69 : decode cX1_missesOfPart 69 = .ok (.lstore 7, 2) := by decide +kernel
theorem dX1_missesOfPart_71 : decode cX1_missesOfPart 71 = .ok (.iconst 0, 1) := by decide +kernel
theorem dX1_missesOfPart_72 : decode cX1_missesOfPart 72 = .ok (.iload_n 1, 1) := by decide +kernel
theorem dX1_missesOfPart_73 : decode cX1_missesOfPart 73 = .ok (.invokestatic 94, 3) := by decide +kernel
theorem dX1_missesOfPart_76 : decode cX1_missesOfPart 76 = .ok (.istore 9, 2) := by decide +kernel
theorem dX1_missesOfPart_78 : decode cX1_missesOfPart 78 = .ok (.iload 9, 2) := by decide +kernel
theorem dX1_missesOfPart_80 : decode cX1_missesOfPart 80 = .ok (.iload_n 2, 1) := by decide +kernel
theorem dX1_missesOfPart_81 : decode cX1_missesOfPart 81 = .ok (.if_icmp .gt 46, 3) := by decide +kernel
theorem dX1_missesOfPart_84 : decode cX1_missesOfPart 84 = .ok (.iload 9, 2) := by decide +kernel
theorem dX1_missesOfPart_86 : decode cX1_missesOfPart 86 = .ok (.bipush 8, 2) := by decide +kernel
theorem dX1_missesOfPart_88 : decode cX1_missesOfPart 88 = .ok (.if_icmp .ge 39, 3) := by decide +kernel
theorem dX1_missesOfPart_91 : decode cX1_missesOfPart 91 = .ok (.lload 7, 2) := by decide +kernel
theorem dX1_missesOfPart_93 : decode cX1_missesOfPart 93 = .ok (.aload_n 0, 1) := by decide +kernel
theorem dX1_missesOfPart_94 : decode cX1_missesOfPart 94 = .ok (.getfield 18, 3) := by decide +kernel
theorem dX1_missesOfPart_97 : decode cX1_missesOfPart 97 = .ok (.iload 9, 2) := by decide +kernel
theorem dX1_missesOfPart_99 : decode cX1_missesOfPart 99 = .ok (.iaload, 1) := by decide +kernel
theorem dX1_missesOfPart_100 : decode cX1_missesOfPart 100 = .ok (.i2l, 1) := by decide +kernel
theorem dX1_missesOfPart_101 : decode cX1_missesOfPart 101 = .ok (.lload 5, 2) := by decide +kernel
theorem dX1_missesOfPart_103 : decode cX1_missesOfPart 103 = .ok (.lmul, 1) := by decide +kernel
theorem dX1_missesOfPart_104 : decode cX1_missesOfPart 104 = .ok (.aload_n 0, 1) := by decide +kernel
theorem dX1_missesOfPart_105 : decode cX1_missesOfPart 105 = .ok (.getfield 22, 3) := by decide +kernel
theorem dX1_missesOfPart_108 : decode cX1_missesOfPart 108 = .ok (.iload 9, 2) := by decide +kernel
theorem dX1_missesOfPart_110 : decode cX1_missesOfPart 110 = .ok (.iaload, 1) := by decide +kernel
theorem dX1_missesOfPart_111 : decode cX1_missesOfPart 111 = .ok (.i2l, 1) := by decide +kernel
theorem dX1_missesOfPart_112 : decode cX1_missesOfPart 112 = .ok (.lload_n 3, 1) := by decide +kernel
theorem dX1_missesOfPart_113 : decode cX1_missesOfPart 113 = .ok (.lmul, 1) := by decide +kernel
theorem dX1_missesOfPart_114 : decode cX1_missesOfPart 114 = .ok (.lsub, 1) := by decide +kernel
theorem dX1_missesOfPart_115 : decode cX1_missesOfPart 115 = .ok (.invokestatic 101, 3) := by decide +kernel
theorem dX1_missesOfPart_118 : decode cX1_missesOfPart 118 = .ok (.ladd, 1) := by decide +kernel
theorem dX1_missesOfPart_119 : decode cX1_missesOfPart 119 = .ok (.lstore 7, 2) := by decide +kernel
theorem dX1_missesOfPart_121 : decode cX1_missesOfPart 121 = .ok (.iinc 9 1, 3) := by decide +kernel
theorem dX1_missesOfPart_124 : decode cX1_missesOfPart 124 = .ok (.goto (-46), 3) := by decide +kernel
theorem dX1_missesOfPart_127 : decode cX1_missesOfPart 127 = .ok (.lload 7, 2) := by decide +kernel
theorem dX1_missesOfPart_129 : decode cX1_missesOfPart 129 = .ok (.ldc2_w 99, 3) := by decide +kernel
theorem dX1_missesOfPart_132 : decode cX1_missesOfPart 132 = .ok (.lmul, 1) := by decide +kernel
theorem dX1_missesOfPart_133 : decode cX1_missesOfPart 133 = .ok (.lload 5, 2) := by decide +kernel
theorem dX1_missesOfPart_135 : decode cX1_missesOfPart 135 = .ok (.ldiv, 1) := by decide +kernel
theorem dX1_missesOfPart_136 : decode cX1_missesOfPart 136 = .ok (.lreturn, 1) := by decide +kernel
theorem dX2_init_0 : decode cX2_init 0 = .ok (.aload_n 0, 1) := by decide +kernel
theorem dX2_init_1 : decode cX2_init 1 = .ok (.invokespecial 3, 3) := by decide +kernel
theorem dX2_init_4 : decode cX2_init 4 = .ok (.aload_n 0, 1) := by decide +kernel
theorem dX2_init_5 : decode cX2_init 5 = .ok (.iconst 4, 1) := by decide +kernel
theorem dX2_init_6 : decode cX2_init 6 = .ok (.newarray .int, 2) := by decide +kernel
theorem dX2_init_8 : decode cX2_init 8 = .ok (.putfield 9, 3) := by decide +kernel
theorem dX2_init_11 : decode cX2_init 11 = .ok (.aload_n 0, 1) := by decide +kernel
theorem dX2_init_12 : decode cX2_init 12 = .ok (.iconst 4, 1) := by decide +kernel
theorem dX2_init_13 : decode cX2_init 13 = .ok (.newarray .int, 2) := by decide +kernel
theorem dX2_init_15 : decode cX2_init 15 = .ok (.putfield 15, 3) := by decide +kernel
theorem dX2_init_18 : decode cX2_init 18 = .ok (.return_, 1) := by decide +kernel
theorem dX2_offer_0 : decode cX2_offer 0 = .ok (.aload_n 0, 1) := by decide +kernel
theorem dX2_offer_1 : decode cX2_offer 1 = .ok (.getfield 18, 3) := by decide +kernel
theorem dX2_offer_4 : decode cX2_offer 4 = .ok (.istore_n 3, 1) := by decide +kernel
theorem dX2_offer_5 : decode cX2_offer 5 = .ok (.iload_n 3, 1) := by decide +kernel
theorem dX2_offer_6 : decode cX2_offer 6 = .ok (.ifCond .le 21, 3) := by decide +kernel
theorem dX2_offer_9 : decode cX2_offer 9 = .ok (.aload_n 0, 1) := by decide +kernel
theorem dX2_offer_10 : decode cX2_offer 10 = .ok (.getfield 15, 3) := by decide +kernel
theorem dX2_offer_13 : decode cX2_offer 13 = .ok (.iload_n 3, 1) := by decide +kernel
theorem dX2_offer_14 : decode cX2_offer 14 = .ok (.iconst 1, 1) := by decide +kernel
theorem dX2_offer_15 : decode cX2_offer 15 = .ok (.isub, 1) := by decide +kernel
theorem dX2_offer_16 : decode cX2_offer 16 = .ok (.iaload, 1) := by decide +kernel
theorem dX2_offer_17 : decode cX2_offer 17 = .ok (.iload_n 2, 1) := by decide +kernel
theorem dX2_offer_18 : decode cX2_offer 18 = .ok (.if_icmp .le 9, 3) := by decide +kernel
theorem dX2_offer_21 : decode cX2_offer 21 = .ok (.iinc 3 (-1), 3) := by decide +kernel
theorem dX2_offer_24 : decode cX2_offer 24 = .ok (.goto (-19), 3) := by decide +kernel
theorem dX2_offer_27 : decode cX2_offer 27 = .ok (.iload_n 3, 1) := by decide +kernel
theorem dX2_offer_28 : decode cX2_offer 28 = .ok (.iconst 4, 1) := by decide +kernel
theorem dX2_offer_29 : decode cX2_offer 29 = .ok (.if_icmp .lt 4, 3) := by decide +kernel
theorem dX2_offer_32 : decode cX2_offer 32 = .ok (.return_, 1) := by decide +kernel
theorem dX2_offer_33 : decode cX2_offer 33 = .ok (.aload_n 0, 1) := by decide +kernel
theorem dX2_offer_34 : decode cX2_offer 34 = .ok (.aload_n 0, 1) := by decide +kernel
theorem dX2_offer_35 : decode cX2_offer 35 = .ok (.getfield 18, 3) := by decide +kernel
theorem dX2_offer_38 : decode cX2_offer 38 = .ok (.iconst 1, 1) := by decide +kernel
theorem dX2_offer_39 : decode cX2_offer 39 = .ok (.iadd, 1) := by decide +kernel
theorem dX2_offer_40 : decode cX2_offer 40 = .ok (.iconst 4, 1) := by decide +kernel
theorem dX2_offer_41 : decode cX2_offer 41 = .ok (.invokestatic 22, 3) := by decide +kernel
theorem dX2_offer_44 : decode cX2_offer 44 = .ok (.putfield 18, 3) := by decide +kernel
theorem dX2_offer_47 : decode cX2_offer 47 = .ok (.aload_n 0, 1) := by decide +kernel
theorem dX2_offer_48 : decode cX2_offer 48 = .ok (.getfield 18, 3) := by decide +kernel
theorem dX2_offer_51 : decode cX2_offer 51 = .ok (.iconst 1, 1) := by decide +kernel
theorem dX2_offer_52 : decode cX2_offer 52 = .ok (.isub, 1) := by decide +kernel
theorem dX2_offer_53 : decode cX2_offer 53 = .ok (.istore 4, 2) := by decide +kernel
theorem dX2_offer_55 : decode cX2_offer 55 = .ok (.iload 4, 2) := by decide +kernel
theorem dX2_offer_57 : decode cX2_offer 57 = .ok (.iload_n 3, 1) := by decide +kernel
theorem dX2_offer_58 : decode cX2_offer 58 = .ok (.if_icmp .le 41, 3) := by decide +kernel
theorem dX2_offer_61 : decode cX2_offer 61 = .ok (.aload_n 0, 1) := by decide +kernel
theorem dX2_offer_62 : decode cX2_offer 62 = .ok (.getfield 9, 3) := by decide +kernel
theorem dX2_offer_65 : decode cX2_offer 65 = .ok (.iload 4, 2) := by decide +kernel
theorem dX2_offer_67 : decode cX2_offer 67 = .ok (.aload_n 0, 1) := by decide +kernel
theorem dX2_offer_68 : decode cX2_offer 68 = .ok (.getfield 9, 3) := by decide +kernel
theorem dX2_offer_71 : decode cX2_offer 71 = .ok (.iload 4, 2) := by decide +kernel
theorem dX2_offer_73 : decode cX2_offer 73 = .ok (.iconst 1, 1) := by decide +kernel
theorem dX2_offer_74 : decode cX2_offer 74 = .ok (.isub, 1) := by decide +kernel
theorem dX2_offer_75 : decode cX2_offer 75 = .ok (.iaload, 1) := by decide +kernel
theorem dX2_offer_76 : decode cX2_offer 76 = .ok (.iastore, 1) := by decide +kernel
theorem dX2_offer_77 : decode cX2_offer 77 = .ok (.aload_n 0, 1) := by decide +kernel
theorem dX2_offer_78 : decode cX2_offer 78 = .ok (.getfield 15, 3) := by decide +kernel
theorem dX2_offer_81 : decode cX2_offer 81 = .ok (.iload 4, 2) := by decide +kernel
theorem dX2_offer_83 : decode cX2_offer 83 = .ok (.aload_n 0, 1) := by decide +kernel
theorem dX2_offer_84 : decode cX2_offer 84 = .ok (.getfield 15, 3) := by decide +kernel
theorem dX2_offer_87 : decode cX2_offer 87 = .ok (.iload 4, 2) := by decide +kernel
theorem dX2_offer_89 : decode cX2_offer 89 = .ok (.iconst 1, 1) := by decide +kernel
theorem dX2_offer_90 : decode cX2_offer 90 = .ok (.isub, 1) := by decide +kernel
theorem dX2_offer_91 : decode cX2_offer 91 = .ok (.iaload, 1) := by decide +kernel
theorem dX2_offer_92 : decode cX2_offer 92 = .ok (.iastore, 1) := by decide +kernel
theorem dX2_offer_93 : decode cX2_offer 93 = .ok (.iinc 4 (-1), 3) := by decide +kernel
theorem dX2_offer_96 : decode cX2_offer 96 = .ok (.goto (-41), 3) := by decide +kernel
theorem dX2_offer_99 : decode cX2_offer 99 = .ok (.aload_n 0, 1) := by decide +kernel
theorem dX2_offer_100 : decode cX2_offer 100 = .ok (.getfield 9, 3) := by decide +kernel
theorem dX2_offer_103 : decode cX2_offer 103 = .ok (.iload_n 3, 1) := by decide +kernel
theorem dX2_offer_104 : decode cX2_offer 104 = .ok (.iload_n 1, 1) := by decide +kernel
theorem dX2_offer_105 : decode cX2_offer 105 = .ok (.iastore, 1) := by decide +kernel
theorem dX2_offer_106 : decode cX2_offer 106 = .ok (.aload_n 0, 1) := by decide +kernel
theorem dX2_offer_107 : decode cX2_offer 107 = .ok (.getfield 15, 3) := by decide +kernel
theorem dX2_offer_110 : decode cX2_offer 110 = .ok (.iload_n 3, 1) := by decide +kernel
theorem dX2_offer_111 : decode cX2_offer 111 = .ok (.iload_n 2, 1) := by decide +kernel
theorem dX2_offer_112 : decode cX2_offer 112 = .ok (.iastore, 1) := by decide +kernel
theorem dX2_offer_113 : decode cX2_offer 113 = .ok (.return_, 1) := by decide +kernel
theorem dX2_placeAt_0 : decode cX2_placeAt 0 = .ok (.iload_n 1, 1) := by decide +kernel
theorem dX2_placeAt_1 : decode cX2_placeAt 1 = .ok (.ifCond .lt 20, 3) := by decide +kernel
theorem dX2_placeAt_4 : decode cX2_placeAt 4 = .ok (.iload_n 1, 1) := by decide +kernel
theorem dX2_placeAt_5 : decode cX2_placeAt 5 = .ok (.aload_n 0, 1) := by decide +kernel
theorem dX2_placeAt_6 : decode cX2_placeAt 6 = .ok (.getfield 18, 3) := by decide +kernel
theorem dX2_placeAt_9 : decode cX2_placeAt 9 = .ok (.if_icmp .ge 12, 3) := by decide +kernel
theorem dX2_placeAt_12 : decode cX2_placeAt 12 = .ok (.aload_n 0, 1) := by decide +kernel
theorem dX2_placeAt_13 : decode cX2_placeAt 13 = .ok (.getfield 9, 3) := by decide +kernel
theorem dX2_placeAt_16 : decode cX2_placeAt 16 = .ok (.iload_n 1, 1) := by decide +kernel
theorem dX2_placeAt_17 : decode cX2_placeAt 17 = .ok (.iaload, 1) := by decide +kernel
theorem dX2_placeAt_18 : decode cX2_placeAt 18 = .ok (.goto 4, 3) := by decide +kernel
theorem dX2_placeAt_21 : decode cX2_placeAt 21 = .ok (.iconst (-1), 1) := by decide +kernel
theorem dX2_placeAt_22 : decode cX2_placeAt 22 = .ok (.ireturn, 1) := by decide +kernel
theorem dX3_init_0 : decode cX3_init 0 = .ok (.aload_n 0, 1) := by decide +kernel
theorem dX3_init_1 : decode cX3_init 1 = .ok (.invokespecial 3, 3) := by decide +kernel
theorem dX3_init_4 : decode cX3_init 4 = .ok (.aload_n 0, 1) := by decide +kernel
theorem dX3_init_5 : decode cX3_init 5 = .ok (.bipush 100, 2) := by decide +kernel
theorem dX3_init_7 : decode cX3_init 7 = .ok (.newarray .int, 2) := by decide +kernel
theorem dX3_init_9 : decode cX3_init 9 = .ok (.putfield 9, 3) := by decide +kernel
theorem dX3_init_12 : decode cX3_init 12 = .ok (.aload_n 0, 1) := by decide +kernel
theorem dX3_init_13 : decode cX3_init 13 = .ok (.bipush 100, 2) := by decide +kernel
theorem dX3_init_15 : decode cX3_init 15 = .ok (.newarray .int, 2) := by decide +kernel
theorem dX3_init_17 : decode cX3_init 17 = .ok (.putfield 15, 3) := by decide +kernel
theorem dX3_init_20 : decode cX3_init 20 = .ok (.aload_n 0, 1) := by decide +kernel
theorem dX3_init_21 : decode cX3_init 21 = .ok (.bipush 100, 2) := by decide +kernel
theorem dX3_init_23 : decode cX3_init 23 = .ok (.newarray .int, 2) := by decide +kernel
theorem dX3_init_25 : decode cX3_init 25 = .ok (.putfield 18, 3) := by decide +kernel
theorem dX3_init_28 : decode cX3_init 28 = .ok (.return_, 1) := by decide +kernel
theorem dX3_append_0 : decode cX3_append 0 = .ok (.aload_n 0, 1) := by decide +kernel
theorem dX3_append_1 : decode cX3_append 1 = .ok (.getfield 21, 3) := by decide +kernel
theorem dX3_append_4 : decode cX3_append 4 = .ok (.bipush 100, 2) := by decide +kernel
theorem dX3_append_6 : decode cX3_append 6 = .ok (.if_icmp .lt 5, 3) := by decide +kernel
theorem dX3_append_9 : decode cX3_append 9 = .ok (.iconst (-1), 1) := by decide +kernel
theorem dX3_append_10 : decode cX3_append 10 = .ok (.ireturn, 1) := by decide +kernel
theorem dX3_append_11 : decode cX3_append 11 = .ok (.aload_n 0, 1) := by decide +kernel
theorem dX3_append_12 : decode cX3_append 12 = .ok (.getfield 9, 3) := by decide +kernel
theorem dX3_append_15 : decode cX3_append 15 = .ok (.aload_n 0, 1) := by decide +kernel
theorem dX3_append_16 : decode cX3_append 16 = .ok (.getfield 21, 3) := by decide +kernel
theorem dX3_append_19 : decode cX3_append 19 = .ok (.iload_n 1, 1) := by decide +kernel
theorem dX3_append_20 : decode cX3_append 20 = .ok (.iastore, 1) := by decide +kernel
theorem dX3_append_21 : decode cX3_append 21 = .ok (.aload_n 0, 1) := by decide +kernel
theorem dX3_append_22 : decode cX3_append 22 = .ok (.getfield 15, 3) := by decide +kernel
theorem dX3_append_25 : decode cX3_append 25 = .ok (.aload_n 0, 1) := by decide +kernel
theorem dX3_append_26 : decode cX3_append 26 = .ok (.getfield 21, 3) := by decide +kernel
theorem dX3_append_29 : decode cX3_append 29 = .ok (.iload_n 2, 1) := by decide +kernel
theorem dX3_append_30 : decode cX3_append 30 = .ok (.iastore, 1) := by decide +kernel
theorem dX3_append_31 : decode cX3_append 31 = .ok (.aload_n 0, 1) := by decide +kernel
theorem dX3_append_32 : decode cX3_append 32 = .ok (.getfield 18, 3) := by decide +kernel
theorem dX3_append_35 : decode cX3_append 35 = .ok (.aload_n 0, 1) := by decide +kernel
theorem dX3_append_36 : decode cX3_append 36 = .ok (.getfield 21, 3) := by decide +kernel
theorem dX3_append_39 : decode cX3_append 39 = .ok (.iload_n 3, 1) := by decide +kernel
theorem dX3_append_40 : decode cX3_append 40 = .ok (.iastore, 1) := by decide +kernel
theorem dX3_append_41 : decode cX3_append 41 = .ok (.aload_n 0, 1) := by decide +kernel
theorem dX3_append_42 : decode cX3_append 42 = .ok (.dup, 1) := by decide +kernel
theorem dX3_append_43 : decode cX3_append 43 = .ok (.getfield 21, 3) := by decide +kernel
theorem dX3_append_46 : decode cX3_append 46 = .ok (.iconst 1, 1) := by decide +kernel
theorem dX3_append_47 : decode cX3_append 47 = .ok (.iadd, 1) := by decide +kernel
theorem dX3_append_48 : decode cX3_append 48 = .ok (.putfield 21, 3) := by decide +kernel
theorem dX3_append_51 : decode cX3_append 51 = .ok (.aload_n 0, 1) := by decide +kernel
theorem dX3_append_52 : decode cX3_append 52 = .ok (.getfield 21, 3) := by decide +kernel
theorem dX3_append_55 : decode cX3_append 55 = .ok (.iconst 1, 1) := by decide +kernel
theorem dX3_append_56 : decode cX3_append 56 = .ok (.isub, 1) := by decide +kernel
theorem dX3_append_57 : decode cX3_append 57 = .ok (.ireturn, 1) := by decide +kernel
theorem dX3_latestUntil_0 : decode cX3_latestUntil 0 = .ok (.iload_n 1, 1) := by decide +kernel
theorem dX3_latestUntil_1 : decode cX3_latestUntil 1 = .ok (.istore_n 3, 1) := by decide +kernel
theorem dX3_latestUntil_2 : decode cX3_latestUntil 2 = .ok (.iconst 0, 1) := by decide +kernel
theorem dX3_latestUntil_3 : decode cX3_latestUntil 3 = .ok (.istore 4, 2) := by decide +kernel
theorem dX3_latestUntil_5 : decode cX3_latestUntil 5 = .ok (.iload 4, 2) := by decide +kernel
theorem dX3_latestUntil_7 : decode cX3_latestUntil 7 = .ok (.bipush 100, 2) := by decide +kernel
theorem dX3_latestUntil_9 : decode cX3_latestUntil 9 = .ok (.if_icmp .ge 40, 3) := by decide +kernel
theorem dX3_latestUntil_12 : decode cX3_latestUntil 12 = .ok (.iload_n 3, 1) := by decide +kernel
theorem dX3_latestUntil_13 : decode cX3_latestUntil 13 = .ok (.ifCond .lt 9, 3) := by decide +kernel
theorem dX3_latestUntil_16 : decode cX3_latestUntil 16 = .ok (.iload_n 3, 1) := by decide +kernel
theorem dX3_latestUntil_17 : decode cX3_latestUntil 17 = .ok (.bipush 100, 2) := by decide +kernel
theorem dX3_latestUntil_19 : decode cX3_latestUntil 19 = .ok (.if_icmp .lt 5, 3) := by decide +kernel
theorem dX3_latestUntil_22 : decode cX3_latestUntil 22 = .ok (.iconst (-1), 1) := by decide +kernel
theorem dX3_latestUntil_23 : decode cX3_latestUntil 23 = .ok (.ireturn, 1) := by decide +kernel
theorem dX3_latestUntil_24 : decode cX3_latestUntil 24 = .ok (.aload_n 0, 1) := by decide +kernel
theorem dX3_latestUntil_25 : decode cX3_latestUntil 25 = .ok (.getfield 15, 3) := by decide +kernel
theorem dX3_latestUntil_28 : decode cX3_latestUntil 28 = .ok (.iload_n 3, 1) := by decide +kernel
theorem dX3_latestUntil_29 : decode cX3_latestUntil 29 = .ok (.iaload, 1) := by decide +kernel
theorem dX3_latestUntil_30 : decode cX3_latestUntil 30 = .ok (.iload_n 2, 1) := by decide +kernel
theorem dX3_latestUntil_31 : decode cX3_latestUntil 31 = .ok (.if_icmp .gt 5, 3) := by decide +kernel
theorem dX3_latestUntil_34 : decode cX3_latestUntil 34 = .ok (.iload_n 3, 1) := by decide +kernel
theorem dX3_latestUntil_35 : decode cX3_latestUntil 35 = .ok (.ireturn, 1) := by decide +kernel
theorem dX3_latestUntil_36 : decode cX3_latestUntil 36 = .ok (.aload_n 0, 1) := by decide +kernel
theorem dX3_latestUntil_37 : decode cX3_latestUntil 37 = .ok (.getfield 18, 3) := by decide +kernel
theorem dX3_latestUntil_40 : decode cX3_latestUntil 40 = .ok (.iload_n 3, 1) := by decide +kernel
theorem dX3_latestUntil_41 : decode cX3_latestUntil 41 = .ok (.iaload, 1) := by decide +kernel
theorem dX3_latestUntil_42 : decode cX3_latestUntil 42 = .ok (.istore_n 3, 1) := by decide +kernel
theorem dX3_latestUntil_43 : decode cX3_latestUntil 43 = .ok (.iinc 4 1, 3) := by decide +kernel
theorem dX3_latestUntil_46 : decode cX3_latestUntil 46 = .ok (.goto (-41), 3) := by decide +kernel
theorem dX3_latestUntil_49 : decode cX3_latestUntil 49 = .ok (.iconst (-1), 1) := by decide +kernel
theorem dX3_latestUntil_50 : decode cX3_latestUntil 50 = .ok (.ireturn, 1) := by decide +kernel
theorem dX4_init_0 : decode cX4_init 0 = .ok (.aload_n 0, 1) := by decide +kernel
theorem dX4_init_1 : decode cX4_init 1 = .ok (.invokespecial 3, 3) := by decide +kernel
theorem dX4_init_4 : decode cX4_init 4 = .ok (.aload_n 0, 1) := by decide +kernel
theorem dX4_init_5 : decode cX4_init 5 = .ok (.bipush 8, 2) := by decide +kernel
theorem dX4_init_7 : decode cX4_init 7 = .ok (.anewarray 9, 3) := by decide +kernel
theorem dX4_init_10 : decode cX4_init 10 = .ok (.putfield 11, 3) := by decide +kernel
theorem dX4_init_13 : decode cX4_init 13 = .ok (.aload_n 0, 1) := by decide +kernel
theorem dX4_init_14 : decode cX4_init 14 = .ok (.aload_n 1, 1) := by decide +kernel
theorem dX4_init_15 : decode cX4_init 15 = .ok (.putfield 17, 3) := by decide +kernel
theorem dX4_init_18 : decode cX4_init 18 = .ok (.iconst 0, 1) := by decide +kernel
theorem dX4_init_19 : decode cX4_init 19 = .ok (.istore_n 2, 1) := by decide +kernel
theorem dX4_init_20 : decode cX4_init 20 = .ok (.iload_n 2, 1) := by decide +kernel
theorem dX4_init_21 : decode cX4_init 21 = .ok (.bipush 8, 2) := by decide +kernel
theorem dX4_init_23 : decode cX4_init 23 = .ok (.if_icmp .ge 22, 3) := by decide +kernel
theorem dX4_init_26 : decode cX4_init 26 = .ok (.aload_n 0, 1) := by decide +kernel
theorem dX4_init_27 : decode cX4_init 27 = .ok (.getfield 11, 3) := by decide +kernel
theorem dX4_init_30 : decode cX4_init 30 = .ok (.iload_n 2, 1) := by decide +kernel
theorem dX4_init_31 : decode cX4_init 31 = .ok (.new 9, 3) := by decide +kernel
theorem dX4_init_34 : decode cX4_init 34 = .ok (.dup, 1) := by decide +kernel
theorem dX4_init_35 : decode cX4_init 35 = .ok (.invokespecial 21, 3) := by decide +kernel
theorem dX4_init_38 : decode cX4_init 38 = .ok (.aastore, 1) := by decide +kernel
theorem dX4_init_39 : decode cX4_init 39 = .ok (.iinc 2 1, 3) := by decide +kernel
theorem dX4_init_42 : decode cX4_init 42 = .ok (.goto (-22), 3) := by decide +kernel
theorem dX4_init_45 : decode cX4_init 45 = .ok (.return_, 1) := by decide +kernel
theorem dX4_ownerOf_0 : decode cX4_ownerOf 0 = .ok (.iconst (-1), 1) := by decide +kernel
theorem dX4_ownerOf_1 : decode cX4_ownerOf 1 = .ok (.istore 5, 2) := by decide +kernel
theorem dX4_ownerOf_3 : decode cX4_ownerOf 3 = .ok (.iconst 0, 1) := by decide +kernel
theorem dX4_ownerOf_4 : decode cX4_ownerOf 4 = .ok (.istore 6, 2) := by decide +kernel
theorem dX4_ownerOf_6 : decode cX4_ownerOf 6 = .ok (.iconst 0, 1) := by decide +kernel
theorem dX4_ownerOf_7 : decode cX4_ownerOf 7 = .ok (.istore 7, 2) := by decide +kernel
theorem dX4_ownerOf_9 : decode cX4_ownerOf 9 = .ok (.iload 7, 2) := by decide +kernel
theorem dX4_ownerOf_11 : decode cX4_ownerOf 11 = .ok (.bipush 16, 2) := by decide +kernel
theorem dX4_ownerOf_13 : decode cX4_ownerOf 13 = .ok (.if_icmp .ge 62, 3) := by decide +kernel
theorem dX4_ownerOf_16 : decode cX4_ownerOf 16 = .ok (.aload_n 1, 1) := by decide +kernel
theorem dX4_ownerOf_17 : decode cX4_ownerOf 17 = .ok (.iload 7, 2) := by decide +kernel
theorem dX4_ownerOf_19 : decode cX4_ownerOf 19 = .ok (.iload 4, 2) := by decide +kernel
theorem dX4_ownerOf_21 : decode cX4_ownerOf 21 = .ok (.invokevirtual 22, 3) := by decide +kernel
theorem dX4_ownerOf_24 : decode cX4_ownerOf 24 = .ok (.iconst (-1), 1) := by decide +kernel
theorem dX4_ownerOf_25 : decode cX4_ownerOf 25 = .ok (.if_icmp .ne 6, 3) := by decide +kernel
theorem dX4_ownerOf_28 : decode cX4_ownerOf 28 = .ok (.goto 41, 3) := by decide +kernel
theorem dX4_ownerOf_31 : decode cX4_ownerOf 31 = .ok (.iload_n 2, 1) := by decide +kernel
theorem dX4_ownerOf_32 : decode cX4_ownerOf 32 = .ok (.iload_n 3, 1) := by decide +kernel
theorem dX4_ownerOf_33 : decode cX4_ownerOf 33 = .ok (.aload_n 0, 1) := by decide +kernel
theorem dX4_ownerOf_34 : decode cX4_ownerOf 34 = .ok (.getfield 17, 3) := by decide +kernel
theorem dX4_ownerOf_37 : decode cX4_ownerOf 37 = .ok (.getfield 28, 3) := by decide +kernel
theorem dX4_ownerOf_40 : decode cX4_ownerOf 40 = .ok (.iload 7, 2) := by decide +kernel
theorem dX4_ownerOf_42 : decode cX4_ownerOf 42 = .ok (.aaload, 1) := by decide +kernel
theorem dX4_ownerOf_43 : decode cX4_ownerOf 43 = .ok (.invokestatic 34, 3) := by decide +kernel
theorem dX4_ownerOf_46 : decode cX4_ownerOf 46 = .ok (.istore 8, 2) := by decide +kernel
theorem dX4_ownerOf_48 : decode cX4_ownerOf 48 = .ok (.iload 5, 2) := by decide +kernel
theorem dX4_ownerOf_50 : decode cX4_ownerOf 50 = .ok (.iconst (-1), 1) := by decide +kernel
theorem dX4_ownerOf_51 : decode cX4_ownerOf 51 = .ok (.if_icmp .eq 10, 3) := by decide +kernel
theorem dX4_ownerOf_54 : decode cX4_ownerOf 54 = .ok (.iload 8, 2) := by decide +kernel
theorem dX4_ownerOf_56 : decode cX4_ownerOf 56 = .ok (.iload 6, 2) := by decide +kernel
theorem dX4_ownerOf_58 : decode cX4_ownerOf 58 = .ok (.if_icmp .ge 11, 3) := by decide +kernel
theorem dX4_ownerOf_61 : decode cX4_ownerOf 61 = .ok (.iload 7, 2) := by decide +kernel
theorem dX4_ownerOf_63 : decode cX4_ownerOf 63 = .ok (.istore 5, 2) := by decide +kernel
theorem dX4_ownerOf_65 : decode cX4_ownerOf 65 = .ok (.iload 8, 2) := by decide +kernel
theorem dX4_ownerOf_67 : decode cX4_ownerOf 67 = .ok (.istore 6, 2) := by decide +kernel
theorem dX4_ownerOf_69 : decode cX4_ownerOf 69 = .ok (.iinc 7 1, 3) := by decide +kernel
theorem dX4_ownerOf_72 : decode cX4_ownerOf 72 = .ok (.goto (-63), 3) := by decide +kernel
theorem dX4_ownerOf_75 : decode cX4_ownerOf 75 = .ok (.iload 5, 2) := by decide +kernel
theorem dX4_ownerOf_77 : decode cX4_ownerOf 77 = .ok (.ireturn, 1) := by decide +kernel
theorem dX4_countOwned_0 : decode cX4_countOwned 0 = .ok (.iconst 0, 1) := by decide +kernel
theorem dX4_countOwned_1 : decode cX4_countOwned 1 = .ok (.istore 4, 2) := by decide +kernel
theorem dX4_countOwned_3 : decode cX4_countOwned 3 = .ok (.aload_n 1, 1) := by decide +kernel
theorem dX4_countOwned_4 : decode cX4_countOwned 4 = .ok (.iload_n 2, 1) := by decide +kernel
theorem dX4_countOwned_5 : decode cX4_countOwned 5 = .ok (.iload_n 3, 1) := by decide +kernel
theorem dX4_countOwned_6 : decode cX4_countOwned 6 = .ok (.invokevirtual 22, 3) := by decide +kernel
theorem dX4_countOwned_9 : decode cX4_countOwned 9 = .ok (.iconst (-1), 1) := by decide +kernel
theorem dX4_countOwned_10 : decode cX4_countOwned 10 = .ok (.if_icmp .ne 6, 3) := by decide +kernel
theorem dX4_countOwned_13 : decode cX4_countOwned 13 = .ok (.iload 4, 2) := by decide +kernel
theorem dX4_countOwned_15 : decode cX4_countOwned 15 = .ok (.ireturn, 1) := by decide +kernel
theorem dX4_countOwned_16 : decode cX4_countOwned 16 = .ok (.iconst 0, 1) := by decide +kernel
theorem dX4_countOwned_17 : decode cX4_countOwned 17 = .ok (.istore 5, 2) := by decide +kernel
theorem dX4_countOwned_19 : decode cX4_countOwned 19 = .ok (.iload 5, 2) := by decide +kernel
theorem dX4_countOwned_21 : decode cX4_countOwned 21 = .ok (.bipush 100, 2) := by decide +kernel
theorem dX4_countOwned_23 : decode cX4_countOwned 23 = .ok (.if_icmp .ge 32, 3) := by decide +kernel
theorem dX4_countOwned_26 : decode cX4_countOwned 26 = .ok (.aload_n 0, 1) := by decide +kernel
theorem dX4_countOwned_27 : decode cX4_countOwned 27 = .ok (.aload_n 1, 1) := by decide +kernel
theorem dX4_countOwned_28 : decode cX4_countOwned 28 = .ok (.iload 5, 2) := by decide +kernel
theorem dX4_countOwned_30 : decode cX4_countOwned 30 = .ok (.bipush 10, 2) := by decide +kernel
theorem dX4_countOwned_32 : decode cX4_countOwned 32 = .ok (.irem, 1) := by decide +kernel
theorem dX4_countOwned_33 : decode cX4_countOwned 33 = .ok (.iload 5, 2) := by decide +kernel
theorem dX4_countOwned_35 : decode cX4_countOwned 35 = .ok (.bipush 10, 2) := by decide +kernel
theorem dX4_countOwned_37 : decode cX4_countOwned 37 = .ok (.idiv, 1) := by decide +kernel
theorem dX4_countOwned_38 : decode cX4_countOwned 38 = .ok (.iload_n 3, 1) := by decide +kernel
theorem dX4_countOwned_39 : decode cX4_countOwned 39 = .ok (.invokevirtual 38, 3) := by decide +kernel
theorem dX4_countOwned_42 : decode cX4_countOwned 42 = .ok (.iload_n 2, 1) := by decide +kernel
theorem dX4_countOwned_43 : decode cX4_countOwned 43 = .ok (.if_icmp .ne 6, 3) := by decide +kernel
theorem dX4_countOwned_46 : decode cX4_countOwned 46 = .ok (.iinc 4 1, 3) := by decide +kernel
theorem dX4_countOwned_49 : decode cX4_countOwned 49 = .ok (.iinc 5 1, 3) := by decide +kernel
theorem dX4_countOwned_52 : decode cX4_countOwned 52 = .ok (.goto (-33), 3) := by decide +kernel
theorem dX4_countOwned_55 : decode cX4_countOwned 55 = .ok (.iload 4, 2) := by decide +kernel
theorem dX4_countOwned_57 : decode cX4_countOwned 57 = .ok (.ireturn, 1) := by decide +kernel
theorem dX4_rainOf_0 : decode cX4_rainOf 0 = .ok (.iconst 0, 1) := by decide +kernel
theorem dX4_rainOf_1 : decode cX4_rainOf 1 = .ok (.istore 4, 2) := by decide +kernel
theorem dX4_rainOf_3 : decode cX4_rainOf 3 = .ok (.aload_n 2, 1) := by decide +kernel
theorem dX4_rainOf_4 : decode cX4_rainOf 4 = .ok (.getfield 42, 3) := by decide +kernel
theorem dX4_rainOf_7 : decode cX4_rainOf 7 = .ok (.ifCond .ne 5, 3) := by decide +kernel
theorem dX4_rainOf_10 : decode cX4_rainOf 10 = .ok (.iconst (-1), 1) := by decide +kernel
theorem dX4_rainOf_11 : decode cX4_rainOf 11 = .ok (.ireturn, 1) := by decide +kernel
theorem dX4_rainOf_12 : decode cX4_rainOf 12 = .ok (.iconst 0, 1) := by decide +kernel
theorem dX4_rainOf_13 : decode cX4_rainOf 13 = .ok (.istore 5, 2) := by decide +kernel
theorem dX4_rainOf_15 : decode cX4_rainOf 15 = .ok (.iload 5, 2) := by decide +kernel
theorem dX4_rainOf_17 : decode cX4_rainOf 17 = .ok (.bipush 100, 2) := by decide +kernel
theorem dX4_rainOf_19 : decode cX4_rainOf 19 = .ok (.if_icmp .ge 57, 3) := by decide +kernel
theorem dX4_rainOf_22 : decode cX4_rainOf 22 = .ok (.aload_n 2, 1) := by decide +kernel
theorem dX4_rainOf_23 : decode cX4_rainOf 23 = .ok (.getfield 46, 3) := by decide +kernel
theorem dX4_rainOf_26 : decode cX4_rainOf 26 = .ok (.iload 5, 2) := by decide +kernel
theorem dX4_rainOf_28 : decode cX4_rainOf 28 = .ok (.baload, 1) := by decide +kernel
theorem dX4_rainOf_29 : decode cX4_rainOf 29 = .ok (.ifCond .eq 41, 3) := by decide +kernel
theorem dX4_rainOf_32 : decode cX4_rainOf 32 = .ok (.aload_n 0, 1) := by decide +kernel
theorem dX4_rainOf_33 : decode cX4_rainOf 33 = .ok (.aload_n 1, 1) := by decide +kernel
theorem dX4_rainOf_34 : decode cX4_rainOf 34 = .ok (.iload 5, 2) := by decide +kernel
theorem dX4_rainOf_36 : decode cX4_rainOf 36 = .ok (.bipush 10, 2) := by decide +kernel
theorem dX4_rainOf_38 : decode cX4_rainOf 38 = .ok (.irem, 1) := by decide +kernel
theorem dX4_rainOf_39 : decode cX4_rainOf 39 = .ok (.iload 5, 2) := by decide +kernel
theorem dX4_rainOf_41 : decode cX4_rainOf 41 = .ok (.bipush 10, 2) := by decide +kernel
theorem dX4_rainOf_43 : decode cX4_rainOf 43 = .ok (.idiv, 1) := by decide +kernel
theorem dX4_rainOf_44 : decode cX4_rainOf 44 = .ok (.iload_n 3, 1) := by decide +kernel
theorem dX4_rainOf_45 : decode cX4_rainOf 45 = .ok (.invokevirtual 38, 3) := by decide +kernel
theorem dX4_rainOf_48 : decode cX4_rainOf 48 = .ok (.istore 6, 2) := by decide +kernel
theorem dX4_rainOf_50 : decode cX4_rainOf 50 = .ok (.iload 6, 2) := by decide +kernel
theorem dX4_rainOf_52 : decode cX4_rainOf 52 = .ok (.iconst (-1), 1) := by decide +kernel
theorem dX4_rainOf_53 : decode cX4_rainOf 53 = .ok (.if_icmp .ne 5, 3) := by decide +kernel
theorem dX4_rainOf_56 : decode cX4_rainOf 56 = .ok (.iconst (-1), 1) := by decide +kernel
theorem dX4_rainOf_57 : decode cX4_rainOf 57 = .ok (.ireturn, 1) := by decide +kernel
theorem dX4_rainOf_58 : decode cX4_rainOf 58 = .ok (.iload 4, 2) := by decide +kernel
theorem dX4_rainOf_60 : decode cX4_rainOf 60 = .ok (.aload_n 1, 1) := by decide +kernel
theorem dX4_rainOf_61 : decode cX4_rainOf 61 = .ok (.iload 6, 2) := by decide +kernel
theorem dX4_rainOf_63 : decode cX4_rainOf 63 = .ok (.iload_n 3, 1) := by decide +kernel
theorem dX4_rainOf_64 : decode cX4_rainOf 64 = .ok (.invokevirtual 22, 3) := by decide +kernel
theorem dX4_rainOf_67 : decode cX4_rainOf 67 = .ok (.iadd, 1) := by decide +kernel
theorem dX4_rainOf_68 : decode cX4_rainOf 68 = .ok (.istore 4, 2) := by decide +kernel
theorem dX4_rainOf_70 : decode cX4_rainOf 70 = .ok (.iinc 5 1, 3) := by decide +kernel
theorem dX4_rainOf_73 : decode cX4_rainOf 73 = .ok (.goto (-58), 3) := by decide +kernel
theorem dX4_rainOf_76 : decode cX4_rainOf 76 = .ok (.iload 4, 2) := by decide +kernel
theorem dX4_rainOf_78 : decode cX4_rainOf 78 = .ok (.ireturn, 1) := by decide +kernel
theorem dX4_flowOf_0 : decode cX4_flowOf 0 = .ok (.lconst 0, 1) := by decide +kernel
theorem dX4_flowOf_1 : decode cX4_flowOf 1 = .ok (.lstore 4, 2) := by decide +kernel
theorem dX4_flowOf_3 : decode cX4_flowOf 3 = .ok (.iconst 0, 1) := by decide +kernel
theorem dX4_flowOf_4 : decode cX4_flowOf 4 = .ok (.istore 6, 2) := by decide +kernel
theorem dX4_flowOf_6 : decode cX4_flowOf 6 = .ok (.iload 6, 2) := by decide +kernel
theorem dX4_flowOf_8 : decode cX4_flowOf 8 = .ok (.bipush 8, 2) := by decide +kernel
theorem dX4_flowOf_10 : decode cX4_flowOf 10 = .ok (.if_icmp .ge 53, 3) := by decide +kernel
theorem dX4_flowOf_13 : decode cX4_flowOf 13 = .ok (.aload_n 0, 1) := by decide +kernel
theorem dX4_flowOf_14 : decode cX4_flowOf 14 = .ok (.getfield 17, 3) := by decide +kernel
theorem dX4_flowOf_17 : decode cX4_flowOf 17 = .ok (.iconst 4, 1) := by decide +kernel
theorem dX4_flowOf_18 : decode cX4_flowOf 18 = .ok (.iload 6, 2) := by decide +kernel
theorem dX4_flowOf_20 : decode cX4_flowOf 20 = .ok (.iadd, 1) := by decide +kernel
theorem dX4_flowOf_21 : decode cX4_flowOf 21 = .ok (.invokevirtual 50, 3) := by decide +kernel
theorem dX4_flowOf_24 : decode cX4_flowOf 24 = .ok (.i2l, 1) := by decide +kernel
theorem dX4_flowOf_25 : decode cX4_flowOf 25 = .ok (.lstore 7, 2) := by decide +kernel
theorem dX4_flowOf_27 : decode cX4_flowOf 27 = .ok (.lload 7, 2) := by decide +kernel
theorem dX4_flowOf_29 : decode cX4_flowOf 29 = .ok (.lconst 0, 1) := by decide +kernel
theorem dX4_flowOf_30 : decode cX4_flowOf 30 = .ok (.lcmp, 1) := by decide +kernel
theorem dX4_flowOf_31 : decode cX4_flowOf 31 = .ok (.ifCond .eq 26, 3) := by decide +kernel
theorem dX4_flowOf_34 : decode cX4_flowOf 34 = .ok (.lload 4, 2) := by decide +kernel
theorem dX4_flowOf_36 : decode cX4_flowOf 36 = .ok (.lload 7, 2) := by decide +kernel
theorem dX4_flowOf_38 : decode cX4_flowOf 38 = .ok (.iconst 0, 1) := by decide +kernel
theorem dX4_flowOf_39 : decode cX4_flowOf 39 = .ok (.aload_n 0, 1) := by decide +kernel
theorem dX4_flowOf_40 : decode cX4_flowOf 40 = .ok (.aload_n 1, 1) := by decide +kernel
theorem dX4_flowOf_41 : decode cX4_flowOf 41 = .ok (.aload_n 2, 1) := by decide +kernel
theorem dX4_flowOf_42 : decode cX4_flowOf 42 = .ok (.iload_n 3, 1) := by decide +kernel
theorem dX4_flowOf_43 : decode cX4_flowOf 43 = .ok (.iload 6, 2) := by decide +kernel
theorem dX4_flowOf_45 : decode cX4_flowOf 45 = .ok (.isub, 1) := by decide +kernel
theorem dX4_flowOf_46 : decode cX4_flowOf 46 = .ok (.invokevirtual 54, 3) := by decide +kernel
theorem dX4_flowOf_49 : decode cX4_flowOf 49 = .ok (.invokestatic 58, 3) := by decide +kernel
theorem dX4_flowOf_52 : decode cX4_flowOf 52 = .ok (.i2l, 1) := by decide +kernel
theorem dX4_flowOf_53 : decode cX4_flowOf 53 = .ok (.lmul, 1) := by decide +kernel
theorem dX4_flowOf_54 : decode cX4_flowOf 54 = .ok (.ladd, 1) := by decide +kernel
theorem dX4_flowOf_55 : decode cX4_flowOf 55 = .ok (.lstore 4, 2) := by decide +kernel
theorem dX4_flowOf_57 : decode cX4_flowOf 57 = .ok (.iinc 6 1, 3) := by decide +kernel
theorem dX4_flowOf_60 : decode cX4_flowOf 60 = .ok (.goto (-54), 3) := by decide +kernel
theorem dX4_flowOf_63 : decode cX4_flowOf 63 = .ok (.lload 4, 2) := by decide +kernel
theorem dX4_flowOf_65 : decode cX4_flowOf 65 = .ok (.lreturn, 1) := by decide +kernel
theorem dX5_init_0 : decode cX5_init 0 = .ok (.aload_n 0, 1) := by decide +kernel
theorem dX5_init_1 : decode cX5_init 1 = .ok (.invokespecial 3, 3) := by decide +kernel
theorem dX5_init_4 : decode cX5_init 4 = .ok (.aload_n 0, 1) := by decide +kernel
theorem dX5_init_5 : decode cX5_init 5 = .ok (.new 9, 3) := by decide +kernel
theorem dX5_init_8 : decode cX5_init 8 = .ok (.dup, 1) := by decide +kernel
theorem dX5_init_9 : decode cX5_init 9 = .ok (.invokespecial 11, 3) := by decide +kernel
theorem dX5_init_12 : decode cX5_init 12 = .ok (.putfield 12, 3) := by decide +kernel
theorem dX5_init_15 : decode cX5_init 15 = .ok (.aload_n 0, 1) := by decide +kernel
theorem dX5_init_16 : decode cX5_init 16 = .ok (.aload_n 1, 1) := by decide +kernel
theorem dX5_init_17 : decode cX5_init 17 = .ok (.putfield 18, 3) := by decide +kernel
theorem dX5_init_20 : decode cX5_init 20 = .ok (.return_, 1) := by decide +kernel
theorem dX5_gather_0 : decode cX5_gather 0 = .ok (.aload_n 0, 1) := by decide +kernel
theorem dX5_gather_1 : decode cX5_gather 1 = .ok (.getfield 12, 3) := by decide +kernel
theorem dX5_gather_4 : decode cX5_gather 4 = .ok (.iconst 0, 1) := by decide +kernel
theorem dX5_gather_5 : decode cX5_gather 5 = .ok (.putfield 22, 3) := by decide +kernel
theorem dX5_gather_8 : decode cX5_gather 8 = .ok (.iload_n 2, 1) := by decide +kernel
theorem dX5_gather_9 : decode cX5_gather 9 = .ok (.invokestatic 26, 3) := by decide +kernel
theorem dX5_gather_12 : decode cX5_gather 12 = .ok (.ifCond .eq 34, 3) := by decide +kernel
theorem dX5_gather_15 : decode cX5_gather 15 = .ok (.aload_n 0, 1) := by decide +kernel
theorem dX5_gather_16 : decode cX5_gather 16 = .ok (.getfield 18, 3) := by decide +kernel
theorem dX5_gather_19 : decode cX5_gather 19 = .ok (.getfield 30, 3) := by decide +kernel
theorem dX5_gather_22 : decode cX5_gather 22 = .ok (.iload_n 2, 1) := by decide +kernel
theorem dX5_gather_23 : decode cX5_gather 23 = .ok (.aaload, 1) := by decide +kernel
theorem dX5_gather_24 : decode cX5_gather 24 = .ok (.invokevirtual 36, 3) := by decide +kernel
theorem dX5_gather_27 : decode cX5_gather 27 = .ok (.ifCond .eq 19, 3) := by decide +kernel
theorem dX5_gather_30 : decode cX5_gather 30 = .ok (.iload_n 3, 1) := by decide +kernel
theorem dX5_gather_31 : decode cX5_gather 31 = .ok (.aload_n 0, 1) := by decide +kernel
theorem dX5_gather_32 : decode cX5_gather 32 = .ok (.getfield 18, 3) := by decide +kernel
theorem dX5_gather_35 : decode cX5_gather 35 = .ok (.getfield 30, 3) := by decide +kernel
theorem dX5_gather_38 : decode cX5_gather 38 = .ok (.iload_n 2, 1) := by decide +kernel
theorem dX5_gather_39 : decode cX5_gather 39 = .ok (.aaload, 1) := by decide +kernel
theorem dX5_gather_40 : decode cX5_gather 40 = .ok (.getfield 42, 3) := by decide +kernel
theorem dX5_gather_43 : decode cX5_gather 43 = .ok (.if_icmp .ge 5, 3) := by decide +kernel
theorem dX5_gather_46 : decode cX5_gather 46 = .ok (.iconst 0, 1) := by decide +kernel
theorem dX5_gather_47 : decode cX5_gather 47 = .ok (.ireturn, 1) := by decide +kernel
theorem dX5_gather_48 : decode cX5_gather 48 = .ok (.aload_n 0, 1) := by decide +kernel
theorem dX5_gather_49 : decode cX5_gather 49 = .ok (.getfield 18, 3) := by decide +kernel
theorem dX5_gather_52 : decode cX5_gather 52 = .ok (.getfield 30, 3) := by decide +kernel
theorem dX5_gather_55 : decode cX5_gather 55 = .ok (.iload_n 2, 1) := by decide +kernel
theorem dX5_gather_56 : decode cX5_gather 56 = .ok (.aaload, 1) := by decide +kernel
theorem dX5_gather_57 : decode cX5_gather 57 = .ok (.astore 4, 2) := by decide +kernel
theorem dX5_gather_59 : decode cX5_gather 59 = .ok (.iconst 0, 1) := by decide +kernel
theorem dX5_gather_60 : decode cX5_gather 60 = .ok (.istore 5, 2) := by decide +kernel
theorem dX5_gather_62 : decode cX5_gather 62 = .ok (.iload 5, 2) := by decide +kernel
theorem dX5_gather_64 : decode cX5_gather 64 = .ok (.bipush 16, 2) := by decide +kernel
theorem dX5_gather_66 : decode cX5_gather 66 = .ok (.if_icmp .ge 58, 3) := by decide +kernel
theorem dX5_gather_69 : decode cX5_gather 69 = .ok (.iload 5, 2) := by decide +kernel
theorem dX5_gather_71 : decode cX5_gather 71 = .ok (.iload_n 2, 1) := by decide +kernel
theorem dX5_gather_72 : decode cX5_gather 72 = .ok (.if_icmp .eq 46, 3) := by decide +kernel
theorem dX5_gather_75 : decode cX5_gather 75 = .ok (.aload_n 1, 1) := by decide +kernel
theorem dX5_gather_76 : decode cX5_gather 76 = .ok (.iload 5, 2) := by decide +kernel
theorem dX5_gather_78 : decode cX5_gather 78 = .ok (.iload_n 3, 1) := by decide +kernel
theorem dX5_gather_79 : decode cX5_gather 79 = .ok (.invokevirtual 45, 3) := by decide +kernel
theorem dX5_gather_82 : decode cX5_gather 82 = .ok (.iconst (-1), 1) := by decide +kernel
theorem dX5_gather_83 : decode cX5_gather 83 = .ok (.if_icmp .eq 35, 3) := by decide +kernel
theorem dX5_gather_86 : decode cX5_gather 86 = .ok (.aload_n 0, 1) := by decide +kernel
theorem dX5_gather_87 : decode cX5_gather 87 = .ok (.getfield 12, 3) := by decide +kernel
theorem dX5_gather_90 : decode cX5_gather 90 = .ok (.iload 5, 2) := by decide +kernel
theorem dX5_gather_92 : decode cX5_gather 92 = .ok (.aload 4, 2) := by decide +kernel
theorem dX5_gather_94 : decode cX5_gather 94 = .ok (.getfield 51, 3) := by decide +kernel
theorem dX5_gather_97 : decode cX5_gather 97 = .ok (.aload 4, 2) := by decide +kernel
theorem dX5_gather_99 : decode cX5_gather 99 = .ok (.getfield 54, 3) := by decide +kernel
theorem dX5_gather_102 : decode cX5_gather 102 = .ok (.aload_n 0, 1) := by decide +kernel
theorem dX5_gather_103 : decode cX5_gather 103 = .ok (.getfield 18, 3) := by decide +kernel
theorem dX5_gather_106 : decode cX5_gather 106 = .ok (.getfield 30, 3) := by decide +kernel
theorem dX5_gather_109 : decode cX5_gather 109 = .ok (.iload 5, 2) := by decide +kernel
theorem dX5_gather_111 : decode cX5_gather 111 = .ok (.aaload, 1) := by decide +kernel
theorem dX5_gather_112 : decode cX5_gather 112 = .ok (.invokestatic 57, 3) := by decide +kernel
theorem dX5_gather_115 : decode cX5_gather 115 = .ok (.invokevirtual 61, 3) := by decide +kernel
theorem dX5_gather_118 : decode cX5_gather 118 = .ok (.iinc 5 1, 3) := by decide +kernel
theorem dX5_gather_121 : decode cX5_gather 121 = .ok (.goto (-59), 3) := by decide +kernel
theorem dX5_gather_124 : decode cX5_gather 124 = .ok (.aload_n 0, 1) := by decide +kernel
theorem dX5_gather_125 : decode cX5_gather 125 = .ok (.getfield 12, 3) := by decide +kernel
theorem dX5_gather_128 : decode cX5_gather 128 = .ok (.getfield 22, 3) := by decide +kernel
theorem dX5_gather_131 : decode cX5_gather 131 = .ok (.ireturn, 1) := by decide +kernel
theorem dX5_mend_0 : decode cX5_mend 0 = .ok (.aload_n 0, 1) := by decide +kernel
theorem dX5_mend_1 : decode cX5_mend 1 = .ok (.aload_n 1, 1) := by decide +kernel
theorem dX5_mend_2 : decode cX5_mend 2 = .ok (.iload_n 2, 1) := by decide +kernel
theorem dX5_mend_3 : decode cX5_mend 3 = .ok (.iload_n 3, 1) := by decide +kernel
theorem dX5_mend_4 : decode cX5_mend 4 = .ok (.invokevirtual 65, 3) := by decide +kernel
theorem dX5_mend_7 : decode cX5_mend 7 = .ok (.istore 4, 2) := by decide +kernel
theorem dX5_mend_9 : decode cX5_mend 9 = .ok (.lconst 0, 1) := by decide +kernel
theorem dX5_mend_10 : decode cX5_mend 10 = .ok (.lstore 5, 2) := by decide +kernel
theorem dX5_mend_12 : decode cX5_mend 12 = .ok (.lconst 0, 1) := by decide +kernel
theorem dX5_mend_13 : decode cX5_mend 13 = .ok (.lstore 7, 2) := by decide +kernel
theorem dX5_mend_15 : decode cX5_mend 15 = .ok (.iconst 0, 1) := by decide +kernel
theorem dX5_mend_16 : decode cX5_mend 16 = .ok (.istore 9, 2) := by decide +kernel
theorem dX5_mend_18 : decode cX5_mend 18 = .ok (.iload 9, 2) := by decide +kernel
theorem dX5_mend_20 : decode cX5_mend 20 = .ok (.iload 4, 2) := by decide +kernel
theorem dX5_mend_22 : decode cX5_mend 22 = .ok (.if_icmp .ge 63, 3) := by decide +kernel
theorem dX5_mend_25 : decode cX5_mend 25 = .ok (.iload 9, 2) := by decide +kernel
theorem dX5_mend_27 : decode cX5_mend 27 = .ok (.iconst 4, 1) := by decide +kernel
theorem dX5_mend_28 : decode cX5_mend 28 = .ok (.if_icmp .ge 57, 3) := by decide +kernel
theorem dX5_mend_31 : decode cX5_mend 31 = .ok (.aload_n 0, 1) := by decide +kernel
theorem dX5_mend_32 : decode cX5_mend 32 = .ok (.getfield 12, 3) := by decide +kernel
theorem dX5_mend_35 : decode cX5_mend 35 = .ok (.getfield 69, 3) := by decide +kernel
theorem dX5_mend_38 : decode cX5_mend 38 = .ok (.iload 9, 2) := by decide +kernel
theorem dX5_mend_40 : decode cX5_mend 40 = .ok (.iaload, 1) := by decide +kernel
theorem dX5_mend_41 : decode cX5_mend 41 = .ok (.invokestatic 73, 3) := by decide +kernel
theorem dX5_mend_44 : decode cX5_mend 44 = .ok (.i2l, 1) := by decide +kernel
theorem dX5_mend_45 : decode cX5_mend 45 = .ok (.lstore 10, 2) := by decide +kernel
theorem dX5_mend_47 : decode cX5_mend 47 = .ok (.lload 5, 2) := by decide +kernel
theorem dX5_mend_49 : decode cX5_mend 49 = .ok (.lload 10, 2) := by decide +kernel
theorem dX5_mend_51 : decode cX5_mend 51 = .ok (.aload_n 0, 1) := by decide +kernel
theorem dX5_mend_52 : decode cX5_mend 52 = .ok (.aload_n 1, 1) := by decide +kernel
theorem dX5_mend_53 : decode cX5_mend 53 = .ok (.iload_n 2, 1) := by decide +kernel
theorem dX5_mend_54 : decode cX5_mend 54 = .ok (.aload_n 0, 1) := by decide +kernel
theorem dX5_mend_55 : decode cX5_mend 55 = .ok (.getfield 12, 3) := by decide +kernel
theorem dX5_mend_58 : decode cX5_mend 58 = .ok (.getfield 77, 3) := by decide +kernel
theorem dX5_mend_61 : decode cX5_mend 61 = .ok (.iload 9, 2) := by decide +kernel
theorem dX5_mend_63 : decode cX5_mend 63 = .ok (.iaload, 1) := by decide +kernel
theorem dX5_mend_64 : decode cX5_mend 64 = .ok (.iload_n 3, 1) := by decide +kernel
theorem dX5_mend_65 : decode cX5_mend 65 = .ok (.invokevirtual 80, 3) := by decide +kernel
theorem dX5_mend_68 : decode cX5_mend 68 = .ok (.lmul, 1) := by decide +kernel
theorem dX5_mend_69 : decode cX5_mend 69 = .ok (.ladd, 1) := by decide +kernel
theorem dX5_mend_70 : decode cX5_mend 70 = .ok (.lstore 5, 2) := by decide +kernel
theorem dX5_mend_72 : decode cX5_mend 72 = .ok (.lload 7, 2) := by decide +kernel
theorem dX5_mend_74 : decode cX5_mend 74 = .ok (.lload 10, 2) := by decide +kernel
theorem dX5_mend_76 : decode cX5_mend 76 = .ok (.ladd, 1) := by decide +kernel
theorem dX5_mend_77 : decode cX5_mend 77 = .ok (.lstore 7, 2) := by decide +kernel
theorem dX5_mend_79 : decode cX5_mend 79 = .ok (.iinc 9 1, 3) := by decide +kernel
theorem dX5_mend_82 : decode cX5_mend 82 = .ok (.goto (-64), 3) := by decide +kernel
theorem dX5_mend_85 : decode cX5_mend 85 = .ok (.lload 7, 2) := by decide +kernel
theorem dX5_mend_87 : decode cX5_mend 87 = .ok (.lconst 0, 1) := by decide +kernel
theorem dX5_mend_88 : decode cX5_mend 88 = .ok (.lcmp, 1) := by decide +kernel
theorem dX5_mend_89 : decode cX5_mend 89 = .ok (.ifCond .gt 7, 3) := by decide +kernel
theorem dX5_mend_92 : decode cX5_mend 92 = .ok (.iconst (-1), 1) := by decide +kernel
theorem dX5_mend_93 : decode cX5_mend 93 = .ok (.goto 13, 3) := by decide +kernel
theorem dX5_mend_96 : decode cX5_mend 96 = .ok (.lload 5, 2) := by decide +kernel
theorem dX5_mend_98 : decode cX5_mend 98 = .ok (.lload 7, 2) := by decide +kernel
theorem dX5_mend_100 : decode cX5_mend 100 = .ok (.ldc2_w 84, 3) := by decide +kernel
theorem dX5_mend_103 : decode cX5_mend 103 = .ok (.lmul, 1) := by decide +kernel
theorem dX5_mend_104 : decode cX5_mend 104 = .ok (.ldiv, 1) := by decide +kernel
theorem dX5_mend_105 : decode cX5_mend 105 = .ok (.l2i, 1) := by decide +kernel
theorem dX5_mend_106 : decode cX5_mend 106 = .ok (.ireturn, 1) := by decide +kernel
theorem dX5_nearness_0 : decode cX5_nearness 0 = .ok (.iload_n 0, 1) := by decide +kernel
theorem dX5_nearness_1 : decode cX5_nearness 1 = .ok (.ifCond .gt 9, 3) := by decide +kernel
theorem dX5_nearness_4 : decode cX5_nearness 4 = .ok (.sipush 288, 3) := by decide +kernel
theorem dX5_nearness_7 : decode cX5_nearness 7 = .ok (.goto 12, 3) := by decide +kernel
theorem dX5_nearness_10 : decode cX5_nearness 10 = .ok (.iconst 1, 1) := by decide +kernel
theorem dX5_nearness_11 : decode cX5_nearness 11 = .ok (.sipush 144, 3) := by decide +kernel
theorem dX5_nearness_14 : decode cX5_nearness 14 = .ok (.iload_n 0, 1) := by decide +kernel
theorem dX5_nearness_15 : decode cX5_nearness 15 = .ok (.idiv, 1) := by decide +kernel
theorem dX5_nearness_16 : decode cX5_nearness 16 = .ok (.invokestatic 86, 3) := by decide +kernel
theorem dX5_nearness_19 : decode cX5_nearness 19 = .ok (.ireturn, 1) := by decide +kernel
theorem dX5_thousandthsBy_0 : decode cX5_thousandthsBy 0 = .ok (.lconst 0, 1) := by decide +kernel
theorem dX5_thousandthsBy_1 : decode cX5_thousandthsBy 1 = .ok (.lstore 5, 2) := by decide +kernel
theorem dX5_thousandthsBy_3 : decode cX5_thousandthsBy 3 = .ok (.lconst 0, 1) := by decide +kernel
theorem dX5_thousandthsBy_4 : decode cX5_thousandthsBy 4 = .ok (.lstore 7, 2) := by decide +kernel
theorem dX5_thousandthsBy_6 : decode cX5_thousandthsBy 6 = .ok (.iconst 0, 1) := by decide +kernel
theorem dX5_thousandthsBy_7 : decode cX5_thousandthsBy 7 = .ok (.istore 9, 2) := by decide +kernel
theorem dX5_thousandthsBy_9 : decode cX5_thousandthsBy 9 = .ok (.iload 9, 2) := by decide +kernel
theorem dX5_thousandthsBy_11 : decode cX5_thousandthsBy 11 = .ok (.aload_n 0, 1) := by decide +kernel
theorem dX5_thousandthsBy_12 : decode cX5_thousandthsBy 12 = .ok (.getfield 18, 3) := by decide +kernel
theorem dX5_thousandthsBy_15 : decode cX5_thousandthsBy 15 = .ok (.getfield 91, 3) := by decide +kernel
theorem dX5_thousandthsBy_18 : decode cX5_thousandthsBy 18 = .ok (.if_icmp .ge 62, 3) := by decide +kernel
theorem dX5_thousandthsBy_21 : decode cX5_thousandthsBy 21 = .ok (.iload 9, 2) := by decide +kernel
theorem dX5_thousandthsBy_23 : decode cX5_thousandthsBy 23 = .ok (.bipush 56, 2) := by decide +kernel
theorem dX5_thousandthsBy_25 : decode cX5_thousandthsBy 25 = .ok (.if_icmp .ge 55, 3) := by decide +kernel
theorem dX5_thousandthsBy_28 : decode cX5_thousandthsBy 28 = .ok (.aload_n 1, 1) := by decide +kernel
theorem dX5_thousandthsBy_29 : decode cX5_thousandthsBy 29 = .ok (.iload_n 2, 1) := by decide +kernel
theorem dX5_thousandthsBy_30 : decode cX5_thousandthsBy 30 = .ok (.iload 9, 2) := by decide +kernel
theorem dX5_thousandthsBy_32 : decode cX5_thousandthsBy 32 = .ok (.invokevirtual 45, 3) := by decide +kernel
theorem dX5_thousandthsBy_35 : decode cX5_thousandthsBy 35 = .ok (.istore 10, 2) := by decide +kernel
theorem dX5_thousandthsBy_37 : decode cX5_thousandthsBy 37 = .ok (.aload_n 1, 1) := by decide +kernel
theorem dX5_thousandthsBy_38 : decode cX5_thousandthsBy 38 = .ok (.iload_n 3, 1) := by decide +kernel
theorem dX5_thousandthsBy_39 : decode cX5_thousandthsBy 39 = .ok (.iload 9, 2) := by decide +kernel
theorem dX5_thousandthsBy_41 : decode cX5_thousandthsBy 41 = .ok (.invokevirtual 45, 3) := by decide +kernel
theorem dX5_thousandthsBy_44 : decode cX5_thousandthsBy 44 = .ok (.istore 11, 2) := by decide +kernel
theorem dX5_thousandthsBy_46 : decode cX5_thousandthsBy 46 = .ok (.iload 10, 2) := by decide +kernel
theorem dX5_thousandthsBy_48 : decode cX5_thousandthsBy 48 = .ok (.iconst (-1), 1) := by decide +kernel
theorem dX5_thousandthsBy_49 : decode cX5_thousandthsBy 49 = .ok (.if_icmp .eq 25, 3) := by decide +kernel
theorem dX5_thousandthsBy_52 : decode cX5_thousandthsBy 52 = .ok (.iload 11, 2) := by decide +kernel
theorem dX5_thousandthsBy_54 : decode cX5_thousandthsBy 54 = .ok (.iconst (-1), 1) := by decide +kernel
theorem dX5_thousandthsBy_55 : decode cX5_thousandthsBy 55 = .ok (.if_icmp .eq 19, 3) := by decide +kernel
theorem dX5_thousandthsBy_58 : decode cX5_thousandthsBy 58 = .ok (.lload 5, 2) := by decide +kernel
theorem dX5_thousandthsBy_60 : decode cX5_thousandthsBy 60 = .ok (.iload 10, 2) := by decide +kernel
theorem dX5_thousandthsBy_62 : decode cX5_thousandthsBy 62 = .ok (.i2l, 1) := by decide +kernel
theorem dX5_thousandthsBy_63 : decode cX5_thousandthsBy 63 = .ok (.ladd, 1) := by decide +kernel
theorem dX5_thousandthsBy_64 : decode cX5_thousandthsBy 64 = .ok (.lstore 5, 2) := by decide +kernel
theorem dX5_thousandthsBy_66 : decode cX5_thousandthsBy 66 = .ok (.lload 7, 2) := by decide +kernel
theorem dX5_thousandthsBy_68 : decode cX5_thousandthsBy 68 = .ok (.iload 11, 2) := by decide +kernel
theorem dX5_thousandthsBy_70 : decode cX5_thousandthsBy 70 = .ok (.i2l, 1) := by decide +kernel
theorem dX5_thousandthsBy_71 : decode cX5_thousandthsBy 71 = .ok (.ladd, 1) := by decide +kernel
theorem dX5_thousandthsBy_72 : decode cX5_thousandthsBy 72 = .ok (.lstore 7, 2) := by decide +kernel
theorem dX5_thousandthsBy_74 : decode cX5_thousandthsBy 74 = .ok (.iinc 9 1, 3) := by decide +kernel
theorem dX5_thousandthsBy_77 : decode cX5_thousandthsBy 77 = .ok (.goto (-68), 3) := by decide +kernel
theorem dX5_thousandthsBy_80 : decode cX5_thousandthsBy 80 = .ok (.ldc2_w 84, 3) := by decide +kernel
theorem dX5_thousandthsBy_83 : decode cX5_thousandthsBy 83 = .ok (.aload_n 1, 1) := by decide +kernel
theorem dX5_thousandthsBy_84 : decode cX5_thousandthsBy 84 = .ok (.iload_n 3, 1) := by decide +kernel
theorem dX5_thousandthsBy_85 : decode cX5_thousandthsBy 85 = .ok (.iload 4, 2) := by decide +kernel
theorem dX5_thousandthsBy_87 : decode cX5_thousandthsBy 87 = .ok (.invokevirtual 45, 3) := by decide +kernel
theorem dX5_thousandthsBy_90 : decode cX5_thousandthsBy 90 = .ok (.i2l, 1) := by decide +kernel
theorem dX5_thousandthsBy_91 : decode cX5_thousandthsBy 91 = .ok (.lmul, 1) := by decide +kernel
theorem dX5_thousandthsBy_92 : decode cX5_thousandthsBy 92 = .ok (.lstore 9, 2) := by decide +kernel
theorem dX5_thousandthsBy_94 : decode cX5_thousandthsBy 94 = .ok (.lload 7, 2) := by decide +kernel
theorem dX5_thousandthsBy_96 : decode cX5_thousandthsBy 96 = .ok (.lconst 0, 1) := by decide +kernel
theorem dX5_thousandthsBy_97 : decode cX5_thousandthsBy 97 = .ok (.lcmp, 1) := by decide +kernel
theorem dX5_thousandthsBy_98 : decode cX5_thousandthsBy 98 = .ok (.ifCond .gt 8, 3) := by decide +kernel
theorem dX5_thousandthsBy_101 : decode cX5_thousandthsBy 101 = .ok (.lload 9, 2) := by decide +kernel
theorem dX5_thousandthsBy_103 : decode cX5_thousandthsBy 103 = .ok (.goto 11, 3) := by decide +kernel
theorem dX5_thousandthsBy_106 : decode cX5_thousandthsBy 106 = .ok (.lload 9, 2) := by decide +kernel
theorem dX5_thousandthsBy_108 : decode cX5_thousandthsBy 108 = .ok (.lload 5, 2) := by decide +kernel
theorem dX5_thousandthsBy_110 : decode cX5_thousandthsBy 110 = .ok (.lmul, 1) := by decide +kernel
theorem dX5_thousandthsBy_111 : decode cX5_thousandthsBy 111 = .ok (.lload 7, 2) := by decide +kernel
theorem dX5_thousandthsBy_113 : decode cX5_thousandthsBy 113 = .ok (.ldiv, 1) := by decide +kernel
theorem dX5_thousandthsBy_114 : decode cX5_thousandthsBy 114 = .ok (.lreturn, 1) := by decide +kernel
theorem dX6_init_0 : decode cX6_init 0 = .ok (.aload_n 0, 1) := by decide +kernel
theorem dX6_init_1 : decode cX6_init 1 = .ok (.invokespecial 3, 3) := by decide +kernel
theorem dX6_init_4 : decode cX6_init 4 = .ok (.aload_n 0, 1) := by decide +kernel
theorem dX6_init_5 : decode cX6_init 5 = .ok (.bipush 16, 2) := by decide +kernel
theorem dX6_init_7 : decode cX6_init 7 = .ok (.anewarray 9, 3) := by decide +kernel
theorem dX6_init_10 : decode cX6_init 10 = .ok (.putfield 11, 3) := by decide +kernel
theorem dX6_init_13 : decode cX6_init 13 = .ok (.aload_n 0, 1) := by decide +kernel
theorem dX6_init_14 : decode cX6_init 14 = .ok (.new 17, 3) := by decide +kernel
theorem dX6_init_17 : decode cX6_init 17 = .ok (.dup, 1) := by decide +kernel
theorem dX6_init_18 : decode cX6_init 18 = .ok (.invokespecial 19, 3) := by decide +kernel
theorem dX6_init_21 : decode cX6_init 21 = .ok (.putfield 20, 3) := by decide +kernel
theorem dX6_init_24 : decode cX6_init 24 = .ok (.aload_n 0, 1) := by decide +kernel
theorem dX6_init_25 : decode cX6_init 25 = .ok (.getstatic 24, 3) := by decide +kernel
theorem dX6_init_28 : decode cX6_init 28 = .ok (.invokevirtual 28, 3) := by decide +kernel
theorem dX6_init_31 : decode cX6_init 31 = .ok (.checkcast 29, 3) := by decide +kernel
theorem dX6_init_34 : decode cX6_init 34 = .ok (.putfield 33, 3) := by decide +kernel
theorem dX6_init_37 : decode cX6_init 37 = .ok (.iconst 0, 1) := by decide +kernel
theorem dX6_init_38 : decode cX6_init 38 = .ok (.istore_n 1, 1) := by decide +kernel
theorem dX6_init_39 : decode cX6_init 39 = .ok (.iload_n 1, 1) := by decide +kernel
theorem dX6_init_40 : decode cX6_init 40 = .ok (.bipush 16, 2) := by decide +kernel
theorem dX6_init_42 : decode cX6_init 42 = .ok (.if_icmp .ge 22, 3) := by decide +kernel
theorem dX6_init_45 : decode cX6_init 45 = .ok (.aload_n 0, 1) := by decide +kernel
theorem dX6_init_46 : decode cX6_init 46 = .ok (.getfield 11, 3) := by decide +kernel
theorem dX6_init_49 : decode cX6_init 49 = .ok (.iload_n 1, 1) := by decide +kernel
theorem dX6_init_50 : decode cX6_init 50 = .ok (.new 9, 3) := by decide +kernel
theorem dX6_init_53 : decode cX6_init 53 = .ok (.dup, 1) := by decide +kernel
theorem dX6_init_54 : decode cX6_init 54 = .ok (.invokespecial 36, 3) := by decide +kernel
theorem dX6_init_57 : decode cX6_init 57 = .ok (.aastore, 1) := by decide +kernel
theorem dX6_init_58 : decode cX6_init 58 = .ok (.iinc 1 1, 3) := by decide +kernel
theorem dX6_init_61 : decode cX6_init 61 = .ok (.goto (-22), 3) := by decide +kernel
theorem dX6_init_64 : decode cX6_init 64 = .ok (.return_, 1) := by decide +kernel
theorem dX6_rule_0 : decode cX6_rule 0 = .ok (.iload_n 1, 1) := by decide +kernel
theorem dX6_rule_1 : decode cX6_rule 1 = .ok (.ifCond .lt 18, 3) := by decide +kernel
theorem dX6_rule_4 : decode cX6_rule 4 = .ok (.iload_n 1, 1) := by decide +kernel
theorem dX6_rule_5 : decode cX6_rule 5 = .ok (.bipush 12, 2) := by decide +kernel
theorem dX6_rule_7 : decode cX6_rule 7 = .ok (.if_icmp .ge 12, 3) := by decide +kernel
theorem dX6_rule_10 : decode cX6_rule 10 = .ok (.aload_n 0, 1) := by decide +kernel
theorem dX6_rule_11 : decode cX6_rule 11 = .ok (.getfield 33, 3) := by decide +kernel
theorem dX6_rule_14 : decode cX6_rule 14 = .ok (.iload_n 1, 1) := by decide +kernel
theorem dX6_rule_15 : decode cX6_rule 15 = .ok (.iaload, 1) := by decide +kernel
theorem dX6_rule_16 : decode cX6_rule 16 = .ok (.goto 4, 3) := by decide +kernel
theorem dX6_rule_19 : decode cX6_rule 19 = .ok (.iconst 0, 1) := by decide +kernel
theorem dX6_rule_20 : decode cX6_rule 20 = .ok (.ireturn, 1) := by decide +kernel
theorem dX6_daysBegun_0 : decode cX6_daysBegun 0 = .ok (.aload_n 0, 1) := by decide +kernel
theorem dX6_daysBegun_1 : decode cX6_daysBegun 1 = .ok (.getfield 37, 3) := by decide +kernel
theorem dX6_daysBegun_4 : decode cX6_daysBegun 4 = .ok (.iconst 1, 1) := by decide +kernel
theorem dX6_daysBegun_5 : decode cX6_daysBegun 5 = .ok (.iadd, 1) := by decide +kernel
theorem dX6_daysBegun_6 : decode cX6_daysBegun 6 = .ok (.bipush 56, 2) := by decide +kernel
theorem dX6_daysBegun_8 : decode cX6_daysBegun 8 = .ok (.invokestatic 41, 3) := by decide +kernel
theorem dX6_daysBegun_11 : decode cX6_daysBegun 11 = .ok (.ireturn, 1) := by decide +kernel
theorem dX6_lastWholeWeek_0 : decode cX6_lastWholeWeek 0 = .ok (.aload_n 0, 1) := by decide +kernel
theorem dX6_lastWholeWeek_1 : decode cX6_lastWholeWeek 1 = .ok (.getfield 37, 3) := by decide +kernel
theorem dX6_lastWholeWeek_4 : decode cX6_lastWholeWeek 4 = .ok (.bipush 7, 2) := by decide +kernel
theorem dX6_lastWholeWeek_6 : decode cX6_lastWholeWeek 6 = .ok (.idiv, 1) := by decide +kernel
theorem dX6_lastWholeWeek_7 : decode cX6_lastWholeWeek 7 = .ok (.iconst 1, 1) := by decide +kernel
theorem dX6_lastWholeWeek_8 : decode cX6_lastWholeWeek 8 = .ok (.isub, 1) := by decide +kernel
theorem dX6_lastWholeWeek_9 : decode cX6_lastWholeWeek 9 = .ok (.ireturn, 1) := by decide +kernel
theorem dX6_numberKnown_0 : decode cX6_numberKnown 0 = .ok (.iload_n 1, 1) := by decide +kernel
theorem dX6_numberKnown_1 : decode cX6_numberKnown 1 = .ok (.invokestatic 47, 3) := by decide +kernel
theorem dX6_numberKnown_4 : decode cX6_numberKnown 4 = .ok (.ifCond .eq 10, 3) := by decide +kernel
theorem dX6_numberKnown_7 : decode cX6_numberKnown 7 = .ok (.iload_n 2, 1) := by decide +kernel
theorem dX6_numberKnown_8 : decode cX6_numberKnown 8 = .ok (.invokestatic 51, 3) := by decide +kernel
theorem dX6_numberKnown_11 : decode cX6_numberKnown 11 = .ok (.ifCond .ne 5, 3) := by decide +kernel
theorem dX6_numberKnown_14 : decode cX6_numberKnown 14 = .ok (.iconst (-1), 1) := by decide +kernel
theorem dX6_numberKnown_15 : decode cX6_numberKnown 15 = .ok (.ireturn, 1) := by decide +kernel
theorem dX6_numberKnown_16 : decode cX6_numberKnown 16 = .ok (.aload_n 0, 1) := by decide +kernel
theorem dX6_numberKnown_17 : decode cX6_numberKnown 17 = .ok (.getfield 11, 3) := by decide +kernel
theorem dX6_numberKnown_20 : decode cX6_numberKnown 20 = .ok (.iload_n 1, 1) := by decide +kernel
theorem dX6_numberKnown_21 : decode cX6_numberKnown 21 = .ok (.aaload, 1) := by decide +kernel
theorem dX6_numberKnown_22 : decode cX6_numberKnown 22 = .ok (.astore 4, 2) := by decide +kernel
theorem dX6_numberKnown_24 : decode cX6_numberKnown 24 = .ok (.aload_n 0, 1) := by decide +kernel
theorem dX6_numberKnown_25 : decode cX6_numberKnown 25 = .ok (.getfield 20, 3) := by decide +kernel
theorem dX6_numberKnown_28 : decode cX6_numberKnown 28 = .ok (.aload 4, 2) := by decide +kernel
theorem dX6_numberKnown_30 : decode cX6_numberKnown 30 = .ok (.getfield 54, 3) := by decide +kernel
theorem dX6_numberKnown_33 : decode cX6_numberKnown 33 = .ok (.iload_n 2, 1) := by decide +kernel
theorem dX6_numberKnown_34 : decode cX6_numberKnown 34 = .ok (.iaload, 1) := by decide +kernel
theorem dX6_numberKnown_35 : decode cX6_numberKnown 35 = .ok (.iload_n 3, 1) := by decide +kernel
theorem dX6_numberKnown_36 : decode cX6_numberKnown 36 = .ok (.invokevirtual 57, 3) := by decide +kernel
theorem dX6_numberKnown_39 : decode cX6_numberKnown 39 = .ok (.istore 5, 2) := by decide +kernel
theorem dX6_numberKnown_41 : decode cX6_numberKnown 41 = .ok (.iload 5, 2) := by decide +kernel
theorem dX6_numberKnown_43 : decode cX6_numberKnown 43 = .ok (.ifCond .lt 21, 3) := by decide +kernel
theorem dX6_numberKnown_46 : decode cX6_numberKnown 46 = .ok (.iload 5, 2) := by decide +kernel
theorem dX6_numberKnown_48 : decode cX6_numberKnown 48 = .ok (.bipush 100, 2) := by decide +kernel
theorem dX6_numberKnown_50 : decode cX6_numberKnown 50 = .ok (.if_icmp .ge 14, 3) := by decide +kernel
theorem dX6_numberKnown_53 : decode cX6_numberKnown 53 = .ok (.aload_n 0, 1) := by decide +kernel
theorem dX6_numberKnown_54 : decode cX6_numberKnown 54 = .ok (.getfield 20, 3) := by decide +kernel
theorem dX6_numberKnown_57 : decode cX6_numberKnown 57 = .ok (.getfield 60, 3) := by decide +kernel
theorem dX6_numberKnown_60 : decode cX6_numberKnown 60 = .ok (.iload 5, 2) := by decide +kernel
theorem dX6_numberKnown_62 : decode cX6_numberKnown 62 = .ok (.iaload, 1) := by decide +kernel
theorem dX6_numberKnown_63 : decode cX6_numberKnown 63 = .ok (.ireturn, 1) := by decide +kernel
theorem dX6_numberKnown_64 : decode cX6_numberKnown 64 = .ok (.iload_n 2, 1) := by decide +kernel
theorem dX6_numberKnown_65 : decode cX6_numberKnown 65 = .ok (.iload_n 3, 1) := by decide +kernel
theorem dX6_numberKnown_66 : decode cX6_numberKnown 66 = .ok (.if_icmp .gt 12, 3) := by decide +kernel
theorem dX6_numberKnown_69 : decode cX6_numberKnown 69 = .ok (.aload 4, 2) := by decide +kernel
theorem dX6_numberKnown_71 : decode cX6_numberKnown 71 = .ok (.iload_n 2, 1) := by decide +kernel
theorem dX6_numberKnown_72 : decode cX6_numberKnown 72 = .ok (.invokevirtual 63, 3) := by decide +kernel
theorem dX6_numberKnown_75 : decode cX6_numberKnown 75 = .ok (.goto 4, 3) := by decide +kernel
theorem dX6_numberKnown_78 : decode cX6_numberKnown 78 = .ok (.iconst (-1), 1) := by decide +kernel
theorem dX6_numberKnown_79 : decode cX6_numberKnown 79 = .ok (.ireturn, 1) := by decide +kernel
theorem dX7_init_0 : decode cX7_init 0 = .ok (.aload_n 0, 1) := by decide +kernel
theorem dX7_init_1 : decode cX7_init 1 = .ok (.invokespecial 3, 3) := by decide +kernel
theorem dX7_init_4 : decode cX7_init 4 = .ok (.aload_n 0, 1) := by decide +kernel
theorem dX7_init_5 : decode cX7_init 5 = .ok (.iconst (-1), 1) := by decide +kernel
theorem dX7_init_6 : decode cX7_init 6 = .ok (.putfield 9, 3) := by decide +kernel
theorem dX7_init_9 : decode cX7_init 9 = .ok (.aload_n 0, 1) := by decide +kernel
theorem dX7_init_10 : decode cX7_init 10 = .ok (.bipush 56, 2) := by decide +kernel
theorem dX7_init_12 : decode cX7_init 12 = .ok (.newarray .int, 2) := by decide +kernel
theorem dX7_init_14 : decode cX7_init 14 = .ok (.putfield 15, 3) := by decide +kernel
theorem dX7_init_17 : decode cX7_init 17 = .ok (.aload_n 0, 1) := by decide +kernel
theorem dX7_init_18 : decode cX7_init 18 = .ok (.bipush 56, 2) := by decide +kernel
theorem dX7_init_20 : decode cX7_init 20 = .ok (.newarray .int, 2) := by decide +kernel
theorem dX7_init_22 : decode cX7_init 22 = .ok (.putfield 19, 3) := by decide +kernel
theorem dX7_init_25 : decode cX7_init 25 = .ok (.aload_n 0, 1) := by decide +kernel
theorem dX7_init_26 : decode cX7_init 26 = .ok (.bipush 56, 2) := by decide +kernel
theorem dX7_init_28 : decode cX7_init 28 = .ok (.newarray .int, 2) := by decide +kernel
theorem dX7_init_30 : decode cX7_init 30 = .ok (.putfield 22, 3) := by decide +kernel
theorem dX7_init_33 : decode cX7_init 33 = .ok (.aload_n 0, 1) := by decide +kernel
theorem dX7_init_34 : decode cX7_init 34 = .ok (.getfield 15, 3) := by decide +kernel
theorem dX7_init_37 : decode cX7_init 37 = .ok (.iconst (-1), 1) := by decide +kernel
theorem dX7_init_38 : decode cX7_init 38 = .ok (.invokestatic 25, 3) := by decide +kernel
theorem dX7_init_41 : decode cX7_init 41 = .ok (.aload_n 0, 1) := by decide +kernel
theorem dX7_init_42 : decode cX7_init 42 = .ok (.getfield 19, 3) := by decide +kernel
theorem dX7_init_45 : decode cX7_init 45 = .ok (.iconst (-1), 1) := by decide +kernel
theorem dX7_init_46 : decode cX7_init 46 = .ok (.invokestatic 25, 3) := by decide +kernel
theorem dX7_init_49 : decode cX7_init 49 = .ok (.aload_n 0, 1) := by decide +kernel
theorem dX7_init_50 : decode cX7_init 50 = .ok (.getfield 22, 3) := by decide +kernel
theorem dX7_init_53 : decode cX7_init 53 = .ok (.iconst (-1), 1) := by decide +kernel
theorem dX7_init_54 : decode cX7_init 54 = .ok (.invokestatic 25, 3) := by decide +kernel
theorem dX7_init_57 : decode cX7_init 57 = .ok (.return_, 1) := by decide +kernel
theorem dX7_bring_0 : decode cX7_bring 0 = .ok (.aload_n 0, 1) := by decide +kernel
theorem dX7_bring_1 : decode cX7_bring 1 = .ok (.iload_n 1, 1) := by decide +kernel
theorem dX7_bring_2 : decode cX7_bring 2 = .ok (.putfield 9, 3) := by decide +kernel
theorem dX7_bring_5 : decode cX7_bring 5 = .ok (.aload_n 0, 1) := by decide +kernel
theorem dX7_bring_6 : decode cX7_bring 6 = .ok (.iload_n 2, 1) := by decide +kernel
theorem dX7_bring_7 : decode cX7_bring 7 = .ok (.putfield 31, 3) := by decide +kernel
theorem dX7_bring_10 : decode cX7_bring 10 = .ok (.aload_n 0, 1) := by decide +kernel
theorem dX7_bring_11 : decode cX7_bring 11 = .ok (.iload_n 3, 1) := by decide +kernel
theorem dX7_bring_12 : decode cX7_bring 12 = .ok (.putfield 34, 3) := by decide +kernel
theorem dX7_bring_15 : decode cX7_bring 15 = .ok (.aload_n 0, 1) := by decide +kernel
theorem dX7_bring_16 : decode cX7_bring 16 = .ok (.iload 4, 2) := by decide +kernel
theorem dX7_bring_18 : decode cX7_bring 18 = .ok (.putfield 37, 3) := by decide +kernel
theorem dX7_bring_21 : decode cX7_bring 21 = .ok (.aload_n 0, 1) := by decide +kernel
theorem dX7_bring_22 : decode cX7_bring 22 = .ok (.iload 5, 2) := by decide +kernel
theorem dX7_bring_24 : decode cX7_bring 24 = .ok (.putfield 40, 3) := by decide +kernel
theorem dX7_bring_27 : decode cX7_bring 27 = .ok (.return_, 1) := by decide +kernel
theorem dX7_clear_0 : decode cX7_clear 0 = .ok (.aload_n 0, 1) := by decide +kernel
theorem dX7_clear_1 : decode cX7_clear 1 = .ok (.iconst (-1), 1) := by decide +kernel
theorem dX7_clear_2 : decode cX7_clear 2 = .ok (.putfield 9, 3) := by decide +kernel
theorem dX7_clear_5 : decode cX7_clear 5 = .ok (.aload_n 0, 1) := by decide +kernel
theorem dX7_clear_6 : decode cX7_clear 6 = .ok (.iconst 0, 1) := by decide +kernel
theorem dX7_clear_7 : decode cX7_clear 7 = .ok (.putfield 43, 3) := by decide +kernel
theorem dX7_clear_10 : decode cX7_clear 10 = .ok (.aload_n 0, 1) := by decide +kernel
theorem dX7_clear_11 : decode cX7_clear 11 = .ok (.getfield 15, 3) := by decide +kernel
theorem dX7_clear_14 : decode cX7_clear 14 = .ok (.iconst (-1), 1) := by decide +kernel
theorem dX7_clear_15 : decode cX7_clear 15 = .ok (.invokestatic 25, 3) := by decide +kernel
theorem dX7_clear_18 : decode cX7_clear 18 = .ok (.aload_n 0, 1) := by decide +kernel
theorem dX7_clear_19 : decode cX7_clear 19 = .ok (.getfield 19, 3) := by decide +kernel
theorem dX7_clear_22 : decode cX7_clear 22 = .ok (.iconst (-1), 1) := by decide +kernel
theorem dX7_clear_23 : decode cX7_clear 23 = .ok (.invokestatic 25, 3) := by decide +kernel
theorem dX7_clear_26 : decode cX7_clear 26 = .ok (.aload_n 0, 1) := by decide +kernel
theorem dX7_clear_27 : decode cX7_clear 27 = .ok (.getfield 22, 3) := by decide +kernel
theorem dX7_clear_30 : decode cX7_clear 30 = .ok (.iconst (-1), 1) := by decide +kernel
theorem dX7_clear_31 : decode cX7_clear 31 = .ok (.invokestatic 25, 3) := by decide +kernel
theorem dX7_clear_34 : decode cX7_clear 34 = .ok (.return_, 1) := by decide +kernel
theorem dX7_isDailyGauge_0 : decode cX7_isDailyGauge 0 = .ok (.aload_n 0, 1) := by decide +kernel
theorem dX7_isDailyGauge_1 : decode cX7_isDailyGauge 1 = .ok (.getfield 9, 3) := by decide +kernel
theorem dX7_isDailyGauge_4 : decode cX7_isDailyGauge 4 = .ok (.iconst (-1), 1) := by decide +kernel
theorem dX7_isDailyGauge_5 : decode cX7_isDailyGauge 5 = .ok (.if_icmp .eq 23, 3) := by decide +kernel
theorem dX7_isDailyGauge_8 : decode cX7_isDailyGauge 8 = .ok (.aload_n 0, 1) := by decide +kernel
theorem dX7_isDailyGauge_9 : decode cX7_isDailyGauge 9 = .ok (.getfield 9, 3) := by decide +kernel
theorem dX7_isDailyGauge_12 : decode cX7_isDailyGauge 12 = .ok (.iconst 5, 1) := by decide +kernel
theorem dX7_isDailyGauge_13 : decode cX7_isDailyGauge 13 = .ok (.if_icmp .eq 15, 3) := by decide +kernel
theorem dX7_isDailyGauge_16 : decode cX7_isDailyGauge 16 = .ok (.aload_n 0, 1) := by decide +kernel
theorem dX7_isDailyGauge_17 : decode cX7_isDailyGauge 17 = .ok (.getfield 9, 3) := by decide +kernel
theorem dX7_isDailyGauge_20 : decode cX7_isDailyGauge 20 = .ok (.iconst 3, 1) := by decide +kernel
theorem dX7_isDailyGauge_21 : decode cX7_isDailyGauge 21 = .ok (.if_icmp .eq 7, 3) := by decide +kernel
theorem dX7_isDailyGauge_24 : decode cX7_isDailyGauge 24 = .ok (.iconst 1, 1) := by decide +kernel
theorem dX7_isDailyGauge_25 : decode cX7_isDailyGauge 25 = .ok (.goto 4, 3) := by decide +kernel
theorem dX7_isDailyGauge_28 : decode cX7_isDailyGauge 28 = .ok (.iconst 0, 1) := by decide +kernel
theorem dX7_isDailyGauge_29 : decode cX7_isDailyGauge 29 = .ok (.ireturn, 1) := by decide +kernel
theorem dX7_meltAway_0 : decode cX7_meltAway 0 = .ok (.iload_n 1, 1) := by decide +kernel
theorem dX7_meltAway_1 : decode cX7_meltAway 1 = .ok (.invokestatic 46, 3) := by decide +kernel
theorem dX7_meltAway_4 : decode cX7_meltAway 4 = .ok (.ifCond .ne 5, 3) := by decide +kernel
theorem dX7_meltAway_7 : decode cX7_meltAway 7 = .ok (.iconst (-1), 1) := by decide +kernel
theorem dX7_meltAway_8 : decode cX7_meltAway 8 = .ok (.ireturn, 1) := by decide +kernel
theorem dX7_meltAway_9 : decode cX7_meltAway 9 = .ok (.iconst 0, 1) := by decide +kernel
theorem dX7_meltAway_10 : decode cX7_meltAway 10 = .ok (.aload_n 0, 1) := by decide +kernel
theorem dX7_meltAway_11 : decode cX7_meltAway 11 = .ok (.getfield 19, 3) := by decide +kernel
theorem dX7_meltAway_14 : decode cX7_meltAway 14 = .ok (.iload_n 1, 1) := by decide +kernel
theorem dX7_meltAway_15 : decode cX7_meltAway 15 = .ok (.iaload, 1) := by decide +kernel
theorem dX7_meltAway_16 : decode cX7_meltAway 16 = .ok (.invokestatic 50, 3) := by decide +kernel
theorem dX7_meltAway_19 : decode cX7_meltAway 19 = .ok (.iload_n 2, 1) := by decide +kernel
theorem dX7_meltAway_20 : decode cX7_meltAway 20 = .ok (.iadd, 1) := by decide +kernel
theorem dX7_meltAway_21 : decode cX7_meltAway 21 = .ok (.istore_n 3, 1) := by decide +kernel
theorem dX7_meltAway_22 : decode cX7_meltAway 22 = .ok (.iload_n 2, 1) := by decide +kernel
theorem dX7_meltAway_23 : decode cX7_meltAway 23 = .ok (.aload_n 0, 1) := by decide +kernel
theorem dX7_meltAway_24 : decode cX7_meltAway 24 = .ok (.getfield 43, 3) := by decide +kernel
theorem dX7_meltAway_27 : decode cX7_meltAway 27 = .ok (.if_icmp .gt 10, 3) := by decide +kernel
theorem dX7_meltAway_30 : decode cX7_meltAway 30 = .ok (.iload_n 3, 1) := by decide +kernel
theorem dX7_meltAway_31 : decode cX7_meltAway 31 = .ok (.sipush 5000, 3) := by decide +kernel
theorem dX7_meltAway_34 : decode cX7_meltAway 34 = .ok (.if_icmp .le 5, 3) := by decide +kernel
theorem dX7_meltAway_37 : decode cX7_meltAway 37 = .ok (.iconst (-1), 1) := by decide +kernel
theorem dX7_meltAway_38 : decode cX7_meltAway 38 = .ok (.ireturn, 1) := by decide +kernel
theorem dX7_meltAway_39 : decode cX7_meltAway 39 = .ok (.aload_n 0, 1) := by decide +kernel
theorem dX7_meltAway_40 : decode cX7_meltAway 40 = .ok (.dup, 1) := by decide +kernel
theorem dX7_meltAway_41 : decode cX7_meltAway 41 = .ok (.getfield 43, 3) := by decide +kernel
theorem dX7_meltAway_44 : decode cX7_meltAway 44 = .ok (.iload_n 2, 1) := by decide +kernel
theorem dX7_meltAway_45 : decode cX7_meltAway 45 = .ok (.isub, 1) := by decide +kernel
theorem dX7_meltAway_46 : decode cX7_meltAway 46 = .ok (.putfield 43, 3) := by decide +kernel
theorem dX7_meltAway_49 : decode cX7_meltAway 49 = .ok (.aload_n 0, 1) := by decide +kernel
theorem dX7_meltAway_50 : decode cX7_meltAway 50 = .ok (.getfield 19, 3) := by decide +kernel
theorem dX7_meltAway_53 : decode cX7_meltAway 53 = .ok (.iload_n 1, 1) := by decide +kernel
theorem dX7_meltAway_54 : decode cX7_meltAway 54 = .ok (.iload_n 3, 1) := by decide +kernel
theorem dX7_meltAway_55 : decode cX7_meltAway 55 = .ok (.iastore, 1) := by decide +kernel
theorem dX7_meltAway_56 : decode cX7_meltAway 56 = .ok (.aload_n 0, 1) := by decide +kernel
theorem dX7_meltAway_57 : decode cX7_meltAway 57 = .ok (.getfield 43, 3) := by decide +kernel
theorem dX7_meltAway_60 : decode cX7_meltAway 60 = .ok (.ireturn, 1) := by decide +kernel
theorem dX7_numberRead_0 : decode cX7_numberRead 0 = .ok (.iload_n 1, 1) := by decide +kernel
theorem dX7_numberRead_1 : decode cX7_numberRead 1 = .ok (.invokestatic 46, 3) := by decide +kernel
theorem dX7_numberRead_4 : decode cX7_numberRead 4 = .ok (.ifCond .ne 5, 3) := by decide +kernel
theorem dX7_numberRead_7 : decode cX7_numberRead 7 = .ok (.iconst (-1), 1) := by decide +kernel
theorem dX7_numberRead_8 : decode cX7_numberRead 8 = .ok (.ireturn, 1) := by decide +kernel
theorem dX7_numberRead_9 : decode cX7_numberRead 9 = .ok (.aload_n 0, 1) := by decide +kernel
theorem dX7_numberRead_10 : decode cX7_numberRead 10 = .ok (.getfield 9, 3) := by decide +kernel
theorem dX7_numberRead_13 : decode cX7_numberRead 13 = .ok (.tableswitch 85 0 4 #[35, 42, 48, 85, 79], 35) := by decide +kernel
theorem dX7_numberRead_48 : decode cX7_numberRead 48 = .ok (.aload_n 0, 1) := by decide +kernel
