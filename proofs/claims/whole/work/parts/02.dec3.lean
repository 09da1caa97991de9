theorem dX10_look_4 : decode cX10_look 4 = .ok (.invokevirtual 96, 3) := by decide +kernel
theorem dX10_look_7 : decode cX10_look 7 = .ok (.ifCond .eq 5, 3) := by decide +kernel
theorem dX10_look_10 : decode cX10_look 10 = .ok (.iconst (-1), 1) := by decide +kernel
theorem dX10_look_11 : decode cX10_look 11 = .ok (.ireturn, 1) := by decide +kernel
theorem dX10_look_12 : decode cX10_look 12 = .ok (.iload_n 2, 1) := by decide +kernel
theorem dX10_look_13 : decode cX10_look 13 = .ok (.tableswitch 81 0 5 #[39, 46, 53, 60, 67, 74], 39) := by decide +kernel
theorem dX10_look_52 : decode cX10_look 52 = .ok (.aload_n 0, 1) := by decide +kernel
theorem dX10_look_53 : decode cX10_look 53 = .ok (.getfield 9, 3) := by decide +kernel
theorem dX10_look_56 : decode cX10_look 56 = .ok (.iload_n 1, 1) := by decide +kernel
theorem dX10_look_57 : decode cX10_look 57 = .ok (.iaload, 1) := by decide +kernel
theorem dX10_look_58 : decode cX10_look 58 = .ok (.ireturn, 1) := by decide +kernel
theorem dX10_look_59 : decode cX10_look 59 = .ok (.aload_n 0, 1) := by decide +kernel
theorem dX10_look_60 : decode cX10_look 60 = .ok (.getfield 13, 3) := by decide +kernel
theorem dX10_look_63 : decode cX10_look 63 = .ok (.iload_n 1, 1) := by decide +kernel
theorem dX10_look_64 : decode cX10_look 64 = .ok (.iaload, 1) := by decide +kernel
theorem dX10_look_65 : decode cX10_look 65 = .ok (.ireturn, 1) := by decide +kernel
theorem dX10_look_66 : decode cX10_look 66 = .ok (.aload_n 0, 1) := by decide +kernel
theorem dX10_look_67 : decode cX10_look 67 = .ok (.getfield 16, 3) := by decide +kernel
theorem dX10_look_70 : decode cX10_look 70 = .ok (.iload_n 1, 1) := by decide +kernel
theorem dX10_look_71 : decode cX10_look 71 = .ok (.iaload, 1) := by decide +kernel
theorem dX10_look_72 : decode cX10_look 72 = .ok (.ireturn, 1) := by decide +kernel
theorem dX10_look_73 : decode cX10_look 73 = .ok (.aload_n 0, 1) := by decide +kernel
theorem dX10_look_74 : decode cX10_look 74 = .ok (.getfield 19, 3) := by decide +kernel
theorem dX10_look_77 : decode cX10_look 77 = .ok (.iload_n 1, 1) := by decide +kernel
theorem dX10_look_78 : decode cX10_look 78 = .ok (.iaload, 1) := by decide +kernel
theorem dX10_look_79 : decode cX10_look 79 = .ok (.ireturn, 1) := by decide +kernel
theorem dX10_look_80 : decode cX10_look 80 = .ok (.aload_n 0, 1) := by decide +kernel
theorem dX10_look_81 : decode cX10_look 81 = .ok (.getfield 22, 3) := by decide +kernel
theorem dX10_look_84 : decode cX10_look 84 = .ok (.iload_n 1, 1) := by decide +kernel
theorem dX10_look_85 : decode cX10_look 85 = .ok (.iaload, 1) := by decide +kernel
theorem dX10_look_86 : decode cX10_look 86 = .ok (.ireturn, 1) := by decide +kernel
theorem dX10_look_87 : decode cX10_look 87 = .ok (.aload_n 0, 1) := by decide +kernel
theorem dX10_look_88 : decode cX10_look 88 = .ok (.getfield 25, 3) := by decide +kernel
theorem dX10_look_91 : decode cX10_look 91 = .ok (.iload_n 1, 1) := by decide +kernel
theorem dX10_look_92 : decode cX10_look 92 = .ok (.iaload, 1) := by decide +kernel
theorem dX10_look_93 : decode cX10_look 93 = .ok (.ireturn, 1) := by decide +kernel
theorem dX10_look_94 : decode cX10_look 94 = .ok (.iconst (-1), 1) := by decide +kernel
theorem dX10_look_95 : decode cX10_look 95 = .ok (.ireturn, 1) := by decide +kernel
theorem dX10_read_0 : decode cX10_read 0 = .ok (.aload_n 0, 1) := by decide +kernel
theorem dX10_read_1 : decode cX10_read 1 = .ok (.iload_n 1, 1) := by decide +kernel
theorem dX10_read_2 : decode cX10_read 2 = .ok (.iconst 0, 1) := by decide +kernel
theorem dX10_read_3 : decode cX10_read 3 = .ok (.iconst 4, 1) := by decide +kernel
theorem dX10_read_4 : decode cX10_read 4 = .ok (.invokevirtual 96, 3) := by decide +kernel
theorem dX10_read_7 : decode cX10_read 7 = .ok (.istore_n 3, 1) := by decide +kernel
theorem dX10_read_8 : decode cX10_read 8 = .ok (.iload_n 3, 1) := by decide +kernel
theorem dX10_read_9 : decode cX10_read 9 = .ok (.ifCond .eq 5, 3) := by decide +kernel
theorem dX10_read_12 : decode cX10_read 12 = .ok (.iload_n 3, 1) := by decide +kernel
theorem dX10_read_13 : decode cX10_read 13 = .ok (.ireturn, 1) := by decide +kernel
theorem dX10_read_14 : decode cX10_read 14 = .ok (.aload_n 0, 1) := by decide +kernel
theorem dX10_read_15 : decode cX10_read 15 = .ok (.getfield 9, 3) := by decide +kernel
theorem dX10_read_18 : decode cX10_read 18 = .ok (.iload_n 1, 1) := by decide +kernel
theorem dX10_read_19 : decode cX10_read 19 = .ok (.iaload, 1) := by decide +kernel
theorem dX10_read_20 : decode cX10_read 20 = .ok (.iconst 1, 1) := by decide +kernel
theorem dX10_read_21 : decode cX10_read 21 = .ok (.if_icmp .eq 13, 3) := by decide +kernel
theorem dX10_read_24 : decode cX10_read 24 = .ok (.aload_n 0, 1) := by decide +kernel
theorem dX10_read_25 : decode cX10_read 25 = .ok (.getfield 9, 3) := by decide +kernel
theorem dX10_read_28 : decode cX10_read 28 = .ok (.iload_n 1, 1) := by decide +kernel
theorem dX10_read_29 : decode cX10_read 29 = .ok (.iaload, 1) := by decide +kernel
theorem dX10_read_30 : decode cX10_read 30 = .ok (.iconst 4, 1) := by decide +kernel
theorem dX10_read_31 : decode cX10_read 31 = .ok (.if_icmp .ne 7, 3) := by decide +kernel
theorem dX10_read_34 : decode cX10_read 34 = .ok (.iconst 1, 1) := by decide +kernel
theorem dX10_read_35 : decode cX10_read 35 = .ok (.goto 4, 3) := by decide +kernel
theorem dX10_read_38 : decode cX10_read 38 = .ok (.iconst 0, 1) := by decide +kernel
theorem dX10_read_39 : decode cX10_read 39 = .ok (.istore 4, 2) := by decide +kernel
theorem dX10_read_41 : decode cX10_read 41 = .ok (.aload_n 0, 1) := by decide +kernel
theorem dX10_read_42 : decode cX10_read 42 = .ok (.getfield 89, 3) := by decide +kernel
theorem dX10_read_45 : decode cX10_read 45 = .ok (.bipush 56, 2) := by decide +kernel
theorem dX10_read_47 : decode cX10_read 47 = .ok (.if_icmp .eq 25, 3) := by decide +kernel
theorem dX10_read_50 : decode cX10_read 50 = .ok (.iload_n 2, 1) := by decide +kernel
theorem dX10_read_51 : decode cX10_read 51 = .ok (.iconst 0, 1) := by decide +kernel
theorem dX10_read_52 : decode cX10_read 52 = .ok (.iload 4, 2) := by decide +kernel
theorem dX10_read_54 : decode cX10_read 54 = .ok (.ifCond .eq 9, 3) := by decide +kernel
theorem dX10_read_57 : decode cX10_read 57 = .ok (.sipush 250, 3) := by decide +kernel
theorem dX10_read_60 : decode cX10_read 60 = .ok (.goto 6, 3) := by decide +kernel
theorem dX10_read_63 : decode cX10_read 63 = .ok (.sipush 5000, 3) := by decide +kernel
theorem dX10_read_66 : decode cX10_read 66 = .ok (.invokestatic 85, 3) := by decide +kernel
theorem dX10_read_69 : decode cX10_read 69 = .ok (.ifCond .ne 5, 3) := by decide +kernel
theorem dX10_read_72 : decode cX10_read 72 = .ok (.iconst (-1), 1) := by decide +kernel
theorem dX10_read_73 : decode cX10_read 73 = .ok (.ireturn, 1) := by decide +kernel
theorem dX10_read_74 : decode cX10_read 74 = .ok (.aload_n 0, 1) := by decide +kernel
theorem dX10_read_75 : decode cX10_read 75 = .ok (.getfield 28, 3) := by decide +kernel
theorem dX10_read_78 : decode cX10_read 78 = .ok (.iload_n 1, 1) := by decide +kernel
theorem dX10_read_79 : decode cX10_read 79 = .ok (.aload_n 0, 1) := by decide +kernel
theorem dX10_read_80 : decode cX10_read 80 = .ok (.getfield 89, 3) := by decide +kernel
theorem dX10_read_83 : decode cX10_read 83 = .ok (.invokestatic 92, 3) := by decide +kernel
theorem dX10_read_86 : decode cX10_read 86 = .ok (.iload_n 2, 1) := by decide +kernel
theorem dX10_read_87 : decode cX10_read 87 = .ok (.iastore, 1) := by decide +kernel
theorem dX10_read_88 : decode cX10_read 88 = .ok (.aload_n 0, 1) := by decide +kernel
theorem dX10_read_89 : decode cX10_read 89 = .ok (.getfield 9, 3) := by decide +kernel
theorem dX10_read_92 : decode cX10_read 92 = .ok (.iload_n 1, 1) := by decide +kernel
theorem dX10_read_93 : decode cX10_read 93 = .ok (.iaload, 1) := by decide +kernel
theorem dX10_read_94 : decode cX10_read 94 = .ok (.iconst 2, 1) := by decide +kernel
theorem dX10_read_95 : decode cX10_read 95 = .ok (.if_icmp .ne 13, 3) := by decide +kernel
theorem dX10_read_98 : decode cX10_read 98 = .ok (.aload_n 0, 1) := by decide +kernel
theorem dX10_read_99 : decode cX10_read 99 = .ok (.getfield 25, 3) := by decide +kernel
theorem dX10_read_102 : decode cX10_read 102 = .ok (.iload_n 1, 1) := by decide +kernel
theorem dX10_read_103 : decode cX10_read 103 = .ok (.dup2, 1) := by decide +kernel
theorem dX10_read_104 : decode cX10_read 104 = .ok (.iaload, 1) := by decide +kernel
theorem dX10_read_105 : decode cX10_read 105 = .ok (.iload_n 2, 1) := by decide +kernel
theorem dX10_read_106 : decode cX10_read 106 = .ok (.iadd, 1) := by decide +kernel
theorem dX10_read_107 : decode cX10_read 107 = .ok (.iastore, 1) := by decide +kernel
theorem dX10_read_108 : decode cX10_read 108 = .ok (.iconst 1, 1) := by decide +kernel
theorem dX10_read_109 : decode cX10_read 109 = .ok (.ireturn, 1) := by decide +kernel
theorem dX10_full_0 : decode cX10_full 0 = .ok (.aload_n 0, 1) := by decide +kernel
theorem dX10_full_1 : decode cX10_full 1 = .ok (.iload_n 1, 1) := by decide +kernel
theorem dX10_full_2 : decode cX10_full 2 = .ok (.iconst 1, 1) := by decide +kernel
theorem dX10_full_3 : decode cX10_full 3 = .ok (.iconst 1, 1) := by decide +kernel
theorem dX10_full_4 : decode cX10_full 4 = .ok (.invokevirtual 96, 3) := by decide +kernel
theorem dX10_full_7 : decode cX10_full 7 = .ok (.istore_n 3, 1) := by decide +kernel
theorem dX10_full_8 : decode cX10_full 8 = .ok (.iload_n 3, 1) := by decide +kernel
theorem dX10_full_9 : decode cX10_full 9 = .ok (.ifCond .eq 5, 3) := by decide +kernel
theorem dX10_full_12 : decode cX10_full 12 = .ok (.iload_n 3, 1) := by decide +kernel
theorem dX10_full_13 : decode cX10_full 13 = .ok (.ireturn, 1) := by decide +kernel
theorem dX10_full_14 : decode cX10_full 14 = .ok (.aload_n 0, 1) := by decide +kernel
theorem dX10_full_15 : decode cX10_full 15 = .ok (.getfield 89, 3) := by decide +kernel
theorem dX10_full_18 : decode cX10_full 18 = .ok (.bipush 56, 2) := by decide +kernel
theorem dX10_full_20 : decode cX10_full 20 = .ok (.if_icmp .eq 13, 3) := by decide +kernel
theorem dX10_full_23 : decode cX10_full 23 = .ok (.iload_n 2, 1) := by decide +kernel
theorem dX10_full_24 : decode cX10_full 24 = .ok (.iconst 0, 1) := by decide +kernel
theorem dX10_full_25 : decode cX10_full 25 = .ok (.bipush 7, 2) := by decide +kernel
theorem dX10_full_27 : decode cX10_full 27 = .ok (.invokestatic 85, 3) := by decide +kernel
theorem dX10_full_30 : decode cX10_full 30 = .ok (.ifCond .ne 5, 3) := by decide +kernel
theorem dX10_full_33 : decode cX10_full 33 = .ok (.iconst (-1), 1) := by decide +kernel
theorem dX10_full_34 : decode cX10_full 34 = .ok (.ireturn, 1) := by decide +kernel
theorem dX10_full_35 : decode cX10_full 35 = .ok (.aload_n 0, 1) := by decide +kernel
theorem dX10_full_36 : decode cX10_full 36 = .ok (.getfield 31, 3) := by decide +kernel
theorem dX10_full_39 : decode cX10_full 39 = .ok (.iload_n 1, 1) := by decide +kernel
theorem dX10_full_40 : decode cX10_full 40 = .ok (.aload_n 0, 1) := by decide +kernel
theorem dX10_full_41 : decode cX10_full 41 = .ok (.getfield 89, 3) := by decide +kernel
theorem dX10_full_44 : decode cX10_full 44 = .ok (.invokestatic 92, 3) := by decide +kernel
theorem dX10_full_47 : decode cX10_full 47 = .ok (.iload_n 2, 1) := by decide +kernel
theorem dX10_full_48 : decode cX10_full 48 = .ok (.iastore, 1) := by decide +kernel
theorem dX10_full_49 : decode cX10_full 49 = .ok (.iconst 1, 1) := by decide +kernel
theorem dX10_full_50 : decode cX10_full 50 = .ok (.ireturn, 1) := by decide +kernel
theorem dX10_melt_0 : decode cX10_melt 0 = .ok (.aload_n 0, 1) := by decide +kernel
theorem dX10_melt_1 : decode cX10_melt 1 = .ok (.iload_n 1, 1) := by decide +kernel
theorem dX10_melt_2 : decode cX10_melt 2 = .ok (.iconst 2, 1) := by decide +kernel
theorem dX10_melt_3 : decode cX10_melt 3 = .ok (.iconst 2, 1) := by decide +kernel
theorem dX10_melt_4 : decode cX10_melt 4 = .ok (.invokevirtual 96, 3) := by decide +kernel
theorem dX10_melt_7 : decode cX10_melt 7 = .ok (.istore_n 3, 1) := by decide +kernel
theorem dX10_melt_8 : decode cX10_melt 8 = .ok (.iload_n 3, 1) := by decide +kernel
theorem dX10_melt_9 : decode cX10_melt 9 = .ok (.ifCond .eq 5, 3) := by decide +kernel
theorem dX10_melt_12 : decode cX10_melt 12 = .ok (.iload_n 3, 1) := by decide +kernel
theorem dX10_melt_13 : decode cX10_melt 13 = .ok (.ireturn, 1) := by decide +kernel
theorem dX10_melt_14 : decode cX10_melt 14 = .ok (.aload_n 0, 1) := by decide +kernel
theorem dX10_melt_15 : decode cX10_melt 15 = .ok (.getfield 89, 3) := by decide +kernel
theorem dX10_melt_18 : decode cX10_melt 18 = .ok (.bipush 56, 2) := by decide +kernel
theorem dX10_melt_20 : decode cX10_melt 20 = .ok (.if_icmp .eq 24, 3) := by decide +kernel
theorem dX10_melt_23 : decode cX10_melt 23 = .ok (.iload_n 2, 1) := by decide +kernel
theorem dX10_melt_24 : decode cX10_melt 24 = .ok (.iconst 1, 1) := by decide +kernel
theorem dX10_melt_25 : decode cX10_melt 25 = .ok (.sipush 5000, 3) := by decide +kernel
theorem dX10_melt_28 : decode cX10_melt 28 = .ok (.invokestatic 85, 3) := by decide +kernel
theorem dX10_melt_31 : decode cX10_melt 31 = .ok (.ifCond .eq 13, 3) := by decide +kernel
theorem dX10_melt_34 : decode cX10_melt 34 = .ok (.iload_n 2, 1) := by decide +kernel
theorem dX10_melt_35 : decode cX10_melt 35 = .ok (.aload_n 0, 1) := by decide +kernel
theorem dX10_melt_36 : decode cX10_melt 36 = .ok (.getfield 25, 3) := by decide +kernel
theorem dX10_melt_39 : decode cX10_melt 39 = .ok (.iload_n 1, 1) := by decide +kernel
theorem dX10_melt_40 : decode cX10_melt 40 = .ok (.iaload, 1) := by decide +kernel
theorem dX10_melt_41 : decode cX10_melt 41 = .ok (.if_icmp .le 5, 3) := by decide +kernel
theorem dX10_melt_44 : decode cX10_melt 44 = .ok (.iconst (-1), 1) := by decide +kernel
theorem dX10_melt_45 : decode cX10_melt 45 = .ok (.ireturn, 1) := by decide +kernel
theorem dX10_melt_46 : decode cX10_melt 46 = .ok (.aload_n 0, 1) := by decide +kernel
theorem dX10_melt_47 : decode cX10_melt 47 = .ok (.getfield 34, 3) := by decide +kernel
theorem dX10_melt_50 : decode cX10_melt 50 = .ok (.iload_n 1, 1) := by decide +kernel
theorem dX10_melt_51 : decode cX10_melt 51 = .ok (.aload_n 0, 1) := by decide +kernel
theorem dX10_melt_52 : decode cX10_melt 52 = .ok (.getfield 89, 3) := by decide +kernel
theorem dX10_melt_55 : decode cX10_melt 55 = .ok (.invokestatic 92, 3) := by decide +kernel
theorem dX10_melt_58 : decode cX10_melt 58 = .ok (.iaload, 1) := by decide +kernel
theorem dX10_melt_59 : decode cX10_melt 59 = .ok (.iconst (-1), 1) := by decide +kernel
theorem dX10_melt_60 : decode cX10_melt 60 = .ok (.if_icmp .ne 7, 3) := by decide +kernel
theorem dX10_melt_63 : decode cX10_melt 63 = .ok (.iconst 0, 1) := by decide +kernel
theorem dX10_melt_64 : decode cX10_melt 64 = .ok (.goto 16, 3) := by decide +kernel
theorem dX10_melt_67 : decode cX10_melt 67 = .ok (.aload_n 0, 1) := by decide +kernel
theorem dX10_melt_68 : decode cX10_melt 68 = .ok (.getfield 34, 3) := by decide +kernel
theorem dX10_melt_71 : decode cX10_melt 71 = .ok (.iload_n 1, 1) := by decide +kernel
theorem dX10_melt_72 : decode cX10_melt 72 = .ok (.aload_n 0, 1) := by decide +kernel
theorem dX10_melt_73 : decode cX10_melt 73 = .ok (.getfield 89, 3) := by decide +kernel
theorem dX10_melt_76 : decode cX10_melt 76 = .ok (.invokestatic 92, 3) := by decide +kernel
theorem dX10_melt_79 : decode cX10_melt 79 = .ok (.iaload, 1) := by decide +kernel
theorem dX10_melt_80 : decode cX10_melt 80 = .ok (.istore 4, 2) := by decide +kernel
theorem dX10_melt_82 : decode cX10_melt 82 = .ok (.iload 4, 2) := by decide +kernel
theorem dX10_melt_84 : decode cX10_melt 84 = .ok (.iload_n 2, 1) := by decide +kernel
theorem dX10_melt_85 : decode cX10_melt 85 = .ok (.iadd, 1) := by decide +kernel
theorem dX10_melt_86 : decode cX10_melt 86 = .ok (.sipush 5000, 3) := by decide +kernel
theorem dX10_melt_89 : decode cX10_melt 89 = .ok (.if_icmp .le 5, 3) := by decide +kernel
theorem dX10_melt_92 : decode cX10_melt 92 = .ok (.iconst (-1), 1) := by decide +kernel
theorem dX10_melt_93 : decode cX10_melt 93 = .ok (.ireturn, 1) := by decide +kernel
theorem dX10_melt_94 : decode cX10_melt 94 = .ok (.aload_n 0, 1) := by decide +kernel
theorem dX10_melt_95 : decode cX10_melt 95 = .ok (.getfield 25, 3) := by decide +kernel
theorem dX10_melt_98 : decode cX10_melt 98 = .ok (.iload_n 1, 1) := by decide +kernel
theorem dX10_melt_99 : decode cX10_melt 99 = .ok (.dup2, 1) := by decide +kernel
theorem dX10_melt_100 : decode cX10_melt 100 = .ok (.iaload, 1) := by decide +kernel
theorem dX10_melt_101 : decode cX10_melt 101 = .ok (.iload_n 2, 1) := by decide +kernel
theorem dX10_melt_102 : decode cX10_melt 102 = .ok (.isub, 1) := by decide +kernel
theorem dX10_melt_103 : decode cX10_melt 103 = .ok (.iastore, 1) := by decide +kernel
theorem dX10_melt_104 : decode cX10_melt 104 = .ok (.aload_n 0, 1) := by decide +kernel
theorem dX10_melt_105 : decode cX10_melt 105 = .ok (.getfield 34, 3) := by decide +kernel
theorem dX10_melt_108 : decode cX10_melt 108 = .ok (.iload_n 1, 1) := by decide +kernel
theorem dX10_melt_109 : decode cX10_melt 109 = .ok (.aload_n 0, 1) := by decide +kernel
theorem dX10_melt_110 : decode cX10_melt 110 = .ok (.getfield 89, 3) := by decide +kernel
theorem dX10_melt_113 : decode cX10_melt 113 = .ok (.invokestatic 92, 3) := by decide +kernel
theorem dX10_melt_116 : decode cX10_melt 116 = .ok (.iload 4, 2) := by decide +kernel
theorem dX10_melt_118 : decode cX10_melt 118 = .ok (.iload_n 2, 1) := by decide +kernel
theorem dX10_melt_119 : decode cX10_melt 119 = .ok (.iadd, 1) := by decide +kernel
theorem dX10_melt_120 : decode cX10_melt 120 = .ok (.iastore, 1) := by decide +kernel
theorem dX10_melt_121 : decode cX10_melt 121 = .ok (.aload_n 0, 1) := by decide +kernel
theorem dX10_melt_122 : decode cX10_melt 122 = .ok (.getfield 25, 3) := by decide +kernel
theorem dX10_melt_125 : decode cX10_melt 125 = .ok (.iload_n 1, 1) := by decide +kernel
theorem dX10_melt_126 : decode cX10_melt 126 = .ok (.iaload, 1) := by decide +kernel
theorem dX10_melt_127 : decode cX10_melt 127 = .ok (.ireturn, 1) := by decide +kernel
theorem dX10_other_0 : decode cX10_other 0 = .ok (.aload_n 0, 1) := by decide +kernel
theorem dX10_other_1 : decode cX10_other 1 = .ok (.iload_n 1, 1) := by decide +kernel
theorem dX10_other_2 : decode cX10_other 2 = .ok (.iconst 4, 1) := by decide +kernel
theorem dX10_other_3 : decode cX10_other 3 = .ok (.iconst 4, 1) := by decide +kernel
theorem dX10_other_4 : decode cX10_other 4 = .ok (.invokevirtual 96, 3) := by decide +kernel
theorem dX10_other_7 : decode cX10_other 7 = .ok (.istore_n 3, 1) := by decide +kernel
theorem dX10_other_8 : decode cX10_other 8 = .ok (.iload_n 3, 1) := by decide +kernel
theorem dX10_other_9 : decode cX10_other 9 = .ok (.ifCond .eq 5, 3) := by decide +kernel
theorem dX10_other_12 : decode cX10_other 12 = .ok (.iload_n 3, 1) := by decide +kernel
theorem dX10_other_13 : decode cX10_other 13 = .ok (.ireturn, 1) := by decide +kernel
theorem dX10_other_14 : decode cX10_other 14 = .ok (.aload_n 0, 1) := by decide +kernel
theorem dX10_other_15 : decode cX10_other 15 = .ok (.getfield 89, 3) := by decide +kernel
theorem dX10_other_18 : decode cX10_other 18 = .ok (.bipush 56, 2) := by decide +kernel
theorem dX10_other_20 : decode cX10_other 20 = .ok (.if_icmp .eq 14, 3) := by decide +kernel
theorem dX10_other_23 : decode cX10_other 23 = .ok (.iload_n 2, 1) := by decide +kernel
theorem dX10_other_24 : decode cX10_other 24 = .ok (.iconst 0, 1) := by decide +kernel
theorem dX10_other_25 : decode cX10_other 25 = .ok (.sipush 250, 3) := by decide +kernel
theorem dX10_other_28 : decode cX10_other 28 = .ok (.invokestatic 85, 3) := by decide +kernel
theorem dX10_other_31 : decode cX10_other 31 = .ok (.ifCond .ne 5, 3) := by decide +kernel
theorem dX10_other_34 : decode cX10_other 34 = .ok (.iconst (-1), 1) := by decide +kernel
theorem dX10_other_35 : decode cX10_other 35 = .ok (.ireturn, 1) := by decide +kernel
theorem dX10_other_36 : decode cX10_other 36 = .ok (.aload_n 0, 1) := by decide +kernel
theorem dX10_other_37 : decode cX10_other 37 = .ok (.getfield 37, 3) := by decide +kernel
theorem dX10_other_40 : decode cX10_other 40 = .ok (.iload_n 1, 1) := by decide +kernel
theorem dX10_other_41 : decode cX10_other 41 = .ok (.aload_n 0, 1) := by decide +kernel
theorem dX10_other_42 : decode cX10_other 42 = .ok (.getfield 89, 3) := by decide +kernel
theorem dX10_other_45 : decode cX10_other 45 = .ok (.invokestatic 92, 3) := by decide +kernel
theorem dX10_other_48 : decode cX10_other 48 = .ok (.iload_n 2, 1) := by decide +kernel
theorem dX10_other_49 : decode cX10_other 49 = .ok (.iastore, 1) := by decide +kernel
theorem dX10_other_50 : decode cX10_other 50 = .ok (.iconst 1, 1) := by decide +kernel
theorem dX10_other_51 : decode cX10_other 51 = .ok (.ireturn, 1) := by decide +kernel
theorem dX10_hand_0 : decode cX10_hand 0 = .ok (.aload_n 0, 1) := by decide +kernel
theorem dX10_hand_1 : decode cX10_hand 1 = .ok (.iload_n 1, 1) := by decide +kernel
theorem dX10_hand_2 : decode cX10_hand 2 = .ok (.iconst 0, 1) := by decide +kernel
theorem dX10_hand_3 : decode cX10_hand 3 = .ok (.iconst 5, 1) := by decide +kernel
theorem dX10_hand_4 : decode cX10_hand 4 = .ok (.invokevirtual 96, 3) := by decide +kernel
theorem dX10_hand_7 : decode cX10_hand 7 = .ok (.istore 4, 2) := by decide +kernel
theorem dX10_hand_9 : decode cX10_hand 9 = .ok (.iload 4, 2) := by decide +kernel
theorem dX10_hand_11 : decode cX10_hand 11 = .ok (.ifCond .ne 27, 3) := by decide +kernel
theorem dX10_hand_14 : decode cX10_hand 14 = .ok (.aload_n 0, 1) := by decide +kernel
theorem dX10_hand_15 : decode cX10_hand 15 = .ok (.getfield 9, 3) := by decide +kernel
theorem dX10_hand_18 : decode cX10_hand 18 = .ok (.iload_n 1, 1) := by decide +kernel
theorem dX10_hand_19 : decode cX10_hand 19 = .ok (.iaload, 1) := by decide +kernel
theorem dX10_hand_20 : decode cX10_hand 20 = .ok (.iconst 3, 1) := by decide +kernel
theorem dX10_hand_21 : decode cX10_hand 21 = .ok (.if_icmp .eq 13, 3) := by decide +kernel
theorem dX10_hand_24 : decode cX10_hand 24 = .ok (.aload_n 0, 1) := by decide +kernel
theorem dX10_hand_25 : decode cX10_hand 25 = .ok (.getfield 9, 3) := by decide +kernel
theorem dX10_hand_28 : decode cX10_hand 28 = .ok (.iload_n 1, 1) := by decide +kernel
theorem dX10_hand_29 : decode cX10_hand 29 = .ok (.iaload, 1) := by decide +kernel
theorem dX10_hand_30 : decode cX10_hand 30 = .ok (.iconst 5, 1) := by decide +kernel
theorem dX10_hand_31 : decode cX10_hand 31 = .ok (.if_icmp .ne 7, 3) := by decide +kernel
theorem dX10_hand_34 : decode cX10_hand 34 = .ok (.bipush (-2), 2) := by decide +kernel
theorem dX10_hand_36 : decode cX10_hand 36 = .ok (.istore 4, 2) := by decide +kernel
theorem dX10_hand_38 : decode cX10_hand 38 = .ok (.iload 4, 2) := by decide +kernel
theorem dX10_hand_40 : decode cX10_hand 40 = .ok (.ifCond .eq 6, 3) := by decide +kernel
theorem dX10_hand_43 : decode cX10_hand 43 = .ok (.iload 4, 2) := by decide +kernel
theorem dX10_hand_45 : decode cX10_hand 45 = .ok (.ireturn, 1) := by decide +kernel
theorem dX10_hand_46 : decode cX10_hand 46 = .ok (.iload_n 2, 1) := by decide +kernel
theorem dX10_hand_47 : decode cX10_hand 47 = .ok (.aload_n 0, 1) := by decide +kernel
theorem dX10_hand_48 : decode cX10_hand 48 = .ok (.getfield 22, 3) := by decide +kernel
theorem dX10_hand_51 : decode cX10_hand 51 = .ok (.iload_n 1, 1) := by decide +kernel
theorem dX10_hand_52 : decode cX10_hand 52 = .ok (.iaload, 1) := by decide +kernel
theorem dX10_hand_53 : decode cX10_hand 53 = .ok (.aload_n 0, 1) := by decide +kernel
theorem dX10_hand_54 : decode cX10_hand 54 = .ok (.getfield 89, 3) := by decide +kernel
theorem dX10_hand_57 : decode cX10_hand 57 = .ok (.bipush 55, 2) := by decide +kernel
theorem dX10_hand_59 : decode cX10_hand 59 = .ok (.if_icmp .ge 10, 3) := by decide +kernel
theorem dX10_hand_62 : decode cX10_hand 62 = .ok (.aload_n 0, 1) := by decide +kernel
theorem dX10_hand_63 : decode cX10_hand 63 = .ok (.getfield 89, 3) := by decide +kernel
theorem dX10_hand_66 : decode cX10_hand 66 = .ok (.goto 5, 3) := by decide +kernel
theorem dX10_hand_69 : decode cX10_hand 69 = .ok (.bipush 55, 2) := by decide +kernel
theorem dX10_hand_71 : decode cX10_hand 71 = .ok (.invokestatic 85, 3) := by decide +kernel
theorem dX10_hand_74 : decode cX10_hand 74 = .ok (.ifCond .eq 23, 3) := by decide +kernel
theorem dX10_hand_77 : decode cX10_hand 77 = .ok (.iload_n 3, 1) := by decide +kernel
theorem dX10_hand_78 : decode cX10_hand 78 = .ok (.iconst (-1), 1) := by decide +kernel
theorem dX10_hand_79 : decode cX10_hand 79 = .ok (.sipush 5000, 3) := by decide +kernel
theorem dX10_hand_82 : decode cX10_hand 82 = .ok (.invokestatic 85, 3) := by decide +kernel
theorem dX10_hand_85 : decode cX10_hand 85 = .ok (.ifCond .eq 12, 3) := by decide +kernel
theorem dX10_hand_88 : decode cX10_hand 88 = .ok (.aload_n 0, 1) := by decide +kernel
theorem dX10_hand_89 : decode cX10_hand 89 = .ok (.getfield 100, 3) := by decide +kernel
theorem dX10_hand_92 : decode cX10_hand 92 = .ok (.bipush 100, 2) := by decide +kernel
theorem dX10_hand_94 : decode cX10_hand 94 = .ok (.if_icmp .ne 5, 3) := by decide +kernel
theorem dX10_hand_97 : decode cX10_hand 97 = .ok (.iconst (-1), 1) := by decide +kernel
theorem dX10_hand_98 : decode cX10_hand 98 = .ok (.ireturn, 1) := by decide +kernel
theorem dX10_hand_99 : decode cX10_hand 99 = .ok (.aload_n 0, 1) := by decide +kernel
theorem dX10_hand_100 : decode cX10_hand 100 = .ok (.getfield 40, 3) := by decide +kernel
theorem dX10_hand_103 : decode cX10_hand 103 = .ok (.aload_n 0, 1) := by decide +kernel
theorem dX10_hand_104 : decode cX10_hand 104 = .ok (.getfield 100, 3) := by decide +kernel
theorem dX10_hand_107 : decode cX10_hand 107 = .ok (.iload_n 1, 1) := by decide +kernel
theorem dX10_hand_108 : decode cX10_hand 108 = .ok (.iastore, 1) := by decide +kernel
theorem dX10_hand_109 : decode cX10_hand 109 = .ok (.aload_n 0, 1) := by decide +kernel
theorem dX10_hand_110 : decode cX10_hand 110 = .ok (.getfield 43, 3) := by decide +kernel
theorem dX10_hand_113 : decode cX10_hand 113 = .ok (.aload_n 0, 1) := by decide +kernel
theorem dX10_hand_114 : decode cX10_hand 114 = .ok (.getfield 100, 3) := by decide +kernel
theorem dX10_hand_117 : decode cX10_hand 117 = .ok (.iload_n 2, 1) := by decide +kernel
theorem dX10_hand_118 : decode cX10_hand 118 = .ok (.iastore, 1) := by decide +kernel
theorem dX10_hand_119 : decode cX10_hand 119 = .ok (.aload_n 0, 1) := by decide +kernel
theorem dX10_hand_120 : decode cX10_hand 120 = .ok (.getfield 46, 3) := by decide +kernel
theorem dX10_hand_123 : decode cX10_hand 123 = .ok (.aload_n 0, 1) := by decide +kernel
theorem dX10_hand_124 : decode cX10_hand 124 = .ok (.getfield 100, 3) := by decide +kernel
theorem dX10_hand_127 : decode cX10_hand 127 = .ok (.iload_n 3, 1) := by decide +kernel
theorem dX10_hand_128 : decode cX10_hand 128 = .ok (.iastore, 1) := by decide +kernel
theorem dX10_hand_129 : decode cX10_hand 129 = .ok (.aload_n 0, 1) := by decide +kernel
theorem dX10_hand_130 : decode cX10_hand 130 = .ok (.getfield 49, 3) := by decide +kernel
theorem dX10_hand_133 : decode cX10_hand 133 = .ok (.aload_n 0, 1) := by decide +kernel
theorem dX10_hand_134 : decode cX10_hand 134 = .ok (.getfield 100, 3) := by decide +kernel
theorem dX10_hand_137 : decode cX10_hand 137 = .ok (.aload_n 0, 1) := by decide +kernel
theorem dX10_hand_138 : decode cX10_hand 138 = .ok (.getfield 89, 3) := by decide +kernel
theorem dX10_hand_141 : decode cX10_hand 141 = .ok (.iastore, 1) := by decide +kernel
theorem dX10_hand_142 : decode cX10_hand 142 = .ok (.aload_n 0, 1) := by decide +kernel
theorem dX10_hand_143 : decode cX10_hand 143 = .ok (.dup, 1) := by decide +kernel
theorem dX10_hand_144 : decode cX10_hand 144 = .ok (.getfield 100, 3) := by decide +kernel
theorem dX10_hand_147 : decode cX10_hand 147 = .ok (.iconst 1, 1) := by decide +kernel
theorem dX10_hand_148 : decode cX10_hand 148 = .ok (.iadd, 1) := by decide +kernel
theorem dX10_hand_149 : decode cX10_hand 149 = .ok (.putfield 100, 3) := by decide +kernel
theorem dX10_hand_152 : decode cX10_hand 152 = .ok (.aload_n 0, 1) := by decide +kernel
theorem dX10_hand_153 : decode cX10_hand 153 = .ok (.getfield 100, 3) := by decide +kernel
theorem dX10_hand_156 : decode cX10_hand 156 = .ok (.ireturn, 1) := by decide +kernel
theorem dX10_close_0 : decode cX10_close 0 = .ok (.aload_n 0, 1) := by decide +kernel
theorem dX10_close_1 : decode cX10_close 1 = .ok (.getfield 89, 3) := by decide +kernel
theorem dX10_close_4 : decode cX10_close 4 = .ok (.bipush 56, 2) := by decide +kernel
theorem dX10_close_6 : decode cX10_close 6 = .ok (.if_icmp .ne 5, 3) := by decide +kernel
theorem dX10_close_9 : decode cX10_close 9 = .ok (.iconst (-1), 1) := by decide +kernel
theorem dX10_close_10 : decode cX10_close 10 = .ok (.ireturn, 1) := by decide +kernel
theorem dX10_close_11 : decode cX10_close 11 = .ok (.aload_n 0, 1) := by decide +kernel
theorem dX10_close_12 : decode cX10_close 12 = .ok (.dup, 1) := by decide +kernel
theorem dX10_close_13 : decode cX10_close 13 = .ok (.getfield 89, 3) := by decide +kernel
theorem dX10_close_16 : decode cX10_close 16 = .ok (.iconst 1, 1) := by decide +kernel
theorem dX10_close_17 : decode cX10_close 17 = .ok (.iadd, 1) := by decide +kernel
theorem dX10_close_18 : decode cX10_close 18 = .ok (.putfield 89, 3) := by decide +kernel
theorem dX10_close_21 : decode cX10_close 21 = .ok (.aload_n 0, 1) := by decide +kernel
theorem dX10_close_22 : decode cX10_close 22 = .ok (.getfield 89, 3) := by decide +kernel
theorem dX10_close_25 : decode cX10_close 25 = .ok (.ireturn, 1) := by decide +kernel
theorem dX10_today_0 : decode cX10_today 0 = .ok (.aload_n 0, 1) := by decide +kernel
theorem dX10_today_1 : decode cX10_today 1 = .ok (.getfield 89, 3) := by decide +kernel
theorem dX10_today_4 : decode cX10_today 4 = .ok (.ireturn, 1) := by decide +kernel
theorem dX10_set_0 : decode cX10_set 0 = .ok (.iload_n 1, 1) := by decide +kernel
theorem dX10_set_1 : decode cX10_set 1 = .ok (.ifCond .ne 22, 3) := by decide +kernel
theorem dX10_set_4 : decode cX10_set 4 = .ok (.iload_n 2, 1) := by decide +kernel
theorem dX10_set_5 : decode cX10_set 5 = .ok (.iconst 0, 1) := by decide +kernel
theorem dX10_set_6 : decode cX10_set 6 = .ok (.sipush 5000, 3) := by decide +kernel
theorem dX10_set_9 : decode cX10_set 9 = .ok (.invokestatic 85, 3) := by decide +kernel
theorem dX10_set_12 : decode cX10_set 12 = .ok (.ifCond .eq 11, 3) := by decide +kernel
theorem dX10_set_15 : decode cX10_set 15 = .ok (.aload_n 0, 1) := by decide +kernel
theorem dX10_set_16 : decode cX10_set 16 = .ok (.iload_n 2, 1) := by decide +kernel
theorem dX10_set_17 : decode cX10_set 17 = .ok (.putfield 52, 3) := by decide +kernel
theorem dX10_set_20 : decode cX10_set 20 = .ok (.goto 109, 3) := by decide +kernel
theorem dX10_set_23 : decode cX10_set 23 = .ok (.iload_n 1, 1) := by decide +kernel
theorem dX10_set_24 : decode cX10_set 24 = .ok (.iconst 1, 1) := by decide +kernel
theorem dX10_set_25 : decode cX10_set 25 = .ok (.if_icmp .ne 22, 3) := by decide +kernel
theorem dX10_set_28 : decode cX10_set 28 = .ok (.iload_n 2, 1) := by decide +kernel
theorem dX10_set_29 : decode cX10_set 29 = .ok (.iconst 0, 1) := by decide +kernel
theorem dX10_set_30 : decode cX10_set 30 = .ok (.sipush 200, 3) := by decide +kernel
theorem dX10_set_33 : decode cX10_set 33 = .ok (.invokestatic 85, 3) := by decide +kernel
theorem dX10_set_36 : decode cX10_set 36 = .ok (.ifCond .eq 11, 3) := by decide +kernel
theorem dX10_set_39 : decode cX10_set 39 = .ok (.aload_n 0, 1) := by decide +kernel
theorem dX10_set_40 : decode cX10_set 40 = .ok (.iload_n 2, 1) := by decide +kernel
theorem dX10_set_41 : decode cX10_set 41 = .ok (.putfield 56, 3) := by decide +kernel
theorem dX10_set_44 : decode cX10_set 44 = .ok (.goto 85, 3) := by decide +kernel
theorem dX10_set_47 : decode cX10_set 47 = .ok (.iload_n 1, 1) := by decide +kernel
theorem dX10_set_48 : decode cX10_set 48 = .ok (.iconst 2, 1) := by decide +kernel
theorem dX10_set_49 : decode cX10_set 49 = .ok (.if_icmp .ne 22, 3) := by decide +kernel
theorem dX10_set_52 : decode cX10_set 52 = .ok (.iload_n 2, 1) := by decide +kernel
theorem dX10_set_53 : decode cX10_set 53 = .ok (.iconst 1, 1) := by decide +kernel
theorem dX10_set_54 : decode cX10_set 54 = .ok (.sipush 5000, 3) := by decide +kernel
theorem dX10_set_57 : decode cX10_set 57 = .ok (.invokestatic 85, 3) := by decide +kernel
theorem dX10_set_60 : decode cX10_set 60 = .ok (.ifCond .eq 11, 3) := by decide +kernel
theorem dX10_set_63 : decode cX10_set 63 = .ok (.aload_n 0, 1) := by decide +kernel
theorem dX10_set_64 : decode cX10_set 64 = .ok (.iload_n 2, 1) := by decide +kernel
theorem dX10_set_65 : decode cX10_set 65 = .ok (.putfield 59, 3) := by decide +kernel
theorem dX10_set_68 : decode cX10_set 68 = .ok (.goto 61, 3) := by decide +kernel
theorem dX10_set_71 : decode cX10_set 71 = .ok (.iload_n 1, 1) := by decide +kernel
theorem dX10_set_72 : decode cX10_set 72 = .ok (.iconst 3, 1) := by decide +kernel
theorem dX10_set_73 : decode cX10_set 73 = .ok (.if_icmp .ne 21, 3) := by decide +kernel
theorem dX10_set_76 : decode cX10_set 76 = .ok (.iload_n 2, 1) := by decide +kernel
theorem dX10_set_77 : decode cX10_set 77 = .ok (.iconst 0, 1) := by decide +kernel
theorem dX10_set_78 : decode cX10_set 78 = .ok (.bipush 100, 2) := by decide +kernel
theorem dX10_set_80 : decode cX10_set 80 = .ok (.invokestatic 85, 3) := by decide +kernel
theorem dX10_set_83 : decode cX10_set 83 = .ok (.ifCond .eq 11, 3) := by decide +kernel
theorem dX10_set_86 : decode cX10_set 86 = .ok (.aload_n 0, 1) := by decide +kernel
theorem dX10_set_87 : decode cX10_set 87 = .ok (.iload_n 2, 1) := by decide +kernel
theorem dX10_set_88 : decode cX10_set 88 = .ok (.putfield 62, 3) := by decide +kernel
theorem dX10_set_91 : decode cX10_set 91 = .ok (.goto 38, 3) := by decide +kernel
theorem dX10_set_94 : decode cX10_set 94 = .ok (.iload_n 1, 1) := by decide +kernel
theorem dX10_set_95 : decode cX10_set 95 = .ok (.iconst 4, 1) := by decide +kernel
theorem dX10_set_96 : decode cX10_set 96 = .ok (.bipush 11, 2) := by decide +kernel
theorem dX10_set_98 : decode cX10_set 98 = .ok (.invokestatic 85, 3) := by decide +kernel
theorem dX10_set_101 : decode cX10_set 101 = .ok (.ifCond .eq 26, 3) := by decide +kernel
theorem dX10_set_104 : decode cX10_set 104 = .ok (.iload_n 2, 1) := by decide +kernel
theorem dX10_set_105 : decode cX10_set 105 = .ok (.iconst 0, 1) := by decide +kernel
theorem dX10_set_106 : decode cX10_set 106 = .ok (.sipush 1000, 3) := by decide +kernel
theorem dX10_set_109 : decode cX10_set 109 = .ok (.invokestatic 85, 3) := by decide +kernel
theorem dX10_set_112 : decode cX10_set 112 = .ok (.ifCond .eq 15, 3) := by decide +kernel
theorem dX10_set_115 : decode cX10_set 115 = .ok (.aload_n 0, 1) := by decide +kernel
theorem dX10_set_116 : decode cX10_set 116 = .ok (.getfield 65, 3) := by decide +kernel
theorem dX10_set_119 : decode cX10_set 119 = .ok (.iload_n 1, 1) := by decide +kernel
theorem dX10_set_120 : decode cX10_set 120 = .ok (.iconst 4, 1) := by decide +kernel
theorem dX10_set_121 : decode cX10_set 121 = .ok (.isub, 1) := by decide +kernel
theorem dX10_set_122 : decode cX10_set 122 = .ok (.iload_n 2, 1) := by decide +kernel
theorem dX10_set_123 : decode cX10_set 123 = .ok (.iastore, 1) := by decide +kernel
theorem dX10_set_124 : decode cX10_set 124 = .ok (.goto 5, 3) := by decide +kernel
theorem dX10_set_127 : decode cX10_set 127 = .ok (.iconst 0, 1) := by decide +kernel
theorem dX10_set_128 : decode cX10_set 128 = .ok (.ireturn, 1) := by decide +kernel
theorem dX10_set_129 : decode cX10_set 129 = .ok (.iconst 1, 1) := by decide +kernel
theorem dX10_set_130 : decode cX10_set 130 = .ok (.ireturn, 1) := by decide +kernel
theorem dX10_byHand_0 : decode cX10_byHand 0 = .ok (.iconst (-1), 1) := by decide +kernel
theorem dX10_byHand_1 : decode cX10_byHand 1 = .ok (.istore 4, 2) := by decide +kernel
theorem dX10_byHand_3 : decode cX10_byHand 3 = .ok (.iconst 0, 1) := by decide +kernel
theorem dX10_byHand_4 : decode cX10_byHand 4 = .ok (.istore 5, 2) := by decide +kernel
theorem dX10_byHand_6 : decode cX10_byHand 6 = .ok (.iload 5, 2) := by decide +kernel
theorem dX10_byHand_8 : decode cX10_byHand 8 = .ok (.aload_n 0, 1) := by decide +kernel
theorem dX10_byHand_9 : decode cX10_byHand 9 = .ok (.getfield 100, 3) := by decide +kernel
theorem dX10_byHand_12 : decode cX10_byHand 12 = .ok (.if_icmp .ge 46, 3) := by decide +kernel
theorem dX10_byHand_15 : decode cX10_byHand 15 = .ok (.aload_n 0, 1) := by decide +kernel
theorem dX10_byHand_16 : decode cX10_byHand 16 = .ok (.getfield 40, 3) := by decide +kernel
theorem dX10_byHand_19 : decode cX10_byHand 19 = .ok (.iload 5, 2) := by decide +kernel
theorem dX10_byHand_21 : decode cX10_byHand 21 = .ok (.iaload, 1) := by decide +kernel
theorem dX10_byHand_22 : decode cX10_byHand 22 = .ok (.iload_n 1, 1) := by decide +kernel
theorem dX10_byHand_23 : decode cX10_byHand 23 = .ok (.if_icmp .ne 29, 3) := by decide +kernel
theorem dX10_byHand_26 : decode cX10_byHand 26 = .ok (.aload_n 0, 1) := by decide +kernel
theorem dX10_byHand_27 : decode cX10_byHand 27 = .ok (.getfield 43, 3) := by decide +kernel
theorem dX10_byHand_30 : decode cX10_byHand 30 = .ok (.iload 5, 2) := by decide +kernel
theorem dX10_byHand_32 : decode cX10_byHand 32 = .ok (.iaload, 1) := by decide +kernel
theorem dX10_byHand_33 : decode cX10_byHand 33 = .ok (.iload_n 2, 1) := by decide +kernel
theorem dX10_byHand_34 : decode cX10_byHand 34 = .ok (.if_icmp .ne 18, 3) := by decide +kernel
theorem dX10_byHand_37 : decode cX10_byHand 37 = .ok (.aload_n 0, 1) := by decide +kernel
theorem dX10_byHand_38 : decode cX10_byHand 38 = .ok (.getfield 49, 3) := by decide +kernel
theorem dX10_byHand_41 : decode cX10_byHand 41 = .ok (.iload 5, 2) := by decide +kernel
theorem dX10_byHand_43 : decode cX10_byHand 43 = .ok (.iaload, 1) := by decide +kernel
theorem dX10_byHand_44 : decode cX10_byHand 44 = .ok (.iload_n 3, 1) := by decide +kernel
theorem dX10_byHand_45 : decode cX10_byHand 45 = .ok (.if_icmp .gt 7, 3) := by decide +kernel
theorem dX10_byHand_48 : decode cX10_byHand 48 = .ok (.iload 5, 2) := by decide +kernel
theorem dX10_byHand_50 : decode cX10_byHand 50 = .ok (.istore 4, 2) := by decide +kernel
theorem dX10_byHand_52 : decode cX10_byHand 52 = .ok (.iinc 5 1, 3) := by decide +kernel
theorem dX10_byHand_55 : decode cX10_byHand 55 = .ok (.goto (-49), 3) := by decide +kernel
theorem dX10_byHand_58 : decode cX10_byHand 58 = .ok (.iload 4, 2) := by decide +kernel
theorem dX10_byHand_60 : decode cX10_byHand 60 = .ok (.ireturn, 1) := by decide +kernel
theorem dX10_rawAt_0 : decode cX10_rawAt 0 = .ok (.aload_n 0, 1) := by decide +kernel
theorem dX10_rawAt_1 : decode cX10_rawAt 1 = .ok (.iload_n 1, 1) := by decide +kernel
theorem dX10_rawAt_2 : decode cX10_rawAt 2 = .ok (.invokevirtual 103, 3) := by decide +kernel
theorem dX10_rawAt_5 : decode cX10_rawAt 5 = .ok (.ifCond .eq 41, 3) := by decide +kernel
theorem dX10_rawAt_8 : decode cX10_rawAt 8 = .ok (.aload_n 0, 1) := by decide +kernel
theorem dX10_rawAt_9 : decode cX10_rawAt 9 = .ok (.getfield 9, 3) := by decide +kernel
theorem dX10_rawAt_12 : decode cX10_rawAt 12 = .ok (.iload_n 1, 1) := by decide +kernel
theorem dX10_rawAt_13 : decode cX10_rawAt 13 = .ok (.iaload, 1) := by decide +kernel
theorem dX10_rawAt_14 : decode cX10_rawAt 14 = .ok (.iconst 3, 1) := by decide +kernel
theorem dX10_rawAt_15 : decode cX10_rawAt 15 = .ok (.if_icmp .eq 31, 3) := by decide +kernel
theorem dX10_rawAt_18 : decode cX10_rawAt 18 = .ok (.iload_n 2, 1) := by decide +kernel
theorem dX10_rawAt_19 : decode cX10_rawAt 19 = .ok (.aload_n 0, 1) := by decide +kernel
theorem dX10_rawAt_20 : decode cX10_rawAt 20 = .ok (.getfield 22, 3) := by decide +kernel
theorem dX10_rawAt_23 : decode cX10_rawAt 23 = .ok (.iload_n 1, 1) := by decide +kernel
theorem dX10_rawAt_24 : decode cX10_rawAt 24 = .ok (.iaload, 1) := by decide +kernel
theorem dX10_rawAt_25 : decode cX10_rawAt 25 = .ok (.bipush 55, 2) := by decide +kernel
theorem dX10_rawAt_27 : decode cX10_rawAt 27 = .ok (.invokestatic 85, 3) := by decide +kernel
theorem dX10_rawAt_30 : decode cX10_rawAt 30 = .ok (.ifCond .eq 16, 3) := by decide +kernel
theorem dX10_rawAt_33 : decode cX10_rawAt 33 = .ok (.iload_n 2, 1) := by decide +kernel
theorem dX10_rawAt_34 : decode cX10_rawAt 34 = .ok (.iload_n 3, 1) := by decide +kernel
theorem dX10_rawAt_35 : decode cX10_rawAt 35 = .ok (.if_icmp .gt 11, 3) := by decide +kernel
theorem dX10_rawAt_38 : decode cX10_rawAt 38 = .ok (.iload_n 2, 1) := by decide +kernel
theorem dX10_rawAt_39 : decode cX10_rawAt 39 = .ok (.aload_n 0, 1) := by decide +kernel
theorem dX10_rawAt_40 : decode cX10_rawAt 40 = .ok (.getfield 89, 3) := by decide +kernel
theorem dX10_rawAt_43 : decode cX10_rawAt 43 = .ok (.if_icmp .le 5, 3) := by decide +kernel
theorem dX10_rawAt_46 : decode cX10_rawAt 46 = .ok (.iconst (-1), 1) := by decide +kernel
theorem dX10_rawAt_47 : decode cX10_rawAt 47 = .ok (.ireturn, 1) := by decide +kernel
theorem dX10_rawAt_48 : decode cX10_rawAt 48 = .ok (.aload_n 0, 1) := by decide +kernel
theorem dX10_rawAt_49 : decode cX10_rawAt 49 = .ok (.iload_n 1, 1) := by decide +kernel
theorem dX10_rawAt_50 : decode cX10_rawAt 50 = .ok (.iload_n 2, 1) := by decide +kernel
theorem dX10_rawAt_51 : decode cX10_rawAt 51 = .ok (.iload_n 3, 1) := by decide +kernel
theorem dX10_rawAt_52 : decode cX10_rawAt 52 = .ok (.invokevirtual 107, 3) := by decide +kernel
theorem dX10_rawAt_55 : decode cX10_rawAt 55 = .ok (.istore 4, 2) := by decide +kernel
theorem dX10_rawAt_57 : decode cX10_rawAt 57 = .ok (.iload 4, 2) := by decide +kernel
theorem dX10_rawAt_59 : decode cX10_rawAt 59 = .ok (.iconst (-1), 1) := by decide +kernel
theorem dX10_rawAt_60 : decode cX10_rawAt 60 = .ok (.if_icmp .eq 11, 3) := by decide +kernel
theorem dX10_rawAt_63 : decode cX10_rawAt 63 = .ok (.aload_n 0, 1) := by decide +kernel
theorem dX10_rawAt_64 : decode cX10_rawAt 64 = .ok (.getfield 46, 3) := by decide +kernel
theorem dX10_rawAt_67 : decode cX10_rawAt 67 = .ok (.iload 4, 2) := by decide +kernel
theorem dX10_rawAt_69 : decode cX10_rawAt 69 = .ok (.iaload, 1) := by decide +kernel
theorem dX10_rawAt_70 : decode cX10_rawAt 70 = .ok (.ireturn, 1) := by decide +kernel
theorem dX10_rawAt_71 : decode cX10_rawAt 71 = .ok (.iload_n 1, 1) := by decide +kernel
theorem dX10_rawAt_72 : decode cX10_rawAt 72 = .ok (.iload_n 2, 1) := by decide +kernel
theorem dX10_rawAt_73 : decode cX10_rawAt 73 = .ok (.invokestatic 92, 3) := by decide +kernel
theorem dX10_rawAt_76 : decode cX10_rawAt 76 = .ok (.istore 5, 2) := by decide +kernel
theorem dX10_rawAt_78 : decode cX10_rawAt 78 = .ok (.aload_n 0, 1) := by decide +kernel
theorem dX10_rawAt_79 : decode cX10_rawAt 79 = .ok (.getfield 28, 3) := by decide +kernel
theorem dX10_rawAt_82 : decode cX10_rawAt 82 = .ok (.iload 5, 2) := by decide +kernel
theorem dX10_rawAt_84 : decode cX10_rawAt 84 = .ok (.iaload, 1) := by decide +kernel
theorem dX10_rawAt_85 : decode cX10_rawAt 85 = .ok (.istore 6, 2) := by decide +kernel
theorem dX10_rawAt_87 : decode cX10_rawAt 87 = .ok (.aload_n 0, 1) := by decide +kernel
theorem dX10_rawAt_88 : decode cX10_rawAt 88 = .ok (.getfield 9, 3) := by decide +kernel
theorem dX10_rawAt_91 : decode cX10_rawAt 91 = .ok (.iload_n 1, 1) := by decide +kernel
theorem dX10_rawAt_92 : decode cX10_rawAt 92 = .ok (.iaload, 1) := by decide +kernel
theorem dX10_rawAt_93 : decode cX10_rawAt 93 = .ok (.tableswitch 91 0 2 #[27, 30, 47], 27) := by decide +kernel
theorem dX10_rawAt_120 : decode cX10_rawAt 120 = .ok (.iload 6, 2) := by decide +kernel
theorem dX10_rawAt_122 : decode cX10_rawAt 122 = .ok (.ireturn, 1) := by decide +kernel
theorem dX10_rawAt_123 : decode cX10_rawAt 123 = .ok (.iload 6, 2) := by decide +kernel
theorem dX10_rawAt_125 : decode cX10_rawAt 125 = .ok (.iconst (-1), 1) := by decide +kernel
theorem dX10_rawAt_126 : decode cX10_rawAt 126 = .ok (.if_icmp .ne 7, 3) := by decide +kernel
theorem dX10_rawAt_129 : decode cX10_rawAt 129 = .ok (.iconst (-1), 1) := by decide +kernel
theorem dX10_rawAt_130 : decode cX10_rawAt 130 = .ok (.goto 9, 3) := by decide +kernel
theorem dX10_rawAt_133 : decode cX10_rawAt 133 = .ok (.aload_n 0, 1) := by decide +kernel
theorem dX10_rawAt_134 : decode cX10_rawAt 134 = .ok (.iload_n 1, 1) := by decide +kernel
theorem dX10_rawAt_135 : decode cX10_rawAt 135 = .ok (.iload_n 2, 1) := by decide +kernel
theorem dX10_rawAt_136 : decode cX10_rawAt 136 = .ok (.invokevirtual 110, 3) := by decide +kernel
theorem dX10_rawAt_139 : decode cX10_rawAt 139 = .ok (.ireturn, 1) := by decide +kernel
theorem dX10_rawAt_140 : decode cX10_rawAt 140 = .ok (.iload 6, 2) := by decide +kernel
theorem dX10_rawAt_142 : decode cX10_rawAt 142 = .ok (.iconst (-1), 1) := by decide +kernel
theorem dX10_rawAt_143 : decode cX10_rawAt 143 = .ok (.if_icmp .ne 18, 3) := by decide +kernel
theorem dX10_rawAt_146 : decode cX10_rawAt 146 = .ok (.aload_n 0, 1) := by decide +kernel
theorem dX10_rawAt_147 : decode cX10_rawAt 147 = .ok (.getfield 34, 3) := by decide +kernel
theorem dX10_rawAt_150 : decode cX10_rawAt 150 = .ok (.iload 5, 2) := by decide +kernel
theorem dX10_rawAt_152 : decode cX10_rawAt 152 = .ok (.iaload, 1) := by decide +kernel
theorem dX10_rawAt_153 : decode cX10_rawAt 153 = .ok (.iconst (-1), 1) := by decide +kernel
theorem dX10_rawAt_154 : decode cX10_rawAt 154 = .ok (.if_icmp .ne 7, 3) := by decide +kernel
theorem dX10_rawAt_157 : decode cX10_rawAt 157 = .ok (.iconst (-1), 1) := by decide +kernel
theorem dX10_rawAt_158 : decode cX10_rawAt 158 = .ok (.goto 25, 3) := by decide +kernel
theorem dX10_rawAt_161 : decode cX10_rawAt 161 = .ok (.aload_n 0, 1) := by decide +kernel
theorem dX10_rawAt_162 : decode cX10_rawAt 162 = .ok (.getfield 34, 3) := by decide +kernel
theorem dX10_rawAt_165 : decode cX10_rawAt 165 = .ok (.iload 5, 2) := by decide +kernel
theorem dX10_rawAt_167 : decode cX10_rawAt 167 = .ok (.iaload, 1) := by decide +kernel
theorem dX10_rawAt_168 : decode cX10_rawAt 168 = .ok (.iconst (-1), 1) := by decide +kernel
theorem dX10_rawAt_169 : decode cX10_rawAt 169 = .ok (.if_icmp .ne 7, 3) := by decide +kernel
theorem dX10_rawAt_172 : decode cX10_rawAt 172 = .ok (.iconst 0, 1) := by decide +kernel
theorem dX10_rawAt_173 : decode cX10_rawAt 173 = .ok (.goto 10, 3) := by decide +kernel
theorem dX10_rawAt_176 : decode cX10_rawAt 176 = .ok (.aload_n 0, 1) := by decide +kernel
theorem dX10_rawAt_177 : decode cX10_rawAt 177 = .ok (.getfield 34, 3) := by decide +kernel
theorem dX10_rawAt_180 : decode cX10_rawAt 180 = .ok (.iload 5, 2) := by decide +kernel
theorem dX10_rawAt_182 : decode cX10_rawAt 182 = .ok (.iaload, 1) := by decide +kernel
theorem dX10_rawAt_183 : decode cX10_rawAt 183 = .ok (.ireturn, 1) := by decide +kernel
theorem dX10_rawAt_184 : decode cX10_rawAt 184 = .ok (.iload 6, 2) := by decide +kernel
theorem dX10_rawAt_186 : decode cX10_rawAt 186 = .ok (.iconst (-1), 1) := by decide +kernel
theorem dX10_rawAt_187 : decode cX10_rawAt 187 = .ok (.if_icmp .eq 14, 3) := by decide +kernel
theorem dX10_rawAt_190 : decode cX10_rawAt 190 = .ok (.aload_n 0, 1) := by decide +kernel
theorem dX10_rawAt_191 : decode cX10_rawAt 191 = .ok (.getfield 37, 3) := by decide +kernel
theorem dX10_rawAt_194 : decode cX10_rawAt 194 = .ok (.iload 5, 2) := by decide +kernel
theorem dX10_rawAt_196 : decode cX10_rawAt 196 = .ok (.iaload, 1) := by decide +kernel
theorem dX10_rawAt_197 : decode cX10_rawAt 197 = .ok (.iconst (-1), 1) := by decide +kernel
theorem dX10_rawAt_198 : decode cX10_rawAt 198 = .ok (.if_icmp .ne 7, 3) := by decide +kernel
theorem dX10_rawAt_201 : decode cX10_rawAt 201 = .ok (.iconst (-1), 1) := by decide +kernel
theorem dX10_rawAt_202 : decode cX10_rawAt 202 = .ok (.goto 22, 3) := by decide +kernel
theorem dX10_rawAt_205 : decode cX10_rawAt 205 = .ok (.iload 6, 2) := by decide +kernel
theorem dX10_rawAt_207 : decode cX10_rawAt 207 = .ok (.aload_n 0, 1) := by decide +kernel
theorem dX10_rawAt_208 : decode cX10_rawAt 208 = .ok (.getfield 37, 3) := by decide +kernel
theorem dX10_rawAt_211 : decode cX10_rawAt 211 = .ok (.iload 5, 2) := by decide +kernel
theorem dX10_rawAt_213 : decode cX10_rawAt 213 = .ok (.iaload, 1) := by decide +kernel
theorem dX10_rawAt_214 : decode cX10_rawAt 214 = .ok (.iadd, 1) := by decide +kernel
theorem dX10_rawAt_215 : decode cX10_rawAt 215 = .ok (.aload_n 0, 1) := by decide +kernel
theorem dX10_rawAt_216 : decode cX10_rawAt 216 = .ok (.getfield 19, 3) := by decide +kernel
theorem dX10_rawAt_219 : decode cX10_rawAt 219 = .ok (.iload_n 1, 1) := by decide +kernel
theorem dX10_rawAt_220 : decode cX10_rawAt 220 = .ok (.iaload, 1) := by decide +kernel
theorem dX10_rawAt_221 : decode cX10_rawAt 221 = .ok (.imul, 1) := by decide +kernel
theorem dX10_rawAt_222 : decode cX10_rawAt 222 = .ok (.iconst 2, 1) := by decide +kernel
theorem dX10_rawAt_223 : decode cX10_rawAt 223 = .ok (.idiv, 1) := by decide +kernel
theorem dX10_rawAt_224 : decode cX10_rawAt 224 = .ok (.ireturn, 1) := by decide +kernel
theorem dX10_tipped_0 : decode cX10_tipped 0 = .ok (.aload_n 0, 1) := by decide +kernel
theorem dX10_tipped_1 : decode cX10_tipped 1 = .ok (.getfield 28, 3) := by decide +kernel
theorem dX10_tipped_4 : decode cX10_tipped 4 = .ok (.iload_n 1, 1) := by decide +kernel
theorem dX10_tipped_5 : decode cX10_tipped 5 = .ok (.iload_n 2, 1) := by decide +kernel
theorem dX10_tipped_6 : decode cX10_tipped 6 = .ok (.invokestatic 92, 3) := by decide +kernel
theorem dX10_tipped_9 : decode cX10_tipped 9 = .ok (.iaload, 1) := by decide +kernel
theorem dX10_tipped_10 : decode cX10_tipped 10 = .ok (.aload_n 0, 1) := by decide +kernel
theorem dX10_tipped_11 : decode cX10_tipped 11 = .ok (.getfield 19, 3) := by decide +kernel
theorem dX10_tipped_14 : decode cX10_tipped 14 = .ok (.iload_n 1, 1) := by decide +kernel
theorem dX10_tipped_15 : decode cX10_tipped 15 = .ok (.iaload, 1) := by decide +kernel
theorem dX10_tipped_16 : decode cX10_tipped 16 = .ok (.imul, 1) := by decide +kernel
theorem dX10_tipped_17 : decode cX10_tipped 17 = .ok (.istore_n 3, 1) := by decide +kernel
theorem dX10_tipped_18 : decode cX10_tipped 18 = .ok (.iload_n 2, 1) := by decide +kernel
theorem dX10_tipped_19 : decode cX10_tipped 19 = .ok (.ifCond .le 69, 3) := by decide +kernel
theorem dX10_tipped_22 : decode cX10_tipped 22 = .ok (.aload_n 0, 1) := by decide +kernel
theorem dX10_tipped_23 : decode cX10_tipped 23 = .ok (.getfield 31, 3) := by decide +kernel
theorem dX10_tipped_26 : decode cX10_tipped 26 = .ok (.iload_n 1, 1) := by decide +kernel
theorem dX10_tipped_27 : decode cX10_tipped 27 = .ok (.iload_n 2, 1) := by decide +kernel
theorem dX10_tipped_28 : decode cX10_tipped 28 = .ok (.invokestatic 92, 3) := by decide +kernel
theorem dX10_tipped_31 : decode cX10_tipped 31 = .ok (.iaload, 1) := by decide +kernel
theorem dX10_tipped_32 : decode cX10_tipped 32 = .ok (.iconst (-1), 1) := by decide +kernel
theorem dX10_tipped_33 : decode cX10_tipped 33 = .ok (.if_icmp .eq 55, 3) := by decide +kernel
theorem dX10_tipped_36 : decode cX10_tipped 36 = .ok (.aload_n 0, 1) := by decide +kernel
theorem dX10_tipped_37 : decode cX10_tipped 37 = .ok (.getfield 31, 3) := by decide +kernel
theorem dX10_tipped_40 : decode cX10_tipped 40 = .ok (.iload_n 1, 1) := by decide +kernel
theorem dX10_tipped_41 : decode cX10_tipped 41 = .ok (.iload_n 2, 1) := by decide +kernel
theorem dX10_tipped_42 : decode cX10_tipped 42 = .ok (.iconst 1, 1) := by decide +kernel
theorem dX10_tipped_43 : decode cX10_tipped 43 = .ok (.isub, 1) := by decide +kernel
theorem dX10_tipped_44 : decode cX10_tipped 44 = .ok (.invokestatic 92, 3) := by decide +kernel
theorem dX10_tipped_47 : decode cX10_tipped 47 = .ok (.iaload, 1) := by decide +kernel
theorem dX10_tipped_48 : decode cX10_tipped 48 = .ok (.iconst (-1), 1) := by decide +kernel
theorem dX10_tipped_49 : decode cX10_tipped 49 = .ok (.if_icmp .eq 39, 3) := by decide +kernel
theorem dX10_tipped_52 : decode cX10_tipped 52 = .ok (.iload_n 3, 1) := by decide +kernel
theorem dX10_tipped_53 : decode cX10_tipped 53 = .ok (.aload_n 0, 1) := by decide +kernel
theorem dX10_tipped_54 : decode cX10_tipped 54 = .ok (.getfield 19, 3) := by decide +kernel
theorem dX10_tipped_57 : decode cX10_tipped 57 = .ok (.iload_n 1, 1) := by decide +kernel
theorem dX10_tipped_58 : decode cX10_tipped 58 = .ok (.iaload, 1) := by decide +kernel
theorem dX10_tipped_59 : decode cX10_tipped 59 = .ok (.aload_n 0, 1) := by decide +kernel
theorem dX10_tipped_60 : decode cX10_tipped 60 = .ok (.getfield 31, 3) := by decide +kernel
theorem dX10_tipped_63 : decode cX10_tipped 63 = .ok (.iload_n 1, 1) := by decide +kernel
theorem dX10_tipped_64 : decode cX10_tipped 64 = .ok (.iload_n 2, 1) := by decide +kernel
theorem dX10_tipped_65 : decode cX10_tipped 65 = .ok (.invokestatic 92, 3) := by decide +kernel
theorem dX10_tipped_68 : decode cX10_tipped 68 = .ok (.iaload, 1) := by decide +kernel
theorem dX10_tipped_69 : decode cX10_tipped 69 = .ok (.aload_n 0, 1) := by decide +kernel
theorem dX10_tipped_70 : decode cX10_tipped 70 = .ok (.getfield 31, 3) := by decide +kernel
theorem dX10_tipped_73 : decode cX10_tipped 73 = .ok (.iload_n 1, 1) := by decide +kernel
theorem dX10_tipped_74 : decode cX10_tipped 74 = .ok (.iload_n 2, 1) := by decide +kernel
theorem dX10_tipped_75 : decode cX10_tipped 75 = .ok (.iconst 1, 1) := by decide +kernel
theorem dX10_tipped_76 : decode cX10_tipped 76 = .ok (.isub, 1) := by decide +kernel
theorem dX10_tipped_77 : decode cX10_tipped 77 = .ok (.invokestatic 92, 3) := by decide +kernel
theorem dX10_tipped_80 : decode cX10_tipped 80 = .ok (.iaload, 1) := by decide +kernel
theorem dX10_tipped_81 : decode cX10_tipped 81 = .ok (.isub, 1) := by decide +kernel
theorem dX10_tipped_82 : decode cX10_tipped 82 = .ok (.imul, 1) := by decide +kernel
theorem dX10_tipped_83 : decode cX10_tipped 83 = .ok (.bipush 8, 2) := by decide +kernel
theorem dX10_tipped_85 : decode cX10_tipped 85 = .ok (.idiv, 1) := by decide +kernel
theorem dX10_tipped_86 : decode cX10_tipped 86 = .ok (.iadd, 1) := by decide +kernel
theorem dX10_tipped_87 : decode cX10_tipped 87 = .ok (.istore_n 3, 1) := by decide +kernel
theorem dX10_tipped_88 : decode cX10_tipped 88 = .ok (.iload_n 3, 1) := by decide +kernel
theorem dX10_tipped_89 : decode cX10_tipped 89 = .ok (.ifCond .ge 7, 3) := by decide +kernel
theorem dX10_tipped_92 : decode cX10_tipped 92 = .ok (.iconst 0, 1) := by decide +kernel
theorem dX10_tipped_93 : decode cX10_tipped 93 = .ok (.goto 4, 3) := by decide +kernel
theorem dX10_tipped_96 : decode cX10_tipped 96 = .ok (.iload_n 3, 1) := by decide +kernel
theorem dX10_tipped_97 : decode cX10_tipped 97 = .ok (.ireturn, 1) := by decide +kernel
theorem dX10_raw0_0 : decode cX10_raw0 0 = .ok (.aload_n 0, 1) := by decide +kernel
theorem dX10_raw0_1 : decode cX10_raw0 1 = .ok (.iload_n 1, 1) := by decide +kernel
theorem dX10_raw0_2 : decode cX10_raw0 2 = .ok (.iload_n 2, 1) := by decide +kernel
theorem dX10_raw0_3 : decode cX10_raw0 3 = .ok (.bipush 99, 2) := by decide +kernel
theorem dX10_raw0_5 : decode cX10_raw0 5 = .ok (.invokevirtual 113, 3) := by decide +kernel
theorem dX10_raw0_8 : decode cX10_raw0 8 = .ok (.ireturn, 1) := by decide +kernel
theorem dX10_raw_0 : decode cX10_raw 0 = .ok (.aload_n 0, 1) := by decide +kernel
theorem dX10_raw_1 : decode cX10_raw 1 = .ok (.iload_n 1, 1) := by decide +kernel
theorem dX10_raw_2 : decode cX10_raw 2 = .ok (.iconst 0, 1) := by decide +kernel
theorem dX10_raw_3 : decode cX10_raw 3 = .ok (.iconst 4, 1) := by decide +kernel
theorem dX10_raw_4 : decode cX10_raw 4 = .ok (.invokevirtual 96, 3) := by decide +kernel
theorem dX10_raw_7 : decode cX10_raw 7 = .ok (.istore_n 3, 1) := by decide +kernel
theorem dX10_raw_8 : decode cX10_raw 8 = .ok (.iload_n 3, 1) := by decide +kernel
theorem dX10_raw_9 : decode cX10_raw 9 = .ok (.ifCond .eq 7, 3) := by decide +kernel
theorem dX10_raw_12 : decode cX10_raw 12 = .ok (.iload_n 3, 1) := by decide +kernel
theorem dX10_raw_13 : decode cX10_raw 13 = .ok (.goto 9, 3) := by decide +kernel
theorem dX10_raw_16 : decode cX10_raw 16 = .ok (.aload_n 0, 1) := by decide +kernel
theorem dX10_raw_17 : decode cX10_raw 17 = .ok (.iload_n 1, 1) := by decide +kernel
theorem dX10_raw_18 : decode cX10_raw 18 = .ok (.iload_n 2, 1) := by decide +kernel
theorem dX10_raw_19 : decode cX10_raw 19 = .ok (.invokevirtual 116, 3) := by decide +kernel
theorem dX10_raw_22 : decode cX10_raw 22 = .ok (.ireturn, 1) := by decide +kernel
theorem dX10_known_0 : decode cX10_known 0 = .ok (.aload_n 0, 1) := by decide +kernel
theorem dX10_known_1 : decode cX10_known 1 = .ok (.iload_n 1, 1) := by decide +kernel
theorem dX10_known_2 : decode cX10_known 2 = .ok (.iconst 0, 1) := by decide +kernel
theorem dX10_known_3 : decode cX10_known 3 = .ok (.iconst 4, 1) := by decide +kernel
theorem dX10_known_4 : decode cX10_known 4 = .ok (.invokevirtual 96, 3) := by decide +kernel
theorem dX10_known_7 : decode cX10_known 7 = .ok (.istore 4, 2) := by decide +kernel
theorem dX10_known_9 : decode cX10_known 9 = .ok (.iload 4, 2) := by decide +kernel
theorem dX10_known_11 : decode cX10_known 11 = .ok (.ifCond .eq 6, 3) := by decide +kernel
theorem dX10_known_14 : decode cX10_known 14 = .ok (.iload 4, 2) := by decide +kernel
theorem dX10_known_16 : decode cX10_known 16 = .ok (.ireturn, 1) := by decide +kernel
theorem dX10_known_17 : decode cX10_known 17 = .ok (.iload_n 3, 1) := by decide +kernel
theorem dX10_known_18 : decode cX10_known 18 = .ok (.ifCond .ge 7, 3) := by decide +kernel
theorem dX10_known_21 : decode cX10_known 21 = .ok (.iconst (-1), 1) := by decide +kernel
theorem dX10_known_22 : decode cX10_known 22 = .ok (.goto 23, 3) := by decide +kernel
theorem dX10_known_25 : decode cX10_known 25 = .ok (.aload_n 0, 1) := by decide +kernel
theorem dX10_known_26 : decode cX10_known 26 = .ok (.iload_n 1, 1) := by decide +kernel
theorem dX10_known_27 : decode cX10_known 27 = .ok (.iload_n 2, 1) := by decide +kernel
theorem dX10_known_28 : decode cX10_known 28 = .ok (.iload_n 3, 1) := by decide +kernel
theorem dX10_known_29 : decode cX10_known 29 = .ok (.aload_n 0, 1) := by decide +kernel
theorem dX10_known_30 : decode cX10_known 30 = .ok (.getfield 89, 3) := by decide +kernel
theorem dX10_known_33 : decode cX10_known 33 = .ok (.if_icmp .lt 8, 3) := by decide +kernel
theorem dX10_known_36 : decode cX10_known 36 = .ok (.bipush 99, 2) := by decide +kernel
theorem dX10_known_38 : decode cX10_known 38 = .ok (.goto 4, 3) := by decide +kernel
theorem dX10_known_41 : decode cX10_known 41 = .ok (.iload_n 3, 1) := by decide +kernel
theorem dX10_known_42 : decode cX10_known 42 = .ok (.invokevirtual 113, 3) := by decide +kernel
theorem dX10_known_45 : decode cX10_known 45 = .ok (.ireturn, 1) := by decide +kernel
theorem dX10_far_0 : decode cX10_far 0 = .ok (.aload_n 0, 1) := by decide +kernel
theorem dX10_far_1 : decode cX10_far 1 = .ok (.getfield 13, 3) := by decide +kernel
theorem dX10_far_4 : decode cX10_far 4 = .ok (.iload_n 1, 1) := by decide +kernel
theorem dX10_far_5 : decode cX10_far 5 = .ok (.iaload, 1) := by decide +kernel
theorem dX10_far_6 : decode cX10_far 6 = .ok (.iload_n 2, 1) := by decide +kernel
theorem dX10_far_7 : decode cX10_far 7 = .ok (.isub, 1) := by decide +kernel
theorem dX10_far_8 : decode cX10_far 8 = .ok (.aload_n 0, 1) := by decide +kernel
theorem dX10_far_9 : decode cX10_far 9 = .ok (.getfield 13, 3) := by decide +kernel
theorem dX10_far_12 : decode cX10_far 12 = .ok (.iload_n 1, 1) := by decide +kernel
theorem dX10_far_13 : decode cX10_far 13 = .ok (.iaload, 1) := by decide +kernel
theorem dX10_far_14 : decode cX10_far 14 = .ok (.iload_n 2, 1) := by decide +kernel
theorem dX10_far_15 : decode cX10_far 15 = .ok (.isub, 1) := by decide +kernel
theorem dX10_far_16 : decode cX10_far 16 = .ok (.imul, 1) := by decide +kernel
theorem dX10_far_17 : decode cX10_far 17 = .ok (.aload_n 0, 1) := by decide +kernel
theorem dX10_far_18 : decode cX10_far 18 = .ok (.getfield 16, 3) := by decide +kernel
theorem dX10_far_21 : decode cX10_far 21 = .ok (.iload_n 1, 1) := by decide +kernel
theorem dX10_far_22 : decode cX10_far 22 = .ok (.iaload, 1) := by decide +kernel
theorem dX10_far_23 : decode cX10_far 23 = .ok (.iload_n 3, 1) := by decide +kernel
theorem dX10_far_24 : decode cX10_far 24 = .ok (.isub, 1) := by decide +kernel
theorem dX10_far_25 : decode cX10_far 25 = .ok (.aload_n 0, 1) := by decide +kernel
theorem dX10_far_26 : decode cX10_far 26 = .ok (.getfield 16, 3) := by decide +kernel
theorem dX10_far_29 : decode cX10_far 29 = .ok (.iload_n 1, 1) := by decide +kernel
theorem dX10_far_30 : decode cX10_far 30 = .ok (.iaload, 1) := by decide +kernel
theorem dX10_far_31 : decode cX10_far 31 = .ok (.iload_n 3, 1) := by decide +kernel
theorem dX10_far_32 : decode cX10_far 32 = .ok (.isub, 1) := by decide +kernel
theorem dX10_far_33 : decode cX10_far 33 = .ok (.imul, 1) := by decide +kernel
theorem dX10_far_34 : decode cX10_far 34 = .ok (.iadd, 1) := by decide +kernel
theorem dX10_far_35 : decode cX10_far 35 = .ok (.ireturn, 1) := by decide +kernel
theorem dX10_doubt_0 : decode cX10_doubt 0 = .ok (.aload_n 0, 1) := by decide +kernel
theorem dX10_doubt_1 : decode cX10_doubt 1 = .ok (.iload_n 1, 1) := by decide +kernel
theorem dX10_doubt_2 : decode cX10_doubt 2 = .ok (.iload_n 2, 1) := by decide +kernel
theorem dX10_doubt_3 : decode cX10_doubt 3 = .ok (.invokevirtual 116, 3) := by decide +kernel
theorem dX10_doubt_6 : decode cX10_doubt 6 = .ok (.istore_n 3, 1) := by decide +kernel
theorem dX10_doubt_7 : decode cX10_doubt 7 = .ok (.iload_n 3, 1) := by decide +kernel
theorem dX10_doubt_8 : decode cX10_doubt 8 = .ok (.iconst (-1), 1) := by decide +kernel
theorem dX10_doubt_9 : decode cX10_doubt 9 = .ok (.if_icmp .ne 5, 3) := by decide +kernel
theorem dX10_doubt_12 : decode cX10_doubt 12 = .ok (.iconst 0, 1) := by decide +kernel
theorem dX10_doubt_13 : decode cX10_doubt 13 = .ok (.ireturn, 1) := by decide +kernel
theorem dX10_doubt_14 : decode cX10_doubt 14 = .ok (.iload_n 3, 1) := by decide +kernel
theorem dX10_doubt_15 : decode cX10_doubt 15 = .ok (.aload_n 0, 1) := by decide +kernel
theorem dX10_doubt_16 : decode cX10_doubt 16 = .ok (.getfield 52, 3) := by decide +kernel
theorem dX10_doubt_19 : decode cX10_doubt 19 = .ok (.if_icmp .le 5, 3) := by decide +kernel
theorem dX10_doubt_22 : decode cX10_doubt 22 = .ok (.iconst 1, 1) := by decide +kernel
theorem dX10_doubt_23 : decode cX10_doubt 23 = .ok (.ireturn, 1) := by decide +kernel
theorem dX10_doubt_24 : decode cX10_doubt 24 = .ok (.iconst 0, 1) := by decide +kernel
theorem dX10_doubt_25 : decode cX10_doubt 25 = .ok (.istore 4, 2) := by decide +kernel
theorem dX10_doubt_27 : decode cX10_doubt 27 = .ok (.iconst 1, 1) := by decide +kernel
theorem dX10_doubt_28 : decode cX10_doubt 28 = .ok (.istore 5, 2) := by decide +kernel
theorem dX10_doubt_30 : decode cX10_doubt 30 = .ok (.iconst 0, 1) := by decide +kernel
theorem dX10_doubt_31 : decode cX10_doubt 31 = .ok (.istore 6, 2) := by decide +kernel
theorem dX10_doubt_33 : decode cX10_doubt 33 = .ok (.iload 6, 2) := by decide +kernel
theorem dX10_doubt_35 : decode cX10_doubt 35 = .ok (.bipush 16, 2) := by decide +kernel
theorem dX10_doubt_37 : decode cX10_doubt 37 = .ok (.if_icmp .ge 92, 3) := by decide +kernel
theorem dX10_doubt_40 : decode cX10_doubt 40 = .ok (.iload 6, 2) := by decide +kernel
theorem dX10_doubt_42 : decode cX10_doubt 42 = .ok (.iload_n 1, 1) := by decide +kernel
theorem dX10_doubt_43 : decode cX10_doubt 43 = .ok (.if_icmp .eq 80, 3) := by decide +kernel
theorem dX10_doubt_46 : decode cX10_doubt 46 = .ok (.aload_n 0, 1) := by decide +kernel
theorem dX10_doubt_47 : decode cX10_doubt 47 = .ok (.iload 6, 2) := by decide +kernel
theorem dX10_doubt_49 : decode cX10_doubt 49 = .ok (.invokevirtual 103, 3) := by decide +kernel
theorem dX10_doubt_52 : decode cX10_doubt 52 = .ok (.ifCond .eq 71, 3) := by decide +kernel
theorem dX10_doubt_55 : decode cX10_doubt 55 = .ok (.aload_n 0, 1) := by decide +kernel
theorem dX10_doubt_56 : decode cX10_doubt 56 = .ok (.iload 6, 2) := by decide +kernel
theorem dX10_doubt_58 : decode cX10_doubt 58 = .ok (.aload_n 0, 1) := by decide +kernel
theorem dX10_doubt_59 : decode cX10_doubt 59 = .ok (.getfield 13, 3) := by decide +kernel
theorem dX10_doubt_62 : decode cX10_doubt 62 = .ok (.iload_n 1, 1) := by decide +kernel
theorem dX10_doubt_63 : decode cX10_doubt 63 = .ok (.iaload, 1) := by decide +kernel
theorem dX10_doubt_64 : decode cX10_doubt 64 = .ok (.aload_n 0, 1) := by decide +kernel
theorem dX10_doubt_65 : decode cX10_doubt 65 = .ok (.getfield 16, 3) := by decide +kernel
theorem dX10_doubt_68 : decode cX10_doubt 68 = .ok (.iload_n 1, 1) := by decide +kernel
theorem dX10_doubt_69 : decode cX10_doubt 69 = .ok (.iaload, 1) := by decide +kernel
theorem dX10_doubt_70 : decode cX10_doubt 70 = .ok (.invokevirtual 119, 3) := by decide +kernel
theorem dX10_doubt_73 : decode cX10_doubt 73 = .ok (.aload_n 0, 1) := by decide +kernel
theorem dX10_doubt_74 : decode cX10_doubt 74 = .ok (.getfield 56, 3) := by decide +kernel
theorem dX10_doubt_77 : decode cX10_doubt 77 = .ok (.if_icmp .gt 46, 3) := by decide +kernel
theorem dX10_doubt_80 : decode cX10_doubt 80 = .ok (.aload_n 0, 1) := by decide +kernel
theorem dX10_doubt_81 : decode cX10_doubt 81 = .ok (.iload 6, 2) := by decide +kernel
theorem dX10_doubt_83 : decode cX10_doubt 83 = .ok (.iload_n 2, 1) := by decide +kernel
theorem dX10_doubt_84 : decode cX10_doubt 84 = .ok (.invokevirtual 116, 3) := by decide +kernel
theorem dX10_doubt_87 : decode cX10_doubt 87 = .ok (.iconst (-1), 1) := by decide +kernel
theorem dX10_doubt_88 : decode cX10_doubt 88 = .ok (.if_icmp .ne 6, 3) := by decide +kernel
theorem dX10_doubt_91 : decode cX10_doubt 91 = .ok (.goto 32, 3) := by decide +kernel
theorem dX10_doubt_94 : decode cX10_doubt 94 = .ok (.iinc 4 1, 3) := by decide +kernel
theorem dX10_doubt_97 : decode cX10_doubt 97 = .ok (.iload 5, 2) := by decide +kernel
theorem dX10_doubt_99 : decode cX10_doubt 99 = .ok (.ifCond .eq 21, 3) := by decide +kernel
theorem dX10_doubt_102 : decode cX10_doubt 102 = .ok (.aload_n 0, 1) := by decide +kernel
theorem dX10_doubt_103 : decode cX10_doubt 103 = .ok (.iload 6, 2) := by decide +kernel
theorem dX10_doubt_105 : decode cX10_doubt 105 = .ok (.iload_n 2, 1) := by decide +kernel
theorem dX10_doubt_106 : decode cX10_doubt 106 = .ok (.invokevirtual 116, 3) := by decide +kernel
theorem dX10_doubt_109 : decode cX10_doubt 109 = .ok (.aload_n 0, 1) := by decide +kernel
theorem dX10_doubt_110 : decode cX10_doubt 110 = .ok (.getfield 59, 3) := by decide +kernel
theorem dX10_doubt_113 : decode cX10_doubt 113 = .ok (.if_icmp .lt 7, 3) := by decide +kernel
theorem dX10_doubt_116 : decode cX10_doubt 116 = .ok (.iconst 1, 1) := by decide +kernel
theorem dX10_doubt_117 : decode cX10_doubt 117 = .ok (.goto 4, 3) := by decide +kernel
theorem dX10_doubt_120 : decode cX10_doubt 120 = .ok (.iconst 0, 1) := by decide +kernel
theorem dX10_doubt_121 : decode cX10_doubt 121 = .ok (.istore 5, 2) := by decide +kernel
theorem dX10_doubt_123 : decode cX10_doubt 123 = .ok (.iinc 6 1, 3) := by decide +kernel
theorem dX10_doubt_126 : decode cX10_doubt 126 = .ok (.goto (-93), 3) := by decide +kernel
theorem dX10_doubt_129 : decode cX10_doubt 129 = .ok (.iload_n 3, 1) := by decide +kernel
theorem dX10_doubt_130 : decode cX10_doubt 130 = .ok (.ifCond .ne 16, 3) := by decide +kernel
theorem dX10_doubt_133 : decode cX10_doubt 133 = .ok (.iload 4, 2) := by decide +kernel
theorem dX10_doubt_135 : decode cX10_doubt 135 = .ok (.iconst 1, 1) := by decide +kernel
theorem dX10_doubt_136 : decode cX10_doubt 136 = .ok (.if_icmp .le 10, 3) := by decide +kernel
theorem dX10_doubt_139 : decode cX10_doubt 139 = .ok (.iload 5, 2) := by decide +kernel
theorem dX10_doubt_141 : decode cX10_doubt 141 = .ok (.ifCond .eq 5, 3) := by decide +kernel
theorem dX10_doubt_144 : decode cX10_doubt 144 = .ok (.iconst 2, 1) := by decide +kernel
theorem dX10_doubt_145 : decode cX10_doubt 145 = .ok (.ireturn, 1) := by decide +kernel
theorem dX10_doubt_146 : decode cX10_doubt 146 = .ok (.aload_n 0, 1) := by decide +kernel
theorem dX10_doubt_147 : decode cX10_doubt 147 = .ok (.getfield 9, 3) := by decide +kernel
theorem dX10_doubt_150 : decode cX10_doubt 150 = .ok (.iload_n 1, 1) := by decide +kernel
theorem dX10_doubt_151 : decode cX10_doubt 151 = .ok (.iaload, 1) := by decide +kernel
theorem dX10_doubt_152 : decode cX10_doubt 152 = .ok (.iconst 4, 1) := by decide +kernel
theorem dX10_doubt_153 : decode cX10_doubt 153 = .ok (.if_icmp .ne 15, 3) := by decide +kernel
theorem dX10_doubt_156 : decode cX10_doubt 156 = .ok (.aload_n 0, 1) := by decide +kernel
theorem dX10_doubt_157 : decode cX10_doubt 157 = .ok (.iload_n 1, 1) := by decide +kernel
theorem dX10_doubt_158 : decode cX10_doubt 158 = .ok (.iload_n 2, 1) := by decide +kernel
theorem dX10_doubt_159 : decode cX10_doubt 159 = .ok (.bipush 99, 2) := by decide +kernel
theorem dX10_doubt_161 : decode cX10_doubt 161 = .ok (.invokevirtual 107, 3) := by decide +kernel
theorem dX10_doubt_164 : decode cX10_doubt 164 = .ok (.iconst (-1), 1) := by decide +kernel
theorem dX10_doubt_165 : decode cX10_doubt 165 = .ok (.if_icmp .eq 5, 3) := by decide +kernel
theorem dX10_doubt_168 : decode cX10_doubt 168 = .ok (.iconst 0, 1) := by decide +kernel
theorem dX10_doubt_169 : decode cX10_doubt 169 = .ok (.ireturn, 1) := by decide +kernel
theorem dX10_doubt_170 : decode cX10_doubt 170 = .ok (.aload_n 0, 1) := by decide +kernel
theorem dX10_doubt_171 : decode cX10_doubt 171 = .ok (.getfield 28, 3) := by decide +kernel
theorem dX10_doubt_174 : decode cX10_doubt 174 = .ok (.iload_n 1, 1) := by decide +kernel
theorem dX10_doubt_175 : decode cX10_doubt 175 = .ok (.iload_n 2, 1) := by decide +kernel
theorem dX10_doubt_176 : decode cX10_doubt 176 = .ok (.invokestatic 92, 3) := by decide +kernel
theorem dX10_doubt_179 : decode cX10_doubt 179 = .ok (.iaload, 1) := by decide +kernel
theorem dX10_doubt_180 : decode cX10_doubt 180 = .ok (.istore 6, 2) := by decide +kernel
theorem dX10_doubt_182 : decode cX10_doubt 182 = .ok (.aload_n 0, 1) := by decide +kernel
theorem dX10_doubt_183 : decode cX10_doubt 183 = .ok (.getfield 37, 3) := by decide +kernel
theorem dX10_doubt_186 : decode cX10_doubt 186 = .ok (.iload_n 1, 1) := by decide +kernel
theorem dX10_doubt_187 : decode cX10_doubt 187 = .ok (.iload_n 2, 1) := by decide +kernel
theorem dX10_doubt_188 : decode cX10_doubt 188 = .ok (.invokestatic 92, 3) := by decide +kernel
theorem dX10_doubt_191 : decode cX10_doubt 191 = .ok (.iaload, 1) := by decide +kernel
theorem dX10_doubt_192 : decode cX10_doubt 192 = .ok (.istore 7, 2) := by decide +kernel
theorem dX10_doubt_194 : decode cX10_doubt 194 = .ok (.iload 6, 2) := by decide +kernel
theorem dX10_doubt_196 : decode cX10_doubt 196 = .ok (.iload 7, 2) := by decide +kernel
theorem dX10_doubt_198 : decode cX10_doubt 198 = .ok (.if_icmp .le 8, 3) := by decide +kernel
theorem dX10_doubt_201 : decode cX10_doubt 201 = .ok (.iload 6, 2) := by decide +kernel
theorem dX10_doubt_203 : decode cX10_doubt 203 = .ok (.goto 5, 3) := by decide +kernel
theorem dX10_doubt_206 : decode cX10_doubt 206 = .ok (.iload 7, 2) := by decide +kernel
theorem dX10_doubt_208 : decode cX10_doubt 208 = .ok (.istore 8, 2) := by decide +kernel
theorem dX10_doubt_210 : decode cX10_doubt 210 = .ok (.iload 6, 2) := by decide +kernel
theorem dX10_doubt_212 : decode cX10_doubt 212 = .ok (.iload 7, 2) := by decide +kernel
theorem dX10_doubt_214 : decode cX10_doubt 214 = .ok (.if_icmp .le 8, 3) := by decide +kernel
theorem dX10_doubt_217 : decode cX10_doubt 217 = .ok (.iload 7, 2) := by decide +kernel
theorem dX10_doubt_219 : decode cX10_doubt 219 = .ok (.goto 5, 3) := by decide +kernel
theorem dX10_doubt_222 : decode cX10_doubt 222 = .ok (.iload 6, 2) := by decide +kernel
theorem dX10_doubt_224 : decode cX10_doubt 224 = .ok (.istore 9, 2) := by decide +kernel
theorem dX10_doubt_226 : decode cX10_doubt 226 = .ok (.bipush 100, 2) := by decide +kernel
theorem dX10_doubt_228 : decode cX10_doubt 228 = .ok (.iload 8, 2) := by decide +kernel
theorem dX10_doubt_230 : decode cX10_doubt 230 = .ok (.iload 9, 2) := by decide +kernel
theorem dX10_doubt_232 : decode cX10_doubt 232 = .ok (.isub, 1) := by decide +kernel
theorem dX10_doubt_233 : decode cX10_doubt 233 = .ok (.imul, 1) := by decide +kernel
theorem dX10_doubt_234 : decode cX10_doubt 234 = .ok (.aload_n 0, 1) := by decide +kernel
theorem dX10_doubt_235 : decode cX10_doubt 235 = .ok (.getfield 62, 3) := by decide +kernel
theorem dX10_doubt_238 : decode cX10_doubt 238 = .ok (.iload 8, 2) := by decide +kernel
theorem dX10_doubt_240 : decode cX10_doubt 240 = .ok (.imul, 1) := by decide +kernel
theorem dX10_doubt_241 : decode cX10_doubt 241 = .ok (.if_icmp .le 7, 3) := by decide +kernel
theorem dX10_doubt_244 : decode cX10_doubt 244 = .ok (.iconst 3, 1) := by decide +kernel
theorem dX10_doubt_245 : decode cX10_doubt 245 = .ok (.goto 4, 3) := by decide +kernel
theorem dX10_doubt_248 : decode cX10_doubt 248 = .ok (.iconst 0, 1) := by decide +kernel
theorem dX10_doubt_249 : decode cX10_doubt 249 = .ok (.ireturn, 1) := by decide +kernel
theorem dX10_trusted_0 : decode cX10_trusted 0 = .ok (.aload_n 0, 1) := by decide +kernel
theorem dX10_trusted_1 : decode cX10_trusted 1 = .ok (.iload_n 1, 1) := by decide +kernel
theorem dX10_trusted_2 : decode cX10_trusted 2 = .ok (.iload_n 2, 1) := by decide +kernel
theorem dX10_trusted_3 : decode cX10_trusted 3 = .ok (.invokevirtual 116, 3) := by decide +kernel
theorem dX10_trusted_6 : decode cX10_trusted 6 = .ok (.iconst (-1), 1) := by decide +kernel
theorem dX10_trusted_7 : decode cX10_trusted 7 = .ok (.if_icmp .eq 21, 3) := by decide +kernel
theorem dX10_trusted_10 : decode cX10_trusted 10 = .ok (.aload_n 0, 1) := by decide +kernel
theorem dX10_trusted_11 : decode cX10_trusted 11 = .ok (.iload_n 1, 1) := by decide +kernel
theorem dX10_trusted_12 : decode cX10_trusted 12 = .ok (.iload_n 2, 1) := by decide +kernel
theorem dX10_trusted_13 : decode cX10_trusted 13 = .ok (.invokevirtual 122, 3) := by decide +kernel
theorem dX10_trusted_16 : decode cX10_trusted 16 = .ok (.ifCond .ne 12, 3) := by decide +kernel
theorem dX10_trusted_19 : decode cX10_trusted 19 = .ok (.aload_n 0, 1) := by decide +kernel
theorem dX10_trusted_20 : decode cX10_trusted 20 = .ok (.iload_n 1, 1) := by decide +kernel
theorem dX10_trusted_21 : decode cX10_trusted 21 = .ok (.iload_n 2, 1) := by decide +kernel
theorem dX10_trusted_22 : decode cX10_trusted 22 = .ok (.invokevirtual 116, 3) := by decide +kernel
theorem dX10_trusted_25 : decode cX10_trusted 25 = .ok (.goto 4, 3) := by decide +kernel
theorem dX10_trusted_28 : decode cX10_trusted 28 = .ok (.iconst (-1), 1) := by decide +kernel
theorem dX10_trusted_29 : decode cX10_trusted 29 = .ok (.ireturn, 1) := by decide +kernel
theorem dX10_why_0 : decode cX10_why 0 = .ok (.aload_n 0, 1) := by decide +kernel
theorem dX10_why_1 : decode cX10_why 1 = .ok (.iload_n 1, 1) := by decide +kernel
theorem dX10_why_2 : decode cX10_why 2 = .ok (.iconst 0, 1) := by decide +kernel
theorem dX10_why_3 : decode cX10_why 3 = .ok (.iconst 4, 1) := by decide +kernel
theorem dX10_why_4 : decode cX10_why 4 = .ok (.invokevirtual 96, 3) := by decide +kernel
theorem dX10_why_7 : decode cX10_why 7 = .ok (.istore_n 3, 1) := by decide +kernel
theorem dX10_why_8 : decode cX10_why 8 = .ok (.iload_n 3, 1) := by decide +kernel
theorem dX10_why_9 : decode cX10_why 9 = .ok (.ifCond .eq 7, 3) := by decide +kernel
theorem dX10_why_12 : decode cX10_why 12 = .ok (.iload_n 3, 1) := by decide +kernel
theorem dX10_why_13 : decode cX10_why 13 = .ok (.goto 23, 3) := by decide +kernel
theorem dX10_why_16 : decode cX10_why 16 = .ok (.iload_n 2, 1) := by decide +kernel
theorem dX10_why_17 : decode cX10_why 17 = .ok (.iconst 0, 1) := by decide +kernel
theorem dX10_why_18 : decode cX10_why 18 = .ok (.bipush 55, 2) := by decide +kernel
theorem dX10_why_20 : decode cX10_why 20 = .ok (.invokestatic 85, 3) := by decide +kernel
theorem dX10_why_23 : decode cX10_why 23 = .ok (.ifCond .eq 12, 3) := by decide +kernel
theorem dX10_why_26 : decode cX10_why 26 = .ok (.aload_n 0, 1) := by decide +kernel
theorem dX10_why_27 : decode cX10_why 27 = .ok (.iload_n 1, 1) := by decide +kernel
theorem dX10_why_28 : decode cX10_why 28 = .ok (.iload_n 2, 1) := by decide +kernel
theorem dX10_why_29 : decode cX10_why 29 = .ok (.invokevirtual 122, 3) := by decide +kernel
theorem dX10_why_32 : decode cX10_why 32 = .ok (.goto 4, 3) := by decide +kernel
theorem dX10_why_35 : decode cX10_why 35 = .ok (.iconst (-1), 1) := by decide +kernel
theorem dX10_why_36 : decode cX10_why 36 = .ok (.ireturn, 1) := by decide +kernel
theorem dX10_rows_0 : decode cX10_rows 0 = .ok (.iconst 0, 1) := by decide +kernel
theorem dX10_rows_1 : decode cX10_rows 1 = .ok (.istore_n 2, 1) := by decide +kernel
theorem dX10_rows_2 : decode cX10_rows 2 = .ok (.iconst 0, 1) := by decide +kernel
theorem dX10_rows_3 : decode cX10_rows 3 = .ok (.istore_n 3, 1) := by decide +kernel
theorem dX10_rows_4 : decode cX10_rows 4 = .ok (.iload_n 3, 1) := by decide +kernel
theorem dX10_rows_5 : decode cX10_rows 5 = .ok (.bipush 16, 2) := by decide +kernel
theorem dX10_rows_7 : decode cX10_rows 7 = .ok (.if_icmp .ge 111, 3) := by decide +kernel
theorem dX10_rows_10 : decode cX10_rows 10 = .ok (.iload_n 3, 1) := by decide +kernel
theorem dX10_rows_11 : decode cX10_rows 11 = .ok (.iload_n 1, 1) := by decide +kernel
theorem dX10_rows_12 : decode cX10_rows 12 = .ok (.if_icmp .eq 100, 3) := by decide +kernel
theorem dX10_rows_15 : decode cX10_rows 15 = .ok (.aload_n 0, 1) := by decide +kernel
theorem dX10_rows_16 : decode cX10_rows 16 = .ok (.iload_n 3, 1) := by decide +kernel
theorem dX10_rows_17 : decode cX10_rows 17 = .ok (.invokevirtual 103, 3) := by decide +kernel
theorem dX10_rows_20 : decode cX10_rows 20 = .ok (.ifCond .ne 6, 3) := by decide +kernel
theorem dX10_rows_23 : decode cX10_rows 23 = .ok (.goto 89, 3) := by decide +kernel
theorem dX10_rows_26 : decode cX10_rows 26 = .ok (.iload_n 2, 1) := by decide +kernel
theorem dX10_rows_27 : decode cX10_rows 27 = .ok (.istore 4, 2) := by decide +kernel
theorem dX10_rows_29 : decode cX10_rows 29 = .ok (.iload 4, 2) := by decide +kernel
theorem dX10_rows_31 : decode cX10_rows 31 = .ok (.ifCond .le 70, 3) := by decide +kernel
theorem dX10_rows_34 : decode cX10_rows 34 = .ok (.aload_n 0, 1) := by decide +kernel
theorem dX10_rows_35 : decode cX10_rows 35 = .ok (.aload_n 0, 1) := by decide +kernel
theorem dX10_rows_36 : decode cX10_rows 36 = .ok (.getfield 72, 3) := by decide +kernel
theorem dX10_rows_39 : decode cX10_rows 39 = .ok (.iload 4, 2) := by decide +kernel
theorem dX10_rows_41 : decode cX10_rows 41 = .ok (.iconst 1, 1) := by decide +kernel
theorem dX10_rows_42 : decode cX10_rows 42 = .ok (.isub, 1) := by decide +kernel
theorem dX10_rows_43 : decode cX10_rows 43 = .ok (.iaload, 1) := by decide +kernel
theorem dX10_rows_44 : decode cX10_rows 44 = .ok (.aload_n 0, 1) := by decide +kernel
theorem dX10_rows_45 : decode cX10_rows 45 = .ok (.getfield 13, 3) := by decide +kernel
theorem dX10_rows_48 : decode cX10_rows 48 = .ok (.iload_n 1, 1) := by decide +kernel
theorem dX10_rows_49 : decode cX10_rows 49 = .ok (.iaload, 1) := by decide +kernel
theorem dX10_rows_50 : decode cX10_rows 50 = .ok (.aload_n 0, 1) := by decide +kernel
theorem dX10_rows_51 : decode cX10_rows 51 = .ok (.getfield 16, 3) := by decide +kernel
theorem dX10_rows_54 : decode cX10_rows 54 = .ok (.iload_n 1, 1) := by decide +kernel
theorem dX10_rows_55 : decode cX10_rows 55 = .ok (.iaload, 1) := by decide +kernel
theorem dX10_rows_56 : decode cX10_rows 56 = .ok (.invokevirtual 119, 3) := by decide +kernel
theorem dX10_rows_59 : decode cX10_rows 59 = .ok (.aload_n 0, 1) := by decide +kernel
theorem dX10_rows_60 : decode cX10_rows 60 = .ok (.iload_n 3, 1) := by decide +kernel
theorem dX10_rows_61 : decode cX10_rows 61 = .ok (.aload_n 0, 1) := by decide +kernel
theorem dX10_rows_62 : decode cX10_rows 62 = .ok (.getfield 13, 3) := by decide +kernel
theorem dX10_rows_65 : decode cX10_rows 65 = .ok (.iload_n 1, 1) := by decide +kernel
theorem dX10_rows_66 : decode cX10_rows 66 = .ok (.iaload, 1) := by decide +kernel
theorem dX10_rows_67 : decode cX10_rows 67 = .ok (.aload_n 0, 1) := by decide +kernel
theorem dX10_rows_68 : decode cX10_rows 68 = .ok (.getfield 16, 3) := by decide +kernel
theorem dX10_rows_71 : decode cX10_rows 71 = .ok (.iload_n 1, 1) := by decide +kernel
theorem dX10_rows_72 : decode cX10_rows 72 = .ok (.iaload, 1) := by decide +kernel
theorem dX10_rows_73 : decode cX10_rows 73 = .ok (.invokevirtual 119, 3) := by decide +kernel
theorem dX10_rows_76 : decode cX10_rows 76 = .ok (.if_icmp .le 25, 3) := by decide +kernel
theorem dX10_rows_79 : decode cX10_rows 79 = .ok (.aload_n 0, 1) := by decide +kernel
theorem dX10_rows_80 : decode cX10_rows 80 = .ok (.getfield 72, 3) := by decide +kernel
theorem dX10_rows_83 : decode cX10_rows 83 = .ok (.iload 4, 2) := by decide +kernel
theorem dX10_rows_85 : decode cX10_rows 85 = .ok (.aload_n 0, 1) := by decide +kernel
theorem dX10_rows_86 : decode cX10_rows 86 = .ok (.getfield 72, 3) := by decide +kernel
theorem dX10_rows_89 : decode cX10_rows 89 = .ok (.iload 4, 2) := by decide +kernel
theorem dX10_rows_91 : decode cX10_rows 91 = .ok (.iconst 1, 1) := by decide +kernel
theorem dX10_rows_92 : decode cX10_rows 92 = .ok (.isub, 1) := by decide +kernel
theorem dX10_rows_93 : decode cX10_rows 93 = .ok (.iaload, 1) := by decide +kernel
theorem dX10_rows_94 : decode cX10_rows 94 = .ok (.iastore, 1) := by decide +kernel
theorem dX10_rows_95 : decode cX10_rows 95 = .ok (.iinc 4 (-1), 3) := by decide +kernel
theorem dX10_rows_98 : decode cX10_rows 98 = .ok (.goto (-69), 3) := by decide +kernel
theorem dX10_rows_101 : decode cX10_rows 101 = .ok (.aload_n 0, 1) := by decide +kernel
theorem dX10_rows_102 : decode cX10_rows 102 = .ok (.getfield 72, 3) := by decide +kernel
theorem dX10_rows_105 : decode cX10_rows 105 = .ok (.iload 4, 2) := by decide +kernel
theorem dX10_rows_107 : decode cX10_rows 107 = .ok (.iload_n 3, 1) := by decide +kernel
theorem dX10_rows_108 : decode cX10_rows 108 = .ok (.iastore, 1) := by decide +kernel
theorem dX10_rows_109 : decode cX10_rows 109 = .ok (.iinc 2 1, 3) := by decide +kernel
theorem dX10_rows_112 : decode cX10_rows 112 = .ok (.iinc 3 1, 3) := by decide +kernel
theorem dX10_rows_115 : decode cX10_rows 115 = .ok (.goto (-111), 3) := by decide +kernel
theorem dX10_rows_118 : decode cX10_rows 118 = .ok (.iload_n 2, 1) := by decide +kernel
theorem dX10_rows_119 : decode cX10_rows 119 = .ok (.ireturn, 1) := by decide +kernel
theorem dX10_bys_0 : decode cX10_bys 0 = .ok (.aload_n 0, 1) := by decide +kernel
theorem dX10_bys_1 : decode cX10_bys 1 = .ok (.iload_n 1, 1) := by decide +kernel
theorem dX10_bys_2 : decode cX10_bys 2 = .ok (.invokevirtual 125, 3) := by decide +kernel
theorem dX10_bys_5 : decode cX10_bys 5 = .ok (.istore_n 3, 1) := by decide +kernel
theorem dX10_bys_6 : decode cX10_bys 6 = .ok (.iconst 0, 1) := by decide +kernel
theorem dX10_bys_7 : decode cX10_bys 7 = .ok (.istore 4, 2) := by decide +kernel
theorem dX10_bys_9 : decode cX10_bys 9 = .ok (.iconst 0, 1) := by decide +kernel
theorem dX10_bys_10 : decode cX10_bys 10 = .ok (.istore 5, 2) := by decide +kernel
theorem dX10_bys_12 : decode cX10_bys 12 = .ok (.iload 5, 2) := by decide +kernel
theorem dX10_bys_14 : decode cX10_bys 14 = .ok (.iload_n 3, 1) := by decide +kernel
theorem dX10_bys_15 : decode cX10_bys 15 = .ok (.if_icmp .ge 51, 3) := by decide +kernel
theorem dX10_bys_18 : decode cX10_bys 18 = .ok (.iload 4, 2) := by decide +kernel
theorem dX10_bys_20 : decode cX10_bys 20 = .ok (.iconst 4, 1) := by decide +kernel
theorem dX10_bys_21 : decode cX10_bys 21 = .ok (.if_icmp .ge 45, 3) := by decide +kernel
theorem dX10_bys_24 : decode cX10_bys 24 = .ok (.aload_n 0, 1) := by decide +kernel
theorem dX10_bys_25 : decode cX10_bys 25 = .ok (.aload_n 0, 1) := by decide +kernel
theorem dX10_bys_26 : decode cX10_bys 26 = .ok (.getfield 72, 3) := by decide +kernel
theorem dX10_bys_29 : decode cX10_bys 29 = .ok (.iload 5, 2) := by decide +kernel
theorem dX10_bys_31 : decode cX10_bys 31 = .ok (.iaload, 1) := by decide +kernel
theorem dX10_bys_32 : decode cX10_bys 32 = .ok (.iload_n 2, 1) := by decide +kernel
theorem dX10_bys_33 : decode cX10_bys 33 = .ok (.invokevirtual 129, 3) := by decide +kernel
theorem dX10_bys_36 : decode cX10_bys 36 = .ok (.iconst (-1), 1) := by decide +kernel
theorem dX10_bys_37 : decode cX10_bys 37 = .ok (.if_icmp .ne 6, 3) := by decide +kernel
theorem dX10_bys_40 : decode cX10_bys 40 = .ok (.goto 20, 3) := by decide +kernel
theorem dX10_bys_43 : decode cX10_bys 43 = .ok (.aload_n 0, 1) := by decide +kernel
theorem dX10_bys_44 : decode cX10_bys 44 = .ok (.getfield 75, 3) := by decide +kernel
theorem dX10_bys_47 : decode cX10_bys 47 = .ok (.iload 4, 2) := by decide +kernel
theorem dX10_bys_49 : decode cX10_bys 49 = .ok (.aload_n 0, 1) := by decide +kernel
theorem dX10_bys_50 : decode cX10_bys 50 = .ok (.getfield 72, 3) := by decide +kernel
theorem dX10_bys_53 : decode cX10_bys 53 = .ok (.iload 5, 2) := by decide +kernel
theorem dX10_bys_55 : decode cX10_bys 55 = .ok (.iaload, 1) := by decide +kernel
theorem dX10_bys_56 : decode cX10_bys 56 = .ok (.iastore, 1) := by decide +kernel
theorem dX10_bys_57 : decode cX10_bys 57 = .ok (.iinc 4 1, 3) := by decide +kernel
theorem dX10_bys_60 : decode cX10_bys 60 = .ok (.iinc 5 1, 3) := by decide +kernel
theorem dX10_bys_63 : decode cX10_bys 63 = .ok (.goto (-51), 3) := by decide +kernel
theorem dX10_bys_66 : decode cX10_bys 66 = .ok (.iload 4, 2) := by decide +kernel
theorem dX10_bys_68 : decode cX10_bys 68 = .ok (.ireturn, 1) := by decide +kernel
theorem dX10_mayMend_0 : decode cX10_mayMend 0 = .ok (.aload_n 0, 1) := by decide +kernel
theorem dX10_mayMend_1 : decode cX10_mayMend 1 = .ok (.getfield 9, 3) := by decide +kernel
theorem dX10_mayMend_4 : decode cX10_mayMend 4 = .ok (.iload_n 1, 1) := by decide +kernel
theorem dX10_mayMend_5 : decode cX10_mayMend 5 = .ok (.iaload, 1) := by decide +kernel
theorem dX10_mayMend_6 : decode cX10_mayMend 6 = .ok (.iconst 3, 1) := by decide +kernel
theorem dX10_mayMend_7 : decode cX10_mayMend 7 = .ok (.if_icmp .eq 40, 3) := by decide +kernel
theorem dX10_mayMend_10 : decode cX10_mayMend 10 = .ok (.iload_n 2, 1) := by decide +kernel
theorem dX10_mayMend_11 : decode cX10_mayMend 11 = .ok (.aload_n 0, 1) := by decide +kernel
theorem dX10_mayMend_12 : decode cX10_mayMend 12 = .ok (.getfield 22, 3) := by decide +kernel
theorem dX10_mayMend_15 : decode cX10_mayMend 15 = .ok (.iload_n 1, 1) := by decide +kernel
theorem dX10_mayMend_16 : decode cX10_mayMend 16 = .ok (.iaload, 1) := by decide +kernel
theorem dX10_mayMend_17 : decode cX10_mayMend 17 = .ok (.bipush 55, 2) := by decide +kernel
theorem dX10_mayMend_19 : decode cX10_mayMend 19 = .ok (.invokestatic 85, 3) := by decide +kernel
theorem dX10_mayMend_22 : decode cX10_mayMend 22 = .ok (.ifCond .eq 25, 3) := by decide +kernel
theorem dX10_mayMend_25 : decode cX10_mayMend 25 = .ok (.iload_n 2, 1) := by decide +kernel
theorem dX10_mayMend_26 : decode cX10_mayMend 26 = .ok (.aload_n 0, 1) := by decide +kernel
theorem dX10_mayMend_27 : decode cX10_mayMend 27 = .ok (.getfield 89, 3) := by decide +kernel
theorem dX10_mayMend_30 : decode cX10_mayMend 30 = .ok (.if_icmp .gt 17, 3) := by decide +kernel
theorem dX10_mayMend_33 : decode cX10_mayMend 33 = .ok (.aload_n 0, 1) := by decide +kernel
theorem dX10_mayMend_34 : decode cX10_mayMend 34 = .ok (.iload_n 1, 1) := by decide +kernel
theorem dX10_mayMend_35 : decode cX10_mayMend 35 = .ok (.iload_n 2, 1) := by decide +kernel
theorem dX10_mayMend_36 : decode cX10_mayMend 36 = .ok (.invokevirtual 129, 3) := by decide +kernel
theorem dX10_mayMend_39 : decode cX10_mayMend 39 = .ok (.iconst (-1), 1) := by decide +kernel
theorem dX10_mayMend_40 : decode cX10_mayMend 40 = .ok (.if_icmp .ne 7, 3) := by decide +kernel
theorem dX10_mayMend_43 : decode cX10_mayMend 43 = .ok (.iconst 1, 1) := by decide +kernel
theorem dX10_mayMend_44 : decode cX10_mayMend 44 = .ok (.goto 4, 3) := by decide +kernel
theorem dX10_mayMend_47 : decode cX10_mayMend 47 = .ok (.iconst 0, 1) := by decide +kernel
theorem dX10_mayMend_48 : decode cX10_mayMend 48 = .ok (.ireturn, 1) := by decide +kernel
theorem dX10_mended_0 : decode cX10_mended 0 = .ok (.aload_n 0, 1) := by decide +kernel
theorem dX10_mended_1 : decode cX10_mended 1 = .ok (.iload_n 1, 1) := by decide +kernel
theorem dX10_mended_2 : decode cX10_mended 2 = .ok (.iload_n 2, 1) := by decide +kernel
theorem dX10_mended_3 : decode cX10_mended 3 = .ok (.invokevirtual 132, 3) := by decide +kernel
theorem dX10_mended_6 : decode cX10_mended 6 = .ok (.ifCond .ne 5, 3) := by decide +kernel
theorem dX10_mended_9 : decode cX10_mended 9 = .ok (.iconst (-1), 1) := by decide +kernel
theorem dX10_mended_10 : decode cX10_mended 10 = .ok (.ireturn, 1) := by decide +kernel
theorem dX10_mended_11 : decode cX10_mended 11 = .ok (.aload_n 0, 1) := by decide +kernel
theorem dX10_mended_12 : decode cX10_mended 12 = .ok (.iload_n 1, 1) := by decide +kernel
theorem dX10_mended_13 : decode cX10_mended 13 = .ok (.iload_n 2, 1) := by decide +kernel
theorem dX10_mended_14 : decode cX10_mended 14 = .ok (.invokevirtual 136, 3) := by decide +kernel
theorem dX10_mended_17 : decode cX10_mended 17 = .ok (.istore_n 3, 1) := by decide +kernel
theorem dX10_mended_18 : decode cX10_mended 18 = .ok (.iload_n 3, 1) := by decide +kernel
theorem dX10_mended_19 : decode cX10_mended 19 = .ok (.ifCond .ne 5, 3) := by decide +kernel
theorem dX10_mended_22 : decode cX10_mended 22 = .ok (.iconst (-1), 1) := by decide +kernel
theorem dX10_mended_23 : decode cX10_mended 23 = .ok (.ireturn, 1) := by decide +kernel
theorem dX10_mended_24 : decode cX10_mended 24 = .ok (.lconst 0, 1) := by decide +kernel
theorem dX10_mended_25 : decode cX10_mended 25 = .ok (.lstore 4, 2) := by decide +kernel
theorem dX10_mended_27 : decode cX10_mended 27 = .ok (.lconst 0, 1) := by decide +kernel
theorem dX10_mended_28 : decode cX10_mended 28 = .ok (.lstore 6, 2) := by decide +kernel
theorem dX10_mended_30 : decode cX10_mended 30 = .ok (.iconst 0, 1) := by decide +kernel
theorem dX10_mended_31 : decode cX10_mended 31 = .ok (.istore 8, 2) := by decide +kernel
theorem dX10_mended_33 : decode cX10_mended 33 = .ok (.iload 8, 2) := by decide +kernel
theorem dX10_mended_35 : decode cX10_mended 35 = .ok (.iload_n 3, 1) := by decide +kernel
theorem dX10_mended_36 : decode cX10_mended 36 = .ok (.if_icmp .ge 217, 3) := by decide +kernel
theorem dX10_mended_39 : decode cX10_mended 39 = .ok (.aload_n 0, 1) := by decide +kernel
theorem dX10_mended_40 : decode cX10_mended 40 = .ok (.getfield 75, 3) := by decide +kernel
theorem dX10_mended_43 : decode cX10_mended 43 = .ok (.iload 8, 2) := by decide +kernel
theorem dX10_mended_45 : decode cX10_mended 45 = .ok (.iaload, 1) := by decide +kernel
theorem dX10_mended_46 : decode cX10_mended 46 = .ok (.istore 9, 2) := by decide +kernel
theorem dX10_mended_48 : decode cX10_mended 48 = .ok (.lconst 0, 1) := by decide +kernel
theorem dX10_mended_49 : decode cX10_mended 49 = .ok (.lstore 10, 2) := by decide +kernel
theorem dX10_mended_51 : decode cX10_mended 51 = .ok (.lconst 0, 1) := by decide +kernel
theorem dX10_mended_52 : decode cX10_mended 52 = .ok (.lstore 12, 2) := by decide +kernel
theorem dX10_mended_54 : decode cX10_mended 54 = .ok (.iconst 0, 1) := by decide +kernel
theorem dX10_mended_55 : decode cX10_mended 55 = .ok (.istore 14, 2) := by decide +kernel
theorem dX10_mended_57 : decode cX10_mended 57 = .ok (.iload 14, 2) := by decide +kernel
theorem dX10_mended_59 : decode cX10_mended 59 = .ok (.aload_n 0, 1) := by decide +kernel
theorem dX10_mended_60 : decode cX10_mended 60 = .ok (.getfield 89, 3) := by decide +kernel
theorem dX10_mended_63 : decode cX10_mended 63 = .ok (.if_icmp .ge 83, 3) := by decide +kernel
theorem dX10_mended_66 : decode cX10_mended 66 = .ok (.iload 14, 2) := by decide +kernel
theorem dX10_mended_68 : decode cX10_mended 68 = .ok (.bipush 56, 2) := by decide +kernel
theorem dX10_mended_70 : decode cX10_mended 70 = .ok (.if_icmp .ge 76, 3) := by decide +kernel
theorem dX10_mended_73 : decode cX10_mended 73 = .ok (.aload_n 0, 1) := by decide +kernel
theorem dX10_mended_74 : decode cX10_mended 74 = .ok (.iload_n 1, 1) := by decide +kernel
theorem dX10_mended_75 : decode cX10_mended 75 = .ok (.iload 14, 2) := by decide +kernel
theorem dX10_mended_77 : decode cX10_mended 77 = .ok (.invokevirtual 129, 3) := by decide +kernel
theorem dX10_mended_80 : decode cX10_mended 80 = .ok (.istore 15, 2) := by decide +kernel
theorem dX10_mended_82 : decode cX10_mended 82 = .ok (.aload_n 0, 1) := by decide +kernel
theorem dX10_mended_83 : decode cX10_mended 83 = .ok (.iload 9, 2) := by decide +kernel
theorem dX10_mended_85 : decode cX10_mended 85 = .ok (.iload 14, 2) := by decide +kernel
theorem dX10_mended_87 : decode cX10_mended 87 = .ok (.invokevirtual 129, 3) := by decide +kernel
theorem dX10_mended_90 : decode cX10_mended 90 = .ok (.istore 16, 2) := by decide +kernel
theorem dX10_mended_92 : decode cX10_mended 92 = .ok (.lload 10, 2) := by decide +kernel
theorem dX10_mended_94 : decode cX10_mended 94 = .ok (.iload 15, 2) := by decide +kernel
theorem dX10_mended_96 : decode cX10_mended 96 = .ok (.iconst (-1), 1) := by decide +kernel
theorem dX10_mended_97 : decode cX10_mended 97 = .ok (.if_icmp .eq 9, 3) := by decide +kernel
theorem dX10_mended_100 : decode cX10_mended 100 = .ok (.iload 16, 2) := by decide +kernel
theorem dX10_mended_102 : decode cX10_mended 102 = .ok (.iconst (-1), 1) := by decide +kernel
theorem dX10_mended_103 : decode cX10_mended 103 = .ok (.if_icmp .ne 7, 3) := by decide +kernel
theorem dX10_mended_106 : decode cX10_mended 106 = .ok (.lconst 0, 1) := by decide +kernel
theorem dX10_mended_107 : decode cX10_mended 107 = .ok (.goto 6, 3) := by decide +kernel
theorem dX10_mended_110 : decode cX10_mended 110 = .ok (.iload 15, 2) := by decide +kernel
theorem dX10_mended_112 : decode cX10_mended 112 = .ok (.i2l, 1) := by decide +kernel
theorem dX10_mended_113 : decode cX10_mended 113 = .ok (.ladd, 1) := by decide +kernel
theorem dX10_mended_114 : decode cX10_mended 114 = .ok (.lstore 10, 2) := by decide +kernel
theorem dX10_mended_116 : decode cX10_mended 116 = .ok (.lload 12, 2) := by decide +kernel
theorem dX10_mended_118 : decode cX10_mended 118 = .ok (.iload 15, 2) := by decide +kernel
theorem dX10_mended_120 : decode cX10_mended 120 = .ok (.iconst (-1), 1) := by decide +kernel
theorem dX10_mended_121 : decode cX10_mended 121 = .ok (.if_icmp .eq 9, 3) := by decide +kernel
theorem dX10_mended_124 : decode cX10_mended 124 = .ok (.iload 16, 2) := by decide +kernel
theorem dX10_mended_126 : decode cX10_mended 126 = .ok (.iconst (-1), 1) := by decide +kernel
theorem dX10_mended_127 : decode cX10_mended 127 = .ok (.if_icmp .ne 7, 3) := by decide +kernel
theorem dX10_mended_130 : decode cX10_mended 130 = .ok (.lconst 0, 1) := by decide +kernel
theorem dX10_mended_131 : decode cX10_mended 131 = .ok (.goto 6, 3) := by decide +kernel
theorem dX10_mended_134 : decode cX10_mended 134 = .ok (.iload 16, 2) := by decide +kernel
theorem dX10_mended_136 : decode cX10_mended 136 = .ok (.i2l, 1) := by decide +kernel
theorem dX10_mended_137 : decode cX10_mended 137 = .ok (.ladd, 1) := by decide +kernel
theorem dX10_mended_138 : decode cX10_mended 138 = .ok (.lstore 12, 2) := by decide +kernel
theorem dX10_mended_140 : decode cX10_mended 140 = .ok (.iinc 14 1, 3) := by decide +kernel
theorem dX10_mended_143 : decode cX10_mended 143 = .ok (.goto (-86), 3) := by decide +kernel
theorem dX10_mended_146 : decode cX10_mended 146 = .ok (.lload 12, 2) := by decide +kernel
theorem dX10_mended_148 : decode cX10_mended 148 = .ok (.lconst 0, 1) := by decide +kernel
theorem dX10_mended_149 : decode cX10_mended 149 = .ok (.lcmp, 1) := by decide +kernel
theorem dX10_mended_150 : decode cX10_mended 150 = .ok (.ifCond .ne 9, 3) := by decide +kernel
theorem dX10_mended_153 : decode cX10_mended 153 = .ok (.lconst 1, 1) := by decide +kernel
theorem dX10_mended_154 : decode cX10_mended 154 = .ok (.lstore 10, 2) := by decide +kernel
theorem dX10_mended_156 : decode cX10_mended 156 = .ok (.lconst 1, 1) := by decide +kernel
theorem dX10_mended_157 : decode cX10_mended 157 = .ok (.lstore 12, 2) := by decide +kernel
theorem dX10_mended_159 : decode cX10_mended 159 = .ok (.aload_n 0, 1) := by decide +kernel
theorem dX10_mended_160 : decode cX10_mended 160 = .ok (.iload 9, 2) := by decide +kernel
theorem dX10_mended_162 : decode cX10_mended 162 = .ok (.aload_n 0, 1) := by decide +kernel
theorem dX10_mended_163 : decode cX10_mended 163 = .ok (.getfield 13, 3) := by decide +kernel
theorem dX10_mended_166 : decode cX10_mended 166 = .ok (.iload_n 1, 1) := by decide +kernel
theorem dX10_mended_167 : decode cX10_mended 167 = .ok (.iaload, 1) := by decide +kernel
theorem dX10_mended_168 : decode cX10_mended 168 = .ok (.aload_n 0, 1) := by decide +kernel
theorem dX10_mended_169 : decode cX10_mended 169 = .ok (.getfield 16, 3) := by decide +kernel
theorem dX10_mended_172 : decode cX10_mended 172 = .ok (.iload_n 1, 1) := by decide +kernel
theorem dX10_mended_173 : decode cX10_mended 173 = .ok (.iaload, 1) := by decide +kernel
theorem dX10_mended_174 : decode cX10_mended 174 = .ok (.invokevirtual 119, 3) := by decide +kernel
theorem dX10_mended_177 : decode cX10_mended 177 = .ok (.istore 14, 2) := by decide +kernel
theorem dX10_mended_179 : decode cX10_mended 179 = .ok (.iload 14, 2) := by decide +kernel
theorem dX10_mended_181 : decode cX10_mended 181 = .ok (.ifCond .ne 9, 3) := by decide +kernel
theorem dX10_mended_184 : decode cX10_mended 184 = .ok (.sipush 288, 3) := by decide +kernel
theorem dX10_mended_187 : decode cX10_mended 187 = .ok (.goto 23, 3) := by decide +kernel
theorem dX10_mended_190 : decode cX10_mended 190 = .ok (.sipush 144, 3) := by decide +kernel
theorem dX10_mended_193 : decode cX10_mended 193 = .ok (.iload 14, 2) := by decide +kernel
theorem dX10_mended_195 : decode cX10_mended 195 = .ok (.idiv, 1) := by decide +kernel
theorem dX10_mended_196 : decode cX10_mended 196 = .ok (.iconst 1, 1) := by decide +kernel
theorem dX10_mended_197 : decode cX10_mended 197 = .ok (.if_icmp .ge 7, 3) := by decide +kernel
theorem dX10_mended_200 : decode cX10_mended 200 = .ok (.iconst 1, 1) := by decide +kernel
theorem dX10_mended_201 : decode cX10_mended 201 = .ok (.goto 9, 3) := by decide +kernel
theorem dX10_mended_204 : decode cX10_mended 204 = .ok (.sipush 144, 3) := by decide +kernel
theorem dX10_mended_207 : decode cX10_mended 207 = .ok (.iload 14, 2) := by decide +kernel
theorem dX10_mended_209 : decode cX10_mended 209 = .ok (.idiv, 1) := by decide +kernel
theorem dX10_mended_210 : decode cX10_mended 210 = .ok (.istore 15, 2) := by decide +kernel
theorem dX10_mended_212 : decode cX10_mended 212 = .ok (.lload 4, 2) := by decide +kernel
theorem dX10_mended_214 : decode cX10_mended 214 = .ok (.aload_n 0, 1) := by decide +kernel
theorem dX10_mended_215 : decode cX10_mended 215 = .ok (.iload 9, 2) := by decide +kernel
theorem dX10_mended_217 : decode cX10_mended 217 = .ok (.iload_n 2, 1) := by decide +kernel
theorem dX10_mended_218 : decode cX10_mended 218 = .ok (.invokevirtual 129, 3) := by decide +kernel
theorem dX10_mended_221 : decode cX10_mended 221 = .ok (.i2l, 1) := by decide +kernel
theorem dX10_mended_222 : decode cX10_mended 222 = .ok (.lload 10, 2) := by decide +kernel
theorem dX10_mended_224 : decode cX10_mended 224 = .ok (.lmul, 1) := by decide +kernel
theorem dX10_mended_225 : decode cX10_mended 225 = .ok (.ldc2_w 139, 3) := by decide +kernel
theorem dX10_mended_228 : decode cX10_mended 228 = .ok (.lmul, 1) := by decide +kernel
theorem dX10_mended_229 : decode cX10_mended 229 = .ok (.lload 12, 2) := by decide +kernel
theorem dX10_mended_231 : decode cX10_mended 231 = .ok (.ldiv, 1) := by decide +kernel
theorem dX10_mended_232 : decode cX10_mended 232 = .ok (.iload 15, 2) := by decide +kernel
theorem dX10_mended_234 : decode cX10_mended 234 = .ok (.i2l, 1) := by decide +kernel
theorem dX10_mended_235 : decode cX10_mended 235 = .ok (.lmul, 1) := by decide +kernel
theorem dX10_mended_236 : decode cX10_mended 236 = .ok (.ladd, 1) := by decide +kernel
theorem dX10_mended_237 : decode cX10_mended 237 = .ok (.lstore 4, 2) := by decide +kernel
theorem dX10_mended_239 : decode cX10_mended 239 = .ok (.lload 6, 2) := by decide +kernel
theorem dX10_mended_241 : decode cX10_mended 241 = .ok (.iload 15, 2) := by decide +kernel
theorem dX10_mended_243 : decode cX10_mended 243 = .ok (.i2l, 1) := by decide +kernel
theorem dX10_mended_244 : decode cX10_mended 244 = .ok (.ladd, 1) := by decide +kernel
theorem dX10_mended_245 : decode cX10_mended 245 = .ok (.lstore 6, 2) := by decide +kernel
theorem dX10_mended_247 : decode cX10_mended 247 = .ok (.iinc 8 1, 3) := by decide +kernel
theorem dX10_mended_250 : decode cX10_mended 250 = .ok (.goto (-217), 3) := by decide +kernel
theorem dX10_mended_253 : decode cX10_mended 253 = .ok (.lload 4, 2) := by decide +kernel
theorem dX10_mended_255 : decode cX10_mended 255 = .ok (.lload 6, 2) := by decide +kernel
theorem dX10_mended_257 : decode cX10_mended 257 = .ok (.ldc2_w 139, 3) := by decide +kernel
theorem dX10_mended_260 : decode cX10_mended 260 = .ok (.lmul, 1) := by decide +kernel
theorem dX10_mended_261 : decode cX10_mended 261 = .ok (.ldiv, 1) := by decide +kernel
theorem dX10_mended_262 : decode cX10_mended 262 = .ok (.l2i, 1) := by decide +kernel
theorem dX10_mended_263 : decode cX10_mended 263 = .ok (.ireturn, 1) := by decide +kernel
theorem dX10_from_0 : decode cX10_from 0 = .ok (.aload_n 0, 1) := by decide +kernel
theorem dX10_from_1 : decode cX10_from 1 = .ok (.iload_n 1, 1) := by decide +kernel
theorem dX10_from_2 : decode cX10_from 2 = .ok (.iconst 0, 1) := by decide +kernel
theorem dX10_from_3 : decode cX10_from 3 = .ok (.iconst 4, 1) := by decide +kernel
theorem dX10_from_4 : decode cX10_from 4 = .ok (.invokevirtual 96, 3) := by decide +kernel
theorem dX10_from_7 : decode cX10_from 7 = .ok (.istore 4, 2) := by decide +kernel
theorem dX10_from_9 : decode cX10_from 9 = .ok (.iload 4, 2) := by decide +kernel
theorem dX10_from_11 : decode cX10_from 11 = .ok (.ifCond .ne 17, 3) := by decide +kernel
theorem dX10_from_14 : decode cX10_from 14 = .ok (.aload_n 0, 1) := by decide +kernel
theorem dX10_from_15 : decode cX10_from 15 = .ok (.getfield 9, 3) := by decide +kernel
theorem dX10_from_18 : decode cX10_from 18 = .ok (.iload_n 1, 1) := by decide +kernel
theorem dX10_from_19 : decode cX10_from 19 = .ok (.iaload, 1) := by decide +kernel
theorem dX10_from_20 : decode cX10_from 20 = .ok (.iconst 3, 1) := by decide +kernel
theorem dX10_from_21 : decode cX10_from 21 = .ok (.if_icmp .ne 7, 3) := by decide +kernel
theorem dX10_from_24 : decode cX10_from 24 = .ok (.bipush (-2), 2) := by decide +kernel
theorem dX10_from_26 : decode cX10_from 26 = .ok (.istore 4, 2) := by decide +kernel
theorem dX10_from_28 : decode cX10_from 28 = .ok (.iload 4, 2) := by decide +kernel
theorem dX10_from_30 : decode cX10_from 30 = .ok (.ifCond .eq 6, 3) := by decide +kernel
theorem dX10_from_33 : decode cX10_from 33 = .ok (.iload 4, 2) := by decide +kernel
theorem dX10_from_35 : decode cX10_from 35 = .ok (.ireturn, 1) := by decide +kernel
theorem dX10_from_36 : decode cX10_from 36 = .ok (.iload_n 2, 1) := by decide +kernel
theorem dX10_from_37 : decode cX10_from 37 = .ok (.aload_n 0, 1) := by decide +kernel
theorem dX10_from_38 : decode cX10_from 38 = .ok (.getfield 22, 3) := by decide +kernel
theorem dX10_from_41 : decode cX10_from 41 = .ok (.iload_n 1, 1) := by decide +kernel
theorem dX10_from_42 : decode cX10_from 42 = .ok (.iaload, 1) := by decide +kernel
theorem dX10_from_43 : decode cX10_from 43 = .ok (.bipush 55, 2) := by decide +kernel
theorem dX10_from_45 : decode cX10_from 45 = .ok (.invokestatic 85, 3) := by decide +kernel
theorem dX10_from_48 : decode cX10_from 48 = .ok (.ifCond .eq 11, 3) := by decide +kernel
theorem dX10_from_51 : decode cX10_from 51 = .ok (.iload_n 2, 1) := by decide +kernel
theorem dX10_from_52 : decode cX10_from 52 = .ok (.aload_n 0, 1) := by decide +kernel
theorem dX10_from_53 : decode cX10_from 53 = .ok (.getfield 89, 3) := by decide +kernel
theorem dX10_from_56 : decode cX10_from 56 = .ok (.if_icmp .le 5, 3) := by decide +kernel
theorem dX10_from_59 : decode cX10_from 59 = .ok (.iconst (-1), 1) := by decide +kernel
theorem dX10_from_60 : decode cX10_from 60 = .ok (.ireturn, 1) := by decide +kernel
theorem dX10_from_61 : decode cX10_from 61 = .ok (.iload_n 3, 1) := by decide +kernel
theorem dX10_from_62 : decode cX10_from 62 = .ok (.iconst 0, 1) := by decide +kernel
theorem dX10_from_63 : decode cX10_from 63 = .ok (.aload_n 0, 1) := by decide +kernel
theorem dX10_from_64 : decode cX10_from 64 = .ok (.iload_n 1, 1) := by decide +kernel
theorem dX10_from_65 : decode cX10_from 65 = .ok (.iload_n 2, 1) := by decide +kernel
theorem dX10_from_66 : decode cX10_from 66 = .ok (.invokevirtual 136, 3) := by decide +kernel
theorem dX10_from_69 : decode cX10_from 69 = .ok (.iconst 1, 1) := by decide +kernel
theorem dX10_from_70 : decode cX10_from 70 = .ok (.isub, 1) := by decide +kernel
theorem dX10_from_71 : decode cX10_from 71 = .ok (.invokestatic 85, 3) := by decide +kernel
theorem dX10_from_74 : decode cX10_from 74 = .ok (.ifCond .eq 12, 3) := by decide +kernel
theorem dX10_from_77 : decode cX10_from 77 = .ok (.aload_n 0, 1) := by decide +kernel
theorem dX10_from_78 : decode cX10_from 78 = .ok (.getfield 75, 3) := by decide +kernel
theorem dX10_from_81 : decode cX10_from 81 = .ok (.iload_n 3, 1) := by decide +kernel
theorem dX10_from_82 : decode cX10_from 82 = .ok (.iaload, 1) := by decide +kernel
theorem dX10_from_83 : decode cX10_from 83 = .ok (.goto 4, 3) := by decide +kernel
theorem dX10_from_86 : decode cX10_from 86 = .ok (.iconst (-1), 1) := by decide +kernel
theorem dX10_from_87 : decode cX10_from 87 = .ok (.ireturn, 1) := by decide +kernel
theorem dX10_readOn_0 : decode cX10_readOn 0 = .ok (.aload_n 0, 1) := by decide +kernel
theorem dX10_readOn_1 : decode cX10_readOn 1 = .ok (.getfield 9, 3) := by decide +kernel
theorem dX10_readOn_4 : decode cX10_readOn 4 = .ok (.iload_n 1, 1) := by decide +kernel
theorem dX10_readOn_5 : decode cX10_readOn 5 = .ok (.iaload, 1) := by decide +kernel
theorem dX10_readOn_6 : decode cX10_readOn 6 = .ok (.iconst 3, 1) := by decide +kernel
theorem dX10_readOn_7 : decode cX10_readOn 7 = .ok (.if_icmp .ne 18, 3) := by decide +kernel
theorem dX10_readOn_10 : decode cX10_readOn 10 = .ok (.iload_n 2, 1) := by decide +kernel
theorem dX10_readOn_11 : decode cX10_readOn 11 = .ok (.aload_n 0, 1) := by decide +kernel
theorem dX10_readOn_12 : decode cX10_readOn 12 = .ok (.getfield 22, 3) := by decide +kernel
theorem dX10_readOn_15 : decode cX10_readOn 15 = .ok (.iload_n 1, 1) := by decide +kernel
theorem dX10_readOn_16 : decode cX10_readOn 16 = .ok (.iaload, 1) := by decide +kernel
theorem dX10_readOn_17 : decode cX10_readOn 17 = .ok (.bipush 55, 2) := by decide +kernel
theorem dX10_readOn_19 : decode cX10_readOn 19 = .ok (.invokestatic 85, 3) := by decide +kernel
theorem dX10_readOn_22 : decode cX10_readOn 22 = .ok (.ifCond .ne 5, 3) := by decide +kernel
theorem dX10_readOn_25 : decode cX10_readOn 25 = .ok (.iconst (-1), 1) := by decide +kernel
theorem dX10_readOn_26 : decode cX10_readOn 26 = .ok (.ireturn, 1) := by decide +kernel
theorem dX10_readOn_27 : decode cX10_readOn 27 = .ok (.iload_n 2, 1) := by decide +kernel
theorem dX10_readOn_28 : decode cX10_readOn 28 = .ok (.istore_n 3, 1) := by decide +kernel
theorem dX10_readOn_29 : decode cX10_readOn 29 = .ok (.iload_n 3, 1) := by decide +kernel
theorem dX10_readOn_30 : decode cX10_readOn 30 = .ok (.bipush 56, 2) := by decide +kernel
theorem dX10_readOn_32 : decode cX10_readOn 32 = .ok (.if_icmp .ge 25, 3) := by decide +kernel
theorem dX10_readOn_35 : decode cX10_readOn 35 = .ok (.aload_n 0, 1) := by decide +kernel
theorem dX10_readOn_36 : decode cX10_readOn 36 = .ok (.getfield 28, 3) := by decide +kernel
theorem dX10_readOn_39 : decode cX10_readOn 39 = .ok (.iload_n 1, 1) := by decide +kernel
theorem dX10_readOn_40 : decode cX10_readOn 40 = .ok (.iload_n 3, 1) := by decide +kernel
theorem dX10_readOn_41 : decode cX10_readOn 41 = .ok (.invokestatic 92, 3) := by decide +kernel
theorem dX10_readOn_44 : decode cX10_readOn 44 = .ok (.iaload, 1) := by decide +kernel
theorem dX10_readOn_45 : decode cX10_readOn 45 = .ok (.iconst (-1), 1) := by decide +kernel
theorem dX10_readOn_46 : decode cX10_readOn 46 = .ok (.if_icmp .eq 5, 3) := by decide +kernel
theorem dX10_readOn_49 : decode cX10_readOn 49 = .ok (.iload_n 3, 1) := by decide +kernel
theorem dX10_readOn_50 : decode cX10_readOn 50 = .ok (.ireturn, 1) := by decide +kernel
theorem dX10_readOn_51 : decode cX10_readOn 51 = .ok (.iinc 3 1, 3) := by decide +kernel
theorem dX10_readOn_54 : decode cX10_readOn 54 = .ok (.goto (-25), 3) := by decide +kernel
theorem dX10_readOn_57 : decode cX10_readOn 57 = .ok (.iconst (-1), 1) := by decide +kernel
theorem dX10_readOn_58 : decode cX10_readOn 58 = .ok (.ireturn, 1) := by decide +kernel
theorem dX10_spread_0 : decode cX10_spread 0 = .ok (.aload_n 0, 1) := by decide +kernel
theorem dX10_spread_1 : decode cX10_spread 1 = .ok (.iload_n 1, 1) := by decide +kernel
theorem dX10_spread_2 : decode cX10_spread 2 = .ok (.iload_n 2, 1) := by decide +kernel
theorem dX10_spread_3 : decode cX10_spread 3 = .ok (.invokevirtual 141, 3) := by decide +kernel
theorem dX10_spread_6 : decode cX10_spread 6 = .ok (.istore_n 3, 1) := by decide +kernel
theorem dX10_spread_7 : decode cX10_spread 7 = .ok (.iload_n 3, 1) := by decide +kernel
theorem dX10_spread_8 : decode cX10_spread 8 = .ok (.iconst (-1), 1) := by decide +kernel
theorem dX10_spread_9 : decode cX10_spread 9 = .ok (.if_icmp .ne 5, 3) := by decide +kernel
theorem dX10_spread_12 : decode cX10_spread 12 = .ok (.iconst (-1), 1) := by decide +kernel
theorem dX10_spread_13 : decode cX10_spread 13 = .ok (.ireturn, 1) := by decide +kernel
theorem dX10_spread_14 : decode cX10_spread 14 = .ok (.aload_n 0, 1) := by decide +kernel
theorem dX10_spread_15 : decode cX10_spread 15 = .ok (.getfield 22, 3) := by decide +kernel
theorem dX10_spread_18 : decode cX10_spread 18 = .ok (.iload_n 1, 1) := by decide +kernel
theorem dX10_spread_19 : decode cX10_spread 19 = .ok (.iaload, 1) := by decide +kernel
theorem dX10_spread_20 : decode cX10_spread 20 = .ok (.istore 4, 2) := by decide +kernel
theorem dX10_spread_22 : decode cX10_spread 22 = .ok (.aload_n 0, 1) := by decide +kernel
theorem dX10_spread_23 : decode cX10_spread 23 = .ok (.getfield 22, 3) := by decide +kernel
theorem dX10_spread_26 : decode cX10_spread 26 = .ok (.iload_n 1, 1) := by decide +kernel
theorem dX10_spread_27 : decode cX10_spread 27 = .ok (.iaload, 1) := by decide +kernel
theorem dX10_spread_28 : decode cX10_spread 28 = .ok (.istore 5, 2) := by decide +kernel
theorem dX10_spread_30 : decode cX10_spread 30 = .ok (.iload 5, 2) := by decide +kernel
theorem dX10_spread_32 : decode cX10_spread 32 = .ok (.iload_n 3, 1) := by decide +kernel
theorem dX10_spread_33 : decode cX10_spread 33 = .ok (.if_icmp .ge 30, 3) := by decide +kernel
theorem dX10_spread_36 : decode cX10_spread 36 = .ok (.aload_n 0, 1) := by decide +kernel
theorem dX10_spread_37 : decode cX10_spread 37 = .ok (.getfield 28, 3) := by decide +kernel
theorem dX10_spread_40 : decode cX10_spread 40 = .ok (.iload_n 1, 1) := by decide +kernel
theorem dX10_spread_41 : decode cX10_spread 41 = .ok (.iload 5, 2) := by decide +kernel
theorem dX10_spread_43 : decode cX10_spread 43 = .ok (.invokestatic 92, 3) := by decide +kernel
theorem dX10_spread_46 : decode cX10_spread 46 = .ok (.iaload, 1) := by decide +kernel
theorem dX10_spread_47 : decode cX10_spread 47 = .ok (.iconst (-1), 1) := by decide +kernel
theorem dX10_spread_48 : decode cX10_spread 48 = .ok (.if_icmp .eq 9, 3) := by decide +kernel
theorem dX10_spread_51 : decode cX10_spread 51 = .ok (.iload 5, 2) := by decide +kernel
theorem dX10_spread_53 : decode cX10_spread 53 = .ok (.iconst 1, 1) := by decide +kernel
theorem dX10_spread_54 : decode cX10_spread 54 = .ok (.iadd, 1) := by decide +kernel
theorem dX10_spread_55 : decode cX10_spread 55 = .ok (.istore 4, 2) := by decide +kernel
theorem dX10_spread_57 : decode cX10_spread 57 = .ok (.iinc 5 1, 3) := by decide +kernel
theorem dX10_spread_60 : decode cX10_spread 60 = .ok (.goto (-30), 3) := by decide +kernel
theorem dX10_spread_63 : decode cX10_spread 63 = .ok (.aload_n 0, 1) := by decide +kernel
theorem dX10_spread_64 : decode cX10_spread 64 = .ok (.getfield 28, 3) := by decide +kernel
theorem dX10_spread_67 : decode cX10_spread 67 = .ok (.iload_n 1, 1) := by decide +kernel
theorem dX10_spread_68 : decode cX10_spread 68 = .ok (.iload_n 3, 1) := by decide +kernel
theorem dX10_spread_69 : decode cX10_spread 69 = .ok (.invokestatic 92, 3) := by decide +kernel
theorem dX10_spread_72 : decode cX10_spread 72 = .ok (.iaload, 1) := by decide +kernel
theorem dX10_spread_73 : decode cX10_spread 73 = .ok (.istore 5, 2) := by decide +kernel
theorem dX10_spread_75 : decode cX10_spread 75 = .ok (.aload_n 0, 1) := by decide +kernel
theorem dX10_spread_76 : decode cX10_spread 76 = .ok (.iload_n 1, 1) := by decide +kernel
theorem dX10_spread_77 : decode cX10_spread 77 = .ok (.invokevirtual 125, 3) := by decide +kernel
theorem dX10_spread_80 : decode cX10_spread 80 = .ok (.istore 6, 2) := by decide +kernel
theorem dX10_spread_82 : decode cX10_spread 82 = .ok (.iconst (-1), 1) := by decide +kernel
theorem dX10_spread_83 : decode cX10_spread 83 = .ok (.istore 7, 2) := by decide +kernel
theorem dX10_spread_85 : decode cX10_spread 85 = .ok (.iload 6, 2) := by decide +kernel
theorem dX10_spread_87 : decode cX10_spread 87 = .ok (.iconst 1, 1) := by decide +kernel
theorem dX10_spread_88 : decode cX10_spread 88 = .ok (.isub, 1) := by decide +kernel
theorem dX10_spread_89 : decode cX10_spread 89 = .ok (.istore 8, 2) := by decide +kernel
theorem dX10_spread_91 : decode cX10_spread 91 = .ok (.iload 8, 2) := by decide +kernel
theorem dX10_spread_93 : decode cX10_spread 93 = .ok (.ifCond .lt 76, 3) := by decide +kernel
theorem dX10_spread_96 : decode cX10_spread 96 = .ok (.iconst 1, 1) := by decide +kernel
theorem dX10_spread_97 : decode cX10_spread 97 = .ok (.istore 9, 2) := by decide +kernel
theorem dX10_spread_99 : decode cX10_spread 99 = .ok (.iload 4, 2) := by decide +kernel
theorem dX10_spread_101 : decode cX10_spread 101 = .ok (.istore 10, 2) := by decide +kernel
theorem dX10_spread_103 : decode cX10_spread 103 = .ok (.iload 10, 2) := by decide +kernel
theorem dX10_spread_105 : decode cX10_spread 105 = .ok (.iload_n 3, 1) := by decide +kernel
theorem dX10_spread_106 : decode cX10_spread 106 = .ok (.if_icmp .gt 38, 3) := by decide +kernel
theorem dX10_spread_109 : decode cX10_spread 109 = .ok (.iload 9, 2) := by decide +kernel
theorem dX10_spread_111 : decode cX10_spread 111 = .ok (.ifCond .eq 33, 3) := by decide +kernel
theorem dX10_spread_114 : decode cX10_spread 114 = .ok (.aload_n 0, 1) := by decide +kernel
theorem dX10_spread_115 : decode cX10_spread 115 = .ok (.aload_n 0, 1) := by decide +kernel
theorem dX10_spread_116 : decode cX10_spread 116 = .ok (.getfield 72, 3) := by decide +kernel
theorem dX10_spread_119 : decode cX10_spread 119 = .ok (.iload 8, 2) := by decide +kernel
theorem dX10_spread_121 : decode cX10_spread 121 = .ok (.iaload, 1) := by decide +kernel
theorem dX10_spread_122 : decode cX10_spread 122 = .ok (.iload 10, 2) := by decide +kernel
theorem dX10_spread_124 : decode cX10_spread 124 = .ok (.invokevirtual 129, 3) := by decide +kernel
theorem dX10_spread_127 : decode cX10_spread 127 = .ok (.iconst (-1), 1) := by decide +kernel
theorem dX10_spread_128 : decode cX10_spread 128 = .ok (.if_icmp .eq 7, 3) := by decide +kernel
theorem dX10_spread_131 : decode cX10_spread 131 = .ok (.iconst 1, 1) := by decide +kernel
theorem dX10_spread_132 : decode cX10_spread 132 = .ok (.goto 4, 3) := by decide +kernel
theorem dX10_spread_135 : decode cX10_spread 135 = .ok (.iconst 0, 1) := by decide +kernel
theorem dX10_spread_136 : decode cX10_spread 136 = .ok (.istore 9, 2) := by decide +kernel
theorem dX10_spread_138 : decode cX10_spread 138 = .ok (.iinc 10 1, 3) := by decide +kernel
theorem dX10_spread_141 : decode cX10_spread 141 = .ok (.goto (-38), 3) := by decide +kernel
theorem dX10_spread_144 : decode cX10_spread 144 = .ok (.iload 9, 2) := by decide +kernel
theorem dX10_spread_146 : decode cX10_spread 146 = .ok (.ifCond .eq 13, 3) := by decide +kernel
theorem dX10_spread_149 : decode cX10_spread 149 = .ok (.aload_n 0, 1) := by decide +kernel
theorem dX10_spread_150 : decode cX10_spread 150 = .ok (.getfield 72, 3) := by decide +kernel
theorem dX10_spread_153 : decode cX10_spread 153 = .ok (.iload 8, 2) := by decide +kernel
theorem dX10_spread_155 : decode cX10_spread 155 = .ok (.iaload, 1) := by decide +kernel
theorem dX10_spread_156 : decode cX10_spread 156 = .ok (.goto 5, 3) := by decide +kernel
theorem dX10_spread_159 : decode cX10_spread 159 = .ok (.iload 7, 2) := by decide +kernel
theorem dX10_spread_161 : decode cX10_spread 161 = .ok (.istore 7, 2) := by decide +kernel
theorem dX10_spread_163 : decode cX10_spread 163 = .ok (.iinc 8 (-1), 3) := by decide +kernel
theorem dX10_spread_166 : decode cX10_spread 166 = .ok (.goto (-75), 3) := by decide +kernel
theorem dX10_spread_169 : decode cX10_spread 169 = .ok (.iconst 0, 1) := by decide +kernel
theorem dX10_spread_170 : decode cX10_spread 170 = .ok (.istore 8, 2) := by decide +kernel
theorem dX10_spread_172 : decode cX10_spread 172 = .ok (.iload 4, 2) := by decide +kernel
theorem dX10_spread_174 : decode cX10_spread 174 = .ok (.istore 9, 2) := by decide +kernel
theorem dX10_spread_176 : decode cX10_spread 176 = .ok (.iload 9, 2) := by decide +kernel
theorem dX10_spread_178 : decode cX10_spread 178 = .ok (.iload_n 3, 1) := by decide +kernel
theorem dX10_spread_179 : decode cX10_spread 179 = .ok (.if_icmp .gt 28, 3) := by decide +kernel
theorem dX10_spread_182 : decode cX10_spread 182 = .ok (.iload 7, 2) := by decide +kernel
theorem dX10_spread_184 : decode cX10_spread 184 = .ok (.iconst (-1), 1) := by decide +kernel
theorem dX10_spread_185 : decode cX10_spread 185 = .ok (.if_icmp .eq 22, 3) := by decide +kernel
theorem dX10_spread_188 : decode cX10_spread 188 = .ok (.iload 8, 2) := by decide +kernel
theorem dX10_spread_190 : decode cX10_spread 190 = .ok (.aload_n 0, 1) := by decide +kernel
theorem dX10_spread_191 : decode cX10_spread 191 = .ok (.iload 7, 2) := by decide +kernel
theorem dX10_spread_193 : decode cX10_spread 193 = .ok (.iload 9, 2) := by decide +kernel
theorem dX10_spread_195 : decode cX10_spread 195 = .ok (.invokevirtual 129, 3) := by decide +kernel
theorem dX10_spread_198 : decode cX10_spread 198 = .ok (.iadd, 1) := by decide +kernel
theorem dX10_spread_199 : decode cX10_spread 199 = .ok (.istore 8, 2) := by decide +kernel
theorem dX10_spread_201 : decode cX10_spread 201 = .ok (.iinc 9 1, 3) := by decide +kernel
theorem dX10_spread_204 : decode cX10_spread 204 = .ok (.goto (-28), 3) := by decide +kernel
theorem dX10_spread_207 : decode cX10_spread 207 = .ok (.iload 8, 2) := by decide +kernel
theorem dX10_spread_209 : decode cX10_spread 209 = .ok (.ifCond .ne 15, 3) := by decide +kernel
theorem dX10_spread_212 : decode cX10_spread 212 = .ok (.iload_n 2, 1) := by decide +kernel
theorem dX10_spread_213 : decode cX10_spread 213 = .ok (.iload_n 3, 1) := by decide +kernel
theorem dX10_spread_214 : decode cX10_spread 214 = .ok (.if_icmp .ne 8, 3) := by decide +kernel
theorem dX10_spread_217 : decode cX10_spread 217 = .ok (.iload 5, 2) := by decide +kernel
theorem dX10_spread_219 : decode cX10_spread 219 = .ok (.goto 4, 3) := by decide +kernel
theorem dX10_spread_222 : decode cX10_spread 222 = .ok (.iconst 0, 1) := by decide +kernel
theorem dX10_spread_223 : decode cX10_spread 223 = .ok (.ireturn, 1) := by decide +kernel
theorem dX10_spread_224 : decode cX10_spread 224 = .ok (.iload 5, 2) := by decide +kernel
theorem dX10_spread_226 : decode cX10_spread 226 = .ok (.istore 9, 2) := by decide +kernel
theorem dX10_spread_228 : decode cX10_spread 228 = .ok (.iload 4, 2) := by decide +kernel
theorem dX10_spread_230 : decode cX10_spread 230 = .ok (.istore 10, 2) := by decide +kernel
theorem dX10_spread_232 : decode cX10_spread 232 = .ok (.iload 10, 2) := by decide +kernel
theorem dX10_spread_234 : decode cX10_spread 234 = .ok (.iload_n 3, 1) := by decide +kernel
theorem dX10_spread_235 : decode cX10_spread 235 = .ok (.if_icmp .gt 28, 3) := by decide +kernel
theorem dX10_spread_238 : decode cX10_spread 238 = .ok (.iload 9, 2) := by decide +kernel
theorem dX10_spread_240 : decode cX10_spread 240 = .ok (.iload 5, 2) := by decide +kernel
theorem dX10_spread_242 : decode cX10_spread 242 = .ok (.aload_n 0, 1) := by decide +kernel
theorem dX10_spread_243 : decode cX10_spread 243 = .ok (.iload 7, 2) := by decide +kernel
theorem dX10_spread_245 : decode cX10_spread 245 = .ok (.iload 10, 2) := by decide +kernel
theorem dX10_spread_247 : decode cX10_spread 247 = .ok (.invokevirtual 129, 3) := by decide +kernel
theorem dX10_spread_250 : decode cX10_spread 250 = .ok (.imul, 1) := by decide +kernel
theorem dX10_spread_251 : decode cX10_spread 251 = .ok (.iload 8, 2) := by decide +kernel
theorem dX10_spread_253 : decode cX10_spread 253 = .ok (.idiv, 1) := by decide +kernel
theorem dX10_spread_254 : decode cX10_spread 254 = .ok (.isub, 1) := by decide +kernel
theorem dX10_spread_255 : decode cX10_spread 255 = .ok (.istore 9, 2) := by decide +kernel
theorem dX10_spread_257 : decode cX10_spread 257 = .ok (.iinc 10 1, 3) := by decide +kernel
theorem dX10_spread_260 : decode cX10_spread 260 = .ok (.goto (-28), 3) := by decide +kernel
theorem dX10_spread_263 : decode cX10_spread 263 = .ok (.iload 5, 2) := by decide +kernel
theorem dX10_spread_265 : decode cX10_spread 265 = .ok (.aload_n 0, 1) := by decide +kernel
theorem dX10_spread_266 : decode cX10_spread 266 = .ok (.iload 7, 2) := by decide +kernel
theorem dX10_spread_268 : decode cX10_spread 268 = .ok (.iload_n 2, 1) := by decide +kernel
theorem dX10_spread_269 : decode cX10_spread 269 = .ok (.invokevirtual 129, 3) := by decide +kernel
theorem dX10_spread_272 : decode cX10_spread 272 = .ok (.imul, 1) := by decide +kernel
theorem dX10_spread_273 : decode cX10_spread 273 = .ok (.iload 8, 2) := by decide +kernel
theorem dX10_spread_275 : decode cX10_spread 275 = .ok (.irem, 1) := by decide +kernel
theorem dX10_spread_276 : decode cX10_spread 276 = .ok (.istore 10, 2) := by decide +kernel
theorem dX10_spread_278 : decode cX10_spread 278 = .ok (.iconst 0, 1) := by decide +kernel
theorem dX10_spread_279 : decode cX10_spread 279 = .ok (.istore 11, 2) := by decide +kernel
theorem dX10_spread_281 : decode cX10_spread 281 = .ok (.iload 4, 2) := by decide +kernel
theorem dX10_spread_283 : decode cX10_spread 283 = .ok (.istore 12, 2) := by decide +kernel
theorem dX10_spread_285 : decode cX10_spread 285 = .ok (.iload 12, 2) := by decide +kernel
theorem dX10_spread_287 : decode cX10_spread 287 = .ok (.iload_n 3, 1) := by decide +kernel
theorem dX10_spread_288 : decode cX10_spread 288 = .ok (.if_icmp .gt 55, 3) := by decide +kernel
theorem dX10_spread_291 : decode cX10_spread 291 = .ok (.iload 5, 2) := by decide +kernel
theorem dX10_spread_293 : decode cX10_spread 293 = .ok (.aload_n 0, 1) := by decide +kernel
theorem dX10_spread_294 : decode cX10_spread 294 = .ok (.iload 7, 2) := by decide +kernel
theorem dX10_spread_296 : decode cX10_spread 296 = .ok (.iload 12, 2) := by decide +kernel
theorem dX10_spread_298 : decode cX10_spread 298 = .ok (.invokevirtual 129, 3) := by decide +kernel
theorem dX10_spread_301 : decode cX10_spread 301 = .ok (.imul, 1) := by decide +kernel
theorem dX10_spread_302 : decode cX10_spread 302 = .ok (.iload 8, 2) := by decide +kernel
theorem dX10_spread_304 : decode cX10_spread 304 = .ok (.irem, 1) := by decide +kernel
theorem dX10_spread_305 : decode cX10_spread 305 = .ok (.istore 13, 2) := by decide +kernel
theorem dX10_spread_307 : decode cX10_spread 307 = .ok (.iload 11, 2) := by decide +kernel
theorem dX10_spread_309 : decode cX10_spread 309 = .ok (.iload 13, 2) := by decide +kernel
theorem dX10_spread_311 : decode cX10_spread 311 = .ok (.iload 10, 2) := by decide +kernel
theorem dX10_spread_313 : decode cX10_spread 313 = .ok (.if_icmp .gt 16, 3) := by decide +kernel
theorem dX10_spread_316 : decode cX10_spread 316 = .ok (.iload 13, 2) := by decide +kernel
theorem dX10_spread_318 : decode cX10_spread 318 = .ok (.iload 10, 2) := by decide +kernel
theorem dX10_spread_320 : decode cX10_spread 320 = .ok (.if_icmp .ne 13, 3) := by decide +kernel
theorem dX10_spread_323 : decode cX10_spread 323 = .ok (.iload 12, 2) := by decide +kernel
theorem dX10_spread_325 : decode cX10_spread 325 = .ok (.iload_n 2, 1) := by decide +kernel
theorem dX10_spread_326 : decode cX10_spread 326 = .ok (.if_icmp .ge 7, 3) := by decide +kernel
theorem dX10_spread_329 : decode cX10_spread 329 = .ok (.iconst 1, 1) := by decide +kernel
theorem dX10_spread_330 : decode cX10_spread 330 = .ok (.goto 4, 3) := by decide +kernel
theorem dX10_spread_333 : decode cX10_spread 333 = .ok (.iconst 0, 1) := by decide +kernel
theorem dX10_spread_334 : decode cX10_spread 334 = .ok (.iadd, 1) := by decide +kernel
theorem dX10_spread_335 : decode cX10_spread 335 = .ok (.istore 11, 2) := by decide +kernel
theorem dX10_spread_337 : decode cX10_spread 337 = .ok (.iinc 12 1, 3) := by decide +kernel
theorem dX10_spread_340 : decode cX10_spread 340 = .ok (.goto (-55), 3) := by decide +kernel
theorem dX10_spread_343 : decode cX10_spread 343 = .ok (.iload 5, 2) := by decide +kernel
theorem dX10_spread_345 : decode cX10_spread 345 = .ok (.aload_n 0, 1) := by decide +kernel
theorem dX10_spread_346 : decode cX10_spread 346 = .ok (.iload 7, 2) := by decide +kernel
theorem dX10_spread_348 : decode cX10_spread 348 = .ok (.iload_n 2, 1) := by decide +kernel
theorem dX10_spread_349 : decode cX10_spread 349 = .ok (.invokevirtual 129, 3) := by decide +kernel
theorem dX10_spread_352 : decode cX10_spread 352 = .ok (.imul, 1) := by decide +kernel
theorem dX10_spread_353 : decode cX10_spread 353 = .ok (.iload 8, 2) := by decide +kernel
theorem dX10_spread_355 : decode cX10_spread 355 = .ok (.idiv, 1) := by decide +kernel
theorem dX10_spread_356 : decode cX10_spread 356 = .ok (.iload 11, 2) := by decide +kernel
theorem dX10_spread_358 : decode cX10_spread 358 = .ok (.iload 9, 2) := by decide +kernel
theorem dX10_spread_360 : decode cX10_spread 360 = .ok (.if_icmp .ge 7, 3) := by decide +kernel
theorem dX10_spread_363 : decode cX10_spread 363 = .ok (.iconst 1, 1) := by decide +kernel
theorem dX10_spread_364 : decode cX10_spread 364 = .ok (.goto 4, 3) := by decide +kernel
theorem dX10_spread_367 : decode cX10_spread 367 = .ok (.iconst 0, 1) := by decide +kernel
theorem dX10_spread_368 : decode cX10_spread 368 = .ok (.iadd, 1) := by decide +kernel
theorem dX10_spread_369 : decode cX10_spread 369 = .ok (.ireturn, 1) := by decide +kernel
theorem dX10_tells_0 : decode cX10_tells 0 = .ok (.aload_n 0, 1) := by decide +kernel
theorem dX10_tells_1 : decode cX10_tells 1 = .ok (.iload_n 1, 1) := by decide +kernel
theorem dX10_tells_2 : decode cX10_tells 2 = .ok (.invokevirtual 103, 3) := by decide +kernel
theorem dX10_tells_5 : decode cX10_tells 5 = .ok (.ifCond .eq 40, 3) := by decide +kernel
theorem dX10_tells_8 : decode cX10_tells 8 = .ok (.aload_n 0, 1) := by decide +kernel
theorem dX10_tells_9 : decode cX10_tells 9 = .ok (.getfield 9, 3) := by decide +kernel
theorem dX10_tells_12 : decode cX10_tells 12 = .ok (.iload_n 1, 1) := by decide +kernel
theorem dX10_tells_13 : decode cX10_tells 13 = .ok (.iaload, 1) := by decide +kernel
theorem dX10_tells_14 : decode cX10_tells 14 = .ok (.iconst 3, 1) := by decide +kernel
theorem dX10_tells_15 : decode cX10_tells 15 = .ok (.if_icmp .ne 16, 3) := by decide +kernel
theorem dX10_tells_18 : decode cX10_tells 18 = .ok (.aload_n 0, 1) := by decide +kernel
theorem dX10_tells_19 : decode cX10_tells 19 = .ok (.iload_n 1, 1) := by decide +kernel
theorem dX10_tells_20 : decode cX10_tells 20 = .ok (.iload_n 2, 1) := by decide +kernel
theorem dX10_tells_21 : decode cX10_tells 21 = .ok (.invokevirtual 141, 3) := by decide +kernel
theorem dX10_tells_24 : decode cX10_tells 24 = .ok (.iconst (-1), 1) := by decide +kernel
theorem dX10_tells_25 : decode cX10_tells 25 = .ok (.if_icmp .eq 20, 3) := by decide +kernel
theorem dX10_tells_28 : decode cX10_tells 28 = .ok (.goto 13, 3) := by decide +kernel
theorem dX10_tells_31 : decode cX10_tells 31 = .ok (.aload_n 0, 1) := by decide +kernel
theorem dX10_tells_32 : decode cX10_tells 32 = .ok (.iload_n 1, 1) := by decide +kernel
theorem dX10_tells_33 : decode cX10_tells 33 = .ok (.iload_n 2, 1) := by decide +kernel
theorem dX10_tells_34 : decode cX10_tells 34 = .ok (.invokevirtual 129, 3) := by decide +kernel
theorem dX10_tells_37 : decode cX10_tells 37 = .ok (.iconst (-1), 1) := by decide +kernel
theorem dX10_tells_38 : decode cX10_tells 38 = .ok (.if_icmp .eq 7, 3) := by decide +kernel
theorem dX10_tells_41 : decode cX10_tells 41 = .ok (.iconst 1, 1) := by decide +kernel
theorem dX10_tells_42 : decode cX10_tells 42 = .ok (.goto 4, 3) := by decide +kernel
theorem dX10_tells_45 : decode cX10_tells 45 = .ok (.iconst 0, 1) := by decide +kernel
theorem dX10_tells_46 : decode cX10_tells 46 = .ok (.ireturn, 1) := by decide +kernel
theorem dX10_state_0 : decode cX10_state 0 = .ok (.aload_n 0, 1) := by decide +kernel
theorem dX10_state_1 : decode cX10_state 1 = .ok (.iload_n 1, 1) := by decide +kernel
theorem dX10_state_2 : decode cX10_state 2 = .ok (.iconst 0, 1) := by decide +kernel
theorem dX10_state_3 : decode cX10_state 3 = .ok (.iconst 4, 1) := by decide +kernel
theorem dX10_state_4 : decode cX10_state 4 = .ok (.invokevirtual 96, 3) := by decide +kernel
theorem dX10_state_7 : decode cX10_state 7 = .ok (.istore_n 3, 1) := by decide +kernel
theorem dX10_state_8 : decode cX10_state 8 = .ok (.iload_n 3, 1) := by decide +kernel
theorem dX10_state_9 : decode cX10_state 9 = .ok (.ifCond .eq 5, 3) := by decide +kernel
theorem dX10_state_12 : decode cX10_state 12 = .ok (.iload_n 3, 1) := by decide +kernel
theorem dX10_state_13 : decode cX10_state 13 = .ok (.ireturn, 1) := by decide +kernel
theorem dX10_state_14 : decode cX10_state 14 = .ok (.iload_n 2, 1) := by decide +kernel
theorem dX10_state_15 : decode cX10_state 15 = .ok (.iconst 0, 1) := by decide +kernel
theorem dX10_state_16 : decode cX10_state 16 = .ok (.bipush 55, 2) := by decide +kernel
theorem dX10_state_18 : decode cX10_state 18 = .ok (.invokestatic 85, 3) := by decide +kernel
theorem dX10_state_21 : decode cX10_state 21 = .ok (.ifCond .ne 5, 3) := by decide +kernel
theorem dX10_state_24 : decode cX10_state 24 = .ok (.iconst (-1), 1) := by decide +kernel
theorem dX10_state_25 : decode cX10_state 25 = .ok (.ireturn, 1) := by decide +kernel
theorem dX10_state_26 : decode cX10_state 26 = .ok (.aload_n 0, 1) := by decide +kernel
theorem dX10_state_27 : decode cX10_state 27 = .ok (.getfield 9, 3) := by decide +kernel
theorem dX10_state_30 : decode cX10_state 30 = .ok (.iload_n 1, 1) := by decide +kernel
theorem dX10_state_31 : decode cX10_state 31 = .ok (.iaload, 1) := by decide +kernel
theorem dX10_state_32 : decode cX10_state 32 = .ok (.iconst 3, 1) := by decide +kernel
theorem dX10_state_33 : decode cX10_state 33 = .ok (.if_icmp .ne 19, 3) := by decide +kernel
theorem dX10_state_36 : decode cX10_state 36 = .ok (.aload_n 0, 1) := by decide +kernel
theorem dX10_state_37 : decode cX10_state 37 = .ok (.iload_n 1, 1) := by decide +kernel
theorem dX10_state_38 : decode cX10_state 38 = .ok (.iload_n 2, 1) := by decide +kernel
theorem dX10_state_39 : decode cX10_state 39 = .ok (.invokevirtual 141, 3) := by decide +kernel
theorem dX10_state_42 : decode cX10_state 42 = .ok (.iconst (-1), 1) := by decide +kernel
theorem dX10_state_43 : decode cX10_state 43 = .ok (.if_icmp .ne 7, 3) := by decide +kernel
theorem dX10_state_46 : decode cX10_state 46 = .ok (.iconst 0, 1) := by decide +kernel
theorem dX10_state_47 : decode cX10_state 47 = .ok (.goto 4, 3) := by decide +kernel
theorem dX10_state_50 : decode cX10_state 50 = .ok (.iconst 4, 1) := by decide +kernel
theorem dX10_state_51 : decode cX10_state 51 = .ok (.ireturn, 1) := by decide +kernel
theorem dX10_state_52 : decode cX10_state 52 = .ok (.aload_n 0, 1) := by decide +kernel
theorem dX10_state_53 : decode cX10_state 53 = .ok (.iload_n 1, 1) := by decide +kernel
theorem dX10_state_54 : decode cX10_state 54 = .ok (.iload_n 2, 1) := by decide +kernel
theorem dX10_state_55 : decode cX10_state 55 = .ok (.invokevirtual 129, 3) := by decide +kernel
theorem dX10_state_58 : decode cX10_state 58 = .ok (.iconst (-1), 1) := by decide +kernel
theorem dX10_state_59 : decode cX10_state 59 = .ok (.if_icmp .eq 5, 3) := by decide +kernel
theorem dX10_state_62 : decode cX10_state 62 = .ok (.iconst 1, 1) := by decide +kernel
theorem dX10_state_63 : decode cX10_state 63 = .ok (.ireturn, 1) := by decide +kernel
theorem dX10_state_64 : decode cX10_state 64 = .ok (.aload_n 0, 1) := by decide +kernel
theorem dX10_state_65 : decode cX10_state 65 = .ok (.iload_n 1, 1) := by decide +kernel
theorem dX10_state_66 : decode cX10_state 66 = .ok (.iload_n 2, 1) := by decide +kernel
theorem dX10_state_67 : decode cX10_state 67 = .ok (.invokevirtual 144, 3) := by decide +kernel
theorem dX10_state_70 : decode cX10_state 70 = .ok (.iconst (-1), 1) := by decide +kernel
theorem dX10_state_71 : decode cX10_state 71 = .ok (.if_icmp .eq 7, 3) := by decide +kernel
theorem dX10_state_74 : decode cX10_state 74 = .ok (.iconst 3, 1) := by decide +kernel
theorem dX10_state_75 : decode cX10_state 75 = .ok (.goto 18, 3) := by decide +kernel
theorem dX10_state_78 : decode cX10_state 78 = .ok (.aload_n 0, 1) := by decide +kernel
theorem dX10_state_79 : decode cX10_state 79 = .ok (.iload_n 1, 1) := by decide +kernel
theorem dX10_state_80 : decode cX10_state 80 = .ok (.iload_n 2, 1) := by decide +kernel
theorem dX10_state_81 : decode cX10_state 81 = .ok (.invokevirtual 116, 3) := by decide +kernel
theorem dX10_state_84 : decode cX10_state 84 = .ok (.iconst (-1), 1) := by decide +kernel
theorem dX10_state_85 : decode cX10_state 85 = .ok (.if_icmp .ne 7, 3) := by decide +kernel
theorem dX10_state_88 : decode cX10_state 88 = .ok (.iconst 0, 1) := by decide +kernel
theorem dX10_state_89 : decode cX10_state 89 = .ok (.goto 4, 3) := by decide +kernel
theorem dX10_state_92 : decode cX10_state 92 = .ok (.iconst 2, 1) := by decide +kernel
theorem dX10_state_93 : decode cX10_state 93 = .ok (.ireturn, 1) := by decide +kernel
theorem dX10_number0_0 : decode cX10_number0 0 = .ok (.aload_n 0, 1) := by decide +kernel
theorem dX10_number0_1 : decode cX10_number0 1 = .ok (.getfield 9, 3) := by decide +kernel
theorem dX10_number0_4 : decode cX10_number0 4 = .ok (.iload_n 1, 1) := by decide +kernel
theorem dX10_number0_5 : decode cX10_number0 5 = .ok (.iaload, 1) := by decide +kernel
theorem dX10_number0_6 : decode cX10_number0 6 = .ok (.iconst 3, 1) := by decide +kernel
theorem dX10_number0_7 : decode cX10_number0 7 = .ok (.if_icmp .ne 10, 3) := by decide +kernel
theorem dX10_number0_10 : decode cX10_number0 10 = .ok (.aload_n 0, 1) := by decide +kernel
theorem dX10_number0_11 : decode cX10_number0 11 = .ok (.iload_n 1, 1) := by decide +kernel
theorem dX10_number0_12 : decode cX10_number0 12 = .ok (.iload_n 2, 1) := by decide +kernel
theorem dX10_number0_13 : decode cX10_number0 13 = .ok (.invokevirtual 147, 3) := by decide +kernel
theorem dX10_number0_16 : decode cX10_number0 16 = .ok (.ireturn, 1) := by decide +kernel
theorem dX10_number0_17 : decode cX10_number0 17 = .ok (.aload_n 0, 1) := by decide +kernel
theorem dX10_number0_18 : decode cX10_number0 18 = .ok (.iload_n 1, 1) := by decide +kernel
theorem dX10_number0_19 : decode cX10_number0 19 = .ok (.iload_n 2, 1) := by decide +kernel
theorem dX10_number0_20 : decode cX10_number0 20 = .ok (.invokevirtual 129, 3) := by decide +kernel
theorem dX10_number0_23 : decode cX10_number0 23 = .ok (.istore_n 3, 1) := by decide +kernel
theorem dX10_number0_24 : decode cX10_number0 24 = .ok (.iload_n 3, 1) := by decide +kernel
theorem dX10_number0_25 : decode cX10_number0 25 = .ok (.iconst (-1), 1) := by decide +kernel
theorem dX10_number0_26 : decode cX10_number0 26 = .ok (.if_icmp .eq 5, 3) := by decide +kernel
theorem dX10_number0_29 : decode cX10_number0 29 = .ok (.iload_n 3, 1) := by decide +kernel
theorem dX10_number0_30 : decode cX10_number0 30 = .ok (.ireturn, 1) := by decide +kernel
theorem dX10_number0_31 : decode cX10_number0 31 = .ok (.aload_n 0, 1) := by decide +kernel
theorem dX10_number0_32 : decode cX10_number0 32 = .ok (.iload_n 1, 1) := by decide +kernel
theorem dX10_number0_33 : decode cX10_number0 33 = .ok (.iload_n 2, 1) := by decide +kernel
theorem dX10_number0_34 : decode cX10_number0 34 = .ok (.invokevirtual 144, 3) := by decide +kernel
theorem dX10_number0_37 : decode cX10_number0 37 = .ok (.istore_n 3, 1) := by decide +kernel
theorem dX10_number0_38 : decode cX10_number0 38 = .ok (.iload_n 3, 1) := by decide +kernel
theorem dX10_number0_39 : decode cX10_number0 39 = .ok (.iconst (-1), 1) := by decide +kernel
theorem dX10_number0_40 : decode cX10_number0 40 = .ok (.if_icmp .eq 7, 3) := by decide +kernel
theorem dX10_number0_43 : decode cX10_number0 43 = .ok (.iload_n 3, 1) := by decide +kernel
theorem dX10_number0_44 : decode cX10_number0 44 = .ok (.goto 9, 3) := by decide +kernel
theorem dX10_number0_47 : decode cX10_number0 47 = .ok (.aload_n 0, 1) := by decide +kernel
theorem dX10_number0_48 : decode cX10_number0 48 = .ok (.iload_n 1, 1) := by decide +kernel
theorem dX10_number0_49 : decode cX10_number0 49 = .ok (.iload_n 2, 1) := by decide +kernel
theorem dX10_number0_50 : decode cX10_number0 50 = .ok (.invokevirtual 116, 3) := by decide +kernel
theorem dX10_number0_53 : decode cX10_number0 53 = .ok (.ireturn, 1) := by decide +kernel
theorem dX10_number_0 : decode cX10_number 0 = .ok (.aload_n 0, 1) := by decide +kernel
theorem dX10_number_1 : decode cX10_number 1 = .ok (.iload_n 1, 1) := by decide +kernel
theorem dX10_number_2 : decode cX10_number 2 = .ok (.iconst 0, 1) := by decide +kernel
theorem dX10_number_3 : decode cX10_number 3 = .ok (.iconst 4, 1) := by decide +kernel
theorem dX10_number_4 : decode cX10_number 4 = .ok (.invokevirtual 96, 3) := by decide +kernel
theorem dX10_number_7 : decode cX10_number 7 = .ok (.istore_n 3, 1) := by decide +kernel
theorem dX10_number_8 : decode cX10_number 8 = .ok (.iload_n 3, 1) := by decide +kernel
theorem dX10_number_9 : decode cX10_number 9 = .ok (.ifCond .eq 7, 3) := by decide +kernel
theorem dX10_number_12 : decode cX10_number 12 = .ok (.iload_n 3, 1) := by decide +kernel
theorem dX10_number_13 : decode cX10_number 13 = .ok (.goto 23, 3) := by decide +kernel
theorem dX10_number_16 : decode cX10_number 16 = .ok (.iload_n 2, 1) := by decide +kernel
theorem dX10_number_17 : decode cX10_number 17 = .ok (.iconst 0, 1) := by decide +kernel
theorem dX10_number_18 : decode cX10_number 18 = .ok (.bipush 55, 2) := by decide +kernel
theorem dX10_number_20 : decode cX10_number 20 = .ok (.invokestatic 85, 3) := by decide +kernel
theorem dX10_number_23 : decode cX10_number 23 = .ok (.ifCond .eq 12, 3) := by decide +kernel
theorem dX10_number_26 : decode cX10_number 26 = .ok (.aload_n 0, 1) := by decide +kernel
theorem dX10_number_27 : decode cX10_number 27 = .ok (.iload_n 1, 1) := by decide +kernel
theorem dX10_number_28 : decode cX10_number 28 = .ok (.iload_n 2, 1) := by decide +kernel
theorem dX10_number_29 : decode cX10_number 29 = .ok (.invokevirtual 150, 3) := by decide +kernel
theorem dX10_number_32 : decode cX10_number 32 = .ok (.goto 4, 3) := by decide +kernel
theorem dX10_number_35 : decode cX10_number 35 = .ok (.iconst (-1), 1) := by decide +kernel
theorem dX10_number_36 : decode cX10_number 36 = .ok (.ireturn, 1) := by decide +kernel
theorem dX10_owner_0 : decode cX10_owner 0 = .ok (.iconst (-1), 1) := by decide +kernel
theorem dX10_owner_1 : decode cX10_owner 1 = .ok (.istore 4, 2) := by decide +kernel
theorem dX10_owner_3 : decode cX10_owner 3 = .ok (.iconst 0, 1) := by decide +kernel
theorem dX10_owner_4 : decode cX10_owner 4 = .ok (.istore 5, 2) := by decide +kernel
theorem dX10_owner_6 : decode cX10_owner 6 = .ok (.iload 5, 2) := by decide +kernel
theorem dX10_owner_8 : decode cX10_owner 8 = .ok (.bipush 16, 2) := by decide +kernel
theorem dX10_owner_10 : decode cX10_owner 10 = .ok (.if_icmp .ge 48, 3) := by decide +kernel
theorem dX10_owner_13 : decode cX10_owner 13 = .ok (.aload_n 0, 1) := by decide +kernel
theorem dX10_owner_14 : decode cX10_owner 14 = .ok (.iload 5, 2) := by decide +kernel
theorem dX10_owner_16 : decode cX10_owner 16 = .ok (.iload_n 3, 1) := by decide +kernel
theorem dX10_owner_17 : decode cX10_owner 17 = .ok (.invokevirtual 153, 3) := by decide +kernel
theorem dX10_owner_20 : decode cX10_owner 20 = .ok (.ifCond .eq 32, 3) := by decide +kernel
theorem dX10_owner_23 : decode cX10_owner 23 = .ok (.iload 4, 2) := by decide +kernel
theorem dX10_owner_25 : decode cX10_owner 25 = .ok (.iconst (-1), 1) := by decide +kernel
theorem dX10_owner_26 : decode cX10_owner 26 = .ok (.if_icmp .eq 22, 3) := by decide +kernel
theorem dX10_owner_29 : decode cX10_owner 29 = .ok (.aload_n 0, 1) := by decide +kernel
theorem dX10_owner_30 : decode cX10_owner 30 = .ok (.iload 5, 2) := by decide +kernel
theorem dX10_owner_32 : decode cX10_owner 32 = .ok (.iload_n 1, 1) := by decide +kernel
theorem dX10_owner_33 : decode cX10_owner 33 = .ok (.iload_n 2, 1) := by decide +kernel
theorem dX10_owner_34 : decode cX10_owner 34 = .ok (.invokevirtual 119, 3) := by decide +kernel
theorem dX10_owner_37 : decode cX10_owner 37 = .ok (.aload_n 0, 1) := by decide +kernel
theorem dX10_owner_38 : decode cX10_owner 38 = .ok (.iload 4, 2) := by decide +kernel
theorem dX10_owner_40 : decode cX10_owner 40 = .ok (.iload_n 1, 1) := by decide +kernel
theorem dX10_owner_41 : decode cX10_owner 41 = .ok (.iload_n 2, 1) := by decide +kernel
theorem dX10_owner_42 : decode cX10_owner 42 = .ok (.invokevirtual 119, 3) := by decide +kernel
theorem dX10_owner_45 : decode cX10_owner 45 = .ok (.if_icmp .ge 7, 3) := by decide +kernel
theorem dX10_owner_48 : decode cX10_owner 48 = .ok (.iload 5, 2) := by decide +kernel
theorem dX10_owner_50 : decode cX10_owner 50 = .ok (.istore 4, 2) := by decide +kernel
theorem dX10_owner_52 : decode cX10_owner 52 = .ok (.iinc 5 1, 3) := by decide +kernel
theorem dX10_owner_55 : decode cX10_owner 55 = .ok (.goto (-49), 3) := by decide +kernel
theorem dX10_owner_58 : decode cX10_owner 58 = .ok (.iload 4, 2) := by decide +kernel
theorem dX10_owner_60 : decode cX10_owner 60 = .ok (.ireturn, 1) := by decide +kernel
theorem dX10_part_0 : decode cX10_part 0 = .ok (.iload_n 1, 1) := by decide +kernel
theorem dX10_part_1 : decode cX10_part 1 = .ok (.iconst 0, 1) := by decide +kernel
theorem dX10_part_2 : decode cX10_part 2 = .ok (.bipush 9, 2) := by decide +kernel
theorem dX10_part_4 : decode cX10_part 4 = .ok (.invokestatic 85, 3) := by decide +kernel
theorem dX10_part_7 : decode cX10_part 7 = .ok (.ifCond .eq 33, 3) := by decide +kernel
theorem dX10_part_10 : decode cX10_part 10 = .ok (.iload_n 2, 1) := by decide +kernel
theorem dX10_part_11 : decode cX10_part 11 = .ok (.iconst 0, 1) := by decide +kernel
theorem dX10_part_12 : decode cX10_part 12 = .ok (.bipush 9, 2) := by decide +kernel
theorem dX10_part_14 : decode cX10_part 14 = .ok (.invokestatic 85, 3) := by decide +kernel
theorem dX10_part_17 : decode cX10_part 17 = .ok (.ifCond .eq 23, 3) := by decide +kernel
theorem dX10_part_20 : decode cX10_part 20 = .ok (.iload_n 3, 1) := by decide +kernel
theorem dX10_part_21 : decode cX10_part 21 = .ok (.iconst 0, 1) := by decide +kernel
theorem dX10_part_22 : decode cX10_part 22 = .ok (.bipush 55, 2) := by decide +kernel
theorem dX10_part_24 : decode cX10_part 24 = .ok (.invokestatic 85, 3) := by decide +kernel
theorem dX10_part_27 : decode cX10_part 27 = .ok (.ifCond .eq 13, 3) := by decide +kernel
theorem dX10_part_30 : decode cX10_part 30 = .ok (.aload_n 0, 1) := by decide +kernel
theorem dX10_part_31 : decode cX10_part 31 = .ok (.iload_n 1, 1) := by decide +kernel
theorem dX10_part_32 : decode cX10_part 32 = .ok (.iload_n 2, 1) := by decide +kernel
theorem dX10_part_33 : decode cX10_part 33 = .ok (.iload_n 3, 1) := by decide +kernel
theorem dX10_part_34 : decode cX10_part 34 = .ok (.invokevirtual 156, 3) := by decide +kernel
theorem dX10_part_37 : decode cX10_part 37 = .ok (.goto 4, 3) := by decide +kernel
theorem dX10_part_40 : decode cX10_part 40 = .ok (.iconst (-1), 1) := by decide +kernel
theorem dX10_part_41 : decode cX10_part 41 = .ok (.ireturn, 1) := by decide +kernel
theorem dX10_squares_0 : decode cX10_squares 0 = .ok (.aload_n 0, 1) := by decide +kernel
theorem dX10_squares_1 : decode cX10_squares 1 = .ok (.iload_n 1, 1) := by decide +kernel
theorem dX10_squares_2 : decode cX10_squares 2 = .ok (.iconst 0, 1) := by decide +kernel
theorem dX10_squares_3 : decode cX10_squares 3 = .ok (.iconst 4, 1) := by decide +kernel
theorem dX10_squares_4 : decode cX10_squares 4 = .ok (.invokevirtual 96, 3) := by decide +kernel
theorem dX10_squares_7 : decode cX10_squares 7 = .ok (.istore_n 3, 1) := by decide +kernel
theorem dX10_squares_8 : decode cX10_squares 8 = .ok (.iload_n 3, 1) := by decide +kernel
theorem dX10_squares_9 : decode cX10_squares 9 = .ok (.ifCond .eq 5, 3) := by decide +kernel
theorem dX10_squares_12 : decode cX10_squares 12 = .ok (.iload_n 3, 1) := by decide +kernel
theorem dX10_squares_13 : decode cX10_squares 13 = .ok (.ireturn, 1) := by decide +kernel
theorem dX10_squares_14 : decode cX10_squares 14 = .ok (.iload_n 2, 1) := by decide +kernel
theorem dX10_squares_15 : decode cX10_squares 15 = .ok (.iconst 0, 1) := by decide +kernel
