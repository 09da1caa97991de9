theorem dX10_squares_16 : decode cX10_squares 16 = .ok (.bipush 55, 2) := by decide +kernel
theorem dX10_squares_18 : decode cX10_squares 18 = .ok (.invokestatic 85, 3) := by decide +kernel
theorem dX10_squares_21 : decode cX10_squares 21 = .ok (.ifCond .ne 5, 3) := by decide +kernel
theorem dX10_squares_24 : decode cX10_squares 24 = .ok (.iconst (-1), 1) := by decide +kernel
theorem dX10_squares_25 : decode cX10_squares 25 = .ok (.ireturn, 1) := by decide +kernel
theorem dX10_squares_26 : decode cX10_squares 26 = .ok (.iconst 0, 1) := by decide +kernel
theorem dX10_squares_27 : decode cX10_squares 27 = .ok (.istore 4, 2) := by decide +kernel
theorem dX10_squares_29 : decode cX10_squares 29 = .ok (.iconst 0, 1) := by decide +kernel
theorem dX10_squares_30 : decode cX10_squares 30 = .ok (.istore 5, 2) := by decide +kernel
theorem dX10_squares_32 : decode cX10_squares 32 = .ok (.iload 5, 2) := by decide +kernel
theorem dX10_squares_34 : decode cX10_squares 34 = .ok (.bipush 100, 2) := by decide +kernel
theorem dX10_squares_36 : decode cX10_squares 36 = .ok (.if_icmp .ge 38, 3) := by decide +kernel
theorem dX10_squares_39 : decode cX10_squares 39 = .ok (.iload 4, 2) := by decide +kernel
theorem dX10_squares_41 : decode cX10_squares 41 = .ok (.aload_n 0, 1) := by decide +kernel
theorem dX10_squares_42 : decode cX10_squares 42 = .ok (.iload 5, 2) := by decide +kernel
theorem dX10_squares_44 : decode cX10_squares 44 = .ok (.bipush 10, 2) := by decide +kernel
theorem dX10_squares_46 : decode cX10_squares 46 = .ok (.idiv, 1) := by decide +kernel
theorem dX10_squares_47 : decode cX10_squares 47 = .ok (.iload 5, 2) := by decide +kernel
theorem dX10_squares_49 : decode cX10_squares 49 = .ok (.bipush 10, 2) := by decide +kernel
theorem dX10_squares_51 : decode cX10_squares 51 = .ok (.irem, 1) := by decide +kernel
theorem dX10_squares_52 : decode cX10_squares 52 = .ok (.iload_n 2, 1) := by decide +kernel
theorem dX10_squares_53 : decode cX10_squares 53 = .ok (.invokevirtual 156, 3) := by decide +kernel
theorem dX10_squares_56 : decode cX10_squares 56 = .ok (.iload_n 1, 1) := by decide +kernel
theorem dX10_squares_57 : decode cX10_squares 57 = .ok (.if_icmp .ne 7, 3) := by decide +kernel
theorem dX10_squares_60 : decode cX10_squares 60 = .ok (.iconst 1, 1) := by decide +kernel
theorem dX10_squares_61 : decode cX10_squares 61 = .ok (.goto 4, 3) := by decide +kernel
theorem dX10_squares_64 : decode cX10_squares 64 = .ok (.iconst 0, 1) := by decide +kernel
theorem dX10_squares_65 : decode cX10_squares 65 = .ok (.iadd, 1) := by decide +kernel
theorem dX10_squares_66 : decode cX10_squares 66 = .ok (.istore 4, 2) := by decide +kernel
theorem dX10_squares_68 : decode cX10_squares 68 = .ok (.iinc 5 1, 3) := by decide +kernel
theorem dX10_squares_71 : decode cX10_squares 71 = .ok (.goto (-39), 3) := by decide +kernel
theorem dX10_squares_74 : decode cX10_squares 74 = .ok (.iload 4, 2) := by decide +kernel
theorem dX10_squares_76 : decode cX10_squares 76 = .ok (.ireturn, 1) := by decide +kernel
theorem dX10_many_0 : decode cX10_many 0 = .ok (.iconst 0, 1) := by decide +kernel
theorem dX10_many_1 : decode cX10_many 1 = .ok (.istore_n 2, 1) := by decide +kernel
theorem dX10_many_2 : decode cX10_many 2 = .ok (.iconst 0, 1) := by decide +kernel
theorem dX10_many_3 : decode cX10_many 3 = .ok (.istore_n 3, 1) := by decide +kernel
theorem dX10_many_4 : decode cX10_many 4 = .ok (.iload_n 3, 1) := by decide +kernel
theorem dX10_many_5 : decode cX10_many 5 = .ok (.bipush 100, 2) := by decide +kernel
theorem dX10_many_7 : decode cX10_many 7 = .ok (.if_icmp .ge 31, 3) := by decide +kernel
theorem dX10_many_10 : decode cX10_many 10 = .ok (.iload_n 2, 1) := by decide +kernel
theorem dX10_many_11 : decode cX10_many 11 = .ok (.aload_n 0, 1) := by decide +kernel
theorem dX10_many_12 : decode cX10_many 12 = .ok (.getfield 68, 3) := by decide +kernel
theorem dX10_many_15 : decode cX10_many 15 = .ok (.bipush 100, 2) := by decide +kernel
theorem dX10_many_17 : decode cX10_many 17 = .ok (.iload_n 1, 1) := by decide +kernel
theorem dX10_many_18 : decode cX10_many 18 = .ok (.imul, 1) := by decide +kernel
theorem dX10_many_19 : decode cX10_many 19 = .ok (.iload_n 3, 1) := by decide +kernel
theorem dX10_many_20 : decode cX10_many 20 = .ok (.iadd, 1) := by decide +kernel
theorem dX10_many_21 : decode cX10_many 21 = .ok (.baload, 1) := by decide +kernel
theorem dX10_many_22 : decode cX10_many 22 = .ok (.ifCond .eq 7, 3) := by decide +kernel
theorem dX10_many_25 : decode cX10_many 25 = .ok (.iconst 1, 1) := by decide +kernel
theorem dX10_many_26 : decode cX10_many 26 = .ok (.goto 4, 3) := by decide +kernel
theorem dX10_many_29 : decode cX10_many 29 = .ok (.iconst 0, 1) := by decide +kernel
theorem dX10_many_30 : decode cX10_many 30 = .ok (.iadd, 1) := by decide +kernel
theorem dX10_many_31 : decode cX10_many 31 = .ok (.istore_n 2, 1) := by decide +kernel
theorem dX10_many_32 : decode cX10_many 32 = .ok (.iinc 3 1, 3) := by decide +kernel
theorem dX10_many_35 : decode cX10_many 35 = .ok (.goto (-31), 3) := by decide +kernel
theorem dX10_many_38 : decode cX10_many 38 = .ok (.iload_n 2, 1) := by decide +kernel
theorem dX10_many_39 : decode cX10_many 39 = .ok (.ireturn, 1) := by decide +kernel
theorem dX10_valley_0 : decode cX10_valley 0 = .ok (.iload_n 1, 1) := by decide +kernel
theorem dX10_valley_1 : decode cX10_valley 1 = .ok (.iconst 0, 1) := by decide +kernel
theorem dX10_valley_2 : decode cX10_valley 2 = .ok (.bipush 7, 2) := by decide +kernel
theorem dX10_valley_4 : decode cX10_valley 4 = .ok (.invokestatic 85, 3) := by decide +kernel
theorem dX10_valley_7 : decode cX10_valley 7 = .ok (.ifCond .eq 23, 3) := by decide +kernel
theorem dX10_valley_10 : decode cX10_valley 10 = .ok (.iload_n 2, 1) := by decide +kernel
theorem dX10_valley_11 : decode cX10_valley 11 = .ok (.iconst 0, 1) := by decide +kernel
theorem dX10_valley_12 : decode cX10_valley 12 = .ok (.bipush 9, 2) := by decide +kernel
theorem dX10_valley_14 : decode cX10_valley 14 = .ok (.invokestatic 85, 3) := by decide +kernel
theorem dX10_valley_17 : decode cX10_valley 17 = .ok (.ifCond .eq 13, 3) := by decide +kernel
theorem dX10_valley_20 : decode cX10_valley 20 = .ok (.iload_n 3, 1) := by decide +kernel
theorem dX10_valley_21 : decode cX10_valley 21 = .ok (.iconst 0, 1) := by decide +kernel
theorem dX10_valley_22 : decode cX10_valley 22 = .ok (.bipush 9, 2) := by decide +kernel
theorem dX10_valley_24 : decode cX10_valley 24 = .ok (.invokestatic 85, 3) := by decide +kernel
theorem dX10_valley_27 : decode cX10_valley 27 = .ok (.ifCond .ne 5, 3) := by decide +kernel
theorem dX10_valley_30 : decode cX10_valley 30 = .ok (.iconst (-1), 1) := by decide +kernel
theorem dX10_valley_31 : decode cX10_valley 31 = .ok (.ireturn, 1) := by decide +kernel
theorem dX10_valley_32 : decode cX10_valley 32 = .ok (.aload_n 0, 1) := by decide +kernel
theorem dX10_valley_33 : decode cX10_valley 33 = .ok (.getfield 68, 3) := by decide +kernel
theorem dX10_valley_36 : decode cX10_valley 36 = .ok (.bipush 100, 2) := by decide +kernel
theorem dX10_valley_38 : decode cX10_valley 38 = .ok (.iload_n 1, 1) := by decide +kernel
theorem dX10_valley_39 : decode cX10_valley 39 = .ok (.imul, 1) := by decide +kernel
theorem dX10_valley_40 : decode cX10_valley 40 = .ok (.bipush 10, 2) := by decide +kernel
theorem dX10_valley_42 : decode cX10_valley 42 = .ok (.iload_n 2, 1) := by decide +kernel
theorem dX10_valley_43 : decode cX10_valley 43 = .ok (.imul, 1) := by decide +kernel
theorem dX10_valley_44 : decode cX10_valley 44 = .ok (.iadd, 1) := by decide +kernel
theorem dX10_valley_45 : decode cX10_valley 45 = .ok (.iload_n 3, 1) := by decide +kernel
theorem dX10_valley_46 : decode cX10_valley 46 = .ok (.iadd, 1) := by decide +kernel
theorem dX10_valley_47 : decode cX10_valley 47 = .ok (.iload 4, 2) := by decide +kernel
theorem dX10_valley_49 : decode cX10_valley 49 = .ok (.bastore, 1) := by decide +kernel
theorem dX10_valley_50 : decode cX10_valley 50 = .ok (.aload_n 0, 1) := by decide +kernel
theorem dX10_valley_51 : decode cX10_valley 51 = .ok (.iload_n 1, 1) := by decide +kernel
theorem dX10_valley_52 : decode cX10_valley 52 = .ok (.invokevirtual 159, 3) := by decide +kernel
theorem dX10_valley_55 : decode cX10_valley 55 = .ok (.ireturn, 1) := by decide +kernel
theorem dX10_isTold_0 : decode cX10_isTold 0 = .ok (.iconst 0, 1) := by decide +kernel
theorem dX10_isTold_1 : decode cX10_isTold 1 = .ok (.istore_n 2, 1) := by decide +kernel
theorem dX10_isTold_2 : decode cX10_isTold 2 = .ok (.iconst 0, 1) := by decide +kernel
theorem dX10_isTold_3 : decode cX10_isTold 3 = .ok (.istore_n 3, 1) := by decide +kernel
theorem dX10_isTold_4 : decode cX10_isTold 4 = .ok (.iload_n 3, 1) := by decide +kernel
theorem dX10_isTold_5 : decode cX10_isTold 5 = .ok (.bipush 16, 2) := by decide +kernel
theorem dX10_isTold_7 : decode cX10_isTold 7 = .ok (.if_icmp .ge 28, 3) := by decide +kernel
theorem dX10_isTold_10 : decode cX10_isTold 10 = .ok (.iload_n 2, 1) := by decide +kernel
theorem dX10_isTold_11 : decode cX10_isTold 11 = .ok (.ifCond .ne 12, 3) := by decide +kernel
theorem dX10_isTold_14 : decode cX10_isTold 14 = .ok (.aload_n 0, 1) := by decide +kernel
theorem dX10_isTold_15 : decode cX10_isTold 15 = .ok (.iload_n 3, 1) := by decide +kernel
theorem dX10_isTold_16 : decode cX10_isTold 16 = .ok (.iload_n 1, 1) := by decide +kernel
theorem dX10_isTold_17 : decode cX10_isTold 17 = .ok (.invokevirtual 153, 3) := by decide +kernel
theorem dX10_isTold_20 : decode cX10_isTold 20 = .ok (.ifCond .eq 7, 3) := by decide +kernel
theorem dX10_isTold_23 : decode cX10_isTold 23 = .ok (.iconst 1, 1) := by decide +kernel
theorem dX10_isTold_24 : decode cX10_isTold 24 = .ok (.goto 4, 3) := by decide +kernel
theorem dX10_isTold_27 : decode cX10_isTold 27 = .ok (.iconst 0, 1) := by decide +kernel
theorem dX10_isTold_28 : decode cX10_isTold 28 = .ok (.istore_n 2, 1) := by decide +kernel
theorem dX10_isTold_29 : decode cX10_isTold 29 = .ok (.iinc 3 1, 3) := by decide +kernel
theorem dX10_isTold_32 : decode cX10_isTold 32 = .ok (.goto (-28), 3) := by decide +kernel
theorem dX10_isTold_35 : decode cX10_isTold 35 = .ok (.iload_n 2, 1) := by decide +kernel
theorem dX10_isTold_36 : decode cX10_isTold 36 = .ok (.ireturn, 1) := by decide +kernel
theorem dX10_rain0_0 : decode cX10_rain0 0 = .ok (.iload_n 2, 1) := by decide +kernel
theorem dX10_rain0_1 : decode cX10_rain0 1 = .ok (.iconst 0, 1) := by decide +kernel
theorem dX10_rain0_2 : decode cX10_rain0 2 = .ok (.bipush 55, 2) := by decide +kernel
theorem dX10_rain0_4 : decode cX10_rain0 4 = .ok (.invokestatic 85, 3) := by decide +kernel
theorem dX10_rain0_7 : decode cX10_rain0 7 = .ok (.ifCond .eq 19, 3) := by decide +kernel
theorem dX10_rain0_10 : decode cX10_rain0 10 = .ok (.aload_n 0, 1) := by decide +kernel
theorem dX10_rain0_11 : decode cX10_rain0 11 = .ok (.iload_n 1, 1) := by decide +kernel
theorem dX10_rain0_12 : decode cX10_rain0 12 = .ok (.invokevirtual 159, 3) := by decide +kernel
theorem dX10_rain0_15 : decode cX10_rain0 15 = .ok (.ifCond .eq 11, 3) := by decide +kernel
theorem dX10_rain0_18 : decode cX10_rain0 18 = .ok (.aload_n 0, 1) := by decide +kernel
theorem dX10_rain0_19 : decode cX10_rain0 19 = .ok (.iload_n 2, 1) := by decide +kernel
theorem dX10_rain0_20 : decode cX10_rain0 20 = .ok (.invokevirtual 162, 3) := by decide +kernel
theorem dX10_rain0_23 : decode cX10_rain0 23 = .ok (.ifCond .ne 5, 3) := by decide +kernel
theorem dX10_rain0_26 : decode cX10_rain0 26 = .ok (.iconst (-1), 1) := by decide +kernel
theorem dX10_rain0_27 : decode cX10_rain0 27 = .ok (.ireturn, 1) := by decide +kernel
theorem dX10_rain0_28 : decode cX10_rain0 28 = .ok (.iconst 0, 1) := by decide +kernel
theorem dX10_rain0_29 : decode cX10_rain0 29 = .ok (.istore_n 3, 1) := by decide +kernel
theorem dX10_rain0_30 : decode cX10_rain0 30 = .ok (.iconst 0, 1) := by decide +kernel
theorem dX10_rain0_31 : decode cX10_rain0 31 = .ok (.istore 4, 2) := by decide +kernel
theorem dX10_rain0_33 : decode cX10_rain0 33 = .ok (.iload 4, 2) := by decide +kernel
theorem dX10_rain0_35 : decode cX10_rain0 35 = .ok (.bipush 100, 2) := by decide +kernel
theorem dX10_rain0_37 : decode cX10_rain0 37 = .ok (.if_icmp .ge 47, 3) := by decide +kernel
theorem dX10_rain0_40 : decode cX10_rain0 40 = .ok (.aload_n 0, 1) := by decide +kernel
theorem dX10_rain0_41 : decode cX10_rain0 41 = .ok (.getfield 68, 3) := by decide +kernel
theorem dX10_rain0_44 : decode cX10_rain0 44 = .ok (.bipush 100, 2) := by decide +kernel
theorem dX10_rain0_46 : decode cX10_rain0 46 = .ok (.iload_n 1, 1) := by decide +kernel
theorem dX10_rain0_47 : decode cX10_rain0 47 = .ok (.imul, 1) := by decide +kernel
theorem dX10_rain0_48 : decode cX10_rain0 48 = .ok (.iload 4, 2) := by decide +kernel
theorem dX10_rain0_50 : decode cX10_rain0 50 = .ok (.iadd, 1) := by decide +kernel
theorem dX10_rain0_51 : decode cX10_rain0 51 = .ok (.baload, 1) := by decide +kernel
theorem dX10_rain0_52 : decode cX10_rain0 52 = .ok (.ifCond .eq 26, 3) := by decide +kernel
theorem dX10_rain0_55 : decode cX10_rain0 55 = .ok (.iload_n 3, 1) := by decide +kernel
theorem dX10_rain0_56 : decode cX10_rain0 56 = .ok (.aload_n 0, 1) := by decide +kernel
theorem dX10_rain0_57 : decode cX10_rain0 57 = .ok (.aload_n 0, 1) := by decide +kernel
theorem dX10_rain0_58 : decode cX10_rain0 58 = .ok (.iload 4, 2) := by decide +kernel
theorem dX10_rain0_60 : decode cX10_rain0 60 = .ok (.bipush 10, 2) := by decide +kernel
theorem dX10_rain0_62 : decode cX10_rain0 62 = .ok (.idiv, 1) := by decide +kernel
theorem dX10_rain0_63 : decode cX10_rain0 63 = .ok (.iload 4, 2) := by decide +kernel
theorem dX10_rain0_65 : decode cX10_rain0 65 = .ok (.bipush 10, 2) := by decide +kernel
theorem dX10_rain0_67 : decode cX10_rain0 67 = .ok (.irem, 1) := by decide +kernel
theorem dX10_rain0_68 : decode cX10_rain0 68 = .ok (.iload_n 2, 1) := by decide +kernel
theorem dX10_rain0_69 : decode cX10_rain0 69 = .ok (.invokevirtual 156, 3) := by decide +kernel
theorem dX10_rain0_72 : decode cX10_rain0 72 = .ok (.iload_n 2, 1) := by decide +kernel
theorem dX10_rain0_73 : decode cX10_rain0 73 = .ok (.invokevirtual 150, 3) := by decide +kernel
theorem dX10_rain0_76 : decode cX10_rain0 76 = .ok (.iadd, 1) := by decide +kernel
theorem dX10_rain0_77 : decode cX10_rain0 77 = .ok (.istore_n 3, 1) := by decide +kernel
theorem dX10_rain0_78 : decode cX10_rain0 78 = .ok (.iinc 4 1, 3) := by decide +kernel
theorem dX10_rain0_81 : decode cX10_rain0 81 = .ok (.goto (-48), 3) := by decide +kernel
theorem dX10_rain0_84 : decode cX10_rain0 84 = .ok (.iload_n 3, 1) := by decide +kernel
theorem dX10_rain0_85 : decode cX10_rain0 85 = .ok (.ireturn, 1) := by decide +kernel
theorem dX10_rain_0 : decode cX10_rain 0 = .ok (.iload_n 1, 1) := by decide +kernel
theorem dX10_rain_1 : decode cX10_rain 1 = .ok (.iconst 0, 1) := by decide +kernel
theorem dX10_rain_2 : decode cX10_rain 2 = .ok (.bipush 7, 2) := by decide +kernel
theorem dX10_rain_4 : decode cX10_rain 4 = .ok (.invokestatic 85, 3) := by decide +kernel
theorem dX10_rain_7 : decode cX10_rain 7 = .ok (.ifCond .eq 12, 3) := by decide +kernel
theorem dX10_rain_10 : decode cX10_rain 10 = .ok (.aload_n 0, 1) := by decide +kernel
theorem dX10_rain_11 : decode cX10_rain 11 = .ok (.iload_n 1, 1) := by decide +kernel
theorem dX10_rain_12 : decode cX10_rain 12 = .ok (.iload_n 2, 1) := by decide +kernel
theorem dX10_rain_13 : decode cX10_rain 13 = .ok (.invokevirtual 165, 3) := by decide +kernel
theorem dX10_rain_16 : decode cX10_rain 16 = .ok (.goto 4, 3) := by decide +kernel
theorem dX10_rain_19 : decode cX10_rain 19 = .ok (.iconst (-1), 1) := by decide +kernel
theorem dX10_rain_20 : decode cX10_rain 20 = .ok (.ireturn, 1) := by decide +kernel
theorem dX10_mean_0 : decode cX10_mean 0 = .ok (.iload_n 1, 1) := by decide +kernel
theorem dX10_mean_1 : decode cX10_mean 1 = .ok (.iconst 0, 1) := by decide +kernel
theorem dX10_mean_2 : decode cX10_mean 2 = .ok (.bipush 7, 2) := by decide +kernel
theorem dX10_mean_4 : decode cX10_mean 4 = .ok (.invokestatic 85, 3) := by decide +kernel
theorem dX10_mean_7 : decode cX10_mean 7 = .ok (.ifCond .eq 13, 3) := by decide +kernel
theorem dX10_mean_10 : decode cX10_mean 10 = .ok (.aload_n 0, 1) := by decide +kernel
theorem dX10_mean_11 : decode cX10_mean 11 = .ok (.iload_n 1, 1) := by decide +kernel
theorem dX10_mean_12 : decode cX10_mean 12 = .ok (.iload_n 2, 1) := by decide +kernel
theorem dX10_mean_13 : decode cX10_mean 13 = .ok (.invokevirtual 165, 3) := by decide +kernel
theorem dX10_mean_16 : decode cX10_mean 16 = .ok (.iconst (-1), 1) := by decide +kernel
theorem dX10_mean_17 : decode cX10_mean 17 = .ok (.if_icmp .ne 5, 3) := by decide +kernel
theorem dX10_mean_20 : decode cX10_mean 20 = .ok (.iconst (-1), 1) := by decide +kernel
theorem dX10_mean_21 : decode cX10_mean 21 = .ok (.ireturn, 1) := by decide +kernel
theorem dX10_mean_22 : decode cX10_mean 22 = .ok (.aload_n 0, 1) := by decide +kernel
theorem dX10_mean_23 : decode cX10_mean 23 = .ok (.iload_n 1, 1) := by decide +kernel
theorem dX10_mean_24 : decode cX10_mean 24 = .ok (.iload_n 2, 1) := by decide +kernel
theorem dX10_mean_25 : decode cX10_mean 25 = .ok (.invokevirtual 165, 3) := by decide +kernel
theorem dX10_mean_28 : decode cX10_mean 28 = .ok (.i2l, 1) := by decide +kernel
theorem dX10_mean_29 : decode cX10_mean 29 = .ok (.ldc2_w 139, 3) := by decide +kernel
theorem dX10_mean_32 : decode cX10_mean 32 = .ok (.lmul, 1) := by decide +kernel
theorem dX10_mean_33 : decode cX10_mean 33 = .ok (.aload_n 0, 1) := by decide +kernel
theorem dX10_mean_34 : decode cX10_mean 34 = .ok (.iload_n 1, 1) := by decide +kernel
theorem dX10_mean_35 : decode cX10_mean 35 = .ok (.invokevirtual 159, 3) := by decide +kernel
theorem dX10_mean_38 : decode cX10_mean 38 = .ok (.i2l, 1) := by decide +kernel
theorem dX10_mean_39 : decode cX10_mean 39 = .ok (.ldiv, 1) := by decide +kernel
theorem dX10_mean_40 : decode cX10_mean 40 = .ok (.l2i, 1) := by decide +kernel
theorem dX10_mean_41 : decode cX10_mean 41 = .ok (.ireturn, 1) := by decide +kernel
theorem dX10_flow0_0 : decode cX10_flow0 0 = .ok (.lconst 0, 1) := by decide +kernel
theorem dX10_flow0_1 : decode cX10_flow0 1 = .ok (.lstore_n 3, 1) := by decide +kernel
theorem dX10_flow0_2 : decode cX10_flow0 2 = .ok (.iconst 0, 1) := by decide +kernel
theorem dX10_flow0_3 : decode cX10_flow0 3 = .ok (.istore 5, 2) := by decide +kernel
theorem dX10_flow0_5 : decode cX10_flow0 5 = .ok (.iload 5, 2) := by decide +kernel
theorem dX10_flow0_7 : decode cX10_flow0 7 = .ok (.bipush 8, 2) := by decide +kernel
theorem dX10_flow0_9 : decode cX10_flow0 9 = .ok (.if_icmp .ge 59, 3) := by decide +kernel
theorem dX10_flow0_12 : decode cX10_flow0 12 = .ok (.aload_n 0, 1) := by decide +kernel
theorem dX10_flow0_13 : decode cX10_flow0 13 = .ok (.getfield 65, 3) := by decide +kernel
theorem dX10_flow0_16 : decode cX10_flow0 16 = .ok (.iload 5, 2) := by decide +kernel
theorem dX10_flow0_18 : decode cX10_flow0 18 = .ok (.iaload, 1) := by decide +kernel
theorem dX10_flow0_19 : decode cX10_flow0 19 = .ok (.ifCond .ne 7, 3) := by decide +kernel
theorem dX10_flow0_22 : decode cX10_flow0 22 = .ok (.iconst (-1), 1) := by decide +kernel
theorem dX10_flow0_23 : decode cX10_flow0 23 = .ok (.goto 12, 3) := by decide +kernel
theorem dX10_flow0_26 : decode cX10_flow0 26 = .ok (.aload_n 0, 1) := by decide +kernel
theorem dX10_flow0_27 : decode cX10_flow0 27 = .ok (.iload_n 1, 1) := by decide +kernel
theorem dX10_flow0_28 : decode cX10_flow0 28 = .ok (.iload_n 2, 1) := by decide +kernel
theorem dX10_flow0_29 : decode cX10_flow0 29 = .ok (.iload 5, 2) := by decide +kernel
theorem dX10_flow0_31 : decode cX10_flow0 31 = .ok (.isub, 1) := by decide +kernel
theorem dX10_flow0_32 : decode cX10_flow0 32 = .ok (.invokevirtual 165, 3) := by decide +kernel
theorem dX10_flow0_35 : decode cX10_flow0 35 = .ok (.istore 6, 2) := by decide +kernel
theorem dX10_flow0_37 : decode cX10_flow0 37 = .ok (.lload_n 3, 1) := by decide +kernel
theorem dX10_flow0_38 : decode cX10_flow0 38 = .ok (.iload 6, 2) := by decide +kernel
theorem dX10_flow0_40 : decode cX10_flow0 40 = .ok (.iconst (-1), 1) := by decide +kernel
theorem dX10_flow0_41 : decode cX10_flow0 41 = .ok (.if_icmp .ne 7, 3) := by decide +kernel
theorem dX10_flow0_44 : decode cX10_flow0 44 = .ok (.lconst 0, 1) := by decide +kernel
theorem dX10_flow0_45 : decode cX10_flow0 45 = .ok (.goto 15, 3) := by decide +kernel
theorem dX10_flow0_48 : decode cX10_flow0 48 = .ok (.iload 6, 2) := by decide +kernel
theorem dX10_flow0_50 : decode cX10_flow0 50 = .ok (.i2l, 1) := by decide +kernel
theorem dX10_flow0_51 : decode cX10_flow0 51 = .ok (.aload_n 0, 1) := by decide +kernel
theorem dX10_flow0_52 : decode cX10_flow0 52 = .ok (.getfield 65, 3) := by decide +kernel
theorem dX10_flow0_55 : decode cX10_flow0 55 = .ok (.iload 5, 2) := by decide +kernel
theorem dX10_flow0_57 : decode cX10_flow0 57 = .ok (.iaload, 1) := by decide +kernel
theorem dX10_flow0_58 : decode cX10_flow0 58 = .ok (.i2l, 1) := by decide +kernel
theorem dX10_flow0_59 : decode cX10_flow0 59 = .ok (.lmul, 1) := by decide +kernel
theorem dX10_flow0_60 : decode cX10_flow0 60 = .ok (.ladd, 1) := by decide +kernel
theorem dX10_flow0_61 : decode cX10_flow0 61 = .ok (.lstore_n 3, 1) := by decide +kernel
theorem dX10_flow0_62 : decode cX10_flow0 62 = .ok (.iinc 5 1, 3) := by decide +kernel
theorem dX10_flow0_65 : decode cX10_flow0 65 = .ok (.goto (-60), 3) := by decide +kernel
theorem dX10_flow0_68 : decode cX10_flow0 68 = .ok (.lload_n 3, 1) := by decide +kernel
theorem dX10_flow0_69 : decode cX10_flow0 69 = .ok (.lreturn, 1) := by decide +kernel
theorem dX10_flow_0 : decode cX10_flow 0 = .ok (.iload_n 1, 1) := by decide +kernel
theorem dX10_flow_1 : decode cX10_flow 1 = .ok (.iconst 0, 1) := by decide +kernel
theorem dX10_flow_2 : decode cX10_flow 2 = .ok (.bipush 7, 2) := by decide +kernel
theorem dX10_flow_4 : decode cX10_flow 4 = .ok (.invokestatic 85, 3) := by decide +kernel
theorem dX10_flow_7 : decode cX10_flow 7 = .ok (.ifCond .eq 22, 3) := by decide +kernel
theorem dX10_flow_10 : decode cX10_flow 10 = .ok (.iload_n 2, 1) := by decide +kernel
theorem dX10_flow_11 : decode cX10_flow 11 = .ok (.iconst 0, 1) := by decide +kernel
theorem dX10_flow_12 : decode cX10_flow 12 = .ok (.bipush 63, 2) := by decide +kernel
theorem dX10_flow_14 : decode cX10_flow 14 = .ok (.invokestatic 85, 3) := by decide +kernel
theorem dX10_flow_17 : decode cX10_flow 17 = .ok (.ifCond .eq 12, 3) := by decide +kernel
theorem dX10_flow_20 : decode cX10_flow 20 = .ok (.aload_n 0, 1) := by decide +kernel
theorem dX10_flow_21 : decode cX10_flow 21 = .ok (.iload_n 1, 1) := by decide +kernel
theorem dX10_flow_22 : decode cX10_flow 22 = .ok (.iload_n 2, 1) := by decide +kernel
theorem dX10_flow_23 : decode cX10_flow 23 = .ok (.invokevirtual 168, 3) := by decide +kernel
theorem dX10_flow_26 : decode cX10_flow 26 = .ok (.goto 6, 3) := by decide +kernel
theorem dX10_flow_29 : decode cX10_flow 29 = .ok (.ldc2_w 172, 3) := by decide +kernel
theorem dX10_flow_32 : decode cX10_flow 32 = .ok (.lreturn, 1) := by decide +kernel
theorem dX10_ahead_0 : decode cX10_ahead 0 = .ok (.iload_n 1, 1) := by decide +kernel
theorem dX10_ahead_1 : decode cX10_ahead 1 = .ok (.iconst 0, 1) := by decide +kernel
theorem dX10_ahead_2 : decode cX10_ahead 2 = .ok (.bipush 7, 2) := by decide +kernel
theorem dX10_ahead_4 : decode cX10_ahead 4 = .ok (.invokestatic 85, 3) := by decide +kernel
theorem dX10_ahead_7 : decode cX10_ahead 7 = .ok (.ifCond .ne 5, 3) := by decide +kernel
theorem dX10_ahead_10 : decode cX10_ahead 10 = .ok (.iconst (-1), 1) := by decide +kernel
theorem dX10_ahead_11 : decode cX10_ahead 11 = .ok (.ireturn, 1) := by decide +kernel
theorem dX10_ahead_12 : decode cX10_ahead 12 = .ok (.aload_n 0, 1) := by decide +kernel
theorem dX10_ahead_13 : decode cX10_ahead 13 = .ok (.getfield 89, 3) := by decide +kernel
theorem dX10_ahead_16 : decode cX10_ahead 16 = .ok (.istore 4, 2) := by decide +kernel
theorem dX10_ahead_18 : decode cX10_ahead 18 = .ok (.iload 4, 2) := by decide +kernel
theorem dX10_ahead_20 : decode cX10_ahead 20 = .ok (.bipush 64, 2) := by decide +kernel
theorem dX10_ahead_22 : decode cX10_ahead 22 = .ok (.if_icmp .ge 24, 3) := by decide +kernel
theorem dX10_ahead_25 : decode cX10_ahead 25 = .ok (.aload_n 0, 1) := by decide +kernel
theorem dX10_ahead_26 : decode cX10_ahead 26 = .ok (.iload_n 1, 1) := by decide +kernel
theorem dX10_ahead_27 : decode cX10_ahead 27 = .ok (.iload 4, 2) := by decide +kernel
theorem dX10_ahead_29 : decode cX10_ahead 29 = .ok (.invokevirtual 168, 3) := by decide +kernel
theorem dX10_ahead_32 : decode cX10_ahead 32 = .ok (.lload_n 2, 1) := by decide +kernel
theorem dX10_ahead_33 : decode cX10_ahead 33 = .ok (.lcmp, 1) := by decide +kernel
theorem dX10_ahead_34 : decode cX10_ahead 34 = .ok (.ifCond .le 6, 3) := by decide +kernel
theorem dX10_ahead_37 : decode cX10_ahead 37 = .ok (.iload 4, 2) := by decide +kernel
theorem dX10_ahead_39 : decode cX10_ahead 39 = .ok (.ireturn, 1) := by decide +kernel
theorem dX10_ahead_40 : decode cX10_ahead 40 = .ok (.iinc 4 1, 3) := by decide +kernel
theorem dX10_ahead_43 : decode cX10_ahead 43 = .ok (.goto (-25), 3) := by decide +kernel
theorem dX10_ahead_46 : decode cX10_ahead 46 = .ok (.iconst (-1), 1) := by decide +kernel
theorem dX10_ahead_47 : decode cX10_ahead 47 = .ok (.ireturn, 1) := by decide +kernel
theorem dX10_weekOf_0 : decode cX10_weekOf 0 = .ok (.lconst 0, 1) := by decide +kernel
theorem dX10_weekOf_1 : decode cX10_weekOf 1 = .ok (.lstore 4, 2) := by decide +kernel
theorem dX10_weekOf_3 : decode cX10_weekOf 3 = .ok (.bipush 7, 2) := by decide +kernel
theorem dX10_weekOf_5 : decode cX10_weekOf 5 = .ok (.iload_n 2, 1) := by decide +kernel
theorem dX10_weekOf_6 : decode cX10_weekOf 6 = .ok (.imul, 1) := by decide +kernel
theorem dX10_weekOf_7 : decode cX10_weekOf 7 = .ok (.istore 6, 2) := by decide +kernel
theorem dX10_weekOf_9 : decode cX10_weekOf 9 = .ok (.iload 6, 2) := by decide +kernel
theorem dX10_weekOf_11 : decode cX10_weekOf 11 = .ok (.bipush 7, 2) := by decide +kernel
theorem dX10_weekOf_13 : decode cX10_weekOf 13 = .ok (.iload_n 2, 1) := by decide +kernel
theorem dX10_weekOf_14 : decode cX10_weekOf 14 = .ok (.imul, 1) := by decide +kernel
theorem dX10_weekOf_15 : decode cX10_weekOf 15 = .ok (.bipush 7, 2) := by decide +kernel
theorem dX10_weekOf_17 : decode cX10_weekOf 17 = .ok (.iadd, 1) := by decide +kernel
theorem dX10_weekOf_18 : decode cX10_weekOf 18 = .ok (.if_icmp .ge 152, 3) := by decide +kernel
theorem dX10_weekOf_21 : decode cX10_weekOf 21 = .ok (.aload_n 0, 1) := by decide +kernel
theorem dX10_weekOf_22 : decode cX10_weekOf 22 = .ok (.iload_n 1, 1) := by decide +kernel
theorem dX10_weekOf_23 : decode cX10_weekOf 23 = .ok (.invokevirtual 125, 3) := by decide +kernel
theorem dX10_weekOf_26 : decode cX10_weekOf 26 = .ok (.istore 7, 2) := by decide +kernel
theorem dX10_weekOf_28 : decode cX10_weekOf 28 = .ok (.iconst 0, 1) := by decide +kernel
theorem dX10_weekOf_29 : decode cX10_weekOf 29 = .ok (.istore 8, 2) := by decide +kernel
theorem dX10_weekOf_31 : decode cX10_weekOf 31 = .ok (.aload_n 0, 1) := by decide +kernel
theorem dX10_weekOf_32 : decode cX10_weekOf 32 = .ok (.iload_n 1, 1) := by decide +kernel
theorem dX10_weekOf_33 : decode cX10_weekOf 33 = .ok (.iload 6, 2) := by decide +kernel
theorem dX10_weekOf_35 : decode cX10_weekOf 35 = .ok (.invokevirtual 129, 3) := by decide +kernel
theorem dX10_weekOf_38 : decode cX10_weekOf 38 = .ok (.iconst (-1), 1) := by decide +kernel
theorem dX10_weekOf_39 : decode cX10_weekOf 39 = .ok (.if_icmp .eq 7, 3) := by decide +kernel
theorem dX10_weekOf_42 : decode cX10_weekOf 42 = .ok (.iconst 1, 1) := by decide +kernel
theorem dX10_weekOf_43 : decode cX10_weekOf 43 = .ok (.goto 4, 3) := by decide +kernel
theorem dX10_weekOf_46 : decode cX10_weekOf 46 = .ok (.iconst 0, 1) := by decide +kernel
theorem dX10_weekOf_47 : decode cX10_weekOf 47 = .ok (.istore 9, 2) := by decide +kernel
theorem dX10_weekOf_49 : decode cX10_weekOf 49 = .ok (.lconst 0, 1) := by decide +kernel
theorem dX10_weekOf_50 : decode cX10_weekOf 50 = .ok (.lstore 10, 2) := by decide +kernel
theorem dX10_weekOf_52 : decode cX10_weekOf 52 = .ok (.iconst 0, 1) := by decide +kernel
theorem dX10_weekOf_53 : decode cX10_weekOf 53 = .ok (.istore 12, 2) := by decide +kernel
theorem dX10_weekOf_55 : decode cX10_weekOf 55 = .ok (.iload 12, 2) := by decide +kernel
theorem dX10_weekOf_57 : decode cX10_weekOf 57 = .ok (.iload 7, 2) := by decide +kernel
theorem dX10_weekOf_59 : decode cX10_weekOf 59 = .ok (.if_icmp .ge 78, 3) := by decide +kernel
theorem dX10_weekOf_62 : decode cX10_weekOf 62 = .ok (.iload 8, 2) := by decide +kernel
theorem dX10_weekOf_64 : decode cX10_weekOf 64 = .ok (.iconst 4, 1) := by decide +kernel
theorem dX10_weekOf_65 : decode cX10_weekOf 65 = .ok (.if_icmp .ge 72, 3) := by decide +kernel
theorem dX10_weekOf_68 : decode cX10_weekOf 68 = .ok (.aload_n 0, 1) := by decide +kernel
theorem dX10_weekOf_69 : decode cX10_weekOf 69 = .ok (.getfield 9, 3) := by decide +kernel
theorem dX10_weekOf_72 : decode cX10_weekOf 72 = .ok (.aload_n 0, 1) := by decide +kernel
theorem dX10_weekOf_73 : decode cX10_weekOf 73 = .ok (.getfield 72, 3) := by decide +kernel
theorem dX10_weekOf_76 : decode cX10_weekOf 76 = .ok (.iload 12, 2) := by decide +kernel
theorem dX10_weekOf_78 : decode cX10_weekOf 78 = .ok (.iaload, 1) := by decide +kernel
theorem dX10_weekOf_79 : decode cX10_weekOf 79 = .ok (.iaload, 1) := by decide +kernel
theorem dX10_weekOf_80 : decode cX10_weekOf 80 = .ok (.iconst 3, 1) := by decide +kernel
theorem dX10_weekOf_81 : decode cX10_weekOf 81 = .ok (.if_icmp .ne 6, 3) := by decide +kernel
theorem dX10_weekOf_84 : decode cX10_weekOf 84 = .ok (.goto 47, 3) := by decide +kernel
theorem dX10_weekOf_87 : decode cX10_weekOf 87 = .ok (.iinc 8 1, 3) := by decide +kernel
theorem dX10_weekOf_90 : decode cX10_weekOf 90 = .ok (.aload_n 0, 1) := by decide +kernel
theorem dX10_weekOf_91 : decode cX10_weekOf 91 = .ok (.aload_n 0, 1) := by decide +kernel
theorem dX10_weekOf_92 : decode cX10_weekOf 92 = .ok (.getfield 72, 3) := by decide +kernel
theorem dX10_weekOf_95 : decode cX10_weekOf 95 = .ok (.iload 12, 2) := by decide +kernel
theorem dX10_weekOf_97 : decode cX10_weekOf 97 = .ok (.iaload, 1) := by decide +kernel
theorem dX10_weekOf_98 : decode cX10_weekOf 98 = .ok (.iload 6, 2) := by decide +kernel
theorem dX10_weekOf_100 : decode cX10_weekOf 100 = .ok (.invokevirtual 129, 3) := by decide +kernel
theorem dX10_weekOf_103 : decode cX10_weekOf 103 = .ok (.istore 13, 2) := by decide +kernel
theorem dX10_weekOf_105 : decode cX10_weekOf 105 = .ok (.iload 9, 2) := by decide +kernel
theorem dX10_weekOf_107 : decode cX10_weekOf 107 = .ok (.ifCond .eq 13, 3) := by decide +kernel
theorem dX10_weekOf_110 : decode cX10_weekOf 110 = .ok (.iload 13, 2) := by decide +kernel
theorem dX10_weekOf_112 : decode cX10_weekOf 112 = .ok (.iconst (-1), 1) := by decide +kernel
theorem dX10_weekOf_113 : decode cX10_weekOf 113 = .ok (.if_icmp .eq 7, 3) := by decide +kernel
theorem dX10_weekOf_116 : decode cX10_weekOf 116 = .ok (.iconst 1, 1) := by decide +kernel
theorem dX10_weekOf_117 : decode cX10_weekOf 117 = .ok (.goto 4, 3) := by decide +kernel
theorem dX10_weekOf_120 : decode cX10_weekOf 120 = .ok (.iconst 0, 1) := by decide +kernel
theorem dX10_weekOf_121 : decode cX10_weekOf 121 = .ok (.istore 9, 2) := by decide +kernel
theorem dX10_weekOf_123 : decode cX10_weekOf 123 = .ok (.lload 10, 2) := by decide +kernel
theorem dX10_weekOf_125 : decode cX10_weekOf 125 = .ok (.iload 13, 2) := by decide +kernel
theorem dX10_weekOf_127 : decode cX10_weekOf 127 = .ok (.i2l, 1) := by decide +kernel
theorem dX10_weekOf_128 : decode cX10_weekOf 128 = .ok (.ladd, 1) := by decide +kernel
theorem dX10_weekOf_129 : decode cX10_weekOf 129 = .ok (.lstore 10, 2) := by decide +kernel
theorem dX10_weekOf_131 : decode cX10_weekOf 131 = .ok (.iinc 12 1, 3) := by decide +kernel
theorem dX10_weekOf_134 : decode cX10_weekOf 134 = .ok (.goto (-79), 3) := by decide +kernel
theorem dX10_weekOf_137 : decode cX10_weekOf 137 = .ok (.iload 9, 2) := by decide +kernel
theorem dX10_weekOf_139 : decode cX10_weekOf 139 = .ok (.ifCond .eq 25, 3) := by decide +kernel
theorem dX10_weekOf_142 : decode cX10_weekOf 142 = .ok (.lload 4, 2) := by decide +kernel
theorem dX10_weekOf_144 : decode cX10_weekOf 144 = .ok (.iload_n 3, 1) := by decide +kernel
theorem dX10_weekOf_145 : decode cX10_weekOf 145 = .ok (.ifCond .eq 14, 3) := by decide +kernel
theorem dX10_weekOf_148 : decode cX10_weekOf 148 = .ok (.aload_n 0, 1) := by decide +kernel
theorem dX10_weekOf_149 : decode cX10_weekOf 149 = .ok (.iload_n 1, 1) := by decide +kernel
theorem dX10_weekOf_150 : decode cX10_weekOf 150 = .ok (.iload 6, 2) := by decide +kernel
theorem dX10_weekOf_152 : decode cX10_weekOf 152 = .ok (.invokevirtual 129, 3) := by decide +kernel
theorem dX10_weekOf_155 : decode cX10_weekOf 155 = .ok (.i2l, 1) := by decide +kernel
theorem dX10_weekOf_156 : decode cX10_weekOf 156 = .ok (.goto 5, 3) := by decide +kernel
theorem dX10_weekOf_159 : decode cX10_weekOf 159 = .ok (.lload 10, 2) := by decide +kernel
theorem dX10_weekOf_161 : decode cX10_weekOf 161 = .ok (.ladd, 1) := by decide +kernel
theorem dX10_weekOf_162 : decode cX10_weekOf 162 = .ok (.lstore 4, 2) := by decide +kernel
theorem dX10_weekOf_164 : decode cX10_weekOf 164 = .ok (.iinc 6 1, 3) := by decide +kernel
theorem dX10_weekOf_167 : decode cX10_weekOf 167 = .ok (.goto (-158), 3) := by decide +kernel
theorem dX10_weekOf_170 : decode cX10_weekOf 170 = .ok (.lload 4, 2) := by decide +kernel
theorem dX10_weekOf_172 : decode cX10_weekOf 172 = .ok (.lreturn, 1) := by decide +kernel
theorem dX10_failsStore_0 : decode cX10_failsStore 0 = .ok (.aload_n 0, 1) := by decide +kernel
theorem dX10_failsStore_1 : decode cX10_failsStore 1 = .ok (.iload_n 1, 1) := by decide +kernel
theorem dX10_failsStore_2 : decode cX10_failsStore 2 = .ok (.iconst 0, 1) := by decide +kernel
theorem dX10_failsStore_3 : decode cX10_failsStore 3 = .ok (.iconst 4, 1) := by decide +kernel
theorem dX10_failsStore_4 : decode cX10_failsStore 4 = .ok (.invokevirtual 96, 3) := by decide +kernel
theorem dX10_failsStore_7 : decode cX10_failsStore 7 = .ok (.istore_n 2, 1) := by decide +kernel
theorem dX10_failsStore_8 : decode cX10_failsStore 8 = .ok (.iload_n 2, 1) := by decide +kernel
theorem dX10_failsStore_9 : decode cX10_failsStore 9 = .ok (.ifCond .ne 18, 3) := by decide +kernel
theorem dX10_failsStore_12 : decode cX10_failsStore 12 = .ok (.aload_n 0, 1) := by decide +kernel
theorem dX10_failsStore_13 : decode cX10_failsStore 13 = .ok (.getfield 9, 3) := by decide +kernel
theorem dX10_failsStore_16 : decode cX10_failsStore 16 = .ok (.iload_n 1, 1) := by decide +kernel
theorem dX10_failsStore_17 : decode cX10_failsStore 17 = .ok (.iaload, 1) := by decide +kernel
theorem dX10_failsStore_18 : decode cX10_failsStore 18 = .ok (.iconst 3, 1) := by decide +kernel
theorem dX10_failsStore_19 : decode cX10_failsStore 19 = .ok (.if_icmp .ne 8, 3) := by decide +kernel
theorem dX10_failsStore_22 : decode cX10_failsStore 22 = .ok (.bipush (-2), 2) := by decide +kernel
theorem dX10_failsStore_24 : decode cX10_failsStore 24 = .ok (.goto 4, 3) := by decide +kernel
theorem dX10_failsStore_27 : decode cX10_failsStore 27 = .ok (.iload_n 2, 1) := by decide +kernel
theorem dX10_failsStore_28 : decode cX10_failsStore 28 = .ok (.ireturn, 1) := by decide +kernel
theorem dX10_week_0 : decode cX10_week 0 = .ok (.aload_n 0, 1) := by decide +kernel
theorem dX10_week_1 : decode cX10_week 1 = .ok (.iload_n 1, 1) := by decide +kernel
theorem dX10_week_2 : decode cX10_week 2 = .ok (.invokevirtual 174, 3) := by decide +kernel
theorem dX10_week_5 : decode cX10_week 5 = .ok (.istore 4, 2) := by decide +kernel
theorem dX10_week_7 : decode cX10_week 7 = .ok (.iload 4, 2) := by decide +kernel
theorem dX10_week_9 : decode cX10_week 9 = .ok (.ifCond .eq 6, 3) := by decide +kernel
theorem dX10_week_12 : decode cX10_week 12 = .ok (.iload 4, 2) := by decide +kernel
theorem dX10_week_14 : decode cX10_week 14 = .ok (.ireturn, 1) := by decide +kernel
theorem dX10_week_15 : decode cX10_week 15 = .ok (.iload_n 2, 1) := by decide +kernel
theorem dX10_week_16 : decode cX10_week 16 = .ok (.iconst 0, 1) := by decide +kernel
theorem dX10_week_17 : decode cX10_week 17 = .ok (.bipush 7, 2) := by decide +kernel
theorem dX10_week_19 : decode cX10_week 19 = .ok (.invokestatic 85, 3) := by decide +kernel
theorem dX10_week_22 : decode cX10_week 22 = .ok (.ifCond .eq 31, 3) := by decide +kernel
theorem dX10_week_25 : decode cX10_week 25 = .ok (.iload_n 3, 1) := by decide +kernel
theorem dX10_week_26 : decode cX10_week 26 = .ok (.iconst 0, 1) := by decide +kernel
theorem dX10_week_27 : decode cX10_week 27 = .ok (.iconst 1, 1) := by decide +kernel
theorem dX10_week_28 : decode cX10_week 28 = .ok (.invokestatic 85, 3) := by decide +kernel
theorem dX10_week_31 : decode cX10_week 31 = .ok (.ifCond .eq 22, 3) := by decide +kernel
theorem dX10_week_34 : decode cX10_week 34 = .ok (.aload_n 0, 1) := by decide +kernel
theorem dX10_week_35 : decode cX10_week 35 = .ok (.iload_n 1, 1) := by decide +kernel
theorem dX10_week_36 : decode cX10_week 36 = .ok (.iload_n 2, 1) := by decide +kernel
theorem dX10_week_37 : decode cX10_week 37 = .ok (.iload_n 3, 1) := by decide +kernel
theorem dX10_week_38 : decode cX10_week 38 = .ok (.ifCond .ne 7, 3) := by decide +kernel
theorem dX10_week_41 : decode cX10_week 41 = .ok (.iconst 1, 1) := by decide +kernel
theorem dX10_week_42 : decode cX10_week 42 = .ok (.goto 4, 3) := by decide +kernel
theorem dX10_week_45 : decode cX10_week 45 = .ok (.iconst 0, 1) := by decide +kernel
theorem dX10_week_46 : decode cX10_week 46 = .ok (.invokevirtual 177, 3) := by decide +kernel
theorem dX10_week_49 : decode cX10_week 49 = .ok (.l2i, 1) := by decide +kernel
theorem dX10_week_50 : decode cX10_week 50 = .ok (.goto 4, 3) := by decide +kernel
theorem dX10_week_53 : decode cX10_week 53 = .ok (.iconst (-1), 1) := by decide +kernel
theorem dX10_week_54 : decode cX10_week 54 = .ok (.ireturn, 1) := by decide +kernel
theorem dX10_apart_0 : decode cX10_apart 0 = .ok (.lconst 0, 1) := by decide +kernel
theorem dX10_apart_1 : decode cX10_apart 1 = .ok (.lstore_n 3, 1) := by decide +kernel
theorem dX10_apart_2 : decode cX10_apart 2 = .ok (.lconst 0, 1) := by decide +kernel
theorem dX10_apart_3 : decode cX10_apart 3 = .ok (.lstore 5, 2) := by decide +kernel
theorem dX10_apart_5 : decode cX10_apart 5 = .ok (.iload_n 1, 1) := by decide +kernel
theorem dX10_apart_6 : decode cX10_apart 6 = .ok (.istore 7, 2) := by decide +kernel
theorem dX10_apart_8 : decode cX10_apart 8 = .ok (.iload 7, 2) := by decide +kernel
theorem dX10_apart_10 : decode cX10_apart 10 = .ok (.iload_n 2, 1) := by decide +kernel
theorem dX10_apart_11 : decode cX10_apart 11 = .ok (.if_icmp .ge 31, 3) := by decide +kernel
theorem dX10_apart_14 : decode cX10_apart 14 = .ok (.lload_n 3, 1) := by decide +kernel
theorem dX10_apart_15 : decode cX10_apart 15 = .ok (.aload_n 0, 1) := by decide +kernel
theorem dX10_apart_16 : decode cX10_apart 16 = .ok (.getfield 78, 3) := by decide +kernel
theorem dX10_apart_19 : decode cX10_apart 19 = .ok (.iload 7, 2) := by decide +kernel
theorem dX10_apart_21 : decode cX10_apart 21 = .ok (.laload, 1) := by decide +kernel
theorem dX10_apart_22 : decode cX10_apart 22 = .ok (.ladd, 1) := by decide +kernel
theorem dX10_apart_23 : decode cX10_apart 23 = .ok (.lstore_n 3, 1) := by decide +kernel
theorem dX10_apart_24 : decode cX10_apart 24 = .ok (.lload 5, 2) := by decide +kernel
theorem dX10_apart_26 : decode cX10_apart 26 = .ok (.aload_n 0, 1) := by decide +kernel
theorem dX10_apart_27 : decode cX10_apart 27 = .ok (.getfield 82, 3) := by decide +kernel
theorem dX10_apart_30 : decode cX10_apart 30 = .ok (.iload 7, 2) := by decide +kernel
theorem dX10_apart_32 : decode cX10_apart 32 = .ok (.laload, 1) := by decide +kernel
theorem dX10_apart_33 : decode cX10_apart 33 = .ok (.ladd, 1) := by decide +kernel
theorem dX10_apart_34 : decode cX10_apart 34 = .ok (.lstore 5, 2) := by decide +kernel
theorem dX10_apart_36 : decode cX10_apart 36 = .ok (.iinc 7 1, 3) := by decide +kernel
theorem dX10_apart_39 : decode cX10_apart 39 = .ok (.goto (-31), 3) := by decide +kernel
theorem dX10_apart_42 : decode cX10_apart 42 = .ok (.lconst 0, 1) := by decide +kernel
theorem dX10_apart_43 : decode cX10_apart 43 = .ok (.lstore 7, 2) := by decide +kernel
theorem dX10_apart_45 : decode cX10_apart 45 = .ok (.iload_n 1, 1) := by decide +kernel
theorem dX10_apart_46 : decode cX10_apart 46 = .ok (.istore 9, 2) := by decide +kernel
theorem dX10_apart_48 : decode cX10_apart 48 = .ok (.iload 9, 2) := by decide +kernel
theorem dX10_apart_50 : decode cX10_apart 50 = .ok (.iload_n 2, 1) := by decide +kernel
theorem dX10_apart_51 : decode cX10_apart 51 = .ok (.if_icmp .ge 68, 3) := by decide +kernel
theorem dX10_apart_54 : decode cX10_apart 54 = .ok (.lload 5, 2) := by decide +kernel
theorem dX10_apart_56 : decode cX10_apart 56 = .ok (.lconst 0, 1) := by decide +kernel
theorem dX10_apart_57 : decode cX10_apart 57 = .ok (.lcmp, 1) := by decide +kernel
theorem dX10_apart_58 : decode cX10_apart 58 = .ok (.ifCond .ne 13, 3) := by decide +kernel
theorem dX10_apart_61 : decode cX10_apart 61 = .ok (.aload_n 0, 1) := by decide +kernel
theorem dX10_apart_62 : decode cX10_apart 62 = .ok (.getfield 78, 3) := by decide +kernel
theorem dX10_apart_65 : decode cX10_apart 65 = .ok (.iload 9, 2) := by decide +kernel
theorem dX10_apart_67 : decode cX10_apart 67 = .ok (.laload, 1) := by decide +kernel
theorem dX10_apart_68 : decode cX10_apart 68 = .ok (.goto 23, 3) := by decide +kernel
theorem dX10_apart_71 : decode cX10_apart 71 = .ok (.aload_n 0, 1) := by decide +kernel
theorem dX10_apart_72 : decode cX10_apart 72 = .ok (.getfield 78, 3) := by decide +kernel
theorem dX10_apart_75 : decode cX10_apart 75 = .ok (.iload 9, 2) := by decide +kernel
theorem dX10_apart_77 : decode cX10_apart 77 = .ok (.laload, 1) := by decide +kernel
theorem dX10_apart_78 : decode cX10_apart 78 = .ok (.lload 5, 2) := by decide +kernel
theorem dX10_apart_80 : decode cX10_apart 80 = .ok (.lmul, 1) := by decide +kernel
theorem dX10_apart_81 : decode cX10_apart 81 = .ok (.aload_n 0, 1) := by decide +kernel
theorem dX10_apart_82 : decode cX10_apart 82 = .ok (.getfield 82, 3) := by decide +kernel
theorem dX10_apart_85 : decode cX10_apart 85 = .ok (.iload 9, 2) := by decide +kernel
theorem dX10_apart_87 : decode cX10_apart 87 = .ok (.laload, 1) := by decide +kernel
theorem dX10_apart_88 : decode cX10_apart 88 = .ok (.lload_n 3, 1) := by decide +kernel
theorem dX10_apart_89 : decode cX10_apart 89 = .ok (.lmul, 1) := by decide +kernel
theorem dX10_apart_90 : decode cX10_apart 90 = .ok (.lsub, 1) := by decide +kernel
theorem dX10_apart_91 : decode cX10_apart 91 = .ok (.lstore 10, 2) := by decide +kernel
theorem dX10_apart_93 : decode cX10_apart 93 = .ok (.lload 7, 2) := by decide +kernel
theorem dX10_apart_95 : decode cX10_apart 95 = .ok (.lload 10, 2) := by decide +kernel
theorem dX10_apart_97 : decode cX10_apart 97 = .ok (.lconst 0, 1) := by decide +kernel
theorem dX10_apart_98 : decode cX10_apart 98 = .ok (.lcmp, 1) := by decide +kernel
theorem dX10_apart_99 : decode cX10_apart 99 = .ok (.ifCond .ge 9, 3) := by decide +kernel
theorem dX10_apart_102 : decode cX10_apart 102 = .ok (.lload 10, 2) := by decide +kernel
theorem dX10_apart_104 : decode cX10_apart 104 = .ok (.lneg, 1) := by decide +kernel
theorem dX10_apart_105 : decode cX10_apart 105 = .ok (.goto 5, 3) := by decide +kernel
theorem dX10_apart_108 : decode cX10_apart 108 = .ok (.lload 10, 2) := by decide +kernel
theorem dX10_apart_110 : decode cX10_apart 110 = .ok (.ladd, 1) := by decide +kernel
theorem dX10_apart_111 : decode cX10_apart 111 = .ok (.lstore 7, 2) := by decide +kernel
theorem dX10_apart_113 : decode cX10_apart 113 = .ok (.iinc 9 1, 3) := by decide +kernel
theorem dX10_apart_116 : decode cX10_apart 116 = .ok (.goto (-68), 3) := by decide +kernel
theorem dX10_apart_119 : decode cX10_apart 119 = .ok (.lload 5, 2) := by decide +kernel
theorem dX10_apart_121 : decode cX10_apart 121 = .ok (.lconst 0, 1) := by decide +kernel
theorem dX10_apart_122 : decode cX10_apart 122 = .ok (.lcmp, 1) := by decide +kernel
theorem dX10_apart_123 : decode cX10_apart 123 = .ok (.ifCond .ne 12, 3) := by decide +kernel
theorem dX10_apart_126 : decode cX10_apart 126 = .ok (.lload 7, 2) := by decide +kernel
theorem dX10_apart_128 : decode cX10_apart 128 = .ok (.ldc2_w 139, 3) := by decide +kernel
theorem dX10_apart_131 : decode cX10_apart 131 = .ok (.lmul, 1) := by decide +kernel
theorem dX10_apart_132 : decode cX10_apart 132 = .ok (.goto 12, 3) := by decide +kernel
theorem dX10_apart_135 : decode cX10_apart 135 = .ok (.lload 7, 2) := by decide +kernel
theorem dX10_apart_137 : decode cX10_apart 137 = .ok (.ldc2_w 139, 3) := by decide +kernel
theorem dX10_apart_140 : decode cX10_apart 140 = .ok (.lmul, 1) := by decide +kernel
theorem dX10_apart_141 : decode cX10_apart 141 = .ok (.lload 5, 2) := by decide +kernel
theorem dX10_apart_143 : decode cX10_apart 143 = .ok (.ldiv, 1) := by decide +kernel
theorem dX10_apart_144 : decode cX10_apart 144 = .ok (.lreturn, 1) := by decide +kernel
theorem dX10_weeks_0 : decode cX10_weeks 0 = .ok (.iconst 0, 1) := by decide +kernel
theorem dX10_weeks_1 : decode cX10_weeks 1 = .ok (.istore_n 2, 1) := by decide +kernel
theorem dX10_weeks_2 : decode cX10_weeks 2 = .ok (.iload_n 2, 1) := by decide +kernel
theorem dX10_weeks_3 : decode cX10_weeks 3 = .ok (.bipush 8, 2) := by decide +kernel
theorem dX10_weeks_5 : decode cX10_weeks 5 = .ok (.if_icmp .ge 35, 3) := by decide +kernel
theorem dX10_weeks_8 : decode cX10_weeks 8 = .ok (.aload_n 0, 1) := by decide +kernel
theorem dX10_weeks_9 : decode cX10_weeks 9 = .ok (.getfield 78, 3) := by decide +kernel
theorem dX10_weeks_12 : decode cX10_weeks 12 = .ok (.iload_n 2, 1) := by decide +kernel
theorem dX10_weeks_13 : decode cX10_weeks 13 = .ok (.aload_n 0, 1) := by decide +kernel
theorem dX10_weeks_14 : decode cX10_weeks 14 = .ok (.iload_n 1, 1) := by decide +kernel
theorem dX10_weeks_15 : decode cX10_weeks 15 = .ok (.iload_n 2, 1) := by decide +kernel
theorem dX10_weeks_16 : decode cX10_weeks 16 = .ok (.iconst 1, 1) := by decide +kernel
theorem dX10_weeks_17 : decode cX10_weeks 17 = .ok (.invokevirtual 177, 3) := by decide +kernel
theorem dX10_weeks_20 : decode cX10_weeks 20 = .ok (.lastore, 1) := by decide +kernel
theorem dX10_weeks_21 : decode cX10_weeks 21 = .ok (.aload_n 0, 1) := by decide +kernel
theorem dX10_weeks_22 : decode cX10_weeks 22 = .ok (.getfield 82, 3) := by decide +kernel
theorem dX10_weeks_25 : decode cX10_weeks 25 = .ok (.iload_n 2, 1) := by decide +kernel
theorem dX10_weeks_26 : decode cX10_weeks 26 = .ok (.aload_n 0, 1) := by decide +kernel
theorem dX10_weeks_27 : decode cX10_weeks 27 = .ok (.iload_n 1, 1) := by decide +kernel
theorem dX10_weeks_28 : decode cX10_weeks 28 = .ok (.iload_n 2, 1) := by decide +kernel
theorem dX10_weeks_29 : decode cX10_weeks 29 = .ok (.iconst 0, 1) := by decide +kernel
theorem dX10_weeks_30 : decode cX10_weeks 30 = .ok (.invokevirtual 177, 3) := by decide +kernel
theorem dX10_weeks_33 : decode cX10_weeks 33 = .ok (.lastore, 1) := by decide +kernel
theorem dX10_weeks_34 : decode cX10_weeks 34 = .ok (.iinc 2 1, 3) := by decide +kernel
theorem dX10_weeks_37 : decode cX10_weeks 37 = .ok (.goto (-35), 3) := by decide +kernel
theorem dX10_weeks_40 : decode cX10_weeks 40 = .ok (.return_, 1) := by decide +kernel
theorem dX10_cleft_0 : decode cX10_cleft 0 = .ok (.aload_n 0, 1) := by decide +kernel
theorem dX10_cleft_1 : decode cX10_cleft 1 = .ok (.iload_n 1, 1) := by decide +kernel
theorem dX10_cleft_2 : decode cX10_cleft 2 = .ok (.invokevirtual 174, 3) := by decide +kernel
theorem dX10_cleft_5 : decode cX10_cleft 5 = .ok (.istore_n 2, 1) := by decide +kernel
theorem dX10_cleft_6 : decode cX10_cleft 6 = .ok (.iload_n 2, 1) := by decide +kernel
theorem dX10_cleft_7 : decode cX10_cleft 7 = .ok (.ifCond .eq 5, 3) := by decide +kernel
theorem dX10_cleft_10 : decode cX10_cleft 10 = .ok (.iload_n 2, 1) := by decide +kernel
theorem dX10_cleft_11 : decode cX10_cleft 11 = .ok (.ireturn, 1) := by decide +kernel
theorem dX10_cleft_12 : decode cX10_cleft 12 = .ok (.aload_n 0, 1) := by decide +kernel
theorem dX10_cleft_13 : decode cX10_cleft 13 = .ok (.iload_n 1, 1) := by decide +kernel
theorem dX10_cleft_14 : decode cX10_cleft 14 = .ok (.invokevirtual 181, 3) := by decide +kernel
theorem dX10_cleft_17 : decode cX10_cleft 17 = .ok (.aload_n 0, 1) := by decide +kernel
theorem dX10_cleft_18 : decode cX10_cleft 18 = .ok (.getfield 89, 3) := by decide +kernel
theorem dX10_cleft_21 : decode cX10_cleft 21 = .ok (.bipush 7, 2) := by decide +kernel
theorem dX10_cleft_23 : decode cX10_cleft 23 = .ok (.idiv, 1) := by decide +kernel
theorem dX10_cleft_24 : decode cX10_cleft 24 = .ok (.istore_n 3, 1) := by decide +kernel
theorem dX10_cleft_25 : decode cX10_cleft 25 = .ok (.iconst (-1), 1) := by decide +kernel
theorem dX10_cleft_26 : decode cX10_cleft 26 = .ok (.istore 4, 2) := by decide +kernel
theorem dX10_cleft_28 : decode cX10_cleft 28 = .ok (.iload_n 3, 1) := by decide +kernel
theorem dX10_cleft_29 : decode cX10_cleft 29 = .ok (.iconst 1, 1) := by decide +kernel
theorem dX10_cleft_30 : decode cX10_cleft 30 = .ok (.isub, 1) := by decide +kernel
theorem dX10_cleft_31 : decode cX10_cleft 31 = .ok (.istore 5, 2) := by decide +kernel
theorem dX10_cleft_33 : decode cX10_cleft 33 = .ok (.iload 5, 2) := by decide +kernel
theorem dX10_cleft_35 : decode cX10_cleft 35 = .ok (.iconst 1, 1) := by decide +kernel
theorem dX10_cleft_36 : decode cX10_cleft 36 = .ok (.if_icmp .lt 53, 3) := by decide +kernel
theorem dX10_cleft_39 : decode cX10_cleft 39 = .ok (.iload 4, 2) := by decide +kernel
theorem dX10_cleft_41 : decode cX10_cleft 41 = .ok (.iconst (-1), 1) := by decide +kernel
theorem dX10_cleft_42 : decode cX10_cleft 42 = .ok (.if_icmp .eq 37, 3) := by decide +kernel
theorem dX10_cleft_45 : decode cX10_cleft 45 = .ok (.aload_n 0, 1) := by decide +kernel
theorem dX10_cleft_46 : decode cX10_cleft 46 = .ok (.iconst 0, 1) := by decide +kernel
theorem dX10_cleft_47 : decode cX10_cleft 47 = .ok (.iload 5, 2) := by decide +kernel
theorem dX10_cleft_49 : decode cX10_cleft 49 = .ok (.invokevirtual 185, 3) := by decide +kernel
theorem dX10_cleft_52 : decode cX10_cleft 52 = .ok (.aload_n 0, 1) := by decide +kernel
theorem dX10_cleft_53 : decode cX10_cleft 53 = .ok (.iload 5, 2) := by decide +kernel
theorem dX10_cleft_55 : decode cX10_cleft 55 = .ok (.iload_n 3, 1) := by decide +kernel
theorem dX10_cleft_56 : decode cX10_cleft 56 = .ok (.invokevirtual 185, 3) := by decide +kernel
theorem dX10_cleft_59 : decode cX10_cleft 59 = .ok (.ladd, 1) := by decide +kernel
theorem dX10_cleft_60 : decode cX10_cleft 60 = .ok (.aload_n 0, 1) := by decide +kernel
theorem dX10_cleft_61 : decode cX10_cleft 61 = .ok (.iconst 0, 1) := by decide +kernel
theorem dX10_cleft_62 : decode cX10_cleft 62 = .ok (.iload 4, 2) := by decide +kernel
theorem dX10_cleft_64 : decode cX10_cleft 64 = .ok (.invokevirtual 185, 3) := by decide +kernel
theorem dX10_cleft_67 : decode cX10_cleft 67 = .ok (.aload_n 0, 1) := by decide +kernel
theorem dX10_cleft_68 : decode cX10_cleft 68 = .ok (.iload 4, 2) := by decide +kernel
theorem dX10_cleft_70 : decode cX10_cleft 70 = .ok (.iload_n 3, 1) := by decide +kernel
theorem dX10_cleft_71 : decode cX10_cleft 71 = .ok (.invokevirtual 185, 3) := by decide +kernel
theorem dX10_cleft_74 : decode cX10_cleft 74 = .ok (.ladd, 1) := by decide +kernel
theorem dX10_cleft_75 : decode cX10_cleft 75 = .ok (.lcmp, 1) := by decide +kernel
theorem dX10_cleft_76 : decode cX10_cleft 76 = .ok (.ifCond .gt 7, 3) := by decide +kernel
theorem dX10_cleft_79 : decode cX10_cleft 79 = .ok (.iload 5, 2) := by decide +kernel
theorem dX10_cleft_81 : decode cX10_cleft 81 = .ok (.istore 4, 2) := by decide +kernel
theorem dX10_cleft_83 : decode cX10_cleft 83 = .ok (.iinc 5 (-1), 3) := by decide +kernel
theorem dX10_cleft_86 : decode cX10_cleft 86 = .ok (.goto (-53), 3) := by decide +kernel
theorem dX10_cleft_89 : decode cX10_cleft 89 = .ok (.iload 4, 2) := by decide +kernel
theorem dX10_cleft_91 : decode cX10_cleft 91 = .ok (.ireturn, 1) := by decide +kernel
theorem dX10_misses_0 : decode cX10_misses 0 = .ok (.aload_n 0, 1) := by decide +kernel
theorem dX10_misses_1 : decode cX10_misses 1 = .ok (.iload_n 1, 1) := by decide +kernel
theorem dX10_misses_2 : decode cX10_misses 2 = .ok (.invokevirtual 174, 3) := by decide +kernel
theorem dX10_misses_5 : decode cX10_misses 5 = .ok (.istore_n 3, 1) := by decide +kernel
theorem dX10_misses_6 : decode cX10_misses 6 = .ok (.iload_n 3, 1) := by decide +kernel
theorem dX10_misses_7 : decode cX10_misses 7 = .ok (.ifCond .eq 6, 3) := by decide +kernel
theorem dX10_misses_10 : decode cX10_misses 10 = .ok (.iload_n 3, 1) := by decide +kernel
theorem dX10_misses_11 : decode cX10_misses 11 = .ok (.i2l, 1) := by decide +kernel
theorem dX10_misses_12 : decode cX10_misses 12 = .ok (.lreturn, 1) := by decide +kernel
theorem dX10_misses_13 : decode cX10_misses 13 = .ok (.iload_n 2, 1) := by decide +kernel
theorem dX10_misses_14 : decode cX10_misses 14 = .ok (.iconst 1, 1) := by decide +kernel
theorem dX10_misses_15 : decode cX10_misses 15 = .ok (.aload_n 0, 1) := by decide +kernel
theorem dX10_misses_16 : decode cX10_misses 16 = .ok (.getfield 89, 3) := by decide +kernel
theorem dX10_misses_19 : decode cX10_misses 19 = .ok (.bipush 7, 2) := by decide +kernel
theorem dX10_misses_21 : decode cX10_misses 21 = .ok (.idiv, 1) := by decide +kernel
theorem dX10_misses_22 : decode cX10_misses 22 = .ok (.iconst 1, 1) := by decide +kernel
theorem dX10_misses_23 : decode cX10_misses 23 = .ok (.isub, 1) := by decide +kernel
theorem dX10_misses_24 : decode cX10_misses 24 = .ok (.invokestatic 85, 3) := by decide +kernel
theorem dX10_misses_27 : decode cX10_misses 27 = .ok (.ifCond .ne 7, 3) := by decide +kernel
theorem dX10_misses_30 : decode cX10_misses 30 = .ok (.ldc2_w 172, 3) := by decide +kernel
theorem dX10_misses_33 : decode cX10_misses 33 = .ok (.lreturn, 1) := by decide +kernel
theorem dX10_misses_34 : decode cX10_misses 34 = .ok (.aload_n 0, 1) := by decide +kernel
theorem dX10_misses_35 : decode cX10_misses 35 = .ok (.iload_n 1, 1) := by decide +kernel
theorem dX10_misses_36 : decode cX10_misses 36 = .ok (.invokevirtual 181, 3) := by decide +kernel
theorem dX10_misses_39 : decode cX10_misses 39 = .ok (.aload_n 0, 1) := by decide +kernel
theorem dX10_misses_40 : decode cX10_misses 40 = .ok (.iconst 0, 1) := by decide +kernel
theorem dX10_misses_41 : decode cX10_misses 41 = .ok (.iload_n 2, 1) := by decide +kernel
theorem dX10_misses_42 : decode cX10_misses 42 = .ok (.invokevirtual 185, 3) := by decide +kernel
theorem dX10_misses_45 : decode cX10_misses 45 = .ok (.aload_n 0, 1) := by decide +kernel
theorem dX10_misses_46 : decode cX10_misses 46 = .ok (.iload_n 2, 1) := by decide +kernel
theorem dX10_misses_47 : decode cX10_misses 47 = .ok (.aload_n 0, 1) := by decide +kernel
theorem dX10_misses_48 : decode cX10_misses 48 = .ok (.getfield 89, 3) := by decide +kernel
theorem dX10_misses_51 : decode cX10_misses 51 = .ok (.bipush 7, 2) := by decide +kernel
theorem dX10_misses_53 : decode cX10_misses 53 = .ok (.idiv, 1) := by decide +kernel
theorem dX10_misses_54 : decode cX10_misses 54 = .ok (.invokevirtual 185, 3) := by decide +kernel
theorem dX10_misses_57 : decode cX10_misses 57 = .ok (.ladd, 1) := by decide +kernel
theorem dX10_misses_58 : decode cX10_misses 58 = .ok (.lreturn, 1) := by decide +kernel
theorem dJ9_abs_0f7a4_0 : decode cJ9_abs_0f7a4 0 = .ok (.iload_n 0, 1) := by decide +kernel
theorem dJ9_abs_0f7a4_1 : decode cJ9_abs_0f7a4 1 = .ok (.ifCond .ge 8, 3) := by decide +kernel
theorem dJ9_abs_0f7a4_4 : decode cJ9_abs_0f7a4 4 = .ok (.iload_n 0, 1) := by decide +kernel
theorem dJ9_abs_0f7a4_5 : decode cJ9_abs_0f7a4 5 = .ok (.ineg, 1) := by decide +kernel
theorem dJ9_abs_0f7a4_6 : decode cJ9_abs_0f7a4 6 = .ok (.goto 4, 3) := by decide +kernel
theorem dJ9_abs_0f7a4_9 : decode cJ9_abs_0f7a4 9 = .ok (.iload_n 0, 1) := by decide +kernel
theorem dJ9_abs_0f7a4_10 : decode cJ9_abs_0f7a4 10 = .ok (.ireturn, 1) := by decide +kernel
theorem dJ9_abs_067f4_0 : decode cJ9_abs_067f4 0 = .ok (.lload_n 0, 1) := by decide +kernel
theorem dJ9_abs_067f4_1 : decode cJ9_abs_067f4 1 = .ok (.lconst 0, 1) := by decide +kernel
theorem dJ9_abs_067f4_2 : decode cJ9_abs_067f4 2 = .ok (.lcmp, 1) := by decide +kernel
theorem dJ9_abs_067f4_3 : decode cJ9_abs_067f4 3 = .ok (.ifCond .ge 8, 3) := by decide +kernel
theorem dJ9_abs_067f4_6 : decode cJ9_abs_067f4 6 = .ok (.lload_n 0, 1) := by decide +kernel
theorem dJ9_abs_067f4_7 : decode cJ9_abs_067f4 7 = .ok (.lneg, 1) := by decide +kernel
theorem dJ9_abs_067f4_8 : decode cJ9_abs_067f4 8 = .ok (.goto 4, 3) := by decide +kernel
theorem dJ9_abs_067f4_11 : decode cJ9_abs_067f4 11 = .ok (.lload_n 0, 1) := by decide +kernel
theorem dJ9_abs_067f4_12 : decode cJ9_abs_067f4 12 = .ok (.lreturn, 1) := by decide +kernel
theorem dJ9_max_7cf53_0 : decode cJ9_max_7cf53 0 = .ok (.iload_n 0, 1) := by decide +kernel
theorem dJ9_max_7cf53_1 : decode cJ9_max_7cf53 1 = .ok (.iload_n 1, 1) := by decide +kernel
theorem dJ9_max_7cf53_2 : decode cJ9_max_7cf53 2 = .ok (.if_icmp .lt 7, 3) := by decide +kernel
theorem dJ9_max_7cf53_5 : decode cJ9_max_7cf53 5 = .ok (.iload_n 0, 1) := by decide +kernel
theorem dJ9_max_7cf53_6 : decode cJ9_max_7cf53 6 = .ok (.goto 4, 3) := by decide +kernel
theorem dJ9_max_7cf53_9 : decode cJ9_max_7cf53 9 = .ok (.iload_n 1, 1) := by decide +kernel
theorem dJ9_max_7cf53_10 : decode cJ9_max_7cf53 10 = .ok (.ireturn, 1) := by decide +kernel
theorem dJ9_min_7cf53_0 : decode cJ9_min_7cf53 0 = .ok (.iload_n 0, 1) := by decide +kernel
theorem dJ9_min_7cf53_1 : decode cJ9_min_7cf53 1 = .ok (.iload_n 1, 1) := by decide +kernel
theorem dJ9_min_7cf53_2 : decode cJ9_min_7cf53 2 = .ok (.if_icmp .gt 7, 3) := by decide +kernel
theorem dJ9_min_7cf53_5 : decode cJ9_min_7cf53 5 = .ok (.iload_n 0, 1) := by decide +kernel
theorem dJ9_min_7cf53_6 : decode cJ9_min_7cf53 6 = .ok (.goto 4, 3) := by decide +kernel
theorem dJ9_min_7cf53_9 : decode cJ9_min_7cf53 9 = .ok (.iload_n 1, 1) := by decide +kernel
theorem dJ9_min_7cf53_10 : decode cJ9_min_7cf53 10 = .ok (.ireturn, 1) := by decide +kernel
theorem dJ7_fill_53178_0 : decode cJ7_fill_53178 0 = .ok (.iconst 0, 1) := by decide +kernel
theorem dJ7_fill_53178_1 : decode cJ7_fill_53178 1 = .ok (.istore_n 2, 1) := by decide +kernel
theorem dJ7_fill_53178_2 : decode cJ7_fill_53178 2 = .ok (.aload_n 0, 1) := by decide +kernel
theorem dJ7_fill_53178_3 : decode cJ7_fill_53178 3 = .ok (.arraylength, 1) := by decide +kernel
theorem dJ7_fill_53178_4 : decode cJ7_fill_53178 4 = .ok (.istore_n 3, 1) := by decide +kernel
theorem dJ7_fill_53178_5 : decode cJ7_fill_53178 5 = .ok (.iload_n 2, 1) := by decide +kernel
theorem dJ7_fill_53178_6 : decode cJ7_fill_53178 6 = .ok (.iload_n 3, 1) := by decide +kernel
theorem dJ7_fill_53178_7 : decode cJ7_fill_53178 7 = .ok (.if_icmp .ge 13, 3) := by decide +kernel
theorem dJ7_fill_53178_10 : decode cJ7_fill_53178 10 = .ok (.aload_n 0, 1) := by decide +kernel
theorem dJ7_fill_53178_11 : decode cJ7_fill_53178 11 = .ok (.iload_n 2, 1) := by decide +kernel
theorem dJ7_fill_53178_12 : decode cJ7_fill_53178 12 = .ok (.iload_n 1, 1) := by decide +kernel
theorem dJ7_fill_53178_13 : decode cJ7_fill_53178 13 = .ok (.iastore, 1) := by decide +kernel
theorem dJ7_fill_53178_14 : decode cJ7_fill_53178 14 = .ok (.iinc 2 1, 3) := by decide +kernel
theorem dJ7_fill_53178_17 : decode cJ7_fill_53178 17 = .ok (.goto (-12), 3) := by decide +kernel
theorem dJ7_fill_53178_20 : decode cJ7_fill_53178 20 = .ok (.return_, 1) := by decide +kernel
theorem dL_law_0 : decode cL_law 0 = .ok (.new 7, 3) := by decide +kernel
theorem dL_law_3 : decode cL_law 3 = .ok (.dup, 1) := by decide +kernel
theorem dL_law_4 : decode cL_law 4 = .ok (.invokespecial 9, 3) := by decide +kernel
theorem dL_law_7 : decode cL_law 7 = .ok (.astore_n 1, 1) := by decide +kernel
theorem dL_law_8 : decode cL_law 8 = .ok (.new 10, 3) := by decide +kernel
theorem dL_law_11 : decode cL_law 11 = .ok (.dup, 1) := by decide +kernel
theorem dL_law_12 : decode cL_law 12 = .ok (.invokespecial 12, 3) := by decide +kernel
theorem dL_law_15 : decode cL_law 15 = .ok (.astore_n 2, 1) := by decide +kernel
theorem dL_law_16 : decode cL_law 16 = .ok (.iconst 0, 1) := by decide +kernel
theorem dL_law_17 : decode cL_law 17 = .ok (.istore_n 3, 1) := by decide +kernel
theorem dL_law_18 : decode cL_law 18 = .ok (.iload_n 3, 1) := by decide +kernel
theorem dL_law_19 : decode cL_law 19 = .ok (.aload_n 0, 1) := by decide +kernel
theorem dL_law_20 : decode cL_law 20 = .ok (.arraylength, 1) := by decide +kernel
theorem dL_law_21 : decode cL_law 21 = .ok (.bipush 6, 2) := by decide +kernel
theorem dL_law_23 : decode cL_law 23 = .ok (.isub, 1) := by decide +kernel
theorem dL_law_24 : decode cL_law 24 = .ok (.if_icmp .gt 1117, 3) := by decide +kernel
theorem dL_law_27 : decode cL_law 27 = .ok (.aload_n 0, 1) := by decide +kernel
theorem dL_law_28 : decode cL_law 28 = .ok (.iload_n 3, 1) := by decide +kernel
theorem dL_law_29 : decode cL_law 29 = .ok (.iaload, 1) := by decide +kernel
theorem dL_law_30 : decode cL_law 30 = .ok (.bipush 31, 2) := by decide +kernel
theorem dL_law_32 : decode cL_law 32 = .ok (.iand, 1) := by decide +kernel
theorem dL_law_33 : decode cL_law 33 = .ok (.tableswitch 1102 0 26 #[123, 186, 209, 242, 275, 308, 341, 374, 417, 430, 443, 476, 509, 552, 585, 618, 651, 694, 737, 770, 839, 872, 905, 939, 1002, 1045, 1068], 123) := by decide +kernel
theorem dL_law_156 : decode cL_law 156 = .ok (.aload_n 1, 1) := by decide +kernel
theorem dL_law_157 : decode cL_law 157 = .ok (.aload_n 0, 1) := by decide +kernel
theorem dL_law_158 : decode cL_law 158 = .ok (.iload_n 3, 1) := by decide +kernel
theorem dL_law_159 : decode cL_law 159 = .ok (.iconst 1, 1) := by decide +kernel
theorem dL_law_160 : decode cL_law 160 = .ok (.iadd, 1) := by decide +kernel
theorem dL_law_161 : decode cL_law 161 = .ok (.iaload, 1) := by decide +kernel
theorem dL_law_162 : decode cL_law 162 = .ok (.aload_n 0, 1) := by decide +kernel
theorem dL_law_163 : decode cL_law 163 = .ok (.iload_n 3, 1) := by decide +kernel
theorem dL_law_164 : decode cL_law 164 = .ok (.iconst 2, 1) := by decide +kernel
theorem dL_law_165 : decode cL_law 165 = .ok (.iadd, 1) := by decide +kernel
theorem dL_law_166 : decode cL_law 166 = .ok (.iaload, 1) := by decide +kernel
theorem dL_law_167 : decode cL_law 167 = .ok (.aload_n 0, 1) := by decide +kernel
theorem dL_law_168 : decode cL_law 168 = .ok (.iload_n 3, 1) := by decide +kernel
theorem dL_law_169 : decode cL_law 169 = .ok (.iconst 3, 1) := by decide +kernel
theorem dL_law_170 : decode cL_law 170 = .ok (.iadd, 1) := by decide +kernel
theorem dL_law_171 : decode cL_law 171 = .ok (.iaload, 1) := by decide +kernel
theorem dL_law_172 : decode cL_law 172 = .ok (.aload_n 0, 1) := by decide +kernel
theorem dL_law_173 : decode cL_law 173 = .ok (.iload_n 3, 1) := by decide +kernel
theorem dL_law_174 : decode cL_law 174 = .ok (.iconst 4, 1) := by decide +kernel
theorem dL_law_175 : decode cL_law 175 = .ok (.iadd, 1) := by decide +kernel
theorem dL_law_176 : decode cL_law 176 = .ok (.iaload, 1) := by decide +kernel
theorem dL_law_177 : decode cL_law 177 = .ok (.aload_n 0, 1) := by decide +kernel
theorem dL_law_178 : decode cL_law 178 = .ok (.iload_n 3, 1) := by decide +kernel
theorem dL_law_179 : decode cL_law 179 = .ok (.iconst 5, 1) := by decide +kernel
theorem dL_law_180 : decode cL_law 180 = .ok (.iadd, 1) := by decide +kernel
theorem dL_law_181 : decode cL_law 181 = .ok (.iaload, 1) := by decide +kernel
theorem dL_law_182 : decode cL_law 182 = .ok (.invokevirtual 13, 3) := by decide +kernel
theorem dL_law_185 : decode cL_law 185 = .ok (.aload_n 2, 1) := by decide +kernel
theorem dL_law_186 : decode cL_law 186 = .ok (.aload_n 0, 1) := by decide +kernel
theorem dL_law_187 : decode cL_law 187 = .ok (.iload_n 3, 1) := by decide +kernel
theorem dL_law_188 : decode cL_law 188 = .ok (.iconst 1, 1) := by decide +kernel
theorem dL_law_189 : decode cL_law 189 = .ok (.iadd, 1) := by decide +kernel
theorem dL_law_190 : decode cL_law 190 = .ok (.iaload, 1) := by decide +kernel
theorem dL_law_191 : decode cL_law 191 = .ok (.aload_n 0, 1) := by decide +kernel
theorem dL_law_192 : decode cL_law 192 = .ok (.iload_n 3, 1) := by decide +kernel
theorem dL_law_193 : decode cL_law 193 = .ok (.iconst 2, 1) := by decide +kernel
theorem dL_law_194 : decode cL_law 194 = .ok (.iadd, 1) := by decide +kernel
theorem dL_law_195 : decode cL_law 195 = .ok (.iaload, 1) := by decide +kernel
theorem dL_law_196 : decode cL_law 196 = .ok (.aload_n 0, 1) := by decide +kernel
theorem dL_law_197 : decode cL_law 197 = .ok (.iload_n 3, 1) := by decide +kernel
theorem dL_law_198 : decode cL_law 198 = .ok (.iconst 3, 1) := by decide +kernel
theorem dL_law_199 : decode cL_law 199 = .ok (.iadd, 1) := by decide +kernel
theorem dL_law_200 : decode cL_law 200 = .ok (.iaload, 1) := by decide +kernel
theorem dL_law_201 : decode cL_law 201 = .ok (.aload_n 0, 1) := by decide +kernel
theorem dL_law_202 : decode cL_law 202 = .ok (.iload_n 3, 1) := by decide +kernel
theorem dL_law_203 : decode cL_law 203 = .ok (.iconst 4, 1) := by decide +kernel
theorem dL_law_204 : decode cL_law 204 = .ok (.iadd, 1) := by decide +kernel
theorem dL_law_205 : decode cL_law 205 = .ok (.iaload, 1) := by decide +kernel
theorem dL_law_206 : decode cL_law 206 = .ok (.aload_n 0, 1) := by decide +kernel
theorem dL_law_207 : decode cL_law 207 = .ok (.iload_n 3, 1) := by decide +kernel
theorem dL_law_208 : decode cL_law 208 = .ok (.iconst 5, 1) := by decide +kernel
theorem dL_law_209 : decode cL_law 209 = .ok (.iadd, 1) := by decide +kernel
theorem dL_law_210 : decode cL_law 210 = .ok (.iaload, 1) := by decide +kernel
theorem dL_law_211 : decode cL_law 211 = .ok (.invokevirtual 17, 3) := by decide +kernel
theorem dL_law_214 : decode cL_law 214 = .ok (.if_icmp .eq 921, 3) := by decide +kernel
theorem dL_law_217 : decode cL_law 217 = .ok (.iconst 0, 1) := by decide +kernel
theorem dL_law_218 : decode cL_law 218 = .ok (.ireturn, 1) := by decide +kernel
theorem dL_law_219 : decode cL_law 219 = .ok (.aload_n 1, 1) := by decide +kernel
theorem dL_law_220 : decode cL_law 220 = .ok (.aload_n 0, 1) := by decide +kernel
theorem dL_law_221 : decode cL_law 221 = .ok (.iload_n 3, 1) := by decide +kernel
theorem dL_law_222 : decode cL_law 222 = .ok (.iconst 1, 1) := by decide +kernel
theorem dL_law_223 : decode cL_law 223 = .ok (.iadd, 1) := by decide +kernel
theorem dL_law_224 : decode cL_law 224 = .ok (.iaload, 1) := by decide +kernel
theorem dL_law_225 : decode cL_law 225 = .ok (.invokevirtual 18, 3) := by decide +kernel
theorem dL_law_228 : decode cL_law 228 = .ok (.aload_n 2, 1) := by decide +kernel
theorem dL_law_229 : decode cL_law 229 = .ok (.aload_n 0, 1) := by decide +kernel
theorem dL_law_230 : decode cL_law 230 = .ok (.iload_n 3, 1) := by decide +kernel
theorem dL_law_231 : decode cL_law 231 = .ok (.iconst 1, 1) := by decide +kernel
theorem dL_law_232 : decode cL_law 232 = .ok (.iadd, 1) := by decide +kernel
theorem dL_law_233 : decode cL_law 233 = .ok (.iaload, 1) := by decide +kernel
theorem dL_law_234 : decode cL_law 234 = .ok (.invokevirtual 22, 3) := by decide +kernel
theorem dL_law_237 : decode cL_law 237 = .ok (.if_icmp .eq 898, 3) := by decide +kernel
theorem dL_law_240 : decode cL_law 240 = .ok (.iconst 0, 1) := by decide +kernel
theorem dL_law_241 : decode cL_law 241 = .ok (.ireturn, 1) := by decide +kernel
theorem dL_law_242 : decode cL_law 242 = .ok (.aload_n 1, 1) := by decide +kernel
theorem dL_law_243 : decode cL_law 243 = .ok (.aload_n 0, 1) := by decide +kernel
theorem dL_law_244 : decode cL_law 244 = .ok (.iload_n 3, 1) := by decide +kernel
theorem dL_law_245 : decode cL_law 245 = .ok (.iconst 1, 1) := by decide +kernel
theorem dL_law_246 : decode cL_law 246 = .ok (.iadd, 1) := by decide +kernel
theorem dL_law_247 : decode cL_law 247 = .ok (.iaload, 1) := by decide +kernel
theorem dL_law_248 : decode cL_law 248 = .ok (.aload_n 0, 1) := by decide +kernel
theorem dL_law_249 : decode cL_law 249 = .ok (.iload_n 3, 1) := by decide +kernel
theorem dL_law_250 : decode cL_law 250 = .ok (.iconst 2, 1) := by decide +kernel
theorem dL_law_251 : decode cL_law 251 = .ok (.iadd, 1) := by decide +kernel
theorem dL_law_252 : decode cL_law 252 = .ok (.iaload, 1) := by decide +kernel
theorem dL_law_253 : decode cL_law 253 = .ok (.invokevirtual 23, 3) := by decide +kernel
theorem dL_law_256 : decode cL_law 256 = .ok (.aload_n 2, 1) := by decide +kernel
theorem dL_law_257 : decode cL_law 257 = .ok (.aload_n 0, 1) := by decide +kernel
theorem dL_law_258 : decode cL_law 258 = .ok (.iload_n 3, 1) := by decide +kernel
theorem dL_law_259 : decode cL_law 259 = .ok (.iconst 1, 1) := by decide +kernel
theorem dL_law_260 : decode cL_law 260 = .ok (.iadd, 1) := by decide +kernel
theorem dL_law_261 : decode cL_law 261 = .ok (.iaload, 1) := by decide +kernel
theorem dL_law_262 : decode cL_law 262 = .ok (.aload_n 0, 1) := by decide +kernel
theorem dL_law_263 : decode cL_law 263 = .ok (.iload_n 3, 1) := by decide +kernel
theorem dL_law_264 : decode cL_law 264 = .ok (.iconst 2, 1) := by decide +kernel
theorem dL_law_265 : decode cL_law 265 = .ok (.iadd, 1) := by decide +kernel
theorem dL_law_266 : decode cL_law 266 = .ok (.iaload, 1) := by decide +kernel
theorem dL_law_267 : decode cL_law 267 = .ok (.invokevirtual 27, 3) := by decide +kernel
theorem dL_law_270 : decode cL_law 270 = .ok (.if_icmp .eq 865, 3) := by decide +kernel
theorem dL_law_273 : decode cL_law 273 = .ok (.iconst 0, 1) := by decide +kernel
theorem dL_law_274 : decode cL_law 274 = .ok (.ireturn, 1) := by decide +kernel
theorem dL_law_275 : decode cL_law 275 = .ok (.aload_n 1, 1) := by decide +kernel
theorem dL_law_276 : decode cL_law 276 = .ok (.aload_n 0, 1) := by decide +kernel
theorem dL_law_277 : decode cL_law 277 = .ok (.iload_n 3, 1) := by decide +kernel
theorem dL_law_278 : decode cL_law 278 = .ok (.iconst 1, 1) := by decide +kernel
theorem dL_law_279 : decode cL_law 279 = .ok (.iadd, 1) := by decide +kernel
theorem dL_law_280 : decode cL_law 280 = .ok (.iaload, 1) := by decide +kernel
theorem dL_law_281 : decode cL_law 281 = .ok (.aload_n 0, 1) := by decide +kernel
theorem dL_law_282 : decode cL_law 282 = .ok (.iload_n 3, 1) := by decide +kernel
theorem dL_law_283 : decode cL_law 283 = .ok (.iconst 2, 1) := by decide +kernel
theorem dL_law_284 : decode cL_law 284 = .ok (.iadd, 1) := by decide +kernel
theorem dL_law_285 : decode cL_law 285 = .ok (.iaload, 1) := by decide +kernel
theorem dL_law_286 : decode cL_law 286 = .ok (.invokevirtual 28, 3) := by decide +kernel
theorem dL_law_289 : decode cL_law 289 = .ok (.aload_n 2, 1) := by decide +kernel
theorem dL_law_290 : decode cL_law 290 = .ok (.aload_n 0, 1) := by decide +kernel
theorem dL_law_291 : decode cL_law 291 = .ok (.iload_n 3, 1) := by decide +kernel
theorem dL_law_292 : decode cL_law 292 = .ok (.iconst 1, 1) := by decide +kernel
theorem dL_law_293 : decode cL_law 293 = .ok (.iadd, 1) := by decide +kernel
theorem dL_law_294 : decode cL_law 294 = .ok (.iaload, 1) := by decide +kernel
theorem dL_law_295 : decode cL_law 295 = .ok (.aload_n 0, 1) := by decide +kernel
theorem dL_law_296 : decode cL_law 296 = .ok (.iload_n 3, 1) := by decide +kernel
theorem dL_law_297 : decode cL_law 297 = .ok (.iconst 2, 1) := by decide +kernel
theorem dL_law_298 : decode cL_law 298 = .ok (.iadd, 1) := by decide +kernel
theorem dL_law_299 : decode cL_law 299 = .ok (.iaload, 1) := by decide +kernel
theorem dL_law_300 : decode cL_law 300 = .ok (.invokevirtual 31, 3) := by decide +kernel
theorem dL_law_303 : decode cL_law 303 = .ok (.if_icmp .eq 832, 3) := by decide +kernel
theorem dL_law_306 : decode cL_law 306 = .ok (.iconst 0, 1) := by decide +kernel
theorem dL_law_307 : decode cL_law 307 = .ok (.ireturn, 1) := by decide +kernel
theorem dL_law_308 : decode cL_law 308 = .ok (.aload_n 1, 1) := by decide +kernel
theorem dL_law_309 : decode cL_law 309 = .ok (.aload_n 0, 1) := by decide +kernel
theorem dL_law_310 : decode cL_law 310 = .ok (.iload_n 3, 1) := by decide +kernel
theorem dL_law_311 : decode cL_law 311 = .ok (.iconst 1, 1) := by decide +kernel
theorem dL_law_312 : decode cL_law 312 = .ok (.iadd, 1) := by decide +kernel
theorem dL_law_313 : decode cL_law 313 = .ok (.iaload, 1) := by decide +kernel
theorem dL_law_314 : decode cL_law 314 = .ok (.aload_n 0, 1) := by decide +kernel
theorem dL_law_315 : decode cL_law 315 = .ok (.iload_n 3, 1) := by decide +kernel
theorem dL_law_316 : decode cL_law 316 = .ok (.iconst 2, 1) := by decide +kernel
theorem dL_law_317 : decode cL_law 317 = .ok (.iadd, 1) := by decide +kernel
theorem dL_law_318 : decode cL_law 318 = .ok (.iaload, 1) := by decide +kernel
theorem dL_law_319 : decode cL_law 319 = .ok (.invokevirtual 32, 3) := by decide +kernel
theorem dL_law_322 : decode cL_law 322 = .ok (.aload_n 2, 1) := by decide +kernel
theorem dL_law_323 : decode cL_law 323 = .ok (.aload_n 0, 1) := by decide +kernel
theorem dL_law_324 : decode cL_law 324 = .ok (.iload_n 3, 1) := by decide +kernel
theorem dL_law_325 : decode cL_law 325 = .ok (.iconst 1, 1) := by decide +kernel
theorem dL_law_326 : decode cL_law 326 = .ok (.iadd, 1) := by decide +kernel
theorem dL_law_327 : decode cL_law 327 = .ok (.iaload, 1) := by decide +kernel
theorem dL_law_328 : decode cL_law 328 = .ok (.aload_n 0, 1) := by decide +kernel
theorem dL_law_329 : decode cL_law 329 = .ok (.iload_n 3, 1) := by decide +kernel
theorem dL_law_330 : decode cL_law 330 = .ok (.iconst 2, 1) := by decide +kernel
theorem dL_law_331 : decode cL_law 331 = .ok (.iadd, 1) := by decide +kernel
theorem dL_law_332 : decode cL_law 332 = .ok (.iaload, 1) := by decide +kernel
theorem dL_law_333 : decode cL_law 333 = .ok (.invokevirtual 35, 3) := by decide +kernel
theorem dL_law_336 : decode cL_law 336 = .ok (.if_icmp .eq 799, 3) := by decide +kernel
theorem dL_law_339 : decode cL_law 339 = .ok (.iconst 0, 1) := by decide +kernel
theorem dL_law_340 : decode cL_law 340 = .ok (.ireturn, 1) := by decide +kernel
theorem dL_law_341 : decode cL_law 341 = .ok (.aload_n 1, 1) := by decide +kernel
theorem dL_law_342 : decode cL_law 342 = .ok (.aload_n 0, 1) := by decide +kernel
theorem dL_law_343 : decode cL_law 343 = .ok (.iload_n 3, 1) := by decide +kernel
theorem dL_law_344 : decode cL_law 344 = .ok (.iconst 1, 1) := by decide +kernel
theorem dL_law_345 : decode cL_law 345 = .ok (.iadd, 1) := by decide +kernel
theorem dL_law_346 : decode cL_law 346 = .ok (.iaload, 1) := by decide +kernel
theorem dL_law_347 : decode cL_law 347 = .ok (.aload_n 0, 1) := by decide +kernel
theorem dL_law_348 : decode cL_law 348 = .ok (.iload_n 3, 1) := by decide +kernel
theorem dL_law_349 : decode cL_law 349 = .ok (.iconst 2, 1) := by decide +kernel
theorem dL_law_350 : decode cL_law 350 = .ok (.iadd, 1) := by decide +kernel
theorem dL_law_351 : decode cL_law 351 = .ok (.iaload, 1) := by decide +kernel
theorem dL_law_352 : decode cL_law 352 = .ok (.invokevirtual 36, 3) := by decide +kernel
theorem dL_law_355 : decode cL_law 355 = .ok (.aload_n 2, 1) := by decide +kernel
theorem dL_law_356 : decode cL_law 356 = .ok (.aload_n 0, 1) := by decide +kernel
theorem dL_law_357 : decode cL_law 357 = .ok (.iload_n 3, 1) := by decide +kernel
theorem dL_law_358 : decode cL_law 358 = .ok (.iconst 1, 1) := by decide +kernel
theorem dL_law_359 : decode cL_law 359 = .ok (.iadd, 1) := by decide +kernel
theorem dL_law_360 : decode cL_law 360 = .ok (.iaload, 1) := by decide +kernel
theorem dL_law_361 : decode cL_law 361 = .ok (.aload_n 0, 1) := by decide +kernel
theorem dL_law_362 : decode cL_law 362 = .ok (.iload_n 3, 1) := by decide +kernel
theorem dL_law_363 : decode cL_law 363 = .ok (.iconst 2, 1) := by decide +kernel
theorem dL_law_364 : decode cL_law 364 = .ok (.iadd, 1) := by decide +kernel
theorem dL_law_365 : decode cL_law 365 = .ok (.iaload, 1) := by decide +kernel
theorem dL_law_366 : decode cL_law 366 = .ok (.invokevirtual 39, 3) := by decide +kernel
theorem dL_law_369 : decode cL_law 369 = .ok (.if_icmp .eq 766, 3) := by decide +kernel
theorem dL_law_372 : decode cL_law 372 = .ok (.iconst 0, 1) := by decide +kernel
theorem dL_law_373 : decode cL_law 373 = .ok (.ireturn, 1) := by decide +kernel
theorem dL_law_374 : decode cL_law 374 = .ok (.aload_n 1, 1) := by decide +kernel
theorem dL_law_375 : decode cL_law 375 = .ok (.aload_n 0, 1) := by decide +kernel
theorem dL_law_376 : decode cL_law 376 = .ok (.iload_n 3, 1) := by decide +kernel
theorem dL_law_377 : decode cL_law 377 = .ok (.iconst 1, 1) := by decide +kernel
theorem dL_law_378 : decode cL_law 378 = .ok (.iadd, 1) := by decide +kernel
theorem dL_law_379 : decode cL_law 379 = .ok (.iaload, 1) := by decide +kernel
theorem dL_law_380 : decode cL_law 380 = .ok (.aload_n 0, 1) := by decide +kernel
theorem dL_law_381 : decode cL_law 381 = .ok (.iload_n 3, 1) := by decide +kernel
theorem dL_law_382 : decode cL_law 382 = .ok (.iconst 2, 1) := by decide +kernel
theorem dL_law_383 : decode cL_law 383 = .ok (.iadd, 1) := by decide +kernel
theorem dL_law_384 : decode cL_law 384 = .ok (.iaload, 1) := by decide +kernel
theorem dL_law_385 : decode cL_law 385 = .ok (.invokevirtual 40, 3) := by decide +kernel
theorem dL_law_388 : decode cL_law 388 = .ok (.aload_n 2, 1) := by decide +kernel
theorem dL_law_389 : decode cL_law 389 = .ok (.aload_n 0, 1) := by decide +kernel
theorem dL_law_390 : decode cL_law 390 = .ok (.iload_n 3, 1) := by decide +kernel
theorem dL_law_391 : decode cL_law 391 = .ok (.iconst 1, 1) := by decide +kernel
theorem dL_law_392 : decode cL_law 392 = .ok (.iadd, 1) := by decide +kernel
theorem dL_law_393 : decode cL_law 393 = .ok (.iaload, 1) := by decide +kernel
theorem dL_law_394 : decode cL_law 394 = .ok (.aload_n 0, 1) := by decide +kernel
theorem dL_law_395 : decode cL_law 395 = .ok (.iload_n 3, 1) := by decide +kernel
theorem dL_law_396 : decode cL_law 396 = .ok (.iconst 2, 1) := by decide +kernel
theorem dL_law_397 : decode cL_law 397 = .ok (.iadd, 1) := by decide +kernel
theorem dL_law_398 : decode cL_law 398 = .ok (.iaload, 1) := by decide +kernel
theorem dL_law_399 : decode cL_law 399 = .ok (.invokevirtual 43, 3) := by decide +kernel
theorem dL_law_402 : decode cL_law 402 = .ok (.if_icmp .eq 733, 3) := by decide +kernel
theorem dL_law_405 : decode cL_law 405 = .ok (.iconst 0, 1) := by decide +kernel
theorem dL_law_406 : decode cL_law 406 = .ok (.ireturn, 1) := by decide +kernel
theorem dL_law_407 : decode cL_law 407 = .ok (.aload_n 1, 1) := by decide +kernel
theorem dL_law_408 : decode cL_law 408 = .ok (.aload_n 0, 1) := by decide +kernel
theorem dL_law_409 : decode cL_law 409 = .ok (.iload_n 3, 1) := by decide +kernel
theorem dL_law_410 : decode cL_law 410 = .ok (.iconst 1, 1) := by decide +kernel
theorem dL_law_411 : decode cL_law 411 = .ok (.iadd, 1) := by decide +kernel
theorem dL_law_412 : decode cL_law 412 = .ok (.iaload, 1) := by decide +kernel
theorem dL_law_413 : decode cL_law 413 = .ok (.aload_n 0, 1) := by decide +kernel
theorem dL_law_414 : decode cL_law 414 = .ok (.iload_n 3, 1) := by decide +kernel
theorem dL_law_415 : decode cL_law 415 = .ok (.iconst 2, 1) := by decide +kernel
theorem dL_law_416 : decode cL_law 416 = .ok (.iadd, 1) := by decide +kernel
theorem dL_law_417 : decode cL_law 417 = .ok (.iaload, 1) := by decide +kernel
theorem dL_law_418 : decode cL_law 418 = .ok (.aload_n 0, 1) := by decide +kernel
theorem dL_law_419 : decode cL_law 419 = .ok (.iload_n 3, 1) := by decide +kernel
theorem dL_law_420 : decode cL_law 420 = .ok (.iconst 3, 1) := by decide +kernel
theorem dL_law_421 : decode cL_law 421 = .ok (.iadd, 1) := by decide +kernel
theorem dL_law_422 : decode cL_law 422 = .ok (.iaload, 1) := by decide +kernel
theorem dL_law_423 : decode cL_law 423 = .ok (.invokevirtual 44, 3) := by decide +kernel
theorem dL_law_426 : decode cL_law 426 = .ok (.aload_n 2, 1) := by decide +kernel
theorem dL_law_427 : decode cL_law 427 = .ok (.aload_n 0, 1) := by decide +kernel
theorem dL_law_428 : decode cL_law 428 = .ok (.iload_n 3, 1) := by decide +kernel
theorem dL_law_429 : decode cL_law 429 = .ok (.iconst 1, 1) := by decide +kernel
theorem dL_law_430 : decode cL_law 430 = .ok (.iadd, 1) := by decide +kernel
theorem dL_law_431 : decode cL_law 431 = .ok (.iaload, 1) := by decide +kernel
theorem dL_law_432 : decode cL_law 432 = .ok (.aload_n 0, 1) := by decide +kernel
theorem dL_law_433 : decode cL_law 433 = .ok (.iload_n 3, 1) := by decide +kernel
theorem dL_law_434 : decode cL_law 434 = .ok (.iconst 2, 1) := by decide +kernel
theorem dL_law_435 : decode cL_law 435 = .ok (.iadd, 1) := by decide +kernel
theorem dL_law_436 : decode cL_law 436 = .ok (.iaload, 1) := by decide +kernel
theorem dL_law_437 : decode cL_law 437 = .ok (.aload_n 0, 1) := by decide +kernel
theorem dL_law_438 : decode cL_law 438 = .ok (.iload_n 3, 1) := by decide +kernel
theorem dL_law_439 : decode cL_law 439 = .ok (.iconst 3, 1) := by decide +kernel
theorem dL_law_440 : decode cL_law 440 = .ok (.iadd, 1) := by decide +kernel
theorem dL_law_441 : decode cL_law 441 = .ok (.iaload, 1) := by decide +kernel
theorem dL_law_442 : decode cL_law 442 = .ok (.invokevirtual 48, 3) := by decide +kernel
theorem dL_law_445 : decode cL_law 445 = .ok (.if_icmp .eq 690, 3) := by decide +kernel
theorem dL_law_448 : decode cL_law 448 = .ok (.iconst 0, 1) := by decide +kernel
theorem dL_law_449 : decode cL_law 449 = .ok (.ireturn, 1) := by decide +kernel
theorem dL_law_450 : decode cL_law 450 = .ok (.aload_n 1, 1) := by decide +kernel
theorem dL_law_451 : decode cL_law 451 = .ok (.invokevirtual 49, 3) := by decide +kernel
theorem dL_law_454 : decode cL_law 454 = .ok (.aload_n 2, 1) := by decide +kernel
theorem dL_law_455 : decode cL_law 455 = .ok (.invokevirtual 53, 3) := by decide +kernel
theorem dL_law_458 : decode cL_law 458 = .ok (.if_icmp .eq 677, 3) := by decide +kernel
theorem dL_law_461 : decode cL_law 461 = .ok (.iconst 0, 1) := by decide +kernel
theorem dL_law_462 : decode cL_law 462 = .ok (.ireturn, 1) := by decide +kernel
theorem dL_law_463 : decode cL_law 463 = .ok (.aload_n 1, 1) := by decide +kernel
theorem dL_law_464 : decode cL_law 464 = .ok (.invokevirtual 54, 3) := by decide +kernel
theorem dL_law_467 : decode cL_law 467 = .ok (.aload_n 2, 1) := by decide +kernel
theorem dL_law_468 : decode cL_law 468 = .ok (.invokevirtual 57, 3) := by decide +kernel
theorem dL_law_471 : decode cL_law 471 = .ok (.if_icmp .eq 664, 3) := by decide +kernel
theorem dL_law_474 : decode cL_law 474 = .ok (.iconst 0, 1) := by decide +kernel
theorem dL_law_475 : decode cL_law 475 = .ok (.ireturn, 1) := by decide +kernel
theorem dL_law_476 : decode cL_law 476 = .ok (.aload_n 1, 1) := by decide +kernel
theorem dL_law_477 : decode cL_law 477 = .ok (.aload_n 0, 1) := by decide +kernel
theorem dL_law_478 : decode cL_law 478 = .ok (.iload_n 3, 1) := by decide +kernel
theorem dL_law_479 : decode cL_law 479 = .ok (.iconst 1, 1) := by decide +kernel
theorem dL_law_480 : decode cL_law 480 = .ok (.iadd, 1) := by decide +kernel
theorem dL_law_481 : decode cL_law 481 = .ok (.iaload, 1) := by decide +kernel
theorem dL_law_482 : decode cL_law 482 = .ok (.aload_n 0, 1) := by decide +kernel
theorem dL_law_483 : decode cL_law 483 = .ok (.iload_n 3, 1) := by decide +kernel
theorem dL_law_484 : decode cL_law 484 = .ok (.iconst 2, 1) := by decide +kernel
theorem dL_law_485 : decode cL_law 485 = .ok (.iadd, 1) := by decide +kernel
theorem dL_law_486 : decode cL_law 486 = .ok (.iaload, 1) := by decide +kernel
theorem dL_law_487 : decode cL_law 487 = .ok (.invokevirtual 58, 3) := by decide +kernel
theorem dL_law_490 : decode cL_law 490 = .ok (.aload_n 2, 1) := by decide +kernel
theorem dL_law_491 : decode cL_law 491 = .ok (.aload_n 0, 1) := by decide +kernel
theorem dL_law_492 : decode cL_law 492 = .ok (.iload_n 3, 1) := by decide +kernel
theorem dL_law_493 : decode cL_law 493 = .ok (.iconst 1, 1) := by decide +kernel
theorem dL_law_494 : decode cL_law 494 = .ok (.iadd, 1) := by decide +kernel
theorem dL_law_495 : decode cL_law 495 = .ok (.iaload, 1) := by decide +kernel
theorem dL_law_496 : decode cL_law 496 = .ok (.aload_n 0, 1) := by decide +kernel
theorem dL_law_497 : decode cL_law 497 = .ok (.iload_n 3, 1) := by decide +kernel
theorem dL_law_498 : decode cL_law 498 = .ok (.iconst 2, 1) := by decide +kernel
theorem dL_law_499 : decode cL_law 499 = .ok (.iadd, 1) := by decide +kernel
theorem dL_law_500 : decode cL_law 500 = .ok (.iaload, 1) := by decide +kernel
theorem dL_law_501 : decode cL_law 501 = .ok (.invokevirtual 62, 3) := by decide +kernel
theorem dL_law_504 : decode cL_law 504 = .ok (.if_icmp .eq 631, 3) := by decide +kernel
theorem dL_law_507 : decode cL_law 507 = .ok (.iconst 0, 1) := by decide +kernel
theorem dL_law_508 : decode cL_law 508 = .ok (.ireturn, 1) := by decide +kernel
theorem dL_law_509 : decode cL_law 509 = .ok (.aload_n 1, 1) := by decide +kernel
theorem dL_law_510 : decode cL_law 510 = .ok (.aload_n 0, 1) := by decide +kernel
theorem dL_law_511 : decode cL_law 511 = .ok (.iload_n 3, 1) := by decide +kernel
theorem dL_law_512 : decode cL_law 512 = .ok (.iconst 1, 1) := by decide +kernel
theorem dL_law_513 : decode cL_law 513 = .ok (.iadd, 1) := by decide +kernel
theorem dL_law_514 : decode cL_law 514 = .ok (.iaload, 1) := by decide +kernel
theorem dL_law_515 : decode cL_law 515 = .ok (.aload_n 0, 1) := by decide +kernel
theorem dL_law_516 : decode cL_law 516 = .ok (.iload_n 3, 1) := by decide +kernel
theorem dL_law_517 : decode cL_law 517 = .ok (.iconst 2, 1) := by decide +kernel
theorem dL_law_518 : decode cL_law 518 = .ok (.iadd, 1) := by decide +kernel
theorem dL_law_519 : decode cL_law 519 = .ok (.iaload, 1) := by decide +kernel
theorem dL_law_520 : decode cL_law 520 = .ok (.invokevirtual 63, 3) := by decide +kernel
theorem dL_law_523 : decode cL_law 523 = .ok (.aload_n 2, 1) := by decide +kernel
theorem dL_law_524 : decode cL_law 524 = .ok (.aload_n 0, 1) := by decide +kernel
theorem dL_law_525 : decode cL_law 525 = .ok (.iload_n 3, 1) := by decide +kernel
theorem dL_law_526 : decode cL_law 526 = .ok (.iconst 1, 1) := by decide +kernel
theorem dL_law_527 : decode cL_law 527 = .ok (.iadd, 1) := by decide +kernel
theorem dL_law_528 : decode cL_law 528 = .ok (.iaload, 1) := by decide +kernel
theorem dL_law_529 : decode cL_law 529 = .ok (.aload_n 0, 1) := by decide +kernel
theorem dL_law_530 : decode cL_law 530 = .ok (.iload_n 3, 1) := by decide +kernel
theorem dL_law_531 : decode cL_law 531 = .ok (.iconst 2, 1) := by decide +kernel
theorem dL_law_532 : decode cL_law 532 = .ok (.iadd, 1) := by decide +kernel
theorem dL_law_533 : decode cL_law 533 = .ok (.iaload, 1) := by decide +kernel
theorem dL_law_534 : decode cL_law 534 = .ok (.invokevirtual 66, 3) := by decide +kernel
theorem dL_law_537 : decode cL_law 537 = .ok (.if_icmp .eq 598, 3) := by decide +kernel
theorem dL_law_540 : decode cL_law 540 = .ok (.iconst 0, 1) := by decide +kernel
theorem dL_law_541 : decode cL_law 541 = .ok (.ireturn, 1) := by decide +kernel
theorem dL_law_542 : decode cL_law 542 = .ok (.aload_n 1, 1) := by decide +kernel
theorem dL_law_543 : decode cL_law 543 = .ok (.aload_n 0, 1) := by decide +kernel
theorem dL_law_544 : decode cL_law 544 = .ok (.iload_n 3, 1) := by decide +kernel
theorem dL_law_545 : decode cL_law 545 = .ok (.iconst 1, 1) := by decide +kernel
theorem dL_law_546 : decode cL_law 546 = .ok (.iadd, 1) := by decide +kernel
theorem dL_law_547 : decode cL_law 547 = .ok (.iaload, 1) := by decide +kernel
theorem dL_law_548 : decode cL_law 548 = .ok (.aload_n 0, 1) := by decide +kernel
theorem dL_law_549 : decode cL_law 549 = .ok (.iload_n 3, 1) := by decide +kernel
theorem dL_law_550 : decode cL_law 550 = .ok (.iconst 2, 1) := by decide +kernel
theorem dL_law_551 : decode cL_law 551 = .ok (.iadd, 1) := by decide +kernel
theorem dL_law_552 : decode cL_law 552 = .ok (.iaload, 1) := by decide +kernel
theorem dL_law_553 : decode cL_law 553 = .ok (.aload_n 0, 1) := by decide +kernel
theorem dL_law_554 : decode cL_law 554 = .ok (.iload_n 3, 1) := by decide +kernel
theorem dL_law_555 : decode cL_law 555 = .ok (.iconst 3, 1) := by decide +kernel
theorem dL_law_556 : decode cL_law 556 = .ok (.iadd, 1) := by decide +kernel
theorem dL_law_557 : decode cL_law 557 = .ok (.iaload, 1) := by decide +kernel
theorem dL_law_558 : decode cL_law 558 = .ok (.invokevirtual 67, 3) := by decide +kernel
theorem dL_law_561 : decode cL_law 561 = .ok (.aload_n 2, 1) := by decide +kernel
theorem dL_law_562 : decode cL_law 562 = .ok (.aload_n 0, 1) := by decide +kernel
theorem dL_law_563 : decode cL_law 563 = .ok (.iload_n 3, 1) := by decide +kernel
theorem dL_law_564 : decode cL_law 564 = .ok (.iconst 1, 1) := by decide +kernel
theorem dL_law_565 : decode cL_law 565 = .ok (.iadd, 1) := by decide +kernel
theorem dL_law_566 : decode cL_law 566 = .ok (.iaload, 1) := by decide +kernel
theorem dL_law_567 : decode cL_law 567 = .ok (.aload_n 0, 1) := by decide +kernel
theorem dL_law_568 : decode cL_law 568 = .ok (.iload_n 3, 1) := by decide +kernel
theorem dL_law_569 : decode cL_law 569 = .ok (.iconst 2, 1) := by decide +kernel
theorem dL_law_570 : decode cL_law 570 = .ok (.iadd, 1) := by decide +kernel
theorem dL_law_571 : decode cL_law 571 = .ok (.iaload, 1) := by decide +kernel
theorem dL_law_572 : decode cL_law 572 = .ok (.aload_n 0, 1) := by decide +kernel
theorem dL_law_573 : decode cL_law 573 = .ok (.iload_n 3, 1) := by decide +kernel
theorem dL_law_574 : decode cL_law 574 = .ok (.iconst 3, 1) := by decide +kernel
theorem dL_law_575 : decode cL_law 575 = .ok (.iadd, 1) := by decide +kernel
theorem dL_law_576 : decode cL_law 576 = .ok (.iaload, 1) := by decide +kernel
theorem dL_law_577 : decode cL_law 577 = .ok (.invokevirtual 70, 3) := by decide +kernel
theorem dL_law_580 : decode cL_law 580 = .ok (.if_icmp .eq 555, 3) := by decide +kernel
theorem dL_law_583 : decode cL_law 583 = .ok (.iconst 0, 1) := by decide +kernel
theorem dL_law_584 : decode cL_law 584 = .ok (.ireturn, 1) := by decide +kernel
theorem dL_law_585 : decode cL_law 585 = .ok (.aload_n 1, 1) := by decide +kernel
theorem dL_law_586 : decode cL_law 586 = .ok (.aload_n 0, 1) := by decide +kernel
theorem dL_law_587 : decode cL_law 587 = .ok (.iload_n 3, 1) := by decide +kernel
theorem dL_law_588 : decode cL_law 588 = .ok (.iconst 1, 1) := by decide +kernel
theorem dL_law_589 : decode cL_law 589 = .ok (.iadd, 1) := by decide +kernel
theorem dL_law_590 : decode cL_law 590 = .ok (.iaload, 1) := by decide +kernel
theorem dL_law_591 : decode cL_law 591 = .ok (.aload_n 0, 1) := by decide +kernel
theorem dL_law_592 : decode cL_law 592 = .ok (.iload_n 3, 1) := by decide +kernel
theorem dL_law_593 : decode cL_law 593 = .ok (.iconst 2, 1) := by decide +kernel
theorem dL_law_594 : decode cL_law 594 = .ok (.iadd, 1) := by decide +kernel
theorem dL_law_595 : decode cL_law 595 = .ok (.iaload, 1) := by decide +kernel
theorem dL_law_596 : decode cL_law 596 = .ok (.invokevirtual 71, 3) := by decide +kernel
theorem dL_law_599 : decode cL_law 599 = .ok (.aload_n 2, 1) := by decide +kernel
theorem dL_law_600 : decode cL_law 600 = .ok (.aload_n 0, 1) := by decide +kernel
theorem dL_law_601 : decode cL_law 601 = .ok (.iload_n 3, 1) := by decide +kernel
theorem dL_law_602 : decode cL_law 602 = .ok (.iconst 1, 1) := by decide +kernel
theorem dL_law_603 : decode cL_law 603 = .ok (.iadd, 1) := by decide +kernel
theorem dL_law_604 : decode cL_law 604 = .ok (.iaload, 1) := by decide +kernel
theorem dL_law_605 : decode cL_law 605 = .ok (.aload_n 0, 1) := by decide +kernel
theorem dL_law_606 : decode cL_law 606 = .ok (.iload_n 3, 1) := by decide +kernel
theorem dL_law_607 : decode cL_law 607 = .ok (.iconst 2, 1) := by decide +kernel
theorem dL_law_608 : decode cL_law 608 = .ok (.iadd, 1) := by decide +kernel
theorem dL_law_609 : decode cL_law 609 = .ok (.iaload, 1) := by decide +kernel
theorem dL_law_610 : decode cL_law 610 = .ok (.invokevirtual 74, 3) := by decide +kernel
theorem dL_law_613 : decode cL_law 613 = .ok (.if_icmp .eq 522, 3) := by decide +kernel
theorem dL_law_616 : decode cL_law 616 = .ok (.iconst 0, 1) := by decide +kernel
theorem dL_law_617 : decode cL_law 617 = .ok (.ireturn, 1) := by decide +kernel
theorem dL_law_618 : decode cL_law 618 = .ok (.aload_n 1, 1) := by decide +kernel
theorem dL_law_619 : decode cL_law 619 = .ok (.aload_n 0, 1) := by decide +kernel
theorem dL_law_620 : decode cL_law 620 = .ok (.iload_n 3, 1) := by decide +kernel
theorem dL_law_621 : decode cL_law 621 = .ok (.iconst 1, 1) := by decide +kernel
theorem dL_law_622 : decode cL_law 622 = .ok (.iadd, 1) := by decide +kernel
theorem dL_law_623 : decode cL_law 623 = .ok (.iaload, 1) := by decide +kernel
theorem dL_law_624 : decode cL_law 624 = .ok (.aload_n 0, 1) := by decide +kernel
theorem dL_law_625 : decode cL_law 625 = .ok (.iload_n 3, 1) := by decide +kernel
theorem dL_law_626 : decode cL_law 626 = .ok (.iconst 2, 1) := by decide +kernel
theorem dL_law_627 : decode cL_law 627 = .ok (.iadd, 1) := by decide +kernel
theorem dL_law_628 : decode cL_law 628 = .ok (.iaload, 1) := by decide +kernel
theorem dL_law_629 : decode cL_law 629 = .ok (.invokevirtual 75, 3) := by decide +kernel
theorem dL_law_632 : decode cL_law 632 = .ok (.aload_n 2, 1) := by decide +kernel
theorem dL_law_633 : decode cL_law 633 = .ok (.aload_n 0, 1) := by decide +kernel
theorem dL_law_634 : decode cL_law 634 = .ok (.iload_n 3, 1) := by decide +kernel
theorem dL_law_635 : decode cL_law 635 = .ok (.iconst 1, 1) := by decide +kernel
theorem dL_law_636 : decode cL_law 636 = .ok (.iadd, 1) := by decide +kernel
theorem dL_law_637 : decode cL_law 637 = .ok (.iaload, 1) := by decide +kernel
theorem dL_law_638 : decode cL_law 638 = .ok (.aload_n 0, 1) := by decide +kernel
theorem dL_law_639 : decode cL_law 639 = .ok (.iload_n 3, 1) := by decide +kernel
theorem dL_law_640 : decode cL_law 640 = .ok (.iconst 2, 1) := by decide +kernel
theorem dL_law_641 : decode cL_law 641 = .ok (.iadd, 1) := by decide +kernel
theorem dL_law_642 : decode cL_law 642 = .ok (.iaload, 1) := by decide +kernel
theorem dL_law_643 : decode cL_law 643 = .ok (.invokevirtual 78, 3) := by decide +kernel
theorem dL_law_646 : decode cL_law 646 = .ok (.if_icmp .eq 489, 3) := by decide +kernel
theorem dL_law_649 : decode cL_law 649 = .ok (.iconst 0, 1) := by decide +kernel
theorem dL_law_650 : decode cL_law 650 = .ok (.ireturn, 1) := by decide +kernel
theorem dL_law_651 : decode cL_law 651 = .ok (.aload_n 1, 1) := by decide +kernel
theorem dL_law_652 : decode cL_law 652 = .ok (.aload_n 0, 1) := by decide +kernel
theorem dL_law_653 : decode cL_law 653 = .ok (.iload_n 3, 1) := by decide +kernel
theorem dL_law_654 : decode cL_law 654 = .ok (.iconst 1, 1) := by decide +kernel
theorem dL_law_655 : decode cL_law 655 = .ok (.iadd, 1) := by decide +kernel
theorem dL_law_656 : decode cL_law 656 = .ok (.iaload, 1) := by decide +kernel
theorem dL_law_657 : decode cL_law 657 = .ok (.aload_n 0, 1) := by decide +kernel
theorem dL_law_658 : decode cL_law 658 = .ok (.iload_n 3, 1) := by decide +kernel
theorem dL_law_659 : decode cL_law 659 = .ok (.iconst 2, 1) := by decide +kernel
theorem dL_law_660 : decode cL_law 660 = .ok (.iadd, 1) := by decide +kernel
theorem dL_law_661 : decode cL_law 661 = .ok (.iaload, 1) := by decide +kernel
theorem dL_law_662 : decode cL_law 662 = .ok (.invokevirtual 79, 3) := by decide +kernel
theorem dL_law_665 : decode cL_law 665 = .ok (.aload_n 2, 1) := by decide +kernel
theorem dL_law_666 : decode cL_law 666 = .ok (.aload_n 0, 1) := by decide +kernel
theorem dL_law_667 : decode cL_law 667 = .ok (.iload_n 3, 1) := by decide +kernel
theorem dL_law_668 : decode cL_law 668 = .ok (.iconst 1, 1) := by decide +kernel
theorem dL_law_669 : decode cL_law 669 = .ok (.iadd, 1) := by decide +kernel
theorem dL_law_670 : decode cL_law 670 = .ok (.iaload, 1) := by decide +kernel
theorem dL_law_671 : decode cL_law 671 = .ok (.aload_n 0, 1) := by decide +kernel
theorem dL_law_672 : decode cL_law 672 = .ok (.iload_n 3, 1) := by decide +kernel
theorem dL_law_673 : decode cL_law 673 = .ok (.iconst 2, 1) := by decide +kernel
theorem dL_law_674 : decode cL_law 674 = .ok (.iadd, 1) := by decide +kernel
theorem dL_law_675 : decode cL_law 675 = .ok (.iaload, 1) := by decide +kernel
theorem dL_law_676 : decode cL_law 676 = .ok (.invokevirtual 82, 3) := by decide +kernel
theorem dL_law_679 : decode cL_law 679 = .ok (.if_icmp .eq 456, 3) := by decide +kernel
theorem dL_law_682 : decode cL_law 682 = .ok (.iconst 0, 1) := by decide +kernel
theorem dL_law_683 : decode cL_law 683 = .ok (.ireturn, 1) := by decide +kernel
theorem dL_law_684 : decode cL_law 684 = .ok (.aload_n 1, 1) := by decide +kernel
theorem dL_law_685 : decode cL_law 685 = .ok (.aload_n 0, 1) := by decide +kernel
theorem dL_law_686 : decode cL_law 686 = .ok (.iload_n 3, 1) := by decide +kernel
theorem dL_law_687 : decode cL_law 687 = .ok (.iconst 1, 1) := by decide +kernel
theorem dL_law_688 : decode cL_law 688 = .ok (.iadd, 1) := by decide +kernel
theorem dL_law_689 : decode cL_law 689 = .ok (.iaload, 1) := by decide +kernel
theorem dL_law_690 : decode cL_law 690 = .ok (.aload_n 0, 1) := by decide +kernel
theorem dL_law_691 : decode cL_law 691 = .ok (.iload_n 3, 1) := by decide +kernel
theorem dL_law_692 : decode cL_law 692 = .ok (.iconst 2, 1) := by decide +kernel
theorem dL_law_693 : decode cL_law 693 = .ok (.iadd, 1) := by decide +kernel
theorem dL_law_694 : decode cL_law 694 = .ok (.iaload, 1) := by decide +kernel
theorem dL_law_695 : decode cL_law 695 = .ok (.aload_n 0, 1) := by decide +kernel
theorem dL_law_696 : decode cL_law 696 = .ok (.iload_n 3, 1) := by decide +kernel
theorem dL_law_697 : decode cL_law 697 = .ok (.iconst 3, 1) := by decide +kernel
theorem dL_law_698 : decode cL_law 698 = .ok (.iadd, 1) := by decide +kernel
theorem dL_law_699 : decode cL_law 699 = .ok (.iaload, 1) := by decide +kernel
theorem dL_law_700 : decode cL_law 700 = .ok (.invokevirtual 83, 3) := by decide +kernel
theorem dL_law_703 : decode cL_law 703 = .ok (.aload_n 2, 1) := by decide +kernel
theorem dL_law_704 : decode cL_law 704 = .ok (.aload_n 0, 1) := by decide +kernel
theorem dL_law_705 : decode cL_law 705 = .ok (.iload_n 3, 1) := by decide +kernel
theorem dL_law_706 : decode cL_law 706 = .ok (.iconst 1, 1) := by decide +kernel
theorem dL_law_707 : decode cL_law 707 = .ok (.iadd, 1) := by decide +kernel
theorem dL_law_708 : decode cL_law 708 = .ok (.iaload, 1) := by decide +kernel
theorem dL_law_709 : decode cL_law 709 = .ok (.aload_n 0, 1) := by decide +kernel
theorem dL_law_710 : decode cL_law 710 = .ok (.iload_n 3, 1) := by decide +kernel
theorem dL_law_711 : decode cL_law 711 = .ok (.iconst 2, 1) := by decide +kernel
theorem dL_law_712 : decode cL_law 712 = .ok (.iadd, 1) := by decide +kernel
theorem dL_law_713 : decode cL_law 713 = .ok (.iaload, 1) := by decide +kernel
theorem dL_law_714 : decode cL_law 714 = .ok (.aload_n 0, 1) := by decide +kernel
theorem dL_law_715 : decode cL_law 715 = .ok (.iload_n 3, 1) := by decide +kernel
theorem dL_law_716 : decode cL_law 716 = .ok (.iconst 3, 1) := by decide +kernel
theorem dL_law_717 : decode cL_law 717 = .ok (.iadd, 1) := by decide +kernel
theorem dL_law_718 : decode cL_law 718 = .ok (.iaload, 1) := by decide +kernel
theorem dL_law_719 : decode cL_law 719 = .ok (.invokevirtual 86, 3) := by decide +kernel
theorem dL_law_722 : decode cL_law 722 = .ok (.if_icmp .eq 413, 3) := by decide +kernel
theorem dL_law_725 : decode cL_law 725 = .ok (.iconst 0, 1) := by decide +kernel
theorem dL_law_726 : decode cL_law 726 = .ok (.ireturn, 1) := by decide +kernel
theorem dL_law_727 : decode cL_law 727 = .ok (.aload_n 1, 1) := by decide +kernel
theorem dL_law_728 : decode cL_law 728 = .ok (.aload_n 0, 1) := by decide +kernel
theorem dL_law_729 : decode cL_law 729 = .ok (.iload_n 3, 1) := by decide +kernel
theorem dL_law_730 : decode cL_law 730 = .ok (.iconst 1, 1) := by decide +kernel
theorem dL_law_731 : decode cL_law 731 = .ok (.iadd, 1) := by decide +kernel
theorem dL_law_732 : decode cL_law 732 = .ok (.iaload, 1) := by decide +kernel
theorem dL_law_733 : decode cL_law 733 = .ok (.aload_n 0, 1) := by decide +kernel
theorem dL_law_734 : decode cL_law 734 = .ok (.iload_n 3, 1) := by decide +kernel
theorem dL_law_735 : decode cL_law 735 = .ok (.iconst 2, 1) := by decide +kernel
theorem dL_law_736 : decode cL_law 736 = .ok (.iadd, 1) := by decide +kernel
theorem dL_law_737 : decode cL_law 737 = .ok (.iaload, 1) := by decide +kernel
theorem dL_law_738 : decode cL_law 738 = .ok (.aload_n 0, 1) := by decide +kernel
theorem dL_law_739 : decode cL_law 739 = .ok (.iload_n 3, 1) := by decide +kernel
theorem dL_law_740 : decode cL_law 740 = .ok (.iconst 3, 1) := by decide +kernel
theorem dL_law_741 : decode cL_law 741 = .ok (.iadd, 1) := by decide +kernel
theorem dL_law_742 : decode cL_law 742 = .ok (.iaload, 1) := by decide +kernel
theorem dL_law_743 : decode cL_law 743 = .ok (.invokevirtual 87, 3) := by decide +kernel
theorem dL_law_746 : decode cL_law 746 = .ok (.aload_n 2, 1) := by decide +kernel
theorem dL_law_747 : decode cL_law 747 = .ok (.aload_n 0, 1) := by decide +kernel
theorem dL_law_748 : decode cL_law 748 = .ok (.iload_n 3, 1) := by decide +kernel
theorem dL_law_749 : decode cL_law 749 = .ok (.iconst 1, 1) := by decide +kernel
theorem dL_law_750 : decode cL_law 750 = .ok (.iadd, 1) := by decide +kernel
theorem dL_law_751 : decode cL_law 751 = .ok (.iaload, 1) := by decide +kernel
theorem dL_law_752 : decode cL_law 752 = .ok (.aload_n 0, 1) := by decide +kernel
theorem dL_law_753 : decode cL_law 753 = .ok (.iload_n 3, 1) := by decide +kernel
theorem dL_law_754 : decode cL_law 754 = .ok (.iconst 2, 1) := by decide +kernel
theorem dL_law_755 : decode cL_law 755 = .ok (.iadd, 1) := by decide +kernel
theorem dL_law_756 : decode cL_law 756 = .ok (.iaload, 1) := by decide +kernel
theorem dL_law_757 : decode cL_law 757 = .ok (.aload_n 0, 1) := by decide +kernel
theorem dL_law_758 : decode cL_law 758 = .ok (.iload_n 3, 1) := by decide +kernel
theorem dL_law_759 : decode cL_law 759 = .ok (.iconst 3, 1) := by decide +kernel
theorem dL_law_760 : decode cL_law 760 = .ok (.iadd, 1) := by decide +kernel
theorem dL_law_761 : decode cL_law 761 = .ok (.iaload, 1) := by decide +kernel
theorem dL_law_762 : decode cL_law 762 = .ok (.invokevirtual 90, 3) := by decide +kernel
theorem dL_law_765 : decode cL_law 765 = .ok (.if_icmp .eq 370, 3) := by decide +kernel
theorem dL_law_768 : decode cL_law 768 = .ok (.iconst 0, 1) := by decide +kernel
theorem dL_law_769 : decode cL_law 769 = .ok (.ireturn, 1) := by decide +kernel
theorem dL_law_770 : decode cL_law 770 = .ok (.aload_n 1, 1) := by decide +kernel
theorem dL_law_771 : decode cL_law 771 = .ok (.aload_n 0, 1) := by decide +kernel
theorem dL_law_772 : decode cL_law 772 = .ok (.iload_n 3, 1) := by decide +kernel
theorem dL_law_773 : decode cL_law 773 = .ok (.iconst 1, 1) := by decide +kernel
theorem dL_law_774 : decode cL_law 774 = .ok (.iadd, 1) := by decide +kernel
theorem dL_law_775 : decode cL_law 775 = .ok (.iaload, 1) := by decide +kernel
theorem dL_law_776 : decode cL_law 776 = .ok (.aload_n 0, 1) := by decide +kernel
theorem dL_law_777 : decode cL_law 777 = .ok (.iload_n 3, 1) := by decide +kernel
theorem dL_law_778 : decode cL_law 778 = .ok (.iconst 2, 1) := by decide +kernel
theorem dL_law_779 : decode cL_law 779 = .ok (.iadd, 1) := by decide +kernel
theorem dL_law_780 : decode cL_law 780 = .ok (.iaload, 1) := by decide +kernel
theorem dL_law_781 : decode cL_law 781 = .ok (.invokevirtual 91, 3) := by decide +kernel
theorem dL_law_784 : decode cL_law 784 = .ok (.aload_n 2, 1) := by decide +kernel
theorem dL_law_785 : decode cL_law 785 = .ok (.aload_n 0, 1) := by decide +kernel
theorem dL_law_786 : decode cL_law 786 = .ok (.iload_n 3, 1) := by decide +kernel
theorem dL_law_787 : decode cL_law 787 = .ok (.iconst 1, 1) := by decide +kernel
theorem dL_law_788 : decode cL_law 788 = .ok (.iadd, 1) := by decide +kernel
theorem dL_law_789 : decode cL_law 789 = .ok (.iaload, 1) := by decide +kernel
theorem dL_law_790 : decode cL_law 790 = .ok (.aload_n 0, 1) := by decide +kernel
theorem dL_law_791 : decode cL_law 791 = .ok (.iload_n 3, 1) := by decide +kernel
theorem dL_law_792 : decode cL_law 792 = .ok (.iconst 2, 1) := by decide +kernel
theorem dL_law_793 : decode cL_law 793 = .ok (.iadd, 1) := by decide +kernel
theorem dL_law_794 : decode cL_law 794 = .ok (.iaload, 1) := by decide +kernel
theorem dL_law_795 : decode cL_law 795 = .ok (.invokevirtual 94, 3) := by decide +kernel
theorem dL_law_798 : decode cL_law 798 = .ok (.if_icmp .eq 337, 3) := by decide +kernel
theorem dL_law_801 : decode cL_law 801 = .ok (.iconst 0, 1) := by decide +kernel
theorem dL_law_802 : decode cL_law 802 = .ok (.ireturn, 1) := by decide +kernel
theorem dL_law_803 : decode cL_law 803 = .ok (.aload_n 1, 1) := by decide +kernel
theorem dL_law_804 : decode cL_law 804 = .ok (.aload_n 0, 1) := by decide +kernel
theorem dL_law_805 : decode cL_law 805 = .ok (.iload_n 3, 1) := by decide +kernel
theorem dL_law_806 : decode cL_law 806 = .ok (.iconst 1, 1) := by decide +kernel
theorem dL_law_807 : decode cL_law 807 = .ok (.iadd, 1) := by decide +kernel
theorem dL_law_808 : decode cL_law 808 = .ok (.iaload, 1) := by decide +kernel
theorem dL_law_809 : decode cL_law 809 = .ok (.aload_n 0, 1) := by decide +kernel
theorem dL_law_810 : decode cL_law 810 = .ok (.iload_n 3, 1) := by decide +kernel
theorem dL_law_811 : decode cL_law 811 = .ok (.iconst 2, 1) := by decide +kernel
theorem dL_law_812 : decode cL_law 812 = .ok (.iadd, 1) := by decide +kernel
theorem dL_law_813 : decode cL_law 813 = .ok (.iaload, 1) := by decide +kernel
theorem dL_law_814 : decode cL_law 814 = .ok (.aload_n 0, 1) := by decide +kernel
theorem dL_law_815 : decode cL_law 815 = .ok (.iload_n 3, 1) := by decide +kernel
theorem dL_law_816 : decode cL_law 816 = .ok (.iconst 3, 1) := by decide +kernel
theorem dL_law_817 : decode cL_law 817 = .ok (.iadd, 1) := by decide +kernel
theorem dL_law_818 : decode cL_law 818 = .ok (.iaload, 1) := by decide +kernel
theorem dL_law_819 : decode cL_law 819 = .ok (.aload_n 0, 1) := by decide +kernel
theorem dL_law_820 : decode cL_law 820 = .ok (.iload_n 3, 1) := by decide +kernel
theorem dL_law_821 : decode cL_law 821 = .ok (.iconst 4, 1) := by decide +kernel
theorem dL_law_822 : decode cL_law 822 = .ok (.iadd, 1) := by decide +kernel
theorem dL_law_823 : decode cL_law 823 = .ok (.iaload, 1) := by decide +kernel
theorem dL_law_824 : decode cL_law 824 = .ok (.ifCond .eq 7, 3) := by decide +kernel
theorem dL_law_827 : decode cL_law 827 = .ok (.iconst 1, 1) := by decide +kernel
theorem dL_law_828 : decode cL_law 828 = .ok (.goto 4, 3) := by decide +kernel
theorem dL_law_831 : decode cL_law 831 = .ok (.iconst 0, 1) := by decide +kernel
theorem dL_law_832 : decode cL_law 832 = .ok (.invokevirtual 95, 3) := by decide +kernel
theorem dL_law_835 : decode cL_law 835 = .ok (.aload_n 2, 1) := by decide +kernel
theorem dL_law_836 : decode cL_law 836 = .ok (.aload_n 0, 1) := by decide +kernel
theorem dL_law_837 : decode cL_law 837 = .ok (.iload_n 3, 1) := by decide +kernel
theorem dL_law_838 : decode cL_law 838 = .ok (.iconst 1, 1) := by decide +kernel
theorem dL_law_839 : decode cL_law 839 = .ok (.iadd, 1) := by decide +kernel
theorem dL_law_840 : decode cL_law 840 = .ok (.iaload, 1) := by decide +kernel
theorem dL_law_841 : decode cL_law 841 = .ok (.aload_n 0, 1) := by decide +kernel
theorem dL_law_842 : decode cL_law 842 = .ok (.iload_n 3, 1) := by decide +kernel
theorem dL_law_843 : decode cL_law 843 = .ok (.iconst 2, 1) := by decide +kernel
theorem dL_law_844 : decode cL_law 844 = .ok (.iadd, 1) := by decide +kernel
theorem dL_law_845 : decode cL_law 845 = .ok (.iaload, 1) := by decide +kernel
theorem dL_law_846 : decode cL_law 846 = .ok (.aload_n 0, 1) := by decide +kernel
theorem dL_law_847 : decode cL_law 847 = .ok (.iload_n 3, 1) := by decide +kernel
theorem dL_law_848 : decode cL_law 848 = .ok (.iconst 3, 1) := by decide +kernel
theorem dL_law_849 : decode cL_law 849 = .ok (.iadd, 1) := by decide +kernel
theorem dL_law_850 : decode cL_law 850 = .ok (.iaload, 1) := by decide +kernel
theorem dL_law_851 : decode cL_law 851 = .ok (.aload_n 0, 1) := by decide +kernel
theorem dL_law_852 : decode cL_law 852 = .ok (.iload_n 3, 1) := by decide +kernel
theorem dL_law_853 : decode cL_law 853 = .ok (.iconst 4, 1) := by decide +kernel
theorem dL_law_854 : decode cL_law 854 = .ok (.iadd, 1) := by decide +kernel
theorem dL_law_855 : decode cL_law 855 = .ok (.iaload, 1) := by decide +kernel
theorem dL_law_856 : decode cL_law 856 = .ok (.ifCond .eq 7, 3) := by decide +kernel
theorem dL_law_859 : decode cL_law 859 = .ok (.iconst 1, 1) := by decide +kernel
theorem dL_law_860 : decode cL_law 860 = .ok (.goto 4, 3) := by decide +kernel
theorem dL_law_863 : decode cL_law 863 = .ok (.iconst 0, 1) := by decide +kernel
theorem dL_law_864 : decode cL_law 864 = .ok (.invokevirtual 99, 3) := by decide +kernel
theorem dL_law_867 : decode cL_law 867 = .ok (.if_icmp .eq 268, 3) := by decide +kernel
theorem dL_law_870 : decode cL_law 870 = .ok (.iconst 0, 1) := by decide +kernel
theorem dL_law_871 : decode cL_law 871 = .ok (.ireturn, 1) := by decide +kernel
theorem dL_law_872 : decode cL_law 872 = .ok (.aload_n 1, 1) := by decide +kernel
theorem dL_law_873 : decode cL_law 873 = .ok (.aload_n 0, 1) := by decide +kernel
theorem dL_law_874 : decode cL_law 874 = .ok (.iload_n 3, 1) := by decide +kernel
theorem dL_law_875 : decode cL_law 875 = .ok (.iconst 1, 1) := by decide +kernel
theorem dL_law_876 : decode cL_law 876 = .ok (.iadd, 1) := by decide +kernel
theorem dL_law_877 : decode cL_law 877 = .ok (.iaload, 1) := by decide +kernel
theorem dL_law_878 : decode cL_law 878 = .ok (.aload_n 0, 1) := by decide +kernel
theorem dL_law_879 : decode cL_law 879 = .ok (.iload_n 3, 1) := by decide +kernel
theorem dL_law_880 : decode cL_law 880 = .ok (.iconst 2, 1) := by decide +kernel
theorem dL_law_881 : decode cL_law 881 = .ok (.iadd, 1) := by decide +kernel
theorem dL_law_882 : decode cL_law 882 = .ok (.iaload, 1) := by decide +kernel
theorem dL_law_883 : decode cL_law 883 = .ok (.invokevirtual 100, 3) := by decide +kernel
theorem dL_law_886 : decode cL_law 886 = .ok (.aload_n 2, 1) := by decide +kernel
theorem dL_law_887 : decode cL_law 887 = .ok (.aload_n 0, 1) := by decide +kernel
theorem dL_law_888 : decode cL_law 888 = .ok (.iload_n 3, 1) := by decide +kernel
theorem dL_law_889 : decode cL_law 889 = .ok (.iconst 1, 1) := by decide +kernel
theorem dL_law_890 : decode cL_law 890 = .ok (.iadd, 1) := by decide +kernel
theorem dL_law_891 : decode cL_law 891 = .ok (.iaload, 1) := by decide +kernel
theorem dL_law_892 : decode cL_law 892 = .ok (.aload_n 0, 1) := by decide +kernel
theorem dL_law_893 : decode cL_law 893 = .ok (.iload_n 3, 1) := by decide +kernel
theorem dL_law_894 : decode cL_law 894 = .ok (.iconst 2, 1) := by decide +kernel
theorem dL_law_895 : decode cL_law 895 = .ok (.iadd, 1) := by decide +kernel
theorem dL_law_896 : decode cL_law 896 = .ok (.iaload, 1) := by decide +kernel
theorem dL_law_897 : decode cL_law 897 = .ok (.invokevirtual 103, 3) := by decide +kernel
theorem dL_law_900 : decode cL_law 900 = .ok (.if_icmp .eq 235, 3) := by decide +kernel
theorem dL_law_903 : decode cL_law 903 = .ok (.iconst 0, 1) := by decide +kernel
theorem dL_law_904 : decode cL_law 904 = .ok (.ireturn, 1) := by decide +kernel
theorem dL_law_905 : decode cL_law 905 = .ok (.aload_n 1, 1) := by decide +kernel
theorem dL_law_906 : decode cL_law 906 = .ok (.aload_n 0, 1) := by decide +kernel
theorem dL_law_907 : decode cL_law 907 = .ok (.iload_n 3, 1) := by decide +kernel
theorem dL_law_908 : decode cL_law 908 = .ok (.iconst 1, 1) := by decide +kernel
theorem dL_law_909 : decode cL_law 909 = .ok (.iadd, 1) := by decide +kernel
theorem dL_law_910 : decode cL_law 910 = .ok (.iaload, 1) := by decide +kernel
theorem dL_law_911 : decode cL_law 911 = .ok (.aload_n 0, 1) := by decide +kernel
theorem dL_law_912 : decode cL_law 912 = .ok (.iload_n 3, 1) := by decide +kernel
theorem dL_law_913 : decode cL_law 913 = .ok (.iconst 2, 1) := by decide +kernel
theorem dL_law_914 : decode cL_law 914 = .ok (.iadd, 1) := by decide +kernel
theorem dL_law_915 : decode cL_law 915 = .ok (.iaload, 1) := by decide +kernel
theorem dL_law_916 : decode cL_law 916 = .ok (.invokevirtual 104, 3) := by decide +kernel
theorem dL_law_919 : decode cL_law 919 = .ok (.aload_n 2, 1) := by decide +kernel
theorem dL_law_920 : decode cL_law 920 = .ok (.aload_n 0, 1) := by decide +kernel
theorem dL_law_921 : decode cL_law 921 = .ok (.iload_n 3, 1) := by decide +kernel
theorem dL_law_922 : decode cL_law 922 = .ok (.iconst 1, 1) := by decide +kernel
theorem dL_law_923 : decode cL_law 923 = .ok (.iadd, 1) := by decide +kernel
theorem dL_law_924 : decode cL_law 924 = .ok (.iaload, 1) := by decide +kernel
theorem dL_law_925 : decode cL_law 925 = .ok (.aload_n 0, 1) := by decide +kernel
theorem dL_law_926 : decode cL_law 926 = .ok (.iload_n 3, 1) := by decide +kernel
theorem dL_law_927 : decode cL_law 927 = .ok (.iconst 2, 1) := by decide +kernel
theorem dL_law_928 : decode cL_law 928 = .ok (.iadd, 1) := by decide +kernel
theorem dL_law_929 : decode cL_law 929 = .ok (.iaload, 1) := by decide +kernel
theorem dL_law_930 : decode cL_law 930 = .ok (.invokevirtual 107, 3) := by decide +kernel
theorem dL_law_933 : decode cL_law 933 = .ok (.if_icmp .eq 202, 3) := by decide +kernel
theorem dL_law_936 : decode cL_law 936 = .ok (.iconst 0, 1) := by decide +kernel
theorem dL_law_937 : decode cL_law 937 = .ok (.ireturn, 1) := by decide +kernel
theorem dL_law_938 : decode cL_law 938 = .ok (.aload_n 1, 1) := by decide +kernel
theorem dL_law_939 : decode cL_law 939 = .ok (.aload_n 0, 1) := by decide +kernel
theorem dL_law_940 : decode cL_law 940 = .ok (.iload_n 3, 1) := by decide +kernel
theorem dL_law_941 : decode cL_law 941 = .ok (.iconst 1, 1) := by decide +kernel
theorem dL_law_942 : decode cL_law 942 = .ok (.iadd, 1) := by decide +kernel
theorem dL_law_943 : decode cL_law 943 = .ok (.iaload, 1) := by decide +kernel
theorem dL_law_944 : decode cL_law 944 = .ok (.aload_n 0, 1) := by decide +kernel
theorem dL_law_945 : decode cL_law 945 = .ok (.iload_n 3, 1) := by decide +kernel
theorem dL_law_946 : decode cL_law 946 = .ok (.iconst 2, 1) := by decide +kernel
theorem dL_law_947 : decode cL_law 947 = .ok (.iadd, 1) := by decide +kernel
theorem dL_law_948 : decode cL_law 948 = .ok (.iaload, 1) := by decide +kernel
theorem dL_law_949 : decode cL_law 949 = .ok (.invokevirtual 108, 3) := by decide +kernel
theorem dL_law_952 : decode cL_law 952 = .ok (.aload_n 2, 1) := by decide +kernel
theorem dL_law_953 : decode cL_law 953 = .ok (.aload_n 0, 1) := by decide +kernel
theorem dL_law_954 : decode cL_law 954 = .ok (.iload_n 3, 1) := by decide +kernel
theorem dL_law_955 : decode cL_law 955 = .ok (.iconst 1, 1) := by decide +kernel
theorem dL_law_956 : decode cL_law 956 = .ok (.iadd, 1) := by decide +kernel
theorem dL_law_957 : decode cL_law 957 = .ok (.iaload, 1) := by decide +kernel
theorem dL_law_958 : decode cL_law 958 = .ok (.aload_n 0, 1) := by decide +kernel
theorem dL_law_959 : decode cL_law 959 = .ok (.iload_n 3, 1) := by decide +kernel
theorem dL_law_960 : decode cL_law 960 = .ok (.iconst 2, 1) := by decide +kernel
theorem dL_law_961 : decode cL_law 961 = .ok (.iadd, 1) := by decide +kernel
theorem dL_law_962 : decode cL_law 962 = .ok (.iaload, 1) := by decide +kernel
theorem dL_law_963 : decode cL_law 963 = .ok (.invokevirtual 112, 3) := by decide +kernel
theorem dL_law_966 : decode cL_law 966 = .ok (.lcmp, 1) := by decide +kernel
theorem dL_law_967 : decode cL_law 967 = .ok (.ifCond .eq 168, 3) := by decide +kernel
theorem dL_law_970 : decode cL_law 970 = .ok (.iconst 0, 1) := by decide +kernel
theorem dL_law_971 : decode cL_law 971 = .ok (.ireturn, 1) := by decide +kernel
theorem dL_law_972 : decode cL_law 972 = .ok (.aload_n 1, 1) := by decide +kernel
theorem dL_law_973 : decode cL_law 973 = .ok (.aload_n 0, 1) := by decide +kernel
theorem dL_law_974 : decode cL_law 974 = .ok (.iload_n 3, 1) := by decide +kernel
theorem dL_law_975 : decode cL_law 975 = .ok (.iconst 1, 1) := by decide +kernel
theorem dL_law_976 : decode cL_law 976 = .ok (.iadd, 1) := by decide +kernel
theorem dL_law_977 : decode cL_law 977 = .ok (.iaload, 1) := by decide +kernel
theorem dL_law_978 : decode cL_law 978 = .ok (.aload_n 0, 1) := by decide +kernel
theorem dL_law_979 : decode cL_law 979 = .ok (.iload_n 3, 1) := by decide +kernel
theorem dL_law_980 : decode cL_law 980 = .ok (.iconst 2, 1) := by decide +kernel
theorem dL_law_981 : decode cL_law 981 = .ok (.iadd, 1) := by decide +kernel
theorem dL_law_982 : decode cL_law 982 = .ok (.iaload, 1) := by decide +kernel
theorem dL_law_983 : decode cL_law 983 = .ok (.i2l, 1) := by decide +kernel
theorem dL_law_984 : decode cL_law 984 = .ok (.bipush 32, 2) := by decide +kernel
theorem dL_law_986 : decode cL_law 986 = .ok (.lshl, 1) := by decide +kernel
theorem dL_law_987 : decode cL_law 987 = .ok (.aload_n 0, 1) := by decide +kernel
theorem dL_law_988 : decode cL_law 988 = .ok (.iload_n 3, 1) := by decide +kernel
theorem dL_law_989 : decode cL_law 989 = .ok (.iconst 3, 1) := by decide +kernel
theorem dL_law_990 : decode cL_law 990 = .ok (.iadd, 1) := by decide +kernel
theorem dL_law_991 : decode cL_law 991 = .ok (.iaload, 1) := by decide +kernel
theorem dL_law_992 : decode cL_law 992 = .ok (.i2l, 1) := by decide +kernel
theorem dL_law_993 : decode cL_law 993 = .ok (.ldc2_w 113, 3) := by decide +kernel
theorem dL_law_996 : decode cL_law 996 = .ok (.land, 1) := by decide +kernel
theorem dL_law_997 : decode cL_law 997 = .ok (.lor, 1) := by decide +kernel
theorem dL_law_998 : decode cL_law 998 = .ok (.invokevirtual 115, 3) := by decide +kernel
theorem dL_law_1001 : decode cL_law 1001 = .ok (.aload_n 2, 1) := by decide +kernel
theorem dL_law_1002 : decode cL_law 1002 = .ok (.aload_n 0, 1) := by decide +kernel
theorem dL_law_1003 : decode cL_law 1003 = .ok (.iload_n 3, 1) := by decide +kernel
theorem dL_law_1004 : decode cL_law 1004 = .ok (.iconst 1, 1) := by decide +kernel
theorem dL_law_1005 : decode cL_law 1005 = .ok (.iadd, 1) := by decide +kernel
theorem dL_law_1006 : decode cL_law 1006 = .ok (.iaload, 1) := by decide +kernel
theorem dL_law_1007 : decode cL_law 1007 = .ok (.aload_n 0, 1) := by decide +kernel
theorem dL_law_1008 : decode cL_law 1008 = .ok (.iload_n 3, 1) := by decide +kernel
theorem dL_law_1009 : decode cL_law 1009 = .ok (.iconst 2, 1) := by decide +kernel
theorem dL_law_1010 : decode cL_law 1010 = .ok (.iadd, 1) := by decide +kernel
theorem dL_law_1011 : decode cL_law 1011 = .ok (.iaload, 1) := by decide +kernel
theorem dL_law_1012 : decode cL_law 1012 = .ok (.i2l, 1) := by decide +kernel
theorem dL_law_1013 : decode cL_law 1013 = .ok (.bipush 32, 2) := by decide +kernel
theorem dL_law_1015 : decode cL_law 1015 = .ok (.lshl, 1) := by decide +kernel
theorem dL_law_1016 : decode cL_law 1016 = .ok (.aload_n 0, 1) := by decide +kernel
theorem dL_law_1017 : decode cL_law 1017 = .ok (.iload_n 3, 1) := by decide +kernel
theorem dL_law_1018 : decode cL_law 1018 = .ok (.iconst 3, 1) := by decide +kernel
theorem dL_law_1019 : decode cL_law 1019 = .ok (.iadd, 1) := by decide +kernel
theorem dL_law_1020 : decode cL_law 1020 = .ok (.iaload, 1) := by decide +kernel
theorem dL_law_1021 : decode cL_law 1021 = .ok (.i2l, 1) := by decide +kernel
theorem dL_law_1022 : decode cL_law 1022 = .ok (.ldc2_w 113, 3) := by decide +kernel
theorem dL_law_1025 : decode cL_law 1025 = .ok (.land, 1) := by decide +kernel
theorem dL_law_1026 : decode cL_law 1026 = .ok (.lor, 1) := by decide +kernel
theorem dL_law_1027 : decode cL_law 1027 = .ok (.invokevirtual 119, 3) := by decide +kernel
theorem dL_law_1030 : decode cL_law 1030 = .ok (.if_icmp .eq 105, 3) := by decide +kernel
theorem dL_law_1033 : decode cL_law 1033 = .ok (.iconst 0, 1) := by decide +kernel
theorem dL_law_1034 : decode cL_law 1034 = .ok (.ireturn, 1) := by decide +kernel
theorem dL_law_1035 : decode cL_law 1035 = .ok (.aload_n 1, 1) := by decide +kernel
theorem dL_law_1036 : decode cL_law 1036 = .ok (.aload_n 0, 1) := by decide +kernel
theorem dL_law_1037 : decode cL_law 1037 = .ok (.iload_n 3, 1) := by decide +kernel
theorem dL_law_1038 : decode cL_law 1038 = .ok (.iconst 1, 1) := by decide +kernel
theorem dL_law_1039 : decode cL_law 1039 = .ok (.iadd, 1) := by decide +kernel
theorem dL_law_1040 : decode cL_law 1040 = .ok (.iaload, 1) := by decide +kernel
theorem dL_law_1041 : decode cL_law 1041 = .ok (.aload_n 0, 1) := by decide +kernel
theorem dL_law_1042 : decode cL_law 1042 = .ok (.iload_n 3, 1) := by decide +kernel
theorem dL_law_1043 : decode cL_law 1043 = .ok (.iconst 2, 1) := by decide +kernel
theorem dL_law_1044 : decode cL_law 1044 = .ok (.iadd, 1) := by decide +kernel
theorem dL_law_1045 : decode cL_law 1045 = .ok (.iaload, 1) := by decide +kernel
theorem dL_law_1046 : decode cL_law 1046 = .ok (.aload_n 0, 1) := by decide +kernel
theorem dL_law_1047 : decode cL_law 1047 = .ok (.iload_n 3, 1) := by decide +kernel
theorem dL_law_1048 : decode cL_law 1048 = .ok (.iconst 3, 1) := by decide +kernel
theorem dL_law_1049 : decode cL_law 1049 = .ok (.iadd, 1) := by decide +kernel
theorem dL_law_1050 : decode cL_law 1050 = .ok (.iaload, 1) := by decide +kernel
theorem dL_law_1051 : decode cL_law 1051 = .ok (.invokevirtual 120, 3) := by decide +kernel
theorem dL_law_1054 : decode cL_law 1054 = .ok (.aload_n 2, 1) := by decide +kernel
theorem dL_law_1055 : decode cL_law 1055 = .ok (.aload_n 0, 1) := by decide +kernel
theorem dL_law_1056 : decode cL_law 1056 = .ok (.iload_n 3, 1) := by decide +kernel
theorem dL_law_1057 : decode cL_law 1057 = .ok (.iconst 1, 1) := by decide +kernel
theorem dL_law_1058 : decode cL_law 1058 = .ok (.iadd, 1) := by decide +kernel
theorem dL_law_1059 : decode cL_law 1059 = .ok (.iaload, 1) := by decide +kernel
theorem dL_law_1060 : decode cL_law 1060 = .ok (.aload_n 0, 1) := by decide +kernel
theorem dL_law_1061 : decode cL_law 1061 = .ok (.iload_n 3, 1) := by decide +kernel
theorem dL_law_1062 : decode cL_law 1062 = .ok (.iconst 2, 1) := by decide +kernel
theorem dL_law_1063 : decode cL_law 1063 = .ok (.iadd, 1) := by decide +kernel
theorem dL_law_1064 : decode cL_law 1064 = .ok (.iaload, 1) := by decide +kernel
theorem dL_law_1065 : decode cL_law 1065 = .ok (.aload_n 0, 1) := by decide +kernel
theorem dL_law_1066 : decode cL_law 1066 = .ok (.iload_n 3, 1) := by decide +kernel
theorem dL_law_1067 : decode cL_law 1067 = .ok (.iconst 3, 1) := by decide +kernel
theorem dL_law_1068 : decode cL_law 1068 = .ok (.iadd, 1) := by decide +kernel
theorem dL_law_1069 : decode cL_law 1069 = .ok (.iaload, 1) := by decide +kernel
theorem dL_law_1070 : decode cL_law 1070 = .ok (.invokevirtual 123, 3) := by decide +kernel
theorem dL_law_1073 : decode cL_law 1073 = .ok (.if_icmp .eq 62, 3) := by decide +kernel
theorem dL_law_1076 : decode cL_law 1076 = .ok (.iconst 0, 1) := by decide +kernel
theorem dL_law_1077 : decode cL_law 1077 = .ok (.ireturn, 1) := by decide +kernel
theorem dL_law_1078 : decode cL_law 1078 = .ok (.aload_n 1, 1) := by decide +kernel
theorem dL_law_1079 : decode cL_law 1079 = .ok (.aload_n 0, 1) := by decide +kernel
theorem dL_law_1080 : decode cL_law 1080 = .ok (.iload_n 3, 1) := by decide +kernel
theorem dL_law_1081 : decode cL_law 1081 = .ok (.iconst 1, 1) := by decide +kernel
theorem dL_law_1082 : decode cL_law 1082 = .ok (.iadd, 1) := by decide +kernel
theorem dL_law_1083 : decode cL_law 1083 = .ok (.iaload, 1) := by decide +kernel
theorem dL_law_1084 : decode cL_law 1084 = .ok (.invokevirtual 124, 3) := by decide +kernel
theorem dL_law_1087 : decode cL_law 1087 = .ok (.aload_n 2, 1) := by decide +kernel
theorem dL_law_1088 : decode cL_law 1088 = .ok (.aload_n 0, 1) := by decide +kernel
theorem dL_law_1089 : decode cL_law 1089 = .ok (.iload_n 3, 1) := by decide +kernel
theorem dL_law_1090 : decode cL_law 1090 = .ok (.iconst 1, 1) := by decide +kernel
theorem dL_law_1091 : decode cL_law 1091 = .ok (.iadd, 1) := by decide +kernel
theorem dL_law_1092 : decode cL_law 1092 = .ok (.iaload, 1) := by decide +kernel
theorem dL_law_1093 : decode cL_law 1093 = .ok (.invokevirtual 127, 3) := by decide +kernel
theorem dL_law_1096 : decode cL_law 1096 = .ok (.if_icmp .eq 39, 3) := by decide +kernel
theorem dL_law_1099 : decode cL_law 1099 = .ok (.iconst 0, 1) := by decide +kernel
theorem dL_law_1100 : decode cL_law 1100 = .ok (.ireturn, 1) := by decide +kernel
theorem dL_law_1101 : decode cL_law 1101 = .ok (.aload_n 1, 1) := by decide +kernel
theorem dL_law_1102 : decode cL_law 1102 = .ok (.aload_n 0, 1) := by decide +kernel
theorem dL_law_1103 : decode cL_law 1103 = .ok (.iload_n 3, 1) := by decide +kernel
theorem dL_law_1104 : decode cL_law 1104 = .ok (.iconst 1, 1) := by decide +kernel
theorem dL_law_1105 : decode cL_law 1105 = .ok (.iadd, 1) := by decide +kernel
theorem dL_law_1106 : decode cL_law 1106 = .ok (.iaload, 1) := by decide +kernel
theorem dL_law_1107 : decode cL_law 1107 = .ok (.aload_n 0, 1) := by decide +kernel
theorem dL_law_1108 : decode cL_law 1108 = .ok (.iload_n 3, 1) := by decide +kernel
theorem dL_law_1109 : decode cL_law 1109 = .ok (.iconst 2, 1) := by decide +kernel
theorem dL_law_1110 : decode cL_law 1110 = .ok (.iadd, 1) := by decide +kernel
theorem dL_law_1111 : decode cL_law 1111 = .ok (.iaload, 1) := by decide +kernel
theorem dL_law_1112 : decode cL_law 1112 = .ok (.invokevirtual 128, 3) := by decide +kernel
theorem dL_law_1115 : decode cL_law 1115 = .ok (.aload_n 2, 1) := by decide +kernel
theorem dL_law_1116 : decode cL_law 1116 = .ok (.aload_n 0, 1) := by decide +kernel
theorem dL_law_1117 : decode cL_law 1117 = .ok (.iload_n 3, 1) := by decide +kernel
theorem dL_law_1118 : decode cL_law 1118 = .ok (.iconst 1, 1) := by decide +kernel
theorem dL_law_1119 : decode cL_law 1119 = .ok (.iadd, 1) := by decide +kernel
theorem dL_law_1120 : decode cL_law 1120 = .ok (.iaload, 1) := by decide +kernel
theorem dL_law_1121 : decode cL_law 1121 = .ok (.aload_n 0, 1) := by decide +kernel
theorem dL_law_1122 : decode cL_law 1122 = .ok (.iload_n 3, 1) := by decide +kernel
theorem dL_law_1123 : decode cL_law 1123 = .ok (.iconst 2, 1) := by decide +kernel
theorem dL_law_1124 : decode cL_law 1124 = .ok (.iadd, 1) := by decide +kernel
theorem dL_law_1125 : decode cL_law 1125 = .ok (.iaload, 1) := by decide +kernel
theorem dL_law_1126 : decode cL_law 1126 = .ok (.invokevirtual 131, 3) := by decide +kernel
theorem dL_law_1129 : decode cL_law 1129 = .ok (.lcmp, 1) := by decide +kernel
theorem dL_law_1130 : decode cL_law 1130 = .ok (.ifCond .eq 5, 3) := by decide +kernel
theorem dL_law_1133 : decode cL_law 1133 = .ok (.iconst 0, 1) := by decide +kernel
theorem dL_law_1134 : decode cL_law 1134 = .ok (.ireturn, 1) := by decide +kernel
theorem dL_law_1135 : decode cL_law 1135 = .ok (.iinc 3 6, 3) := by decide +kernel
theorem dL_law_1138 : decode cL_law 1138 = .ok (.goto (-1120), 3) := by decide +kernel
theorem dL_law_1141 : decode cL_law 1141 = .ok (.iconst 1, 1) := by decide +kernel
theorem dL_law_1142 : decode cL_law 1142 = .ok (.ireturn, 1) := by decide +kernel
