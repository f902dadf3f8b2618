theorem dX8_numberIn_28 : decode cX8_numberIn 28 = .ok (.invokestatic 87, 3) := by decide +kernel
theorem dX8_numberIn_31 : decode cX8_numberIn 31 = .ok (.istore_n 3, 1) := by decide +kernel
theorem dX8_numberIn_32 : decode cX8_numberIn 32 = .ok (.iinc 4 1, 3) := by decide +kernel
theorem dX8_numberIn_35 : decode cX8_numberIn 35 = .ok (.goto (-30), 3) := by decide +kernel
theorem dX8_numberIn_38 : decode cX8_numberIn 38 = .ok (.iload_n 3, 1) := by decide +kernel
theorem dX8_numberIn_39 : decode cX8_numberIn 39 = .ok (.ireturn, 1) := by decide +kernel
theorem dX8_typeAt_0 : decode cX8_typeAt 0 = .ok (.iload_n 1, 1) := by decide +kernel
theorem dX8_typeAt_1 : decode cX8_typeAt 1 = .ok (.ifCond .lt 20, 3) := by decide +kernel
theorem dX8_typeAt_4 : decode cX8_typeAt 4 = .ok (.iload_n 1, 1) := by decide +kernel
theorem dX8_typeAt_5 : decode cX8_typeAt 5 = .ok (.aload_n 0, 1) := by decide +kernel
theorem dX8_typeAt_6 : decode cX8_typeAt 6 = .ok (.getfield 21, 3) := by decide +kernel
theorem dX8_typeAt_9 : decode cX8_typeAt 9 = .ok (.if_icmp .ge 12, 3) := by decide +kernel
theorem dX8_typeAt_12 : decode cX8_typeAt 12 = .ok (.aload_n 0, 1) := by decide +kernel
theorem dX8_typeAt_13 : decode cX8_typeAt 13 = .ok (.getfield 9, 3) := by decide +kernel
theorem dX8_typeAt_16 : decode cX8_typeAt 16 = .ok (.iload_n 1, 1) := by decide +kernel
theorem dX8_typeAt_17 : decode cX8_typeAt 17 = .ok (.iaload, 1) := by decide +kernel
theorem dX8_typeAt_18 : decode cX8_typeAt 18 = .ok (.goto 4, 3) := by decide +kernel
theorem dX8_typeAt_21 : decode cX8_typeAt 21 = .ok (.iconst 0, 1) := by decide +kernel
theorem dX8_typeAt_22 : decode cX8_typeAt 22 = .ok (.ireturn, 1) := by decide +kernel
theorem dX8_placeAt_0 : decode cX8_placeAt 0 = .ok (.iload_n 1, 1) := by decide +kernel
theorem dX8_placeAt_1 : decode cX8_placeAt 1 = .ok (.ifCond .lt 20, 3) := by decide +kernel
theorem dX8_placeAt_4 : decode cX8_placeAt 4 = .ok (.iload_n 1, 1) := by decide +kernel
theorem dX8_placeAt_5 : decode cX8_placeAt 5 = .ok (.aload_n 0, 1) := by decide +kernel
theorem dX8_placeAt_6 : decode cX8_placeAt 6 = .ok (.getfield 21, 3) := by decide +kernel
theorem dX8_placeAt_9 : decode cX8_placeAt 9 = .ok (.if_icmp .ge 12, 3) := by decide +kernel
theorem dX8_placeAt_12 : decode cX8_placeAt 12 = .ok (.aload_n 0, 1) := by decide +kernel
theorem dX8_placeAt_13 : decode cX8_placeAt 13 = .ok (.getfield 15, 3) := by decide +kernel
theorem dX8_placeAt_16 : decode cX8_placeAt 16 = .ok (.iload_n 1, 1) := by decide +kernel
theorem dX8_placeAt_17 : decode cX8_placeAt 17 = .ok (.iaload, 1) := by decide +kernel
theorem dX8_placeAt_18 : decode cX8_placeAt 18 = .ok (.goto 7, 3) := by decide +kernel
theorem dX8_placeAt_21 : decode cX8_placeAt 21 = .ok (.aload_n 0, 1) := by decide +kernel
theorem dX8_placeAt_22 : decode cX8_placeAt 22 = .ok (.getfield 28, 3) := by decide +kernel
theorem dX8_placeAt_25 : decode cX8_placeAt 25 = .ok (.ireturn, 1) := by decide +kernel
theorem dX8_valueAt_0 : decode cX8_valueAt 0 = .ok (.iload_n 1, 1) := by decide +kernel
theorem dX8_valueAt_1 : decode cX8_valueAt 1 = .ok (.ifCond .lt 30, 3) := by decide +kernel
theorem dX8_valueAt_4 : decode cX8_valueAt 4 = .ok (.iload_n 1, 1) := by decide +kernel
theorem dX8_valueAt_5 : decode cX8_valueAt 5 = .ok (.aload_n 0, 1) := by decide +kernel
theorem dX8_valueAt_6 : decode cX8_valueAt 6 = .ok (.getfield 21, 3) := by decide +kernel
theorem dX8_valueAt_9 : decode cX8_valueAt 9 = .ok (.if_icmp .ge 22, 3) := by decide +kernel
theorem dX8_valueAt_12 : decode cX8_valueAt 12 = .ok (.aload_n 0, 1) := by decide +kernel
theorem dX8_valueAt_13 : decode cX8_valueAt 13 = .ok (.getfield 9, 3) := by decide +kernel
theorem dX8_valueAt_16 : decode cX8_valueAt 16 = .ok (.iload_n 1, 1) := by decide +kernel
theorem dX8_valueAt_17 : decode cX8_valueAt 17 = .ok (.iaload, 1) := by decide +kernel
theorem dX8_valueAt_18 : decode cX8_valueAt 18 = .ok (.iload_n 2, 1) := by decide +kernel
theorem dX8_valueAt_19 : decode cX8_valueAt 19 = .ok (.if_icmp .ne 12, 3) := by decide +kernel
theorem dX8_valueAt_22 : decode cX8_valueAt 22 = .ok (.aload_n 0, 1) := by decide +kernel
theorem dX8_valueAt_23 : decode cX8_valueAt 23 = .ok (.getfield 18, 3) := by decide +kernel
theorem dX8_valueAt_26 : decode cX8_valueAt 26 = .ok (.iload_n 1, 1) := by decide +kernel
theorem dX8_valueAt_27 : decode cX8_valueAt 27 = .ok (.iaload, 1) := by decide +kernel
theorem dX8_valueAt_28 : decode cX8_valueAt 28 = .ok (.goto 4, 3) := by decide +kernel
theorem dX8_valueAt_31 : decode cX8_valueAt 31 = .ok (.iconst (-1), 1) := by decide +kernel
theorem dX8_valueAt_32 : decode cX8_valueAt 32 = .ok (.ireturn, 1) := by decide +kernel
theorem dX9_init_0 : decode cX9_init 0 = .ok (.aload_n 0, 1) := by decide +kernel
theorem dX9_init_1 : decode cX9_init 1 = .ok (.invokespecial 1, 3) := by decide +kernel
theorem dX9_init_4 : decode cX9_init 4 = .ok (.aload_n 0, 1) := by decide +kernel
theorem dX9_init_5 : decode cX9_init 5 = .ok (.new 7, 3) := by decide +kernel
theorem dX9_init_8 : decode cX9_init 8 = .ok (.dup, 1) := by decide +kernel
theorem dX9_init_9 : decode cX9_init 9 = .ok (.invokespecial 9, 3) := by decide +kernel
theorem dX9_init_12 : decode cX9_init 12 = .ok (.putfield 10, 3) := by decide +kernel
theorem dX9_init_15 : decode cX9_init 15 = .ok (.aload_n 0, 1) := by decide +kernel
theorem dX9_init_16 : decode cX9_init 16 = .ok (.new 7, 3) := by decide +kernel
theorem dX9_init_19 : decode cX9_init 19 = .ok (.dup, 1) := by decide +kernel
theorem dX9_init_20 : decode cX9_init 20 = .ok (.invokespecial 9, 3) := by decide +kernel
theorem dX9_init_23 : decode cX9_init 23 = .ok (.putfield 16, 3) := by decide +kernel
theorem dX9_init_26 : decode cX9_init 26 = .ok (.aload_n 0, 1) := by decide +kernel
theorem dX9_init_27 : decode cX9_init 27 = .ok (.new 7, 3) := by decide +kernel
theorem dX9_init_30 : decode cX9_init 30 = .ok (.dup, 1) := by decide +kernel
theorem dX9_init_31 : decode cX9_init 31 = .ok (.invokespecial 9, 3) := by decide +kernel
theorem dX9_init_34 : decode cX9_init 34 = .ok (.putfield 19, 3) := by decide +kernel
theorem dX9_init_37 : decode cX9_init 37 = .ok (.aload_n 0, 1) := by decide +kernel
theorem dX9_init_38 : decode cX9_init 38 = .ok (.new 22, 3) := by decide +kernel
theorem dX9_init_41 : decode cX9_init 41 = .ok (.dup, 1) := by decide +kernel
theorem dX9_init_42 : decode cX9_init 42 = .ok (.invokespecial 24, 3) := by decide +kernel
theorem dX9_init_45 : decode cX9_init 45 = .ok (.putfield 25, 3) := by decide +kernel
theorem dX9_init_48 : decode cX9_init 48 = .ok (.aload_n 0, 1) := by decide +kernel
theorem dX9_init_49 : decode cX9_init 49 = .ok (.new 29, 3) := by decide +kernel
theorem dX9_init_52 : decode cX9_init 52 = .ok (.dup, 1) := by decide +kernel
theorem dX9_init_53 : decode cX9_init 53 = .ok (.invokespecial 31, 3) := by decide +kernel
theorem dX9_init_56 : decode cX9_init 56 = .ok (.putfield 32, 3) := by decide +kernel
theorem dX9_init_59 : decode cX9_init 59 = .ok (.aload_n 0, 1) := by decide +kernel
theorem dX9_init_60 : decode cX9_init 60 = .ok (.new 36, 3) := by decide +kernel
theorem dX9_init_63 : decode cX9_init 63 = .ok (.dup, 1) := by decide +kernel
theorem dX9_init_64 : decode cX9_init 64 = .ok (.invokespecial 38, 3) := by decide +kernel
theorem dX9_init_67 : decode cX9_init 67 = .ok (.putfield 39, 3) := by decide +kernel
theorem dX9_init_70 : decode cX9_init 70 = .ok (.aload_n 0, 1) := by decide +kernel
theorem dX9_init_71 : decode cX9_init 71 = .ok (.new 43, 3) := by decide +kernel
theorem dX9_init_74 : decode cX9_init 74 = .ok (.dup, 1) := by decide +kernel
theorem dX9_init_75 : decode cX9_init 75 = .ok (.invokespecial 45, 3) := by decide +kernel
theorem dX9_init_78 : decode cX9_init 78 = .ok (.putfield 46, 3) := by decide +kernel
theorem dX9_init_81 : decode cX9_init 81 = .ok (.aload_n 0, 1) := by decide +kernel
theorem dX9_init_82 : decode cX9_init 82 = .ok (.bipush 7, 2) := by decide +kernel
theorem dX9_init_84 : decode cX9_init 84 = .ok (.newarray .int, 2) := by decide +kernel
theorem dX9_init_86 : decode cX9_init 86 = .ok (.putfield 50, 3) := by decide +kernel
theorem dX9_init_89 : decode cX9_init 89 = .ok (.aload_n 0, 1) := by decide +kernel
theorem dX9_init_90 : decode cX9_init 90 = .ok (.iconst 0, 1) := by decide +kernel
theorem dX9_init_91 : decode cX9_init 91 = .ok (.putfield 54, 3) := by decide +kernel
theorem dX9_init_94 : decode cX9_init 94 = .ok (.return_, 1) := by decide +kernel
theorem dX9_odd_0 : decode cX9_odd 0 = .ok (.iload_n 1, 1) := by decide +kernel
theorem dX9_odd_1 : decode cX9_odd 1 = .ok (.invokestatic 58, 3) := by decide +kernel
theorem dX9_odd_4 : decode cX9_odd 4 = .ok (.ifCond .ne 10, 3) := by decide +kernel
theorem dX9_odd_7 : decode cX9_odd 7 = .ok (.aload_n 0, 1) := by decide +kernel
theorem dX9_odd_8 : decode cX9_odd 8 = .ok (.ldc 64, 2) := by decide +kernel
theorem dX9_odd_10 : decode cX9_odd 10 = .ok (.invokevirtual 65, 3) := by decide +kernel
theorem dX9_odd_13 : decode cX9_odd 13 = .ok (.ireturn, 1) := by decide +kernel
theorem dX9_odd_14 : decode cX9_odd 14 = .ok (.iload_n 1, 1) := by decide +kernel
theorem dX9_odd_15 : decode cX9_odd 15 = .ok (.invokestatic 69, 3) := by decide +kernel
theorem dX9_odd_18 : decode cX9_odd 18 = .ok (.ireturn, 1) := by decide +kernel
theorem dX9_pieces_0 : decode cX9_pieces 0 = .ok (.iload_n 1, 1) := by decide +kernel
theorem dX9_pieces_1 : decode cX9_pieces 1 = .ok (.invokestatic 58, 3) := by decide +kernel
theorem dX9_pieces_4 : decode cX9_pieces 4 = .ok (.ifCond .ne 10, 3) := by decide +kernel
theorem dX9_pieces_7 : decode cX9_pieces 7 = .ok (.aload_n 0, 1) := by decide +kernel
theorem dX9_pieces_8 : decode cX9_pieces 8 = .ok (.ldc 64, 2) := by decide +kernel
theorem dX9_pieces_10 : decode cX9_pieces 10 = .ok (.invokevirtual 65, 3) := by decide +kernel
theorem dX9_pieces_13 : decode cX9_pieces 13 = .ok (.ireturn, 1) := by decide +kernel
theorem dX9_pieces_14 : decode cX9_pieces 14 = .ok (.iload_n 1, 1) := by decide +kernel
theorem dX9_pieces_15 : decode cX9_pieces 15 = .ok (.invokestatic 72, 3) := by decide +kernel
theorem dX9_pieces_18 : decode cX9_pieces 18 = .ok (.ireturn, 1) := by decide +kernel
theorem dX9_lines_0 : decode cX9_lines 0 = .ok (.iload_n 1, 1) := by decide +kernel
theorem dX9_lines_1 : decode cX9_lines 1 = .ok (.invokestatic 58, 3) := by decide +kernel
theorem dX9_lines_4 : decode cX9_lines 4 = .ok (.ifCond .ne 10, 3) := by decide +kernel
theorem dX9_lines_7 : decode cX9_lines 7 = .ok (.aload_n 0, 1) := by decide +kernel
theorem dX9_lines_8 : decode cX9_lines 8 = .ok (.ldc 64, 2) := by decide +kernel
theorem dX9_lines_10 : decode cX9_lines 10 = .ok (.invokevirtual 65, 3) := by decide +kernel
theorem dX9_lines_13 : decode cX9_lines 13 = .ok (.ireturn, 1) := by decide +kernel
theorem dX9_lines_14 : decode cX9_lines 14 = .ok (.iload_n 1, 1) := by decide +kernel
theorem dX9_lines_15 : decode cX9_lines 15 = .ok (.invokestatic 75, 3) := by decide +kernel
theorem dX9_lines_18 : decode cX9_lines 18 = .ok (.ireturn, 1) := by decide +kernel
theorem dX9_strays_0 : decode cX9_strays 0 = .ok (.iload_n 1, 1) := by decide +kernel
theorem dX9_strays_1 : decode cX9_strays 1 = .ok (.invokestatic 58, 3) := by decide +kernel
theorem dX9_strays_4 : decode cX9_strays 4 = .ok (.ifCond .ne 10, 3) := by decide +kernel
theorem dX9_strays_7 : decode cX9_strays 7 = .ok (.aload_n 0, 1) := by decide +kernel
theorem dX9_strays_8 : decode cX9_strays 8 = .ok (.ldc 64, 2) := by decide +kernel
theorem dX9_strays_10 : decode cX9_strays 10 = .ok (.invokevirtual 65, 3) := by decide +kernel
theorem dX9_strays_13 : decode cX9_strays 13 = .ok (.ireturn, 1) := by decide +kernel
theorem dX9_strays_14 : decode cX9_strays 14 = .ok (.iload_n 1, 1) := by decide +kernel
theorem dX9_strays_15 : decode cX9_strays 15 = .ok (.invokestatic 78, 3) := by decide +kernel
theorem dX9_strays_18 : decode cX9_strays 18 = .ok (.ireturn, 1) := by decide +kernel
theorem dX9_ways_0 : decode cX9_ways 0 = .ok (.iload_n 1, 1) := by decide +kernel
theorem dX9_ways_1 : decode cX9_ways 1 = .ok (.invokestatic 58, 3) := by decide +kernel
theorem dX9_ways_4 : decode cX9_ways 4 = .ok (.ifCond .eq 11, 3) := by decide +kernel
theorem dX9_ways_7 : decode cX9_ways 7 = .ok (.iload_n 2, 1) := by decide +kernel
theorem dX9_ways_8 : decode cX9_ways 8 = .ok (.i2l, 1) := by decide +kernel
theorem dX9_ways_9 : decode cX9_ways 9 = .ok (.invokestatic 81, 3) := by decide +kernel
theorem dX9_ways_12 : decode cX9_ways 12 = .ok (.ifCond .ne 11, 3) := by decide +kernel
theorem dX9_ways_15 : decode cX9_ways 15 = .ok (.aload_n 0, 1) := by decide +kernel
theorem dX9_ways_16 : decode cX9_ways 16 = .ok (.ldc 64, 2) := by decide +kernel
theorem dX9_ways_18 : decode cX9_ways 18 = .ok (.invokevirtual 65, 3) := by decide +kernel
theorem dX9_ways_21 : decode cX9_ways 21 = .ok (.i2l, 1) := by decide +kernel
theorem dX9_ways_22 : decode cX9_ways 22 = .ok (.lreturn, 1) := by decide +kernel
theorem dX9_ways_23 : decode cX9_ways 23 = .ok (.iload_n 1, 1) := by decide +kernel
theorem dX9_ways_24 : decode cX9_ways 24 = .ok (.iload_n 2, 1) := by decide +kernel
theorem dX9_ways_25 : decode cX9_ways 25 = .ok (.invokestatic 85, 3) := by decide +kernel
theorem dX9_ways_28 : decode cX9_ways 28 = .ok (.ifCond .ne 5, 3) := by decide +kernel
theorem dX9_ways_31 : decode cX9_ways 31 = .ok (.lconst 0, 1) := by decide +kernel
theorem dX9_ways_32 : decode cX9_ways 32 = .ok (.lreturn, 1) := by decide +kernel
theorem dX9_ways_33 : decode cX9_ways 33 = .ok (.iload_n 1, 1) := by decide +kernel
theorem dX9_ways_34 : decode cX9_ways 34 = .ok (.iload_n 2, 1) := by decide +kernel
theorem dX9_ways_35 : decode cX9_ways 35 = .ok (.iconst 0, 1) := by decide +kernel
theorem dX9_ways_36 : decode cX9_ways 36 = .ok (.invokestatic 89, 3) := by decide +kernel
theorem dX9_ways_39 : decode cX9_ways 39 = .ok (.lreturn, 1) := by decide +kernel
theorem dX9_ith_0 : decode cX9_ith 0 = .ok (.iload_n 1, 1) := by decide +kernel
theorem dX9_ith_1 : decode cX9_ith 1 = .ok (.invokestatic 58, 3) := by decide +kernel
theorem dX9_ith_4 : decode cX9_ith 4 = .ok (.ifCond .eq 20, 3) := by decide +kernel
theorem dX9_ith_7 : decode cX9_ith 7 = .ok (.iload_n 2, 1) := by decide +kernel
theorem dX9_ith_8 : decode cX9_ith 8 = .ok (.i2l, 1) := by decide +kernel
theorem dX9_ith_9 : decode cX9_ith 9 = .ok (.invokestatic 81, 3) := by decide +kernel
theorem dX9_ith_12 : decode cX9_ith 12 = .ok (.ifCond .eq 12, 3) := by decide +kernel
theorem dX9_ith_15 : decode cX9_ith 15 = .ok (.iload_n 3, 1) := by decide +kernel
theorem dX9_ith_16 : decode cX9_ith 16 = .ok (.bipush 11, 2) := by decide +kernel
theorem dX9_ith_18 : decode cX9_ith 18 = .ok (.invokestatic 93, 3) := by decide +kernel
theorem dX9_ith_21 : decode cX9_ith 21 = .ok (.ifCond .ne 10, 3) := by decide +kernel
theorem dX9_ith_24 : decode cX9_ith 24 = .ok (.aload_n 0, 1) := by decide +kernel
theorem dX9_ith_25 : decode cX9_ith 25 = .ok (.ldc 64, 2) := by decide +kernel
theorem dX9_ith_27 : decode cX9_ith 27 = .ok (.invokevirtual 65, 3) := by decide +kernel
theorem dX9_ith_30 : decode cX9_ith 30 = .ok (.ireturn, 1) := by decide +kernel
theorem dX9_ith_31 : decode cX9_ith 31 = .ok (.iload_n 1, 1) := by decide +kernel
theorem dX9_ith_32 : decode cX9_ith 32 = .ok (.iload_n 2, 1) := by decide +kernel
theorem dX9_ith_33 : decode cX9_ith 33 = .ok (.iload_n 3, 1) := by decide +kernel
theorem dX9_ith_34 : decode cX9_ith 34 = .ok (.invokestatic 96, 3) := by decide +kernel
theorem dX9_ith_37 : decode cX9_ith 37 = .ok (.istore 4, 2) := by decide +kernel
theorem dX9_ith_39 : decode cX9_ith 39 = .ok (.iload 4, 2) := by decide +kernel
theorem dX9_ith_41 : decode cX9_ith 41 = .ok (.ifCond .ge 12, 3) := by decide +kernel
theorem dX9_ith_44 : decode cX9_ith 44 = .ok (.aload_n 0, 1) := by decide +kernel
theorem dX9_ith_45 : decode cX9_ith 45 = .ok (.ldc 100, 2) := by decide +kernel
theorem dX9_ith_47 : decode cX9_ith 47 = .ok (.invokevirtual 65, 3) := by decide +kernel
theorem dX9_ith_50 : decode cX9_ith 50 = .ok (.goto 5, 3) := by decide +kernel
theorem dX9_ith_53 : decode cX9_ith 53 = .ok (.iload 4, 2) := by decide +kernel
theorem dX9_ith_55 : decode cX9_ith 55 = .ok (.ireturn, 1) := by decide +kernel
theorem dX9_again_0 : decode cX9_again 0 = .ok (.iload_n 1, 1) := by decide +kernel
theorem dX9_again_1 : decode cX9_again 1 = .ok (.invokestatic 58, 3) := by decide +kernel
theorem dX9_again_4 : decode cX9_again 4 = .ok (.ifCond .ne 10, 3) := by decide +kernel
theorem dX9_again_7 : decode cX9_again 7 = .ok (.aload_n 0, 1) := by decide +kernel
theorem dX9_again_8 : decode cX9_again 8 = .ok (.ldc 64, 2) := by decide +kernel
theorem dX9_again_10 : decode cX9_again 10 = .ok (.invokevirtual 65, 3) := by decide +kernel
theorem dX9_again_13 : decode cX9_again 13 = .ok (.ireturn, 1) := by decide +kernel
theorem dX9_again_14 : decode cX9_again 14 = .ok (.iload_n 1, 1) := by decide +kernel
theorem dX9_again_15 : decode cX9_again 15 = .ok (.invokestatic 72, 3) := by decide +kernel
theorem dX9_again_18 : decode cX9_again 18 = .ok (.iconst 1, 1) := by decide +kernel
theorem dX9_again_19 : decode cX9_again 19 = .ok (.if_icmp .le 10, 3) := by decide +kernel
theorem dX9_again_22 : decode cX9_again 22 = .ok (.aload_n 0, 1) := by decide +kernel
theorem dX9_again_23 : decode cX9_again 23 = .ok (.ldc 100, 2) := by decide +kernel
theorem dX9_again_25 : decode cX9_again 25 = .ok (.invokevirtual 65, 3) := by decide +kernel
theorem dX9_again_28 : decode cX9_again 28 = .ok (.ireturn, 1) := by decide +kernel
theorem dX9_again_29 : decode cX9_again 29 = .ok (.iload_n 1, 1) := by decide +kernel
theorem dX9_again_30 : decode cX9_again 30 = .ok (.invokestatic 101, 3) := by decide +kernel
theorem dX9_again_33 : decode cX9_again 33 = .ok (.ireturn, 1) := by decide +kernel
theorem dX9_turned_0 : decode cX9_turned 0 = .ok (.iload_n 1, 1) := by decide +kernel
theorem dX9_turned_1 : decode cX9_turned 1 = .ok (.invokestatic 58, 3) := by decide +kernel
theorem dX9_turned_4 : decode cX9_turned 4 = .ok (.ifCond .eq 11, 3) := by decide +kernel
theorem dX9_turned_7 : decode cX9_turned 7 = .ok (.iload_n 2, 1) := by decide +kernel
theorem dX9_turned_8 : decode cX9_turned 8 = .ok (.iconst 3, 1) := by decide +kernel
theorem dX9_turned_9 : decode cX9_turned 9 = .ok (.invokestatic 93, 3) := by decide +kernel
theorem dX9_turned_12 : decode cX9_turned 12 = .ok (.ifCond .ne 10, 3) := by decide +kernel
theorem dX9_turned_15 : decode cX9_turned 15 = .ok (.aload_n 0, 1) := by decide +kernel
theorem dX9_turned_16 : decode cX9_turned 16 = .ok (.ldc 64, 2) := by decide +kernel
theorem dX9_turned_18 : decode cX9_turned 18 = .ok (.invokevirtual 65, 3) := by decide +kernel
theorem dX9_turned_21 : decode cX9_turned 21 = .ok (.ireturn, 1) := by decide +kernel
theorem dX9_turned_22 : decode cX9_turned 22 = .ok (.iload_n 1, 1) := by decide +kernel
theorem dX9_turned_23 : decode cX9_turned 23 = .ok (.istore_n 3, 1) := by decide +kernel
theorem dX9_turned_24 : decode cX9_turned 24 = .ok (.iconst 0, 1) := by decide +kernel
theorem dX9_turned_25 : decode cX9_turned 25 = .ok (.istore 4, 2) := by decide +kernel
theorem dX9_turned_27 : decode cX9_turned 27 = .ok (.iload 4, 2) := by decide +kernel
theorem dX9_turned_29 : decode cX9_turned 29 = .ok (.iload_n 2, 1) := by decide +kernel
theorem dX9_turned_30 : decode cX9_turned 30 = .ok (.if_icmp .ge 14, 3) := by decide +kernel
theorem dX9_turned_33 : decode cX9_turned 33 = .ok (.iload_n 3, 1) := by decide +kernel
theorem dX9_turned_34 : decode cX9_turned 34 = .ok (.invokestatic 104, 3) := by decide +kernel
theorem dX9_turned_37 : decode cX9_turned 37 = .ok (.istore_n 3, 1) := by decide +kernel
theorem dX9_turned_38 : decode cX9_turned 38 = .ok (.iinc 4 1, 3) := by decide +kernel
theorem dX9_turned_41 : decode cX9_turned 41 = .ok (.goto (-14), 3) := by decide +kernel
theorem dX9_turned_44 : decode cX9_turned 44 = .ok (.iload_n 3, 1) := by decide +kernel
theorem dX9_turned_45 : decode cX9_turned 45 = .ok (.ireturn, 1) := by decide +kernel
theorem dX9_sign_0 : decode cX9_sign 0 = .ok (.iload_n 1, 1) := by decide +kernel
theorem dX9_sign_1 : decode cX9_sign 1 = .ok (.invokestatic 107, 3) := by decide +kernel
theorem dX9_sign_4 : decode cX9_sign 4 = .ok (.ifCond .eq 10, 3) := by decide +kernel
theorem dX9_sign_7 : decode cX9_sign 7 = .ok (.iload_n 2, 1) := by decide +kernel
theorem dX9_sign_8 : decode cX9_sign 8 = .ok (.invokestatic 58, 3) := by decide +kernel
theorem dX9_sign_11 : decode cX9_sign 11 = .ok (.ifCond .ne 10, 3) := by decide +kernel
theorem dX9_sign_14 : decode cX9_sign 14 = .ok (.aload_n 0, 1) := by decide +kernel
theorem dX9_sign_15 : decode cX9_sign 15 = .ok (.ldc 64, 2) := by decide +kernel
theorem dX9_sign_17 : decode cX9_sign 17 = .ok (.invokevirtual 65, 3) := by decide +kernel
theorem dX9_sign_20 : decode cX9_sign 20 = .ok (.ireturn, 1) := by decide +kernel
theorem dX9_sign_21 : decode cX9_sign 21 = .ok (.aload_n 0, 1) := by decide +kernel
theorem dX9_sign_22 : decode cX9_sign 22 = .ok (.getfield 10, 3) := by decide +kernel
theorem dX9_sign_25 : decode cX9_sign 25 = .ok (.getfield 112, 3) := by decide +kernel
theorem dX9_sign_28 : decode cX9_sign 28 = .ok (.iload_n 1, 1) := by decide +kernel
theorem dX9_sign_29 : decode cX9_sign 29 = .ok (.invokevirtual 116, 3) := by decide +kernel
theorem dX9_sign_32 : decode cX9_sign 32 = .ok (.istore_n 3, 1) := by decide +kernel
theorem dX9_sign_33 : decode cX9_sign 33 = .ok (.aload_n 0, 1) := by decide +kernel
theorem dX9_sign_34 : decode cX9_sign 34 = .ok (.getfield 10, 3) := by decide +kernel
theorem dX9_sign_37 : decode cX9_sign 37 = .ok (.getfield 112, 3) := by decide +kernel
theorem dX9_sign_40 : decode cX9_sign 40 = .ok (.iload_n 1, 1) := by decide +kernel
theorem dX9_sign_41 : decode cX9_sign 41 = .ok (.iload_n 2, 1) := by decide +kernel
theorem dX9_sign_42 : decode cX9_sign 42 = .ok (.invokevirtual 119, 3) := by decide +kernel
theorem dX9_sign_45 : decode cX9_sign 45 = .ok (.iload_n 3, 1) := by decide +kernel
theorem dX9_sign_46 : decode cX9_sign 46 = .ok (.ireturn, 1) := by decide +kernel
theorem dX9_form_0 : decode cX9_form 0 = .ok (.iload_n 1, 1) := by decide +kernel
theorem dX9_form_1 : decode cX9_form 1 = .ok (.invokestatic 107, 3) := by decide +kernel
theorem dX9_form_4 : decode cX9_form 4 = .ok (.ifCond .ne 10, 3) := by decide +kernel
theorem dX9_form_7 : decode cX9_form 7 = .ok (.aload_n 0, 1) := by decide +kernel
theorem dX9_form_8 : decode cX9_form 8 = .ok (.ldc 64, 2) := by decide +kernel
theorem dX9_form_10 : decode cX9_form 10 = .ok (.invokevirtual 65, 3) := by decide +kernel
theorem dX9_form_13 : decode cX9_form 13 = .ok (.ireturn, 1) := by decide +kernel
theorem dX9_form_14 : decode cX9_form 14 = .ok (.aload_n 0, 1) := by decide +kernel
theorem dX9_form_15 : decode cX9_form 15 = .ok (.getfield 10, 3) := by decide +kernel
theorem dX9_form_18 : decode cX9_form 18 = .ok (.getfield 112, 3) := by decide +kernel
theorem dX9_form_21 : decode cX9_form 21 = .ok (.iload_n 1, 1) := by decide +kernel
theorem dX9_form_22 : decode cX9_form 22 = .ok (.invokevirtual 116, 3) := by decide +kernel
theorem dX9_form_25 : decode cX9_form 25 = .ok (.ireturn, 1) := by decide +kernel
theorem dX9_read_0 : decode cX9_read 0 = .ok (.iload_n 1, 1) := by decide +kernel
theorem dX9_read_1 : decode cX9_read 1 = .ok (.invokestatic 58, 3) := by decide +kernel
theorem dX9_read_4 : decode cX9_read 4 = .ok (.ifCond .ne 10, 3) := by decide +kernel
theorem dX9_read_7 : decode cX9_read 7 = .ok (.aload_n 0, 1) := by decide +kernel
theorem dX9_read_8 : decode cX9_read 8 = .ok (.ldc 64, 2) := by decide +kernel
theorem dX9_read_10 : decode cX9_read 10 = .ok (.invokevirtual 65, 3) := by decide +kernel
theorem dX9_read_13 : decode cX9_read 13 = .ok (.ireturn, 1) := by decide +kernel
theorem dX9_read_14 : decode cX9_read 14 = .ok (.aload_n 0, 1) := by decide +kernel
theorem dX9_read_15 : decode cX9_read 15 = .ok (.getfield 10, 3) := by decide +kernel
theorem dX9_read_18 : decode cX9_read 18 = .ok (.getfield 112, 3) := by decide +kernel
theorem dX9_read_21 : decode cX9_read 21 = .ok (.iload_n 1, 1) := by decide +kernel
theorem dX9_read_22 : decode cX9_read 22 = .ok (.invokevirtual 123, 3) := by decide +kernel
theorem dX9_read_25 : decode cX9_read 25 = .ok (.istore_n 2, 1) := by decide +kernel
theorem dX9_read_26 : decode cX9_read 26 = .ok (.iload_n 2, 1) := by decide +kernel
theorem dX9_read_27 : decode cX9_read 27 = .ok (.ifCond .ge 12, 3) := by decide +kernel
theorem dX9_read_30 : decode cX9_read 30 = .ok (.aload_n 0, 1) := by decide +kernel
theorem dX9_read_31 : decode cX9_read 31 = .ok (.ldc 100, 2) := by decide +kernel
theorem dX9_read_33 : decode cX9_read 33 = .ok (.invokevirtual 65, 3) := by decide +kernel
theorem dX9_read_36 : decode cX9_read 36 = .ok (.goto 4, 3) := by decide +kernel
theorem dX9_read_39 : decode cX9_read 39 = .ok (.iload_n 2, 1) := by decide +kernel
theorem dX9_read_40 : decode cX9_read 40 = .ok (.ireturn, 1) := by decide +kernel
theorem dX9_doubts_0 : decode cX9_doubts 0 = .ok (.iload_n 1, 1) := by decide +kernel
theorem dX9_doubts_1 : decode cX9_doubts 1 = .ok (.invokestatic 58, 3) := by decide +kernel
theorem dX9_doubts_4 : decode cX9_doubts 4 = .ok (.ifCond .ne 10, 3) := by decide +kernel
theorem dX9_doubts_7 : decode cX9_doubts 7 = .ok (.aload_n 0, 1) := by decide +kernel
theorem dX9_doubts_8 : decode cX9_doubts 8 = .ok (.ldc 64, 2) := by decide +kernel
theorem dX9_doubts_10 : decode cX9_doubts 10 = .ok (.invokevirtual 65, 3) := by decide +kernel
theorem dX9_doubts_13 : decode cX9_doubts 13 = .ok (.ireturn, 1) := by decide +kernel
theorem dX9_doubts_14 : decode cX9_doubts 14 = .ok (.aload_n 0, 1) := by decide +kernel
theorem dX9_doubts_15 : decode cX9_doubts 15 = .ok (.getfield 10, 3) := by decide +kernel
theorem dX9_doubts_18 : decode cX9_doubts 18 = .ok (.getfield 112, 3) := by decide +kernel
theorem dX9_doubts_21 : decode cX9_doubts 21 = .ok (.iload_n 1, 1) := by decide +kernel
theorem dX9_doubts_22 : decode cX9_doubts 22 = .ok (.invokevirtual 123, 3) := by decide +kernel
theorem dX9_doubts_25 : decode cX9_doubts 25 = .ok (.istore_n 2, 1) := by decide +kernel
theorem dX9_doubts_26 : decode cX9_doubts 26 = .ok (.iload_n 2, 1) := by decide +kernel
theorem dX9_doubts_27 : decode cX9_doubts 27 = .ok (.ifCond .ge 12, 3) := by decide +kernel
theorem dX9_doubts_30 : decode cX9_doubts 30 = .ok (.aload_n 0, 1) := by decide +kernel
theorem dX9_doubts_31 : decode cX9_doubts 31 = .ok (.ldc 100, 2) := by decide +kernel
theorem dX9_doubts_33 : decode cX9_doubts 33 = .ok (.invokevirtual 65, 3) := by decide +kernel
theorem dX9_doubts_36 : decode cX9_doubts 36 = .ok (.goto 15, 3) := by decide +kernel
theorem dX9_doubts_39 : decode cX9_doubts 39 = .ok (.aload_n 0, 1) := by decide +kernel
theorem dX9_doubts_40 : decode cX9_doubts 40 = .ok (.getfield 10, 3) := by decide +kernel
theorem dX9_doubts_43 : decode cX9_doubts 43 = .ok (.getfield 112, 3) := by decide +kernel
theorem dX9_doubts_46 : decode cX9_doubts 46 = .ok (.iload_n 1, 1) := by decide +kernel
theorem dX9_doubts_47 : decode cX9_doubts 47 = .ok (.iload_n 2, 1) := by decide +kernel
theorem dX9_doubts_48 : decode cX9_doubts 48 = .ok (.invokevirtual 126, 3) := by decide +kernel
theorem dX9_doubts_51 : decode cX9_doubts 51 = .ok (.ireturn, 1) := by decide +kernel
theorem dX9_apart_0 : decode cX9_apart 0 = .ok (.aload_n 0, 1) := by decide +kernel
theorem dX9_apart_1 : decode cX9_apart 1 = .ok (.getfield 10, 3) := by decide +kernel
theorem dX9_apart_4 : decode cX9_apart 4 = .ok (.getfield 112, 3) := by decide +kernel
theorem dX9_apart_7 : decode cX9_apart 7 = .ok (.invokevirtual 130, 3) := by decide +kernel
theorem dX9_apart_10 : decode cX9_apart 10 = .ok (.istore_n 1, 1) := by decide +kernel
theorem dX9_apart_11 : decode cX9_apart 11 = .ok (.iload_n 1, 1) := by decide +kernel
theorem dX9_apart_12 : decode cX9_apart 12 = .ok (.ifCond .ge 12, 3) := by decide +kernel
theorem dX9_apart_15 : decode cX9_apart 15 = .ok (.aload_n 0, 1) := by decide +kernel
theorem dX9_apart_16 : decode cX9_apart 16 = .ok (.ldc 100, 2) := by decide +kernel
theorem dX9_apart_18 : decode cX9_apart 18 = .ok (.invokevirtual 65, 3) := by decide +kernel
theorem dX9_apart_21 : decode cX9_apart 21 = .ok (.goto 4, 3) := by decide +kernel
theorem dX9_apart_24 : decode cX9_apart 24 = .ok (.iload_n 1, 1) := by decide +kernel
theorem dX9_apart_25 : decode cX9_apart 25 = .ok (.ireturn, 1) := by decide +kernel
theorem dX9_stay_0 : decode cX9_stay 0 = .ok (.aload_n 0, 1) := by decide +kernel
theorem dX9_stay_1 : decode cX9_stay 1 = .ok (.getfield 10, 3) := by decide +kernel
theorem dX9_stay_4 : decode cX9_stay 4 = .ok (.getfield 112, 3) := by decide +kernel
theorem dX9_stay_7 : decode cX9_stay 7 = .ok (.aload_n 0, 1) := by decide +kernel
theorem dX9_stay_8 : decode cX9_stay 8 = .ok (.getfield 10, 3) := by decide +kernel
theorem dX9_stay_11 : decode cX9_stay 11 = .ok (.getfield 134, 3) := by decide +kernel
theorem dX9_stay_14 : decode cX9_stay 14 = .ok (.invokevirtual 138, 3) := by decide +kernel
theorem dX9_stay_17 : decode cX9_stay 17 = .ok (.ireturn, 1) := by decide +kernel
theorem dX9_forge_0 : decode cX9_forge 0 = .ok (.iload_n 1, 1) := by decide +kernel
theorem dX9_forge_1 : decode cX9_forge 1 = .ok (.invokestatic 107, 3) := by decide +kernel
theorem dX9_forge_4 : decode cX9_forge 4 = .ok (.ifCond .eq 15, 3) := by decide +kernel
theorem dX9_forge_7 : decode cX9_forge 7 = .ok (.iload_n 2, 1) := by decide +kernel
theorem dX9_forge_8 : decode cX9_forge 8 = .ok (.invokestatic 107, 3) := by decide +kernel
theorem dX9_forge_11 : decode cX9_forge 11 = .ok (.ifCond .eq 8, 3) := by decide +kernel
theorem dX9_forge_14 : decode cX9_forge 14 = .ok (.iload_n 1, 1) := by decide +kernel
theorem dX9_forge_15 : decode cX9_forge 15 = .ok (.iload_n 2, 1) := by decide +kernel
theorem dX9_forge_16 : decode cX9_forge 16 = .ok (.if_icmp .ne 10, 3) := by decide +kernel
theorem dX9_forge_19 : decode cX9_forge 19 = .ok (.aload_n 0, 1) := by decide +kernel
theorem dX9_forge_20 : decode cX9_forge 20 = .ok (.ldc 64, 2) := by decide +kernel
theorem dX9_forge_22 : decode cX9_forge 22 = .ok (.invokevirtual 65, 3) := by decide +kernel
theorem dX9_forge_25 : decode cX9_forge 25 = .ok (.ireturn, 1) := by decide +kernel
theorem dX9_forge_26 : decode cX9_forge 26 = .ok (.aload_n 0, 1) := by decide +kernel
theorem dX9_forge_27 : decode cX9_forge 27 = .ok (.getfield 10, 3) := by decide +kernel
theorem dX9_forge_30 : decode cX9_forge 30 = .ok (.getfield 112, 3) := by decide +kernel
theorem dX9_forge_33 : decode cX9_forge 33 = .ok (.iload_n 1, 1) := by decide +kernel
theorem dX9_forge_34 : decode cX9_forge 34 = .ok (.invokevirtual 116, 3) := by decide +kernel
theorem dX9_forge_37 : decode cX9_forge 37 = .ok (.ifCond .eq 17, 3) := by decide +kernel
theorem dX9_forge_40 : decode cX9_forge 40 = .ok (.aload_n 0, 1) := by decide +kernel
theorem dX9_forge_41 : decode cX9_forge 41 = .ok (.getfield 10, 3) := by decide +kernel
theorem dX9_forge_44 : decode cX9_forge 44 = .ok (.getfield 112, 3) := by decide +kernel
theorem dX9_forge_47 : decode cX9_forge 47 = .ok (.iload_n 2, 1) := by decide +kernel
theorem dX9_forge_48 : decode cX9_forge 48 = .ok (.invokevirtual 116, 3) := by decide +kernel
theorem dX9_forge_51 : decode cX9_forge 51 = .ok (.ifCond .ne 10, 3) := by decide +kernel
theorem dX9_forge_54 : decode cX9_forge 54 = .ok (.aload_n 0, 1) := by decide +kernel
theorem dX9_forge_55 : decode cX9_forge 55 = .ok (.ldc 141, 2) := by decide +kernel
theorem dX9_forge_57 : decode cX9_forge 57 = .ok (.invokevirtual 65, 3) := by decide +kernel
theorem dX9_forge_60 : decode cX9_forge 60 = .ok (.ireturn, 1) := by decide +kernel
theorem dX9_forge_61 : decode cX9_forge 61 = .ok (.aload_n 0, 1) := by decide +kernel
theorem dX9_forge_62 : decode cX9_forge 62 = .ok (.getfield 10, 3) := by decide +kernel
theorem dX9_forge_65 : decode cX9_forge 65 = .ok (.getfield 112, 3) := by decide +kernel
theorem dX9_forge_68 : decode cX9_forge 68 = .ok (.iload_n 1, 1) := by decide +kernel
theorem dX9_forge_69 : decode cX9_forge 69 = .ok (.iload_n 2, 1) := by decide +kernel
theorem dX9_forge_70 : decode cX9_forge 70 = .ok (.invokevirtual 142, 3) := by decide +kernel
theorem dX9_forge_73 : decode cX9_forge 73 = .ok (.istore_n 3, 1) := by decide +kernel
theorem dX9_forge_74 : decode cX9_forge 74 = .ok (.iload_n 3, 1) := by decide +kernel
theorem dX9_forge_75 : decode cX9_forge 75 = .ok (.ifCond .ge 12, 3) := by decide +kernel
theorem dX9_forge_78 : decode cX9_forge 78 = .ok (.aload_n 0, 1) := by decide +kernel
theorem dX9_forge_79 : decode cX9_forge 79 = .ok (.ldc 100, 2) := by decide +kernel
theorem dX9_forge_81 : decode cX9_forge 81 = .ok (.invokevirtual 65, 3) := by decide +kernel
theorem dX9_forge_84 : decode cX9_forge 84 = .ok (.goto 4, 3) := by decide +kernel
theorem dX9_forge_87 : decode cX9_forge 87 = .ok (.iload_n 3, 1) := by decide +kernel
theorem dX9_forge_88 : decode cX9_forge 88 = .ok (.ireturn, 1) := by decide +kernel
theorem dX9_letter_0 : decode cX9_letter 0 = .ok (.iload_n 1, 1) := by decide +kernel
theorem dX9_letter_1 : decode cX9_letter 1 = .ok (.invokestatic 145, 3) := by decide +kernel
theorem dX9_letter_4 : decode cX9_letter 4 = .ok (.ifCond .eq 10, 3) := by decide +kernel
theorem dX9_letter_7 : decode cX9_letter 7 = .ok (.iload_n 2, 1) := by decide +kernel
theorem dX9_letter_8 : decode cX9_letter 8 = .ok (.invokestatic 58, 3) := by decide +kernel
theorem dX9_letter_11 : decode cX9_letter 11 = .ok (.ifCond .ne 10, 3) := by decide +kernel
theorem dX9_letter_14 : decode cX9_letter 14 = .ok (.aload_n 0, 1) := by decide +kernel
theorem dX9_letter_15 : decode cX9_letter 15 = .ok (.ldc 64, 2) := by decide +kernel
theorem dX9_letter_17 : decode cX9_letter 17 = .ok (.invokevirtual 65, 3) := by decide +kernel
theorem dX9_letter_20 : decode cX9_letter 20 = .ok (.ireturn, 1) := by decide +kernel
theorem dX9_letter_21 : decode cX9_letter 21 = .ok (.aload_n 0, 1) := by decide +kernel
theorem dX9_letter_22 : decode cX9_letter 22 = .ok (.getfield 10, 3) := by decide +kernel
theorem dX9_letter_25 : decode cX9_letter 25 = .ok (.invokevirtual 150, 3) := by decide +kernel
theorem dX9_letter_28 : decode cX9_letter 28 = .ok (.ifCond .eq 10, 3) := by decide +kernel
theorem dX9_letter_31 : decode cX9_letter 31 = .ok (.aload_n 0, 1) := by decide +kernel
theorem dX9_letter_32 : decode cX9_letter 32 = .ok (.ldc 154, 2) := by decide +kernel
theorem dX9_letter_34 : decode cX9_letter 34 = .ok (.invokevirtual 65, 3) := by decide +kernel
theorem dX9_letter_37 : decode cX9_letter 37 = .ok (.ireturn, 1) := by decide +kernel
theorem dX9_letter_38 : decode cX9_letter 38 = .ok (.aload_n 0, 1) := by decide +kernel
theorem dX9_letter_39 : decode cX9_letter 39 = .ok (.getfield 10, 3) := by decide +kernel
theorem dX9_letter_42 : decode cX9_letter 42 = .ok (.iload_n 1, 1) := by decide +kernel
theorem dX9_letter_43 : decode cX9_letter 43 = .ok (.iload_n 2, 1) := by decide +kernel
theorem dX9_letter_44 : decode cX9_letter 44 = .ok (.bipush 6, 2) := by decide +kernel
theorem dX9_letter_46 : decode cX9_letter 46 = .ok (.invokevirtual 155, 3) := by decide +kernel
theorem dX9_letter_49 : decode cX9_letter 49 = .ok (.ireturn, 1) := by decide +kernel
theorem dX9_of_0 : decode cX9_of 0 = .ok (.aload_n 0, 1) := by decide +kernel
theorem dX9_of_1 : decode cX9_of 1 = .ok (.getfield 10, 3) := by decide +kernel
theorem dX9_of_4 : decode cX9_of 4 = .ok (.iload_n 1, 1) := by decide +kernel
theorem dX9_of_5 : decode cX9_of 5 = .ok (.invokevirtual 158, 3) := by decide +kernel
theorem dX9_of_8 : decode cX9_of 8 = .ok (.ifCond .ne 10, 3) := by decide +kernel
theorem dX9_of_11 : decode cX9_of 11 = .ok (.aload_n 0, 1) := by decide +kernel
theorem dX9_of_12 : decode cX9_of 12 = .ok (.ldc 64, 2) := by decide +kernel
theorem dX9_of_14 : decode cX9_of 14 = .ok (.invokevirtual 65, 3) := by decide +kernel
theorem dX9_of_17 : decode cX9_of 17 = .ok (.ireturn, 1) := by decide +kernel
theorem dX9_of_18 : decode cX9_of 18 = .ok (.iload_n 2, 1) := by decide +kernel
theorem dX9_of_19 : decode cX9_of 19 = .ok (.tableswitch 138 0 7 #[45, 55, 65, 75, 84, 100, 109, 129], 45) := by decide +kernel
theorem dX9_of_64 : decode cX9_of 64 = .ok (.aload_n 0, 1) := by decide +kernel
theorem dX9_of_65 : decode cX9_of 65 = .ok (.getfield 10, 3) := by decide +kernel
theorem dX9_of_68 : decode cX9_of 68 = .ok (.getfield 161, 3) := by decide +kernel
theorem dX9_of_71 : decode cX9_of 71 = .ok (.iload_n 1, 1) := by decide +kernel
theorem dX9_of_72 : decode cX9_of 72 = .ok (.iaload, 1) := by decide +kernel
theorem dX9_of_73 : decode cX9_of 73 = .ok (.ireturn, 1) := by decide +kernel
theorem dX9_of_74 : decode cX9_of 74 = .ok (.aload_n 0, 1) := by decide +kernel
theorem dX9_of_75 : decode cX9_of 75 = .ok (.getfield 10, 3) := by decide +kernel
theorem dX9_of_78 : decode cX9_of 78 = .ok (.getfield 164, 3) := by decide +kernel
theorem dX9_of_81 : decode cX9_of 81 = .ok (.iload_n 1, 1) := by decide +kernel
theorem dX9_of_82 : decode cX9_of 82 = .ok (.iaload, 1) := by decide +kernel
theorem dX9_of_83 : decode cX9_of 83 = .ok (.ireturn, 1) := by decide +kernel
theorem dX9_of_84 : decode cX9_of 84 = .ok (.aload_n 0, 1) := by decide +kernel
theorem dX9_of_85 : decode cX9_of 85 = .ok (.getfield 10, 3) := by decide +kernel
theorem dX9_of_88 : decode cX9_of 88 = .ok (.getfield 167, 3) := by decide +kernel
theorem dX9_of_91 : decode cX9_of 91 = .ok (.iload_n 1, 1) := by decide +kernel
theorem dX9_of_92 : decode cX9_of 92 = .ok (.iaload, 1) := by decide +kernel
theorem dX9_of_93 : decode cX9_of 93 = .ok (.ireturn, 1) := by decide +kernel
theorem dX9_of_94 : decode cX9_of 94 = .ok (.aload_n 0, 1) := by decide +kernel
theorem dX9_of_95 : decode cX9_of 95 = .ok (.getfield 10, 3) := by decide +kernel
theorem dX9_of_98 : decode cX9_of 98 = .ok (.iload_n 1, 1) := by decide +kernel
theorem dX9_of_99 : decode cX9_of 99 = .ok (.invokevirtual 170, 3) := by decide +kernel
theorem dX9_of_102 : decode cX9_of 102 = .ok (.ireturn, 1) := by decide +kernel
theorem dX9_of_103 : decode cX9_of 103 = .ok (.aload_n 0, 1) := by decide +kernel
theorem dX9_of_104 : decode cX9_of 104 = .ok (.getfield 10, 3) := by decide +kernel
theorem dX9_of_107 : decode cX9_of 107 = .ok (.iload_n 1, 1) := by decide +kernel
theorem dX9_of_108 : decode cX9_of 108 = .ok (.aload_n 0, 1) := by decide +kernel
theorem dX9_of_109 : decode cX9_of 109 = .ok (.getfield 10, 3) := by decide +kernel
theorem dX9_of_112 : decode cX9_of 112 = .ok (.getfield 173, 3) := by decide +kernel
theorem dX9_of_115 : decode cX9_of 115 = .ok (.invokevirtual 176, 3) := by decide +kernel
theorem dX9_of_118 : decode cX9_of 118 = .ok (.ireturn, 1) := by decide +kernel
theorem dX9_of_119 : decode cX9_of 119 = .ok (.aload_n 0, 1) := by decide +kernel
theorem dX9_of_120 : decode cX9_of 120 = .ok (.getfield 10, 3) := by decide +kernel
theorem dX9_of_123 : decode cX9_of 123 = .ok (.iload_n 1, 1) := by decide +kernel
theorem dX9_of_124 : decode cX9_of 124 = .ok (.invokevirtual 179, 3) := by decide +kernel
theorem dX9_of_127 : decode cX9_of 127 = .ok (.ireturn, 1) := by decide +kernel
theorem dX9_of_128 : decode cX9_of 128 = .ok (.aload_n 0, 1) := by decide +kernel
theorem dX9_of_129 : decode cX9_of 129 = .ok (.getfield 10, 3) := by decide +kernel
theorem dX9_of_132 : decode cX9_of 132 = .ok (.getfield 112, 3) := by decide +kernel
theorem dX9_of_135 : decode cX9_of 135 = .ok (.aload_n 0, 1) := by decide +kernel
theorem dX9_of_136 : decode cX9_of 136 = .ok (.getfield 10, 3) := by decide +kernel
theorem dX9_of_139 : decode cX9_of 139 = .ok (.getfield 164, 3) := by decide +kernel
theorem dX9_of_142 : decode cX9_of 142 = .ok (.iload_n 1, 1) := by decide +kernel
theorem dX9_of_143 : decode cX9_of 143 = .ok (.iaload, 1) := by decide +kernel
theorem dX9_of_144 : decode cX9_of 144 = .ok (.invokevirtual 123, 3) := by decide +kernel
theorem dX9_of_147 : decode cX9_of 147 = .ok (.ireturn, 1) := by decide +kernel
theorem dX9_of_148 : decode cX9_of 148 = .ok (.aload_n 0, 1) := by decide +kernel
theorem dX9_of_149 : decode cX9_of 149 = .ok (.getfield 10, 3) := by decide +kernel
theorem dX9_of_152 : decode cX9_of 152 = .ok (.iload_n 1, 1) := by decide +kernel
theorem dX9_of_153 : decode cX9_of 153 = .ok (.invokevirtual 182, 3) := by decide +kernel
theorem dX9_of_156 : decode cX9_of 156 = .ok (.ireturn, 1) := by decide +kernel
theorem dX9_of_157 : decode cX9_of 157 = .ok (.aload_n 0, 1) := by decide +kernel
theorem dX9_of_158 : decode cX9_of 158 = .ok (.ldc 64, 2) := by decide +kernel
theorem dX9_of_160 : decode cX9_of 160 = .ok (.invokevirtual 65, 3) := by decide +kernel
theorem dX9_of_163 : decode cX9_of 163 = .ok (.ireturn, 1) := by decide +kernel
theorem dX9_set_0 : decode cX9_set 0 = .ok (.aload_n 0, 1) := by decide +kernel
theorem dX9_set_1 : decode cX9_set 1 = .ok (.getfield 10, 3) := by decide +kernel
theorem dX9_set_4 : decode cX9_set 4 = .ok (.iload_n 1, 1) := by decide +kernel
theorem dX9_set_5 : decode cX9_set 5 = .ok (.invokevirtual 158, 3) := by decide +kernel
theorem dX9_set_8 : decode cX9_set 8 = .ok (.ifCond .ne 10, 3) := by decide +kernel
theorem dX9_set_11 : decode cX9_set 11 = .ok (.aload_n 0, 1) := by decide +kernel
theorem dX9_set_12 : decode cX9_set 12 = .ok (.ldc 64, 2) := by decide +kernel
theorem dX9_set_14 : decode cX9_set 14 = .ok (.invokevirtual 65, 3) := by decide +kernel
theorem dX9_set_17 : decode cX9_set 17 = .ok (.ireturn, 1) := by decide +kernel
theorem dX9_set_18 : decode cX9_set 18 = .ok (.iload_n 2, 1) := by decide +kernel
theorem dX9_set_19 : decode cX9_set 19 = .ok (.iconst 1, 1) := by decide +kernel
theorem dX9_set_20 : decode cX9_set 20 = .ok (.if_icmp .ne 34, 3) := by decide +kernel
theorem dX9_set_23 : decode cX9_set 23 = .ok (.iload_n 3, 1) := by decide +kernel
theorem dX9_set_24 : decode cX9_set 24 = .ok (.invokestatic 58, 3) := by decide +kernel
theorem dX9_set_27 : decode cX9_set 27 = .ok (.ifCond .eq 27, 3) := by decide +kernel
theorem dX9_set_30 : decode cX9_set 30 = .ok (.aload_n 0, 1) := by decide +kernel
theorem dX9_set_31 : decode cX9_set 31 = .ok (.getfield 10, 3) := by decide +kernel
theorem dX9_set_34 : decode cX9_set 34 = .ok (.getfield 164, 3) := by decide +kernel
theorem dX9_set_37 : decode cX9_set 37 = .ok (.iload_n 1, 1) := by decide +kernel
theorem dX9_set_38 : decode cX9_set 38 = .ok (.iaload, 1) := by decide +kernel
theorem dX9_set_39 : decode cX9_set 39 = .ok (.istore 4, 2) := by decide +kernel
theorem dX9_set_41 : decode cX9_set 41 = .ok (.aload_n 0, 1) := by decide +kernel
theorem dX9_set_42 : decode cX9_set 42 = .ok (.getfield 10, 3) := by decide +kernel
theorem dX9_set_45 : decode cX9_set 45 = .ok (.getfield 164, 3) := by decide +kernel
theorem dX9_set_48 : decode cX9_set 48 = .ok (.iload_n 1, 1) := by decide +kernel
theorem dX9_set_49 : decode cX9_set 49 = .ok (.iload_n 3, 1) := by decide +kernel
theorem dX9_set_50 : decode cX9_set 50 = .ok (.iastore, 1) := by decide +kernel
theorem dX9_set_51 : decode cX9_set 51 = .ok (.iload 4, 2) := by decide +kernel
theorem dX9_set_53 : decode cX9_set 53 = .ok (.ireturn, 1) := by decide +kernel
theorem dX9_set_54 : decode cX9_set 54 = .ok (.iload_n 2, 1) := by decide +kernel
theorem dX9_set_55 : decode cX9_set 55 = .ok (.iconst 2, 1) := by decide +kernel
theorem dX9_set_56 : decode cX9_set 56 = .ok (.if_icmp .ne 36, 3) := by decide +kernel
theorem dX9_set_59 : decode cX9_set 59 = .ok (.iload_n 3, 1) := by decide +kernel
theorem dX9_set_60 : decode cX9_set 60 = .ok (.bipush 99, 2) := by decide +kernel
theorem dX9_set_62 : decode cX9_set 62 = .ok (.invokestatic 93, 3) := by decide +kernel
theorem dX9_set_65 : decode cX9_set 65 = .ok (.ifCond .eq 27, 3) := by decide +kernel
theorem dX9_set_68 : decode cX9_set 68 = .ok (.aload_n 0, 1) := by decide +kernel
theorem dX9_set_69 : decode cX9_set 69 = .ok (.getfield 10, 3) := by decide +kernel
theorem dX9_set_72 : decode cX9_set 72 = .ok (.getfield 167, 3) := by decide +kernel
theorem dX9_set_75 : decode cX9_set 75 = .ok (.iload_n 1, 1) := by decide +kernel
theorem dX9_set_76 : decode cX9_set 76 = .ok (.iaload, 1) := by decide +kernel
theorem dX9_set_77 : decode cX9_set 77 = .ok (.istore 4, 2) := by decide +kernel
theorem dX9_set_79 : decode cX9_set 79 = .ok (.aload_n 0, 1) := by decide +kernel
theorem dX9_set_80 : decode cX9_set 80 = .ok (.getfield 10, 3) := by decide +kernel
theorem dX9_set_83 : decode cX9_set 83 = .ok (.getfield 167, 3) := by decide +kernel
theorem dX9_set_86 : decode cX9_set 86 = .ok (.iload_n 1, 1) := by decide +kernel
theorem dX9_set_87 : decode cX9_set 87 = .ok (.iload_n 3, 1) := by decide +kernel
theorem dX9_set_88 : decode cX9_set 88 = .ok (.iastore, 1) := by decide +kernel
theorem dX9_set_89 : decode cX9_set 89 = .ok (.iload 4, 2) := by decide +kernel
theorem dX9_set_91 : decode cX9_set 91 = .ok (.ireturn, 1) := by decide +kernel
theorem dX9_set_92 : decode cX9_set 92 = .ok (.aload_n 0, 1) := by decide +kernel
theorem dX9_set_93 : decode cX9_set 93 = .ok (.ldc 64, 2) := by decide +kernel
theorem dX9_set_95 : decode cX9_set 95 = .ok (.invokevirtual 65, 3) := by decide +kernel
theorem dX9_set_98 : decode cX9_set 98 = .ok (.ireturn, 1) := by decide +kernel
theorem dX9_turn_0 : decode cX9_turn 0 = .ok (.aload_n 0, 1) := by decide +kernel
theorem dX9_turn_1 : decode cX9_turn 1 = .ok (.getfield 10, 3) := by decide +kernel
theorem dX9_turn_4 : decode cX9_turn 4 = .ok (.iload_n 1, 1) := by decide +kernel
theorem dX9_turn_5 : decode cX9_turn 5 = .ok (.invokevirtual 158, 3) := by decide +kernel
theorem dX9_turn_8 : decode cX9_turn 8 = .ok (.ifCond .eq 10, 3) := by decide +kernel
theorem dX9_turn_11 : decode cX9_turn 11 = .ok (.iload_n 2, 1) := by decide +kernel
theorem dX9_turn_12 : decode cX9_turn 12 = .ok (.invokestatic 145, 3) := by decide +kernel
theorem dX9_turn_15 : decode cX9_turn 15 = .ok (.ifCond .ne 10, 3) := by decide +kernel
theorem dX9_turn_18 : decode cX9_turn 18 = .ok (.aload_n 0, 1) := by decide +kernel
theorem dX9_turn_19 : decode cX9_turn 19 = .ok (.ldc 64, 2) := by decide +kernel
theorem dX9_turn_21 : decode cX9_turn 21 = .ok (.invokevirtual 65, 3) := by decide +kernel
theorem dX9_turn_24 : decode cX9_turn 24 = .ok (.ireturn, 1) := by decide +kernel
theorem dX9_turn_25 : decode cX9_turn 25 = .ok (.aload_n 0, 1) := by decide +kernel
theorem dX9_turn_26 : decode cX9_turn 26 = .ok (.getfield 10, 3) := by decide +kernel
theorem dX9_turn_29 : decode cX9_turn 29 = .ok (.getfield 161, 3) := by decide +kernel
theorem dX9_turn_32 : decode cX9_turn 32 = .ok (.iload_n 1, 1) := by decide +kernel
theorem dX9_turn_33 : decode cX9_turn 33 = .ok (.iaload, 1) := by decide +kernel
theorem dX9_turn_34 : decode cX9_turn 34 = .ok (.istore_n 3, 1) := by decide +kernel
theorem dX9_turn_35 : decode cX9_turn 35 = .ok (.aload_n 0, 1) := by decide +kernel
theorem dX9_turn_36 : decode cX9_turn 36 = .ok (.getfield 10, 3) := by decide +kernel
theorem dX9_turn_39 : decode cX9_turn 39 = .ok (.getfield 161, 3) := by decide +kernel
theorem dX9_turn_42 : decode cX9_turn 42 = .ok (.iload_n 1, 1) := by decide +kernel
theorem dX9_turn_43 : decode cX9_turn 43 = .ok (.iload_n 2, 1) := by decide +kernel
theorem dX9_turn_44 : decode cX9_turn 44 = .ok (.iastore, 1) := by decide +kernel
theorem dX9_turn_45 : decode cX9_turn 45 = .ok (.iload_n 3, 1) := by decide +kernel
theorem dX9_turn_46 : decode cX9_turn 46 = .ok (.ireturn, 1) := by decide +kernel
theorem dX9_as_0 : decode cX9_as 0 = .ok (.aload_n 0, 1) := by decide +kernel
theorem dX9_as_1 : decode cX9_as 1 = .ok (.getfield 10, 3) := by decide +kernel
theorem dX9_as_4 : decode cX9_as 4 = .ok (.iload_n 1, 1) := by decide +kernel
theorem dX9_as_5 : decode cX9_as 5 = .ok (.invokevirtual 158, 3) := by decide +kernel
theorem dX9_as_8 : decode cX9_as 8 = .ok (.ifCond .eq 10, 3) := by decide +kernel
theorem dX9_as_11 : decode cX9_as 11 = .ok (.iload_n 2, 1) := by decide +kernel
theorem dX9_as_12 : decode cX9_as 12 = .ok (.invokestatic 145, 3) := by decide +kernel
theorem dX9_as_15 : decode cX9_as 15 = .ok (.ifCond .ne 10, 3) := by decide +kernel
theorem dX9_as_18 : decode cX9_as 18 = .ok (.aload_n 0, 1) := by decide +kernel
theorem dX9_as_19 : decode cX9_as 19 = .ok (.ldc 64, 2) := by decide +kernel
theorem dX9_as_21 : decode cX9_as 21 = .ok (.invokevirtual 65, 3) := by decide +kernel
theorem dX9_as_24 : decode cX9_as 24 = .ok (.ireturn, 1) := by decide +kernel
theorem dX9_as_25 : decode cX9_as 25 = .ok (.aload_n 0, 1) := by decide +kernel
theorem dX9_as_26 : decode cX9_as 26 = .ok (.getfield 10, 3) := by decide +kernel
theorem dX9_as_29 : decode cX9_as 29 = .ok (.getfield 161, 3) := by decide +kernel
theorem dX9_as_32 : decode cX9_as 32 = .ok (.iload_n 1, 1) := by decide +kernel
theorem dX9_as_33 : decode cX9_as 33 = .ok (.iaload, 1) := by decide +kernel
theorem dX9_as_34 : decode cX9_as 34 = .ok (.iload_n 2, 1) := by decide +kernel
theorem dX9_as_35 : decode cX9_as 35 = .ok (.invokestatic 185, 3) := by decide +kernel
theorem dX9_as_38 : decode cX9_as 38 = .ok (.ifCond .ne 10, 3) := by decide +kernel
theorem dX9_as_41 : decode cX9_as 41 = .ok (.aload_n 0, 1) := by decide +kernel
theorem dX9_as_42 : decode cX9_as 42 = .ok (.ldc 188, 2) := by decide +kernel
theorem dX9_as_44 : decode cX9_as 44 = .ok (.invokevirtual 65, 3) := by decide +kernel
theorem dX9_as_47 : decode cX9_as 47 = .ok (.ireturn, 1) := by decide +kernel
theorem dX9_as_48 : decode cX9_as 48 = .ok (.aload_n 0, 1) := by decide +kernel
theorem dX9_as_49 : decode cX9_as 49 = .ok (.getfield 10, 3) := by decide +kernel
theorem dX9_as_52 : decode cX9_as 52 = .ok (.getfield 167, 3) := by decide +kernel
theorem dX9_as_55 : decode cX9_as 55 = .ok (.iload_n 1, 1) := by decide +kernel
theorem dX9_as_56 : decode cX9_as 56 = .ok (.iaload, 1) := by decide +kernel
theorem dX9_as_57 : decode cX9_as 57 = .ok (.ireturn, 1) := by decide +kernel
theorem dX9_sun_0 : decode cX9_sun 0 = .ok (.iload_n 1, 1) := by decide +kernel
theorem dX9_sun_1 : decode cX9_sun 1 = .ok (.invokestatic 58, 3) := by decide +kernel
theorem dX9_sun_4 : decode cX9_sun 4 = .ok (.ifCond .ne 10, 3) := by decide +kernel
theorem dX9_sun_7 : decode cX9_sun 7 = .ok (.aload_n 0, 1) := by decide +kernel
theorem dX9_sun_8 : decode cX9_sun 8 = .ok (.ldc 64, 2) := by decide +kernel
theorem dX9_sun_10 : decode cX9_sun 10 = .ok (.invokevirtual 65, 3) := by decide +kernel
theorem dX9_sun_13 : decode cX9_sun 13 = .ok (.ireturn, 1) := by decide +kernel
theorem dX9_sun_14 : decode cX9_sun 14 = .ok (.aload_n 0, 1) := by decide +kernel
theorem dX9_sun_15 : decode cX9_sun 15 = .ok (.getfield 10, 3) := by decide +kernel
theorem dX9_sun_18 : decode cX9_sun 18 = .ok (.getfield 134, 3) := by decide +kernel
theorem dX9_sun_21 : decode cX9_sun 21 = .ok (.istore_n 2, 1) := by decide +kernel
theorem dX9_sun_22 : decode cX9_sun 22 = .ok (.aload_n 0, 1) := by decide +kernel
theorem dX9_sun_23 : decode cX9_sun 23 = .ok (.getfield 10, 3) := by decide +kernel
theorem dX9_sun_26 : decode cX9_sun 26 = .ok (.iload_n 1, 1) := by decide +kernel
theorem dX9_sun_27 : decode cX9_sun 27 = .ok (.putfield 134, 3) := by decide +kernel
theorem dX9_sun_30 : decode cX9_sun 30 = .ok (.iload_n 2, 1) := by decide +kernel
theorem dX9_sun_31 : decode cX9_sun 31 = .ok (.ireturn, 1) := by decide +kernel
theorem dX9_hours_0 : decode cX9_hours 0 = .ok (.iload_n 1, 1) := by decide +kernel
theorem dX9_hours_1 : decode cX9_hours 1 = .ok (.iconst 1, 1) := by decide +kernel
theorem dX9_hours_2 : decode cX9_hours 2 = .ok (.if_icmp .lt 9, 3) := by decide +kernel
theorem dX9_hours_5 : decode cX9_hours 5 = .ok (.iload_n 1, 1) := by decide +kernel
theorem dX9_hours_6 : decode cX9_hours 6 = .ok (.bipush 99, 2) := by decide +kernel
theorem dX9_hours_8 : decode cX9_hours 8 = .ok (.if_icmp .le 10, 3) := by decide +kernel
theorem dX9_hours_11 : decode cX9_hours 11 = .ok (.aload_n 0, 1) := by decide +kernel
theorem dX9_hours_12 : decode cX9_hours 12 = .ok (.ldc 64, 2) := by decide +kernel
theorem dX9_hours_14 : decode cX9_hours 14 = .ok (.invokevirtual 65, 3) := by decide +kernel
theorem dX9_hours_17 : decode cX9_hours 17 = .ok (.ireturn, 1) := by decide +kernel
theorem dX9_hours_18 : decode cX9_hours 18 = .ok (.aload_n 0, 1) := by decide +kernel
theorem dX9_hours_19 : decode cX9_hours 19 = .ok (.getfield 10, 3) := by decide +kernel
theorem dX9_hours_22 : decode cX9_hours 22 = .ok (.getfield 173, 3) := by decide +kernel
theorem dX9_hours_25 : decode cX9_hours 25 = .ok (.iload_n 1, 1) := by decide +kernel
theorem dX9_hours_26 : decode cX9_hours 26 = .ok (.iadd, 1) := by decide +kernel
theorem dX9_hours_27 : decode cX9_hours 27 = .ok (.sipush 999, 3) := by decide +kernel
theorem dX9_hours_30 : decode cX9_hours 30 = .ok (.if_icmp .le 10, 3) := by decide +kernel
theorem dX9_hours_33 : decode cX9_hours 33 = .ok (.aload_n 0, 1) := by decide +kernel
theorem dX9_hours_34 : decode cX9_hours 34 = .ok (.ldc 141, 2) := by decide +kernel
theorem dX9_hours_36 : decode cX9_hours 36 = .ok (.invokevirtual 65, 3) := by decide +kernel
theorem dX9_hours_39 : decode cX9_hours 39 = .ok (.ireturn, 1) := by decide +kernel
theorem dX9_hours_40 : decode cX9_hours 40 = .ok (.aload_n 0, 1) := by decide +kernel
theorem dX9_hours_41 : decode cX9_hours 41 = .ok (.getfield 10, 3) := by decide +kernel
theorem dX9_hours_44 : decode cX9_hours 44 = .ok (.aload_n 0, 1) := by decide +kernel
theorem dX9_hours_45 : decode cX9_hours 45 = .ok (.getfield 10, 3) := by decide +kernel
theorem dX9_hours_48 : decode cX9_hours 48 = .ok (.getfield 173, 3) := by decide +kernel
theorem dX9_hours_51 : decode cX9_hours 51 = .ok (.iload_n 1, 1) := by decide +kernel
theorem dX9_hours_52 : decode cX9_hours 52 = .ok (.iadd, 1) := by decide +kernel
theorem dX9_hours_53 : decode cX9_hours 53 = .ok (.invokevirtual 189, 3) := by decide +kernel
theorem dX9_hours_56 : decode cX9_hours 56 = .ok (.istore_n 2, 1) := by decide +kernel
theorem dX9_hours_57 : decode cX9_hours 57 = .ok (.aload_n 0, 1) := by decide +kernel
theorem dX9_hours_58 : decode cX9_hours 58 = .ok (.getfield 10, 3) := by decide +kernel
theorem dX9_hours_61 : decode cX9_hours 61 = .ok (.dup, 1) := by decide +kernel
theorem dX9_hours_62 : decode cX9_hours 62 = .ok (.getfield 173, 3) := by decide +kernel
theorem dX9_hours_65 : decode cX9_hours 65 = .ok (.iload_n 1, 1) := by decide +kernel
theorem dX9_hours_66 : decode cX9_hours 66 = .ok (.iadd, 1) := by decide +kernel
theorem dX9_hours_67 : decode cX9_hours 67 = .ok (.putfield 173, 3) := by decide +kernel
theorem dX9_hours_70 : decode cX9_hours 70 = .ok (.iload_n 2, 1) := by decide +kernel
theorem dX9_hours_71 : decode cX9_hours 71 = .ok (.ireturn, 1) := by decide +kernel
theorem dX9_now_0 : decode cX9_now 0 = .ok (.iload_n 1, 1) := by decide +kernel
theorem dX9_now_1 : decode cX9_now 1 = .ok (.tableswitch 63 0 3 #[31, 39, 47, 55], 31) := by decide +kernel
theorem dX9_now_32 : decode cX9_now 32 = .ok (.aload_n 0, 1) := by decide +kernel
theorem dX9_now_33 : decode cX9_now 33 = .ok (.getfield 10, 3) := by decide +kernel
theorem dX9_now_36 : decode cX9_now 36 = .ok (.getfield 173, 3) := by decide +kernel
theorem dX9_now_39 : decode cX9_now 39 = .ok (.ireturn, 1) := by decide +kernel
theorem dX9_now_40 : decode cX9_now 40 = .ok (.aload_n 0, 1) := by decide +kernel
theorem dX9_now_41 : decode cX9_now 41 = .ok (.getfield 10, 3) := by decide +kernel
theorem dX9_now_44 : decode cX9_now 44 = .ok (.getfield 134, 3) := by decide +kernel
theorem dX9_now_47 : decode cX9_now 47 = .ok (.ireturn, 1) := by decide +kernel
theorem dX9_now_48 : decode cX9_now 48 = .ok (.aload_n 0, 1) := by decide +kernel
theorem dX9_now_49 : decode cX9_now 49 = .ok (.getfield 10, 3) := by decide +kernel
theorem dX9_now_52 : decode cX9_now 52 = .ok (.invokevirtual 192, 3) := by decide +kernel
theorem dX9_now_55 : decode cX9_now 55 = .ok (.ireturn, 1) := by decide +kernel
theorem dX9_now_56 : decode cX9_now 56 = .ok (.aload_n 0, 1) := by decide +kernel
theorem dX9_now_57 : decode cX9_now 57 = .ok (.getfield 10, 3) := by decide +kernel
theorem dX9_now_60 : decode cX9_now 60 = .ok (.invokevirtual 195, 3) := by decide +kernel
theorem dX9_now_63 : decode cX9_now 63 = .ok (.ireturn, 1) := by decide +kernel
theorem dX9_now_64 : decode cX9_now 64 = .ok (.aload_n 0, 1) := by decide +kernel
theorem dX9_now_65 : decode cX9_now 65 = .ok (.ldc 64, 2) := by decide +kernel
theorem dX9_now_67 : decode cX9_now 67 = .ok (.invokevirtual 65, 3) := by decide +kernel
theorem dX9_now_70 : decode cX9_now 70 = .ok (.ireturn, 1) := by decide +kernel
theorem dX9_on_0 : decode cX9_on 0 = .ok (.aload_n 0, 1) := by decide +kernel
theorem dX9_on_1 : decode cX9_on 1 = .ok (.getfield 10, 3) := by decide +kernel
theorem dX9_on_4 : decode cX9_on 4 = .ok (.iload_n 1, 1) := by decide +kernel
theorem dX9_on_5 : decode cX9_on 5 = .ok (.invokevirtual 158, 3) := by decide +kernel
theorem dX9_on_8 : decode cX9_on 8 = .ok (.ifCond .eq 12, 3) := by decide +kernel
theorem dX9_on_11 : decode cX9_on 11 = .ok (.iload_n 2, 1) := by decide +kernel
theorem dX9_on_12 : decode cX9_on 12 = .ok (.bipush 99, 2) := by decide +kernel
theorem dX9_on_14 : decode cX9_on 14 = .ok (.invokestatic 93, 3) := by decide +kernel
theorem dX9_on_17 : decode cX9_on 17 = .ok (.ifCond .ne 10, 3) := by decide +kernel
theorem dX9_on_20 : decode cX9_on 20 = .ok (.aload_n 0, 1) := by decide +kernel
theorem dX9_on_21 : decode cX9_on 21 = .ok (.ldc 64, 2) := by decide +kernel
theorem dX9_on_23 : decode cX9_on 23 = .ok (.invokevirtual 65, 3) := by decide +kernel
theorem dX9_on_26 : decode cX9_on 26 = .ok (.ireturn, 1) := by decide +kernel
theorem dX9_on_27 : decode cX9_on 27 = .ok (.aload_n 0, 1) := by decide +kernel
theorem dX9_on_28 : decode cX9_on 28 = .ok (.getfield 10, 3) := by decide +kernel
theorem dX9_on_31 : decode cX9_on 31 = .ok (.getfield 173, 3) := by decide +kernel
theorem dX9_on_34 : decode cX9_on 34 = .ok (.iload_n 2, 1) := by decide +kernel
theorem dX9_on_35 : decode cX9_on 35 = .ok (.iadd, 1) := by decide +kernel
theorem dX9_on_36 : decode cX9_on 36 = .ok (.sipush 999, 3) := by decide +kernel
theorem dX9_on_39 : decode cX9_on 39 = .ok (.if_icmp .le 10, 3) := by decide +kernel
theorem dX9_on_42 : decode cX9_on 42 = .ok (.aload_n 0, 1) := by decide +kernel
theorem dX9_on_43 : decode cX9_on 43 = .ok (.ldc 141, 2) := by decide +kernel
theorem dX9_on_45 : decode cX9_on 45 = .ok (.invokevirtual 65, 3) := by decide +kernel
theorem dX9_on_48 : decode cX9_on 48 = .ok (.ireturn, 1) := by decide +kernel
theorem dX9_on_49 : decode cX9_on 49 = .ok (.aload_n 0, 1) := by decide +kernel
theorem dX9_on_50 : decode cX9_on 50 = .ok (.getfield 10, 3) := by decide +kernel
theorem dX9_on_53 : decode cX9_on 53 = .ok (.iload_n 1, 1) := by decide +kernel
theorem dX9_on_54 : decode cX9_on 54 = .ok (.aload_n 0, 1) := by decide +kernel
theorem dX9_on_55 : decode cX9_on 55 = .ok (.getfield 10, 3) := by decide +kernel
theorem dX9_on_58 : decode cX9_on 58 = .ok (.getfield 173, 3) := by decide +kernel
theorem dX9_on_61 : decode cX9_on 61 = .ok (.iload_n 2, 1) := by decide +kernel
theorem dX9_on_62 : decode cX9_on 62 = .ok (.iadd, 1) := by decide +kernel
theorem dX9_on_63 : decode cX9_on 63 = .ok (.invokevirtual 176, 3) := by decide +kernel
theorem dX9_on_66 : decode cX9_on 66 = .ok (.ireturn, 1) := by decide +kernel
theorem dX9_when_0 : decode cX9_when 0 = .ok (.aload_n 0, 1) := by decide +kernel
theorem dX9_when_1 : decode cX9_when 1 = .ok (.getfield 10, 3) := by decide +kernel
theorem dX9_when_4 : decode cX9_when 4 = .ok (.iload_n 1, 1) := by decide +kernel
theorem dX9_when_5 : decode cX9_when 5 = .ok (.invokevirtual 158, 3) := by decide +kernel
theorem dX9_when_8 : decode cX9_when 8 = .ok (.ifCond .ne 10, 3) := by decide +kernel
theorem dX9_when_11 : decode cX9_when 11 = .ok (.aload_n 0, 1) := by decide +kernel
theorem dX9_when_12 : decode cX9_when 12 = .ok (.ldc 64, 2) := by decide +kernel
theorem dX9_when_14 : decode cX9_when 14 = .ok (.invokevirtual 65, 3) := by decide +kernel
theorem dX9_when_17 : decode cX9_when 17 = .ok (.ireturn, 1) := by decide +kernel
theorem dX9_when_18 : decode cX9_when 18 = .ok (.aload_n 0, 1) := by decide +kernel
theorem dX9_when_19 : decode cX9_when 19 = .ok (.getfield 10, 3) := by decide +kernel
theorem dX9_when_22 : decode cX9_when 22 = .ok (.getfield 173, 3) := by decide +kernel
theorem dX9_when_25 : decode cX9_when 25 = .ok (.sipush 900, 3) := by decide +kernel
theorem dX9_when_28 : decode cX9_when 28 = .ok (.if_icmp .le 10, 3) := by decide +kernel
theorem dX9_when_31 : decode cX9_when 31 = .ok (.aload_n 0, 1) := by decide +kernel
theorem dX9_when_32 : decode cX9_when 32 = .ok (.ldc 141, 2) := by decide +kernel
theorem dX9_when_34 : decode cX9_when 34 = .ok (.invokevirtual 65, 3) := by decide +kernel
theorem dX9_when_37 : decode cX9_when 37 = .ok (.ireturn, 1) := by decide +kernel
theorem dX9_when_38 : decode cX9_when 38 = .ok (.iconst 0, 1) := by decide +kernel
theorem dX9_when_39 : decode cX9_when 39 = .ok (.istore_n 2, 1) := by decide +kernel
theorem dX9_when_40 : decode cX9_when 40 = .ok (.iload_n 2, 1) := by decide +kernel
theorem dX9_when_41 : decode cX9_when 41 = .ok (.bipush 99, 2) := by decide +kernel
theorem dX9_when_43 : decode cX9_when 43 = .ok (.if_icmp .gt 31, 3) := by decide +kernel
theorem dX9_when_46 : decode cX9_when 46 = .ok (.aload_n 0, 1) := by decide +kernel
theorem dX9_when_47 : decode cX9_when 47 = .ok (.getfield 10, 3) := by decide +kernel
theorem dX9_when_50 : decode cX9_when 50 = .ok (.iload_n 1, 1) := by decide +kernel
theorem dX9_when_51 : decode cX9_when 51 = .ok (.aload_n 0, 1) := by decide +kernel
theorem dX9_when_52 : decode cX9_when 52 = .ok (.getfield 10, 3) := by decide +kernel
theorem dX9_when_55 : decode cX9_when 55 = .ok (.getfield 173, 3) := by decide +kernel
theorem dX9_when_58 : decode cX9_when 58 = .ok (.iload_n 2, 1) := by decide +kernel
theorem dX9_when_59 : decode cX9_when 59 = .ok (.iadd, 1) := by decide +kernel
theorem dX9_when_60 : decode cX9_when 60 = .ok (.invokevirtual 198, 3) := by decide +kernel
theorem dX9_when_63 : decode cX9_when 63 = .ok (.ifCond .eq 5, 3) := by decide +kernel
theorem dX9_when_66 : decode cX9_when 66 = .ok (.iload_n 2, 1) := by decide +kernel
theorem dX9_when_67 : decode cX9_when 67 = .ok (.ireturn, 1) := by decide +kernel
theorem dX9_when_68 : decode cX9_when 68 = .ok (.iinc 2 1, 3) := by decide +kernel
theorem dX9_when_71 : decode cX9_when 71 = .ok (.goto (-31), 3) := by decide +kernel
theorem dX9_when_74 : decode cX9_when 74 = .ok (.aload_n 0, 1) := by decide +kernel
theorem dX9_when_75 : decode cX9_when 75 = .ok (.ldc 100, 2) := by decide +kernel
theorem dX9_when_77 : decode cX9_when 77 = .ok (.invokevirtual 65, 3) := by decide +kernel
theorem dX9_when_80 : decode cX9_when 80 = .ok (.ireturn, 1) := by decide +kernel
theorem dX9_kind_0 : decode cX9_kind 0 = .ok (.aload_n 0, 1) := by decide +kernel
theorem dX9_kind_1 : decode cX9_kind 1 = .ok (.getfield 10, 3) := by decide +kernel
theorem dX9_kind_4 : decode cX9_kind 4 = .ok (.iload_n 1, 1) := by decide +kernel
theorem dX9_kind_5 : decode cX9_kind 5 = .ok (.invokevirtual 158, 3) := by decide +kernel
theorem dX9_kind_8 : decode cX9_kind 8 = .ok (.ifCond .ne 10, 3) := by decide +kernel
theorem dX9_kind_11 : decode cX9_kind 11 = .ok (.aload_n 0, 1) := by decide +kernel
theorem dX9_kind_12 : decode cX9_kind 12 = .ok (.ldc 64, 2) := by decide +kernel
theorem dX9_kind_14 : decode cX9_kind 14 = .ok (.invokevirtual 65, 3) := by decide +kernel
theorem dX9_kind_17 : decode cX9_kind 17 = .ok (.ireturn, 1) := by decide +kernel
theorem dX9_kind_18 : decode cX9_kind 18 = .ok (.aload_n 0, 1) := by decide +kernel
theorem dX9_kind_19 : decode cX9_kind 19 = .ok (.getfield 10, 3) := by decide +kernel
theorem dX9_kind_22 : decode cX9_kind 22 = .ok (.getfield 164, 3) := by decide +kernel
theorem dX9_kind_25 : decode cX9_kind 25 = .ok (.iload_n 1, 1) := by decide +kernel
theorem dX9_kind_26 : decode cX9_kind 26 = .ok (.iaload, 1) := by decide +kernel
theorem dX9_kind_27 : decode cX9_kind 27 = .ok (.aload_n 0, 1) := by decide +kernel
theorem dX9_kind_28 : decode cX9_kind 28 = .ok (.getfield 10, 3) := by decide +kernel
theorem dX9_kind_31 : decode cX9_kind 31 = .ok (.getfield 167, 3) := by decide +kernel
theorem dX9_kind_34 : decode cX9_kind 34 = .ok (.iload_n 1, 1) := by decide +kernel
theorem dX9_kind_35 : decode cX9_kind 35 = .ok (.iaload, 1) := by decide +kernel
theorem dX9_kind_36 : decode cX9_kind 36 = .ok (.invokestatic 201, 3) := by decide +kernel
theorem dX9_kind_39 : decode cX9_kind 39 = .ok (.ireturn, 1) := by decide +kernel
theorem dX9_best_0 : decode cX9_best 0 = .ok (.iload_n 1, 1) := by decide +kernel
theorem dX9_best_1 : decode cX9_best 1 = .ok (.sipush 9999, 3) := by decide +kernel
theorem dX9_best_4 : decode cX9_best 4 = .ok (.invokestatic 93, 3) := by decide +kernel
theorem dX9_best_7 : decode cX9_best 7 = .ok (.ifCond .ne 10, 3) := by decide +kernel
theorem dX9_best_10 : decode cX9_best 10 = .ok (.aload_n 0, 1) := by decide +kernel
theorem dX9_best_11 : decode cX9_best 11 = .ok (.ldc 64, 2) := by decide +kernel
theorem dX9_best_13 : decode cX9_best 13 = .ok (.invokevirtual 65, 3) := by decide +kernel
theorem dX9_best_16 : decode cX9_best 16 = .ok (.ireturn, 1) := by decide +kernel
theorem dX9_best_17 : decode cX9_best 17 = .ok (.aload_n 0, 1) := by decide +kernel
theorem dX9_best_18 : decode cX9_best 18 = .ok (.getfield 46, 3) := by decide +kernel
theorem dX9_best_21 : decode cX9_best 21 = .ok (.aload_n 0, 1) := by decide +kernel
theorem dX9_best_22 : decode cX9_best 22 = .ok (.getfield 10, 3) := by decide +kernel
theorem dX9_best_25 : decode cX9_best 25 = .ok (.iload_n 1, 1) := by decide +kernel
theorem dX9_best_26 : decode cX9_best 26 = .ok (.invokevirtual 204, 3) := by decide +kernel
theorem dX9_best_29 : decode cX9_best 29 = .ok (.aload_n 0, 1) := by decide +kernel
theorem dX9_best_30 : decode cX9_best 30 = .ok (.getfield 46, 3) := by decide +kernel
theorem dX9_best_33 : decode cX9_best 33 = .ok (.getfield 208, 3) := by decide +kernel
theorem dX9_best_36 : decode cX9_best 36 = .ok (.ireturn, 1) := by decide +kernel
theorem dX9_worth_0 : decode cX9_worth 0 = .ok (.iload_n 1, 1) := by decide +kernel
theorem dX9_worth_1 : decode cX9_worth 1 = .ok (.sipush 9999, 3) := by decide +kernel
theorem dX9_worth_4 : decode cX9_worth 4 = .ok (.invokestatic 93, 3) := by decide +kernel
theorem dX9_worth_7 : decode cX9_worth 7 = .ok (.ifCond .ne 10, 3) := by decide +kernel
theorem dX9_worth_10 : decode cX9_worth 10 = .ok (.aload_n 0, 1) := by decide +kernel
theorem dX9_worth_11 : decode cX9_worth 11 = .ok (.ldc 64, 2) := by decide +kernel
theorem dX9_worth_13 : decode cX9_worth 13 = .ok (.invokevirtual 65, 3) := by decide +kernel
theorem dX9_worth_16 : decode cX9_worth 16 = .ok (.ireturn, 1) := by decide +kernel
theorem dX9_worth_17 : decode cX9_worth 17 = .ok (.aload_n 0, 1) := by decide +kernel
theorem dX9_worth_18 : decode cX9_worth 18 = .ok (.getfield 46, 3) := by decide +kernel
theorem dX9_worth_21 : decode cX9_worth 21 = .ok (.aload_n 0, 1) := by decide +kernel
theorem dX9_worth_22 : decode cX9_worth 22 = .ok (.getfield 10, 3) := by decide +kernel
theorem dX9_worth_25 : decode cX9_worth 25 = .ok (.iload_n 1, 1) := by decide +kernel
theorem dX9_worth_26 : decode cX9_worth 26 = .ok (.invokevirtual 204, 3) := by decide +kernel
theorem dX9_worth_29 : decode cX9_worth 29 = .ok (.aload_n 0, 1) := by decide +kernel
theorem dX9_worth_30 : decode cX9_worth 30 = .ok (.getfield 46, 3) := by decide +kernel
theorem dX9_worth_33 : decode cX9_worth 33 = .ok (.getfield 211, 3) := by decide +kernel
theorem dX9_worth_36 : decode cX9_worth 36 = .ok (.ireturn, 1) := by decide +kernel
theorem dX9_meant_0 : decode cX9_meant 0 = .ok (.aload_n 0, 1) := by decide +kernel
theorem dX9_meant_1 : decode cX9_meant 1 = .ok (.getfield 10, 3) := by decide +kernel
theorem dX9_meant_4 : decode cX9_meant 4 = .ok (.iload_n 1, 1) := by decide +kernel
theorem dX9_meant_5 : decode cX9_meant 5 = .ok (.invokevirtual 158, 3) := by decide +kernel
theorem dX9_meant_8 : decode cX9_meant 8 = .ok (.ifCond .ne 10, 3) := by decide +kernel
theorem dX9_meant_11 : decode cX9_meant 11 = .ok (.aload_n 0, 1) := by decide +kernel
theorem dX9_meant_12 : decode cX9_meant 12 = .ok (.ldc 64, 2) := by decide +kernel
theorem dX9_meant_14 : decode cX9_meant 14 = .ok (.invokevirtual 65, 3) := by decide +kernel
theorem dX9_meant_17 : decode cX9_meant 17 = .ok (.ireturn, 1) := by decide +kernel
theorem dX9_meant_18 : decode cX9_meant 18 = .ok (.aload_n 0, 1) := by decide +kernel
theorem dX9_meant_19 : decode cX9_meant 19 = .ok (.getfield 10, 3) := by decide +kernel
theorem dX9_meant_22 : decode cX9_meant 22 = .ok (.getfield 112, 3) := by decide +kernel
theorem dX9_meant_25 : decode cX9_meant 25 = .ok (.aload_n 0, 1) := by decide +kernel
theorem dX9_meant_26 : decode cX9_meant 26 = .ok (.getfield 10, 3) := by decide +kernel
theorem dX9_meant_29 : decode cX9_meant 29 = .ok (.iload_n 1, 1) := by decide +kernel
theorem dX9_meant_30 : decode cX9_meant 30 = .ok (.aload_n 0, 1) := by decide +kernel
theorem dX9_meant_31 : decode cX9_meant 31 = .ok (.getfield 10, 3) := by decide +kernel
theorem dX9_meant_34 : decode cX9_meant 34 = .ok (.getfield 173, 3) := by decide +kernel
theorem dX9_meant_37 : decode cX9_meant 37 = .ok (.invokevirtual 176, 3) := by decide +kernel
theorem dX9_meant_40 : decode cX9_meant 40 = .ok (.aload_n 0, 1) := by decide +kernel
theorem dX9_meant_41 : decode cX9_meant 41 = .ok (.getfield 10, 3) := by decide +kernel
theorem dX9_meant_44 : decode cX9_meant 44 = .ok (.getfield 134, 3) := by decide +kernel
theorem dX9_meant_47 : decode cX9_meant 47 = .ok (.invokevirtual 214, 3) := by decide +kernel
theorem dX9_meant_50 : decode cX9_meant 50 = .ok (.ireturn, 1) := by decide +kernel
theorem dX9_cheap_0 : decode cX9_cheap 0 = .ok (.iload_n 1, 1) := by decide +kernel
theorem dX9_cheap_1 : decode cX9_cheap 1 = .ok (.invokestatic 145, 3) := by decide +kernel
theorem dX9_cheap_4 : decode cX9_cheap 4 = .ok (.ifCond .ne 10, 3) := by decide +kernel
theorem dX9_cheap_7 : decode cX9_cheap 7 = .ok (.aload_n 0, 1) := by decide +kernel
theorem dX9_cheap_8 : decode cX9_cheap 8 = .ok (.ldc 64, 2) := by decide +kernel
theorem dX9_cheap_10 : decode cX9_cheap 10 = .ok (.invokevirtual 65, 3) := by decide +kernel
theorem dX9_cheap_13 : decode cX9_cheap 13 = .ok (.ireturn, 1) := by decide +kernel
theorem dX9_cheap_14 : decode cX9_cheap 14 = .ok (.aload_n 0, 1) := by decide +kernel
theorem dX9_cheap_15 : decode cX9_cheap 15 = .ok (.getfield 10, 3) := by decide +kernel
theorem dX9_cheap_18 : decode cX9_cheap 18 = .ok (.getfield 112, 3) := by decide +kernel
theorem dX9_cheap_21 : decode cX9_cheap 21 = .ok (.iload_n 1, 1) := by decide +kernel
theorem dX9_cheap_22 : decode cX9_cheap 22 = .ok (.invokevirtual 217, 3) := by decide +kernel
theorem dX9_cheap_25 : decode cX9_cheap 25 = .ok (.istore_n 2, 1) := by decide +kernel
theorem dX9_cheap_26 : decode cX9_cheap 26 = .ok (.iload_n 2, 1) := by decide +kernel
theorem dX9_cheap_27 : decode cX9_cheap 27 = .ok (.ifCond .ge 12, 3) := by decide +kernel
theorem dX9_cheap_30 : decode cX9_cheap 30 = .ok (.aload_n 0, 1) := by decide +kernel
theorem dX9_cheap_31 : decode cX9_cheap 31 = .ok (.ldc 100, 2) := by decide +kernel
theorem dX9_cheap_33 : decode cX9_cheap 33 = .ok (.invokevirtual 65, 3) := by decide +kernel
theorem dX9_cheap_36 : decode cX9_cheap 36 = .ok (.goto 4, 3) := by decide +kernel
theorem dX9_cheap_39 : decode cX9_cheap 39 = .ok (.iload_n 2, 1) := by decide +kernel
theorem dX9_cheap_40 : decode cX9_cheap 40 = .ok (.ireturn, 1) := by decide +kernel
theorem dX9_feed_0 : decode cX9_feed 0 = .ok (.iload_n 2, 1) := by decide +kernel
theorem dX9_feed_1 : decode cX9_feed 1 = .ok (.iconst 1, 1) := by decide +kernel
theorem dX9_feed_2 : decode cX9_feed 2 = .ok (.if_icmp .lt 8, 3) := by decide +kernel
theorem dX9_feed_5 : decode cX9_feed 5 = .ok (.iload_n 2, 1) := by decide +kernel
theorem dX9_feed_6 : decode cX9_feed 6 = .ok (.iconst 4, 1) := by decide +kernel
theorem dX9_feed_7 : decode cX9_feed 7 = .ok (.if_icmp .le 10, 3) := by decide +kernel
theorem dX9_feed_10 : decode cX9_feed 10 = .ok (.aload_n 0, 1) := by decide +kernel
theorem dX9_feed_11 : decode cX9_feed 11 = .ok (.ldc 64, 2) := by decide +kernel
theorem dX9_feed_13 : decode cX9_feed 13 = .ok (.invokevirtual 65, 3) := by decide +kernel
theorem dX9_feed_16 : decode cX9_feed 16 = .ok (.ireturn, 1) := by decide +kernel
theorem dX9_feed_17 : decode cX9_feed 17 = .ok (.aload_n 0, 1) := by decide +kernel
theorem dX9_feed_18 : decode cX9_feed 18 = .ok (.getfield 25, 3) := by decide +kernel
theorem dX9_feed_21 : decode cX9_feed 21 = .ok (.iload_n 2, 1) := by decide +kernel
theorem dX9_feed_22 : decode cX9_feed 22 = .ok (.invokevirtual 220, 3) := by decide +kernel
theorem dX9_feed_25 : decode cX9_feed 25 = .ok (.ifCond .ne 10, 3) := by decide +kernel
theorem dX9_feed_28 : decode cX9_feed 28 = .ok (.aload_n 0, 1) := by decide +kernel
theorem dX9_feed_29 : decode cX9_feed 29 = .ok (.ldc 154, 2) := by decide +kernel
theorem dX9_feed_31 : decode cX9_feed 31 = .ok (.invokevirtual 65, 3) := by decide +kernel
theorem dX9_feed_34 : decode cX9_feed 34 = .ok (.ireturn, 1) := by decide +kernel
theorem dX9_feed_35 : decode cX9_feed 35 = .ok (.aload_n 0, 1) := by decide +kernel
theorem dX9_feed_36 : decode cX9_feed 36 = .ok (.getfield 25, 3) := by decide +kernel
theorem dX9_feed_39 : decode cX9_feed 39 = .ok (.iload_n 1, 1) := by decide +kernel
theorem dX9_feed_40 : decode cX9_feed 40 = .ok (.iload_n 2, 1) := by decide +kernel
theorem dX9_feed_41 : decode cX9_feed 41 = .ok (.invokevirtual 223, 3) := by decide +kernel
theorem dX9_feed_44 : decode cX9_feed 44 = .ok (.aload_n 0, 1) := by decide +kernel
theorem dX9_feed_45 : decode cX9_feed 45 = .ok (.getfield 25, 3) := by decide +kernel
theorem dX9_feed_48 : decode cX9_feed 48 = .ok (.getfield 226, 3) := by decide +kernel
theorem dX9_feed_51 : decode cX9_feed 51 = .ok (.ireturn, 1) := by decide +kernel
theorem dX9_wipe_0 : decode cX9_wipe 0 = .ok (.aload_n 0, 1) := by decide +kernel
theorem dX9_wipe_1 : decode cX9_wipe 1 = .ok (.getfield 25, 3) := by decide +kernel
theorem dX9_wipe_4 : decode cX9_wipe 4 = .ok (.invokevirtual 229, 3) := by decide +kernel
theorem dX9_wipe_7 : decode cX9_wipe 7 = .ok (.ireturn, 1) := by decide +kernel
theorem dX9_field_0 : decode cX9_field 0 = .ok (.aload_n 0, 1) := by decide +kernel
theorem dX9_field_1 : decode cX9_field 1 = .ok (.getfield 19, 3) := by decide +kernel
theorem dX9_field_4 : decode cX9_field 4 = .ok (.aload_n 0, 1) := by decide +kernel
theorem dX9_field_5 : decode cX9_field 5 = .ok (.getfield 10, 3) := by decide +kernel
theorem dX9_field_8 : decode cX9_field 8 = .ok (.invokevirtual 232, 3) := by decide +kernel
theorem dX9_field_11 : decode cX9_field 11 = .ok (.aload_n 0, 1) := by decide +kernel
theorem dX9_field_12 : decode cX9_field 12 = .ok (.getfield 32, 3) := by decide +kernel
theorem dX9_field_15 : decode cX9_field 15 = .ok (.aload_n 0, 1) := by decide +kernel
theorem dX9_field_16 : decode cX9_field 16 = .ok (.getfield 25, 3) := by decide +kernel
theorem dX9_field_19 : decode cX9_field 19 = .ok (.aload_n 0, 1) := by decide +kernel
theorem dX9_field_20 : decode cX9_field 20 = .ok (.getfield 19, 3) := by decide +kernel
theorem dX9_field_23 : decode cX9_field 23 = .ok (.invokevirtual 236, 3) := by decide +kernel
theorem dX9_field_26 : decode cX9_field 26 = .ok (.istore_n 1, 1) := by decide +kernel
theorem dX9_field_27 : decode cX9_field 27 = .ok (.iload_n 1, 1) := by decide +kernel
theorem dX9_field_28 : decode cX9_field 28 = .ok (.ifCond .lt 14, 3) := by decide +kernel
theorem dX9_field_31 : decode cX9_field 31 = .ok (.aload_n 0, 1) := by decide +kernel
theorem dX9_field_32 : decode cX9_field 32 = .ok (.getfield 10, 3) := by decide +kernel
theorem dX9_field_35 : decode cX9_field 35 = .ok (.aload_n 0, 1) := by decide +kernel
theorem dX9_field_36 : decode cX9_field 36 = .ok (.getfield 19, 3) := by decide +kernel
theorem dX9_field_39 : decode cX9_field 39 = .ok (.invokevirtual 232, 3) := by decide +kernel
theorem dX9_field_42 : decode cX9_field 42 = .ok (.aload_n 0, 1) := by decide +kernel
theorem dX9_field_43 : decode cX9_field 43 = .ok (.getfield 25, 3) := by decide +kernel
theorem dX9_field_46 : decode cX9_field 46 = .ok (.invokevirtual 229, 3) := by decide +kernel
theorem dX9_field_49 : decode cX9_field 49 = .ok (.pop, 1) := by decide +kernel
theorem dX9_field_50 : decode cX9_field 50 = .ok (.iload_n 1, 1) := by decide +kernel
theorem dX9_field_51 : decode cX9_field 51 = .ok (.ireturn, 1) := by decide +kernel
theorem dX9_sheet_0 : decode cX9_sheet 0 = .ok (.iload_n 1, 1) := by decide +kernel
theorem dX9_sheet_1 : decode cX9_sheet 1 = .ok (.invokestatic 240, 3) := by decide +kernel
theorem dX9_sheet_4 : decode cX9_sheet 4 = .ok (.ifCond .eq 10, 3) := by decide +kernel
theorem dX9_sheet_7 : decode cX9_sheet 7 = .ok (.iload_n 2, 1) := by decide +kernel
theorem dX9_sheet_8 : decode cX9_sheet 8 = .ok (.invokestatic 243, 3) := by decide +kernel
theorem dX9_sheet_11 : decode cX9_sheet 11 = .ok (.ifCond .ne 10, 3) := by decide +kernel
theorem dX9_sheet_14 : decode cX9_sheet 14 = .ok (.aload_n 0, 1) := by decide +kernel
theorem dX9_sheet_15 : decode cX9_sheet 15 = .ok (.ldc 64, 2) := by decide +kernel
theorem dX9_sheet_17 : decode cX9_sheet 17 = .ok (.invokevirtual 65, 3) := by decide +kernel
theorem dX9_sheet_20 : decode cX9_sheet 20 = .ok (.ireturn, 1) := by decide +kernel
theorem dX9_sheet_21 : decode cX9_sheet 21 = .ok (.iload_n 3, 1) := by decide +kernel
theorem dX9_sheet_22 : decode cX9_sheet 22 = .ok (.ifCond .ge 10, 3) := by decide +kernel
theorem dX9_sheet_25 : decode cX9_sheet 25 = .ok (.aload_n 0, 1) := by decide +kernel
theorem dX9_sheet_26 : decode cX9_sheet 26 = .ok (.ldc 246, 2) := by decide +kernel
theorem dX9_sheet_28 : decode cX9_sheet 28 = .ok (.invokevirtual 65, 3) := by decide +kernel
theorem dX9_sheet_31 : decode cX9_sheet 31 = .ok (.ireturn, 1) := by decide +kernel
theorem dX9_sheet_32 : decode cX9_sheet 32 = .ok (.iload_n 3, 1) := by decide +kernel
theorem dX9_sheet_33 : decode cX9_sheet 33 = .ok (.bipush 40, 2) := by decide +kernel
theorem dX9_sheet_35 : decode cX9_sheet 35 = .ok (.if_icmp .le 10, 3) := by decide +kernel
theorem dX9_sheet_38 : decode cX9_sheet 38 = .ok (.aload_n 0, 1) := by decide +kernel
theorem dX9_sheet_39 : decode cX9_sheet 39 = .ok (.ldc 64, 2) := by decide +kernel
theorem dX9_sheet_41 : decode cX9_sheet 41 = .ok (.invokevirtual 65, 3) := by decide +kernel
theorem dX9_sheet_44 : decode cX9_sheet 44 = .ok (.ireturn, 1) := by decide +kernel
theorem dX9_sheet_45 : decode cX9_sheet 45 = .ok (.aload_n 0, 1) := by decide +kernel
theorem dX9_sheet_46 : decode cX9_sheet 46 = .ok (.getfield 39, 3) := by decide +kernel
theorem dX9_sheet_49 : decode cX9_sheet 49 = .ok (.iload_n 1, 1) := by decide +kernel
theorem dX9_sheet_50 : decode cX9_sheet 50 = .ok (.iload_n 2, 1) := by decide +kernel
theorem dX9_sheet_51 : decode cX9_sheet 51 = .ok (.iload_n 3, 1) := by decide +kernel
theorem dX9_sheet_52 : decode cX9_sheet 52 = .ok (.invokevirtual 247, 3) := by decide +kernel
theorem dX9_sheet_55 : decode cX9_sheet 55 = .ok (.ireturn, 1) := by decide +kernel
theorem dX9_write_0 : decode cX9_write 0 = .ok (.iload_n 1, 1) := by decide +kernel
theorem dX9_write_1 : decode cX9_write 1 = .ok (.invokestatic 240, 3) := by decide +kernel
theorem dX9_write_4 : decode cX9_write 4 = .ok (.ifCond .ne 11, 3) := by decide +kernel
theorem dX9_write_7 : decode cX9_write 7 = .ok (.aload_n 0, 1) := by decide +kernel
theorem dX9_write_8 : decode cX9_write 8 = .ok (.ldc 64, 2) := by decide +kernel
theorem dX9_write_10 : decode cX9_write 10 = .ok (.invokevirtual 65, 3) := by decide +kernel
theorem dX9_write_13 : decode cX9_write 13 = .ok (.i2l, 1) := by decide +kernel
theorem dX9_write_14 : decode cX9_write 14 = .ok (.lreturn, 1) := by decide +kernel
theorem dX9_write_15 : decode cX9_write 15 = .ok (.aload_n 0, 1) := by decide +kernel
theorem dX9_write_16 : decode cX9_write 16 = .ok (.getfield 39, 3) := by decide +kernel
theorem dX9_write_19 : decode cX9_write 19 = .ok (.iload_n 1, 1) := by decide +kernel
theorem dX9_write_20 : decode cX9_write 20 = .ok (.invokevirtual 250, 3) := by decide +kernel
theorem dX9_write_23 : decode cX9_write 23 = .ok (.ifCond .eq 11, 3) := by decide +kernel
theorem dX9_write_26 : decode cX9_write 26 = .ok (.aload_n 0, 1) := by decide +kernel
theorem dX9_write_27 : decode cX9_write 27 = .ok (.ldc 253, 2) := by decide +kernel
theorem dX9_write_29 : decode cX9_write 29 = .ok (.invokevirtual 65, 3) := by decide +kernel
theorem dX9_write_32 : decode cX9_write 32 = .ok (.i2l, 1) := by decide +kernel
theorem dX9_write_33 : decode cX9_write 33 = .ok (.lreturn, 1) := by decide +kernel
theorem dX9_write_34 : decode cX9_write 34 = .ok (.iload_n 2, 1) := by decide +kernel
theorem dX9_write_35 : decode cX9_write 35 = .ok (.ifCond .lt 15, 3) := by decide +kernel
theorem dX9_write_38 : decode cX9_write 38 = .ok (.iload_n 2, 1) := by decide +kernel
theorem dX9_write_39 : decode cX9_write 39 = .ok (.aload_n 0, 1) := by decide +kernel
theorem dX9_write_40 : decode cX9_write 40 = .ok (.getfield 39, 3) := by decide +kernel
theorem dX9_write_43 : decode cX9_write 43 = .ok (.iload_n 1, 1) := by decide +kernel
theorem dX9_write_44 : decode cX9_write 44 = .ok (.invokevirtual 254, 3) := by decide +kernel
theorem dX9_write_47 : decode cX9_write 47 = .ok (.if_icmp .lt 11, 3) := by decide +kernel
theorem dX9_write_50 : decode cX9_write 50 = .ok (.aload_n 0, 1) := by decide +kernel
theorem dX9_write_51 : decode cX9_write 51 = .ok (.ldc 64, 2) := by decide +kernel
theorem dX9_write_53 : decode cX9_write 53 = .ok (.invokevirtual 65, 3) := by decide +kernel
theorem dX9_write_56 : decode cX9_write 56 = .ok (.i2l, 1) := by decide +kernel
theorem dX9_write_57 : decode cX9_write 57 = .ok (.lreturn, 1) := by decide +kernel
theorem dX9_write_58 : decode cX9_write 58 = .ok (.aload_n 0, 1) := by decide +kernel
theorem dX9_write_59 : decode cX9_write 59 = .ok (.getfield 39, 3) := by decide +kernel
theorem dX9_write_62 : decode cX9_write 62 = .ok (.iload_n 1, 1) := by decide +kernel
theorem dX9_write_63 : decode cX9_write 63 = .ok (.iload_n 2, 1) := by decide +kernel
theorem dX9_write_64 : decode cX9_write 64 = .ok (.invokevirtual 257, 3) := by decide +kernel
theorem dX9_write_67 : decode cX9_write 67 = .ok (.lstore 5, 2) := by decide +kernel
theorem dX9_write_69 : decode cX9_write 69 = .ok (.aload_n 0, 1) := by decide +kernel
theorem dX9_write_70 : decode cX9_write 70 = .ok (.getfield 39, 3) := by decide +kernel
theorem dX9_write_73 : decode cX9_write 73 = .ok (.iload_n 1, 1) := by decide +kernel
theorem dX9_write_74 : decode cX9_write 74 = .ok (.iload_n 2, 1) := by decide +kernel
theorem dX9_write_75 : decode cX9_write 75 = .ok (.lload_n 3, 1) := by decide +kernel
theorem dX9_write_76 : decode cX9_write 76 = .ok (.invokevirtual 261, 3) := by decide +kernel
theorem dX9_write_79 : decode cX9_write 79 = .ok (.lload 5, 2) := by decide +kernel
theorem dX9_write_81 : decode cX9_write 81 = .ok (.lreturn, 1) := by decide +kernel
theorem dX9_copy_0 : decode cX9_copy 0 = .ok (.iload_n 1, 1) := by decide +kernel
theorem dX9_copy_1 : decode cX9_copy 1 = .ok (.invokestatic 240, 3) := by decide +kernel
theorem dX9_copy_4 : decode cX9_copy 4 = .ok (.ifCond .eq 10, 3) := by decide +kernel
theorem dX9_copy_7 : decode cX9_copy 7 = .ok (.iload_n 3, 1) := by decide +kernel
theorem dX9_copy_8 : decode cX9_copy 8 = .ok (.invokestatic 240, 3) := by decide +kernel
theorem dX9_copy_11 : decode cX9_copy 11 = .ok (.ifCond .ne 10, 3) := by decide +kernel
theorem dX9_copy_14 : decode cX9_copy 14 = .ok (.aload_n 0, 1) := by decide +kernel
theorem dX9_copy_15 : decode cX9_copy 15 = .ok (.ldc 64, 2) := by decide +kernel
theorem dX9_copy_17 : decode cX9_copy 17 = .ok (.invokevirtual 65, 3) := by decide +kernel
theorem dX9_copy_20 : decode cX9_copy 20 = .ok (.ireturn, 1) := by decide +kernel
theorem dX9_copy_21 : decode cX9_copy 21 = .ok (.aload_n 0, 1) := by decide +kernel
theorem dX9_copy_22 : decode cX9_copy 22 = .ok (.getfield 39, 3) := by decide +kernel
theorem dX9_copy_25 : decode cX9_copy 25 = .ok (.iload_n 1, 1) := by decide +kernel
theorem dX9_copy_26 : decode cX9_copy 26 = .ok (.invokevirtual 250, 3) := by decide +kernel
theorem dX9_copy_29 : decode cX9_copy 29 = .ok (.ifCond .ne 14, 3) := by decide +kernel
theorem dX9_copy_32 : decode cX9_copy 32 = .ok (.aload_n 0, 1) := by decide +kernel
theorem dX9_copy_33 : decode cX9_copy 33 = .ok (.getfield 39, 3) := by decide +kernel
theorem dX9_copy_36 : decode cX9_copy 36 = .ok (.iload_n 3, 1) := by decide +kernel
theorem dX9_copy_37 : decode cX9_copy 37 = .ok (.invokevirtual 250, 3) := by decide +kernel
theorem dX9_copy_40 : decode cX9_copy 40 = .ok (.ifCond .eq 10, 3) := by decide +kernel
theorem dX9_copy_43 : decode cX9_copy 43 = .ok (.aload_n 0, 1) := by decide +kernel
theorem dX9_copy_44 : decode cX9_copy 44 = .ok (.ldc 253, 2) := by decide +kernel
theorem dX9_copy_46 : decode cX9_copy 46 = .ok (.invokevirtual 65, 3) := by decide +kernel
theorem dX9_copy_49 : decode cX9_copy 49 = .ok (.ireturn, 1) := by decide +kernel
theorem dX9_copy_50 : decode cX9_copy 50 = .ok (.aload_n 0, 1) := by decide +kernel
theorem dX9_copy_51 : decode cX9_copy 51 = .ok (.getfield 39, 3) := by decide +kernel
theorem dX9_copy_54 : decode cX9_copy 54 = .ok (.iload_n 1, 1) := by decide +kernel
theorem dX9_copy_55 : decode cX9_copy 55 = .ok (.iload_n 3, 1) := by decide +kernel
theorem dX9_copy_56 : decode cX9_copy 56 = .ok (.invokevirtual 264, 3) := by decide +kernel
theorem dX9_copy_59 : decode cX9_copy 59 = .ok (.ifCond .ne 10, 3) := by decide +kernel
theorem dX9_copy_62 : decode cX9_copy 62 = .ok (.aload_n 0, 1) := by decide +kernel
theorem dX9_copy_63 : decode cX9_copy 63 = .ok (.ldc 188, 2) := by decide +kernel
theorem dX9_copy_65 : decode cX9_copy 65 = .ok (.invokevirtual 65, 3) := by decide +kernel
theorem dX9_copy_68 : decode cX9_copy 68 = .ok (.ireturn, 1) := by decide +kernel
theorem dX9_copy_69 : decode cX9_copy 69 = .ok (.aload_n 0, 1) := by decide +kernel
theorem dX9_copy_70 : decode cX9_copy 70 = .ok (.getfield 39, 3) := by decide +kernel
theorem dX9_copy_73 : decode cX9_copy 73 = .ok (.iload_n 1, 1) := by decide +kernel
theorem dX9_copy_74 : decode cX9_copy 74 = .ok (.iload_n 2, 1) := by decide +kernel
theorem dX9_copy_75 : decode cX9_copy 75 = .ok (.iload 5, 2) := by decide +kernel
theorem dX9_copy_77 : decode cX9_copy 77 = .ok (.invokevirtual 267, 3) := by decide +kernel
theorem dX9_copy_80 : decode cX9_copy 80 = .ok (.ifCond .eq 18, 3) := by decide +kernel
theorem dX9_copy_83 : decode cX9_copy 83 = .ok (.aload_n 0, 1) := by decide +kernel
theorem dX9_copy_84 : decode cX9_copy 84 = .ok (.getfield 39, 3) := by decide +kernel
theorem dX9_copy_87 : decode cX9_copy 87 = .ok (.iload_n 3, 1) := by decide +kernel
theorem dX9_copy_88 : decode cX9_copy 88 = .ok (.iload 4, 2) := by decide +kernel
theorem dX9_copy_90 : decode cX9_copy 90 = .ok (.iload 5, 2) := by decide +kernel
theorem dX9_copy_92 : decode cX9_copy 92 = .ok (.invokevirtual 267, 3) := by decide +kernel
theorem dX9_copy_95 : decode cX9_copy 95 = .ok (.ifCond .ne 10, 3) := by decide +kernel
theorem dX9_copy_98 : decode cX9_copy 98 = .ok (.aload_n 0, 1) := by decide +kernel
theorem dX9_copy_99 : decode cX9_copy 99 = .ok (.ldc 64, 2) := by decide +kernel
theorem dX9_copy_101 : decode cX9_copy 101 = .ok (.invokevirtual 65, 3) := by decide +kernel
theorem dX9_copy_104 : decode cX9_copy 104 = .ok (.ireturn, 1) := by decide +kernel
theorem dX9_copy_105 : decode cX9_copy 105 = .ok (.aload_n 0, 1) := by decide +kernel
theorem dX9_copy_106 : decode cX9_copy 106 = .ok (.getfield 39, 3) := by decide +kernel
theorem dX9_copy_109 : decode cX9_copy 109 = .ok (.iload_n 1, 1) := by decide +kernel
theorem dX9_copy_110 : decode cX9_copy 110 = .ok (.iload_n 2, 1) := by decide +kernel
theorem dX9_copy_111 : decode cX9_copy 111 = .ok (.iload_n 3, 1) := by decide +kernel
theorem dX9_copy_112 : decode cX9_copy 112 = .ok (.iload 4, 2) := by decide +kernel
theorem dX9_copy_114 : decode cX9_copy 114 = .ok (.iload 5, 2) := by decide +kernel
theorem dX9_copy_116 : decode cX9_copy 116 = .ok (.invokevirtual 271, 3) := by decide +kernel
theorem dX9_copy_119 : decode cX9_copy 119 = .ok (.iload 5, 2) := by decide +kernel
theorem dX9_copy_121 : decode cX9_copy 121 = .ok (.ireturn, 1) := by decide +kernel
theorem dX9_lays_0 : decode cX9_lays 0 = .ok (.iload_n 1, 1) := by decide +kernel
theorem dX9_lays_1 : decode cX9_lays 1 = .ok (.invokestatic 240, 3) := by decide +kernel
theorem dX9_lays_4 : decode cX9_lays 4 = .ok (.ifCond .ne 10, 3) := by decide +kernel
theorem dX9_lays_7 : decode cX9_lays 7 = .ok (.aload_n 0, 1) := by decide +kernel
theorem dX9_lays_8 : decode cX9_lays 8 = .ok (.ldc 64, 2) := by decide +kernel
theorem dX9_lays_10 : decode cX9_lays 10 = .ok (.invokevirtual 65, 3) := by decide +kernel
theorem dX9_lays_13 : decode cX9_lays 13 = .ok (.ireturn, 1) := by decide +kernel
theorem dX9_lays_14 : decode cX9_lays 14 = .ok (.aload_n 0, 1) := by decide +kernel
theorem dX9_lays_15 : decode cX9_lays 15 = .ok (.getfield 39, 3) := by decide +kernel
theorem dX9_lays_18 : decode cX9_lays 18 = .ok (.iload_n 1, 1) := by decide +kernel
theorem dX9_lays_19 : decode cX9_lays 19 = .ok (.invokevirtual 250, 3) := by decide +kernel
theorem dX9_lays_22 : decode cX9_lays 22 = .ok (.ifCond .eq 10, 3) := by decide +kernel
theorem dX9_lays_25 : decode cX9_lays 25 = .ok (.aload_n 0, 1) := by decide +kernel
theorem dX9_lays_26 : decode cX9_lays 26 = .ok (.ldc 253, 2) := by decide +kernel
theorem dX9_lays_28 : decode cX9_lays 28 = .ok (.invokevirtual 65, 3) := by decide +kernel
theorem dX9_lays_31 : decode cX9_lays 31 = .ok (.ireturn, 1) := by decide +kernel
theorem dX9_lays_32 : decode cX9_lays 32 = .ok (.aload_n 0, 1) := by decide +kernel
theorem dX9_lays_33 : decode cX9_lays 33 = .ok (.getfield 39, 3) := by decide +kernel
theorem dX9_lays_36 : decode cX9_lays 36 = .ok (.iload_n 1, 1) := by decide +kernel
theorem dX9_lays_37 : decode cX9_lays 37 = .ok (.aload_n 0, 1) := by decide +kernel
theorem dX9_lays_38 : decode cX9_lays 38 = .ok (.getfield 10, 3) := by decide +kernel
theorem dX9_lays_41 : decode cX9_lays 41 = .ok (.getfield 112, 3) := by decide +kernel
theorem dX9_lays_44 : decode cX9_lays 44 = .ok (.invokevirtual 275, 3) := by decide +kernel
theorem dX9_lays_47 : decode cX9_lays 47 = .ok (.ireturn, 1) := by decide +kernel
theorem dX9_show_0 : decode cX9_show 0 = .ok (.iload_n 1, 1) := by decide +kernel
theorem dX9_show_1 : decode cX9_show 1 = .ok (.invokestatic 240, 3) := by decide +kernel
theorem dX9_show_4 : decode cX9_show 4 = .ok (.ifCond .ne 10, 3) := by decide +kernel
theorem dX9_show_7 : decode cX9_show 7 = .ok (.aload_n 0, 1) := by decide +kernel
theorem dX9_show_8 : decode cX9_show 8 = .ok (.ldc 64, 2) := by decide +kernel
theorem dX9_show_10 : decode cX9_show 10 = .ok (.invokevirtual 65, 3) := by decide +kernel
theorem dX9_show_13 : decode cX9_show 13 = .ok (.ireturn, 1) := by decide +kernel
theorem dX9_show_14 : decode cX9_show 14 = .ok (.aload_n 0, 1) := by decide +kernel
theorem dX9_show_15 : decode cX9_show 15 = .ok (.getfield 39, 3) := by decide +kernel
theorem dX9_show_18 : decode cX9_show 18 = .ok (.iload_n 1, 1) := by decide +kernel
theorem dX9_show_19 : decode cX9_show 19 = .ok (.invokevirtual 250, 3) := by decide +kernel
theorem dX9_show_22 : decode cX9_show 22 = .ok (.ifCond .eq 10, 3) := by decide +kernel
theorem dX9_show_25 : decode cX9_show 25 = .ok (.aload_n 0, 1) := by decide +kernel
theorem dX9_show_26 : decode cX9_show 26 = .ok (.ldc 253, 2) := by decide +kernel
theorem dX9_show_28 : decode cX9_show 28 = .ok (.invokevirtual 65, 3) := by decide +kernel
theorem dX9_show_31 : decode cX9_show 31 = .ok (.ireturn, 1) := by decide +kernel
theorem dX9_show_32 : decode cX9_show 32 = .ok (.aload_n 0, 1) := by decide +kernel
theorem dX9_show_33 : decode cX9_show 33 = .ok (.getfield 10, 3) := by decide +kernel
theorem dX9_show_36 : decode cX9_show 36 = .ok (.getfield 279, 3) := by decide +kernel
theorem dX9_show_39 : decode cX9_show 39 = .ok (.aload_n 0, 1) := by decide +kernel
theorem dX9_show_40 : decode cX9_show 40 = .ok (.getfield 39, 3) := by decide +kernel
theorem dX9_show_43 : decode cX9_show 43 = .ok (.iload_n 1, 1) := by decide +kernel
theorem dX9_show_44 : decode cX9_show 44 = .ok (.invokevirtual 254, 3) := by decide +kernel
theorem dX9_show_47 : decode cX9_show 47 = .ok (.invokestatic 282, 3) := by decide +kernel
theorem dX9_show_50 : decode cX9_show 50 = .ok (.istore_n 2, 1) := by decide +kernel
theorem dX9_show_51 : decode cX9_show 51 = .ok (.iconst 0, 1) := by decide +kernel
theorem dX9_show_52 : decode cX9_show 52 = .ok (.istore_n 3, 1) := by decide +kernel
theorem dX9_show_53 : decode cX9_show 53 = .ok (.iload_n 3, 1) := by decide +kernel
theorem dX9_show_54 : decode cX9_show 54 = .ok (.iload_n 2, 1) := by decide +kernel
theorem dX9_show_55 : decode cX9_show 55 = .ok (.if_icmp .ge 27, 3) := by decide +kernel
theorem dX9_show_58 : decode cX9_show 58 = .ok (.aload_n 0, 1) := by decide +kernel
theorem dX9_show_59 : decode cX9_show 59 = .ok (.getfield 39, 3) := by decide +kernel
theorem dX9_show_62 : decode cX9_show 62 = .ok (.iload_n 1, 1) := by decide +kernel
theorem dX9_show_63 : decode cX9_show 63 = .ok (.iload_n 3, 1) := by decide +kernel
theorem dX9_show_64 : decode cX9_show 64 = .ok (.aload_n 0, 1) := by decide +kernel
theorem dX9_show_65 : decode cX9_show 65 = .ok (.getfield 10, 3) := by decide +kernel
theorem dX9_show_68 : decode cX9_show 68 = .ok (.iload_n 3, 1) := by decide +kernel
theorem dX9_show_69 : decode cX9_show 69 = .ok (.invokevirtual 182, 3) := by decide +kernel
theorem dX9_show_72 : decode cX9_show 72 = .ok (.i2l, 1) := by decide +kernel
theorem dX9_show_73 : decode cX9_show 73 = .ok (.invokevirtual 261, 3) := by decide +kernel
theorem dX9_show_76 : decode cX9_show 76 = .ok (.iinc 3 1, 3) := by decide +kernel
theorem dX9_show_79 : decode cX9_show 79 = .ok (.goto (-26), 3) := by decide +kernel
theorem dX9_show_82 : decode cX9_show 82 = .ok (.iload_n 2, 1) := by decide +kernel
theorem dX9_show_83 : decode cX9_show 83 = .ok (.ireturn, 1) := by decide +kernel
theorem dX9_walk_0 : decode cX9_walk 0 = .ok (.iload_n 1, 1) := by decide +kernel
theorem dX9_walk_1 : decode cX9_walk 1 = .ok (.invokestatic 240, 3) := by decide +kernel
theorem dX9_walk_4 : decode cX9_walk 4 = .ok (.ifCond .ne 10, 3) := by decide +kernel
theorem dX9_walk_7 : decode cX9_walk 7 = .ok (.aload_n 0, 1) := by decide +kernel
theorem dX9_walk_8 : decode cX9_walk 8 = .ok (.ldc 64, 2) := by decide +kernel
theorem dX9_walk_10 : decode cX9_walk 10 = .ok (.invokevirtual 65, 3) := by decide +kernel
theorem dX9_walk_13 : decode cX9_walk 13 = .ok (.ireturn, 1) := by decide +kernel
theorem dX9_walk_14 : decode cX9_walk 14 = .ok (.aload_n 0, 1) := by decide +kernel
theorem dX9_walk_15 : decode cX9_walk 15 = .ok (.getfield 39, 3) := by decide +kernel
theorem dX9_walk_18 : decode cX9_walk 18 = .ok (.iload_n 1, 1) := by decide +kernel
theorem dX9_walk_19 : decode cX9_walk 19 = .ok (.invokevirtual 250, 3) := by decide +kernel
theorem dX9_walk_22 : decode cX9_walk 22 = .ok (.ifCond .eq 10, 3) := by decide +kernel
theorem dX9_walk_25 : decode cX9_walk 25 = .ok (.aload_n 0, 1) := by decide +kernel
theorem dX9_walk_26 : decode cX9_walk 26 = .ok (.ldc 253, 2) := by decide +kernel
theorem dX9_walk_28 : decode cX9_walk 28 = .ok (.invokevirtual 65, 3) := by decide +kernel
theorem dX9_walk_31 : decode cX9_walk 31 = .ok (.ireturn, 1) := by decide +kernel
theorem dX9_walk_32 : decode cX9_walk 32 = .ok (.iload_n 2, 1) := by decide +kernel
theorem dX9_walk_33 : decode cX9_walk 33 = .ok (.invokestatic 58, 3) := by decide +kernel
theorem dX9_walk_36 : decode cX9_walk 36 = .ok (.ifCond .ne 10, 3) := by decide +kernel
theorem dX9_walk_39 : decode cX9_walk 39 = .ok (.aload_n 0, 1) := by decide +kernel
theorem dX9_walk_40 : decode cX9_walk 40 = .ok (.ldc 64, 2) := by decide +kernel
theorem dX9_walk_42 : decode cX9_walk 42 = .ok (.invokevirtual 65, 3) := by decide +kernel
theorem dX9_walk_45 : decode cX9_walk 45 = .ok (.ireturn, 1) := by decide +kernel
theorem dX9_walk_46 : decode cX9_walk 46 = .ok (.aload_n 0, 1) := by decide +kernel
theorem dX9_walk_47 : decode cX9_walk 47 = .ok (.getfield 39, 3) := by decide +kernel
theorem dX9_walk_50 : decode cX9_walk 50 = .ok (.iload_n 1, 1) := by decide +kernel
theorem dX9_walk_51 : decode cX9_walk 51 = .ok (.iload_n 2, 1) := by decide +kernel
theorem dX9_walk_52 : decode cX9_walk 52 = .ok (.invokevirtual 287, 3) := by decide +kernel
theorem dX9_walk_55 : decode cX9_walk 55 = .ok (.ireturn, 1) := by decide +kernel
theorem dX9_image_0 : decode cX9_image 0 = .ok (.aload_n 0, 1) := by decide +kernel
theorem dX9_image_1 : decode cX9_image 1 = .ok (.getfield 16, 3) := by decide +kernel
theorem dX9_image_4 : decode cX9_image 4 = .ok (.aload_n 0, 1) := by decide +kernel
theorem dX9_image_5 : decode cX9_image 5 = .ok (.getfield 10, 3) := by decide +kernel
theorem dX9_image_8 : decode cX9_image 8 = .ok (.invokevirtual 232, 3) := by decide +kernel
theorem dX9_image_11 : decode cX9_image 11 = .ok (.aload_n 0, 1) := by decide +kernel
theorem dX9_image_12 : decode cX9_image 12 = .ok (.iconst 1, 1) := by decide +kernel
theorem dX9_image_13 : decode cX9_image 13 = .ok (.putfield 54, 3) := by decide +kernel
theorem dX9_image_16 : decode cX9_image 16 = .ok (.iconst 1, 1) := by decide +kernel
theorem dX9_image_17 : decode cX9_image 17 = .ok (.ireturn, 1) := by decide +kernel
theorem dX9_undo_0 : decode cX9_undo 0 = .ok (.aload_n 0, 1) := by decide +kernel
theorem dX9_undo_1 : decode cX9_undo 1 = .ok (.getfield 54, 3) := by decide +kernel
theorem dX9_undo_4 : decode cX9_undo 4 = .ok (.ifCond .ne 10, 3) := by decide +kernel
theorem dX9_undo_7 : decode cX9_undo 7 = .ok (.aload_n 0, 1) := by decide +kernel
theorem dX9_undo_8 : decode cX9_undo 8 = .ok (.ldc 100, 2) := by decide +kernel
theorem dX9_undo_10 : decode cX9_undo 10 = .ok (.invokevirtual 65, 3) := by decide +kernel
theorem dX9_undo_13 : decode cX9_undo 13 = .ok (.ireturn, 1) := by decide +kernel
theorem dX9_undo_14 : decode cX9_undo 14 = .ok (.aload_n 0, 1) := by decide +kernel
theorem dX9_undo_15 : decode cX9_undo 15 = .ok (.getfield 10, 3) := by decide +kernel
theorem dX9_undo_18 : decode cX9_undo 18 = .ok (.aload_n 0, 1) := by decide +kernel
theorem dX9_undo_19 : decode cX9_undo 19 = .ok (.getfield 16, 3) := by decide +kernel
theorem dX9_undo_22 : decode cX9_undo 22 = .ok (.invokevirtual 232, 3) := by decide +kernel
theorem dX9_undo_25 : decode cX9_undo 25 = .ok (.aload_n 0, 1) := by decide +kernel
theorem dX9_undo_26 : decode cX9_undo 26 = .ok (.getfield 10, 3) := by decide +kernel
theorem dX9_undo_29 : decode cX9_undo 29 = .ok (.getfield 279, 3) := by decide +kernel
theorem dX9_undo_32 : decode cX9_undo 32 = .ok (.ireturn, 1) := by decide +kernel
theorem dX9_tear_0 : decode cX9_tear 0 = .ok (.aload_n 0, 1) := by decide +kernel
theorem dX9_tear_1 : decode cX9_tear 1 = .ok (.getfield 54, 3) := by decide +kernel
theorem dX9_tear_4 : decode cX9_tear 4 = .ok (.ifCond .eq 7, 3) := by decide +kernel
theorem dX9_tear_7 : decode cX9_tear 7 = .ok (.iconst 1, 1) := by decide +kernel
theorem dX9_tear_8 : decode cX9_tear 8 = .ok (.goto 4, 3) := by decide +kernel
theorem dX9_tear_11 : decode cX9_tear 11 = .ok (.iconst 0, 1) := by decide +kernel
theorem dX9_tear_12 : decode cX9_tear 12 = .ok (.istore_n 1, 1) := by decide +kernel
theorem dX9_tear_13 : decode cX9_tear 13 = .ok (.aload_n 0, 1) := by decide +kernel
theorem dX9_tear_14 : decode cX9_tear 14 = .ok (.iconst 0, 1) := by decide +kernel
theorem dX9_tear_15 : decode cX9_tear 15 = .ok (.putfield 54, 3) := by decide +kernel
theorem dX9_tear_18 : decode cX9_tear 18 = .ok (.iload_n 1, 1) := by decide +kernel
theorem dX9_tear_19 : decode cX9_tear 19 = .ok (.ireturn, 1) := by decide +kernel
theorem dX9_count_0 : decode cX9_count 0 = .ok (.iload_n 1, 1) := by decide +kernel
theorem dX9_count_1 : decode cX9_count 1 = .ok (.tableswitch 66 0 3 #[31, 39, 50, 58], 31) := by decide +kernel
theorem dX9_count_32 : decode cX9_count 32 = .ok (.aload_n 0, 1) := by decide +kernel
theorem dX9_count_33 : decode cX9_count 33 = .ok (.getfield 10, 3) := by decide +kernel
theorem dX9_count_36 : decode cX9_count 36 = .ok (.getfield 279, 3) := by decide +kernel
theorem dX9_count_39 : decode cX9_count 39 = .ok (.ireturn, 1) := by decide +kernel
theorem dX9_count_40 : decode cX9_count 40 = .ok (.aload_n 0, 1) := by decide +kernel
theorem dX9_count_41 : decode cX9_count 41 = .ok (.getfield 10, 3) := by decide +kernel
theorem dX9_count_44 : decode cX9_count 44 = .ok (.getfield 112, 3) := by decide +kernel
theorem dX9_count_47 : decode cX9_count 47 = .ok (.invokevirtual 290, 3) := by decide +kernel
theorem dX9_count_50 : decode cX9_count 50 = .ok (.ireturn, 1) := by decide +kernel
theorem dX9_count_51 : decode cX9_count 51 = .ok (.aload_n 0, 1) := by decide +kernel
theorem dX9_count_52 : decode cX9_count 52 = .ok (.getfield 25, 3) := by decide +kernel
theorem dX9_count_55 : decode cX9_count 55 = .ok (.getfield 226, 3) := by decide +kernel
theorem dX9_count_58 : decode cX9_count 58 = .ok (.ireturn, 1) := by decide +kernel
theorem dX9_count_59 : decode cX9_count 59 = .ok (.aload_n 0, 1) := by decide +kernel
theorem dX9_count_60 : decode cX9_count 60 = .ok (.getfield 10, 3) := by decide +kernel
theorem dX9_count_63 : decode cX9_count 63 = .ok (.invokevirtual 293, 3) := by decide +kernel
theorem dX9_count_66 : decode cX9_count 66 = .ok (.ireturn, 1) := by decide +kernel
theorem dX9_count_67 : decode cX9_count 67 = .ok (.aload_n 0, 1) := by decide +kernel
theorem dX9_count_68 : decode cX9_count 68 = .ok (.ldc 64, 2) := by decide +kernel
theorem dX9_count_70 : decode cX9_count 70 = .ok (.invokevirtual 65, 3) := by decide +kernel
theorem dX9_count_73 : decode cX9_count 73 = .ok (.ireturn, 1) := by decide +kernel
theorem dX9_status_0 : decode cX9_status 0 = .ok (.iload_n 1, 1) := by decide +kernel
theorem dX9_status_1 : decode cX9_status 1 = .ok (.iconst (-1), 1) := by decide +kernel
theorem dX9_status_2 : decode cX9_status 2 = .ok (.if_icmp .ne 33, 3) := by decide +kernel
theorem dX9_status_5 : decode cX9_status 5 = .ok (.iconst 0, 1) := by decide +kernel
theorem dX9_status_6 : decode cX9_status 6 = .ok (.istore_n 2, 1) := by decide +kernel
theorem dX9_status_7 : decode cX9_status 7 = .ok (.iconst 0, 1) := by decide +kernel
theorem dX9_status_8 : decode cX9_status 8 = .ok (.istore_n 3, 1) := by decide +kernel
theorem dX9_status_9 : decode cX9_status 9 = .ok (.iload_n 3, 1) := by decide +kernel
theorem dX9_status_10 : decode cX9_status 10 = .ok (.aload_n 0, 1) := by decide +kernel
theorem dX9_status_11 : decode cX9_status 11 = .ok (.getfield 50, 3) := by decide +kernel
theorem dX9_status_14 : decode cX9_status 14 = .ok (.arraylength, 1) := by decide +kernel
theorem dX9_status_15 : decode cX9_status 15 = .ok (.if_icmp .ge 18, 3) := by decide +kernel
theorem dX9_status_18 : decode cX9_status 18 = .ok (.iload_n 2, 1) := by decide +kernel
theorem dX9_status_19 : decode cX9_status 19 = .ok (.aload_n 0, 1) := by decide +kernel
theorem dX9_status_20 : decode cX9_status 20 = .ok (.getfield 50, 3) := by decide +kernel
theorem dX9_status_23 : decode cX9_status 23 = .ok (.iload_n 3, 1) := by decide +kernel
theorem dX9_status_24 : decode cX9_status 24 = .ok (.iaload, 1) := by decide +kernel
theorem dX9_status_25 : decode cX9_status 25 = .ok (.iadd, 1) := by decide +kernel
theorem dX9_status_26 : decode cX9_status 26 = .ok (.istore_n 2, 1) := by decide +kernel
theorem dX9_status_27 : decode cX9_status 27 = .ok (.iinc 3 1, 3) := by decide +kernel
theorem dX9_status_30 : decode cX9_status 30 = .ok (.goto (-21), 3) := by decide +kernel
theorem dX9_status_33 : decode cX9_status 33 = .ok (.iload_n 2, 1) := by decide +kernel
theorem dX9_status_34 : decode cX9_status 34 = .ok (.ireturn, 1) := by decide +kernel
theorem dX9_status_35 : decode cX9_status 35 = .ok (.iload_n 1, 1) := by decide +kernel
theorem dX9_status_36 : decode cX9_status 36 = .ok (.ifCond .lt 12, 3) := by decide +kernel
theorem dX9_status_39 : decode cX9_status 39 = .ok (.iload_n 1, 1) := by decide +kernel
theorem dX9_status_40 : decode cX9_status 40 = .ok (.aload_n 0, 1) := by decide +kernel
theorem dX9_status_41 : decode cX9_status 41 = .ok (.getfield 50, 3) := by decide +kernel
theorem dX9_status_44 : decode cX9_status 44 = .ok (.arraylength, 1) := by decide +kernel
theorem dX9_status_45 : decode cX9_status 45 = .ok (.if_icmp .lt 10, 3) := by decide +kernel
theorem dX9_status_48 : decode cX9_status 48 = .ok (.aload_n 0, 1) := by decide +kernel
theorem dX9_status_49 : decode cX9_status 49 = .ok (.ldc 64, 2) := by decide +kernel
theorem dX9_status_51 : decode cX9_status 51 = .ok (.invokevirtual 65, 3) := by decide +kernel
theorem dX9_status_54 : decode cX9_status 54 = .ok (.ireturn, 1) := by decide +kernel
theorem dX9_status_55 : decode cX9_status 55 = .ok (.aload_n 0, 1) := by decide +kernel
theorem dX9_status_56 : decode cX9_status 56 = .ok (.getfield 50, 3) := by decide +kernel
theorem dX9_status_59 : decode cX9_status 59 = .ok (.iload_n 1, 1) := by decide +kernel
theorem dX9_status_60 : decode cX9_status 60 = .ok (.iaload, 1) := by decide +kernel
theorem dX9_status_61 : decode cX9_status 61 = .ok (.ireturn, 1) := by decide +kernel
theorem dX9_finding_0 : decode cX9_finding 0 = .ok (.ldc 64, 2) := by decide +kernel
theorem dX9_finding_2 : decode cX9_finding 2 = .ok (.iload_n 1, 1) := by decide +kernel
theorem dX9_finding_3 : decode cX9_finding 3 = .ok (.isub, 1) := by decide +kernel
theorem dX9_finding_4 : decode cX9_finding 4 = .ok (.istore_n 2, 1) := by decide +kernel
theorem dX9_finding_5 : decode cX9_finding 5 = .ok (.iload_n 2, 1) := by decide +kernel
theorem dX9_finding_6 : decode cX9_finding 6 = .ok (.ifCond .lt 22, 3) := by decide +kernel
theorem dX9_finding_9 : decode cX9_finding 9 = .ok (.iload_n 2, 1) := by decide +kernel
theorem dX9_finding_10 : decode cX9_finding 10 = .ok (.aload_n 0, 1) := by decide +kernel
theorem dX9_finding_11 : decode cX9_finding 11 = .ok (.getfield 50, 3) := by decide +kernel
theorem dX9_finding_14 : decode cX9_finding 14 = .ok (.arraylength, 1) := by decide +kernel
theorem dX9_finding_15 : decode cX9_finding 15 = .ok (.if_icmp .ge 13, 3) := by decide +kernel
theorem dX9_finding_18 : decode cX9_finding 18 = .ok (.aload_n 0, 1) := by decide +kernel
theorem dX9_finding_19 : decode cX9_finding 19 = .ok (.getfield 50, 3) := by decide +kernel
theorem dX9_finding_22 : decode cX9_finding 22 = .ok (.iload_n 2, 1) := by decide +kernel
theorem dX9_finding_23 : decode cX9_finding 23 = .ok (.dup2, 1) := by decide +kernel
theorem dX9_finding_24 : decode cX9_finding 24 = .ok (.iaload, 1) := by decide +kernel
theorem dX9_finding_25 : decode cX9_finding 25 = .ok (.iconst 1, 1) := by decide +kernel
theorem dX9_finding_26 : decode cX9_finding 26 = .ok (.iadd, 1) := by decide +kernel
theorem dX9_finding_27 : decode cX9_finding 27 = .ok (.iastore, 1) := by decide +kernel
theorem dX9_finding_28 : decode cX9_finding 28 = .ok (.iload_n 1, 1) := by decide +kernel
theorem dX9_finding_29 : decode cX9_finding 29 = .ok (.ireturn, 1) := by decide +kernel
theorem dX9_isWithin_0 : decode cX9_isWithin 0 = .ok (.iload_n 0, 1) := by decide +kernel
theorem dX9_isWithin_1 : decode cX9_isWithin 1 = .ok (.ifCond .lt 12, 3) := by decide +kernel
theorem dX9_isWithin_4 : decode cX9_isWithin 4 = .ok (.iload_n 0, 1) := by decide +kernel
theorem dX9_isWithin_5 : decode cX9_isWithin 5 = .ok (.iload_n 1, 1) := by decide +kernel
theorem dX9_isWithin_6 : decode cX9_isWithin 6 = .ok (.if_icmp .gt 7, 3) := by decide +kernel
theorem dX9_isWithin_9 : decode cX9_isWithin 9 = .ok (.iconst 1, 1) := by decide +kernel
theorem dX9_isWithin_10 : decode cX9_isWithin 10 = .ok (.goto 4, 3) := by decide +kernel
theorem dX9_isWithin_13 : decode cX9_isWithin 13 = .ok (.iconst 0, 1) := by decide +kernel
theorem dX9_isWithin_14 : decode cX9_isWithin 14 = .ok (.ireturn, 1) := by decide +kernel
theorem dX10_init_0 : decode cX10_init 0 = .ok (.aload_n 0, 1) := by decide +kernel
theorem dX10_init_1 : decode cX10_init 1 = .ok (.invokespecial 1, 3) := by decide +kernel
theorem dX10_init_4 : decode cX10_init 4 = .ok (.aload_n 0, 1) := by decide +kernel
theorem dX10_init_5 : decode cX10_init 5 = .ok (.bipush 65, 2) := by decide +kernel
theorem dX10_init_7 : decode cX10_init 7 = .ok (.newarray .int, 2) := by decide +kernel
theorem dX10_init_9 : decode cX10_init 9 = .ok (.putfield 9, 3) := by decide +kernel
theorem dX10_init_12 : decode cX10_init 12 = .ok (.aload_n 0, 1) := by decide +kernel
theorem dX10_init_13 : decode cX10_init 13 = .ok (.bipush 65, 2) := by decide +kernel
theorem dX10_init_15 : decode cX10_init 15 = .ok (.newarray .int, 2) := by decide +kernel
theorem dX10_init_17 : decode cX10_init 17 = .ok (.putfield 13, 3) := by decide +kernel
theorem dX10_init_20 : decode cX10_init 20 = .ok (.aload_n 0, 1) := by decide +kernel
theorem dX10_init_21 : decode cX10_init 21 = .ok (.bipush 65, 2) := by decide +kernel
theorem dX10_init_23 : decode cX10_init 23 = .ok (.newarray .int, 2) := by decide +kernel
theorem dX10_init_25 : decode cX10_init 25 = .ok (.putfield 16, 3) := by decide +kernel
theorem dX10_init_28 : decode cX10_init 28 = .ok (.aload_n 0, 1) := by decide +kernel
theorem dX10_init_29 : decode cX10_init 29 = .ok (.bipush 7, 2) := by decide +kernel
theorem dX10_init_31 : decode cX10_init 31 = .ok (.newarray .int, 2) := by decide +kernel
theorem dX10_init_33 : decode cX10_init 33 = .ok (.putfield 19, 3) := by decide +kernel
theorem dX10_init_36 : decode cX10_init 36 = .ok (.aload_n 0, 1) := by decide +kernel
theorem dX10_init_37 : decode cX10_init 37 = .ok (.bipush 12, 2) := by decide +kernel
theorem dX10_init_39 : decode cX10_init 39 = .ok (.newarray .int, 2) := by decide +kernel
theorem dX10_init_41 : decode cX10_init 41 = .ok (.putfield 22, 3) := by decide +kernel
theorem dX10_init_44 : decode cX10_init 44 = .ok (.aload_n 0, 1) := by decide +kernel
theorem dX10_init_45 : decode cX10_init 45 = .ok (.bipush 12, 2) := by decide +kernel
theorem dX10_init_47 : decode cX10_init 47 = .ok (.newarray .int, 2) := by decide +kernel
theorem dX10_init_49 : decode cX10_init 49 = .ok (.putfield 25, 3) := by decide +kernel
theorem dX10_init_52 : decode cX10_init 52 = .ok (.aload_n 0, 1) := by decide +kernel
theorem dX10_init_53 : decode cX10_init 53 = .ok (.bipush 12, 2) := by decide +kernel
theorem dX10_init_55 : decode cX10_init 55 = .ok (.newarray .int, 2) := by decide +kernel
theorem dX10_init_57 : decode cX10_init 57 = .ok (.putfield 28, 3) := by decide +kernel
theorem dX10_init_60 : decode cX10_init 60 = .ok (.aload_n 0, 1) := by decide +kernel
theorem dX10_init_61 : decode cX10_init 61 = .ok (.bipush 120, 2) := by decide +kernel
theorem dX10_init_63 : decode cX10_init 63 = .ok (.newarray .int, 2) := by decide +kernel
theorem dX10_init_65 : decode cX10_init 65 = .ok (.putfield 31, 3) := by decide +kernel
theorem dX10_init_68 : decode cX10_init 68 = .ok (.aload_n 0, 1) := by decide +kernel
theorem dX10_init_69 : decode cX10_init 69 = .ok (.iconst 4, 1) := by decide +kernel
theorem dX10_init_70 : decode cX10_init 70 = .ok (.newarray .int, 2) := by decide +kernel
theorem dX10_init_72 : decode cX10_init 72 = .ok (.putfield 34, 3) := by decide +kernel
theorem dX10_init_75 : decode cX10_init 75 = .ok (.aload_n 0, 1) := by decide +kernel
theorem dX10_init_76 : decode cX10_init 76 = .ok (.iconst 4, 1) := by decide +kernel
theorem dX10_init_77 : decode cX10_init 77 = .ok (.newarray .int, 2) := by decide +kernel
theorem dX10_init_79 : decode cX10_init 79 = .ok (.putfield 37, 3) := by decide +kernel
theorem dX10_init_82 : decode cX10_init 82 = .ok (.aload_n 0, 1) := by decide +kernel
theorem dX10_init_83 : decode cX10_init 83 = .ok (.sipush 160, 3) := by decide +kernel
theorem dX10_init_86 : decode cX10_init 86 = .ok (.newarray .long, 2) := by decide +kernel
theorem dX10_init_88 : decode cX10_init 88 = .ok (.putfield 40, 3) := by decide +kernel
theorem dX10_init_91 : decode cX10_init 91 = .ok (.aload_n 0, 1) := by decide +kernel
theorem dX10_init_92 : decode cX10_init 92 = .ok (.bipush 40, 2) := by decide +kernel
theorem dX10_init_94 : decode cX10_init 94 = .ok (.newarray .long, 2) := by decide +kernel
theorem dX10_init_96 : decode cX10_init 96 = .ok (.putfield 44, 3) := by decide +kernel
theorem dX10_init_99 : decode cX10_init 99 = .ok (.return_, 1) := by decide +kernel
theorem dX10_in_0 : decode cX10_in 0 = .ok (.iload_n 0, 1) := by decide +kernel
theorem dX10_in_1 : decode cX10_in 1 = .ok (.iload_n 1, 1) := by decide +kernel
theorem dX10_in_2 : decode cX10_in 2 = .ok (.if_icmp .lt 12, 3) := by decide +kernel
theorem dX10_in_5 : decode cX10_in 5 = .ok (.iload_n 0, 1) := by decide +kernel
theorem dX10_in_6 : decode cX10_in 6 = .ok (.iload_n 2, 1) := by decide +kernel
theorem dX10_in_7 : decode cX10_in 7 = .ok (.if_icmp .gt 7, 3) := by decide +kernel
theorem dX10_in_10 : decode cX10_in 10 = .ok (.iconst 1, 1) := by decide +kernel
theorem dX10_in_11 : decode cX10_in 11 = .ok (.goto 4, 3) := by decide +kernel
theorem dX10_in_14 : decode cX10_in 14 = .ok (.iconst 0, 1) := by decide +kernel
theorem dX10_in_15 : decode cX10_in 15 = .ok (.ireturn, 1) := by decide +kernel
theorem dX10_no_0 : decode cX10_no 0 = .ok (.aload_n 0, 1) := by decide +kernel
theorem dX10_no_1 : decode cX10_no 1 = .ok (.getfield 19, 3) := by decide +kernel
theorem dX10_no_4 : decode cX10_no 4 = .ok (.iload_n 1, 1) := by decide +kernel
theorem dX10_no_5 : decode cX10_no 5 = .ok (.dup2, 1) := by decide +kernel
theorem dX10_no_6 : decode cX10_no 6 = .ok (.iaload, 1) := by decide +kernel
theorem dX10_no_7 : decode cX10_no 7 = .ok (.iconst 1, 1) := by decide +kernel
theorem dX10_no_8 : decode cX10_no 8 = .ok (.iadd, 1) := by decide +kernel
theorem dX10_no_9 : decode cX10_no 9 = .ok (.iastore, 1) := by decide +kernel
theorem dX10_no_10 : decode cX10_no 10 = .ok (.ldc 47, 2) := by decide +kernel
theorem dX10_no_12 : decode cX10_no 12 = .ok (.iload_n 1, 1) := by decide +kernel
theorem dX10_no_13 : decode cX10_no 13 = .ok (.isub, 1) := by decide +kernel
theorem dX10_no_14 : decode cX10_no 14 = .ok (.ireturn, 1) := by decide +kernel
theorem dX10_lay_0 : decode cX10_lay 0 = .ok (.iconst 0, 1) := by decide +kernel
theorem dX10_lay_1 : decode cX10_lay 1 = .ok (.istore_n 2, 1) := by decide +kernel
theorem dX10_lay_2 : decode cX10_lay 2 = .ok (.iload_n 2, 1) := by decide +kernel
theorem dX10_lay_3 : decode cX10_lay 3 = .ok (.bipush 65, 2) := by decide +kernel
theorem dX10_lay_5 : decode cX10_lay 5 = .ok (.if_icmp .ge 15, 3) := by decide +kernel
theorem dX10_lay_8 : decode cX10_lay 8 = .ok (.aload_n 1, 1) := by decide +kernel
theorem dX10_lay_9 : decode cX10_lay 9 = .ok (.iload_n 2, 1) := by decide +kernel
theorem dX10_lay_10 : decode cX10_lay 10 = .ok (.aload_n 0, 1) := by decide +kernel
theorem dX10_lay_11 : decode cX10_lay 11 = .ok (.iload_n 2, 1) := by decide +kernel
theorem dX10_lay_12 : decode cX10_lay 12 = .ok (.iaload, 1) := by decide +kernel
theorem dX10_lay_13 : decode cX10_lay 13 = .ok (.iastore, 1) := by decide +kernel
theorem dX10_lay_14 : decode cX10_lay 14 = .ok (.iinc 2 1, 3) := by decide +kernel
theorem dX10_lay_17 : decode cX10_lay 17 = .ok (.goto (-15), 3) := by decide +kernel
theorem dX10_lay_20 : decode cX10_lay 20 = .ok (.return_, 1) := by decide +kernel
theorem dX10_puts_0 : decode cX10_puts 0 = .ok (.aload_n 0, 1) := by decide +kernel
theorem dX10_puts_1 : decode cX10_puts 1 = .ok (.getfield 9, 3) := by decide +kernel
theorem dX10_puts_4 : decode cX10_puts 4 = .ok (.iload_n 1, 1) := by decide +kernel
theorem dX10_puts_5 : decode cX10_puts 5 = .ok (.iaload, 1) := by decide +kernel
theorem dX10_puts_6 : decode cX10_puts 6 = .ok (.istore_n 3, 1) := by decide +kernel
theorem dX10_puts_7 : decode cX10_puts 7 = .ok (.aload_n 0, 1) := by decide +kernel
theorem dX10_puts_8 : decode cX10_puts 8 = .ok (.getfield 9, 3) := by decide +kernel
theorem dX10_puts_11 : decode cX10_puts 11 = .ok (.iload_n 1, 1) := by decide +kernel
theorem dX10_puts_12 : decode cX10_puts 12 = .ok (.iload_n 2, 1) := by decide +kernel
theorem dX10_puts_13 : decode cX10_puts 13 = .ok (.iastore, 1) := by decide +kernel
theorem dX10_puts_14 : decode cX10_puts 14 = .ok (.iload_n 3, 1) := by decide +kernel
theorem dX10_puts_15 : decode cX10_puts 15 = .ok (.ireturn, 1) := by decide +kernel
theorem dX10_isForm_0 : decode cX10_isForm 0 = .ok (.iload_n 0, 1) := by decide +kernel
theorem dX10_isForm_1 : decode cX10_isForm 1 = .ok (.iconst 0, 1) := by decide +kernel
theorem dX10_isForm_2 : decode cX10_isForm 2 = .ok (.sipush 4095, 3) := by decide +kernel
theorem dX10_isForm_5 : decode cX10_isForm 5 = .ok (.invokestatic 48, 3) := by decide +kernel
theorem dX10_isForm_8 : decode cX10_isForm 8 = .ok (.ireturn, 1) := by decide +kernel
theorem dX10_isPoint_0 : decode cX10_isPoint 0 = .ok (.iload_n 0, 1) := by decide +kernel
theorem dX10_isPoint_1 : decode cX10_isPoint 1 = .ok (.iconst 0, 1) := by decide +kernel
theorem dX10_isPoint_2 : decode cX10_isPoint 2 = .ok (.bipush 8, 2) := by decide +kernel
theorem dX10_isPoint_4 : decode cX10_isPoint 4 = .ok (.invokestatic 48, 3) := by decide +kernel
theorem dX10_isPoint_7 : decode cX10_isPoint 7 = .ok (.ireturn, 1) := by decide +kernel
theorem dX10_isSign_0 : decode cX10_isSign 0 = .ok (.iload_n 0, 1) := by decide +kernel
theorem dX10_isSign_1 : decode cX10_isSign 1 = .ok (.iconst 0, 1) := by decide +kernel
theorem dX10_isSign_2 : decode cX10_isSign 2 = .ok (.bipush 25, 2) := by decide +kernel
theorem dX10_isSign_4 : decode cX10_isSign 4 = .ok (.invokestatic 48, 3) := by decide +kernel
theorem dX10_isSign_7 : decode cX10_isSign 7 = .ok (.ireturn, 1) := by decide +kernel
theorem dX10_isKind_0 : decode cX10_isKind 0 = .ok (.iload_n 0, 1) := by decide +kernel
theorem dX10_isKind_1 : decode cX10_isKind 1 = .ok (.iconst 0, 1) := by decide +kernel
theorem dX10_isKind_2 : decode cX10_isKind 2 = .ok (.iconst 5, 1) := by decide +kernel
theorem dX10_isKind_3 : decode cX10_isKind 3 = .ok (.invokestatic 48, 3) := by decide +kernel
theorem dX10_isKind_6 : decode cX10_isKind 6 = .ok (.ireturn, 1) := by decide +kernel
theorem dX10_isLetter_0 : decode cX10_isLetter 0 = .ok (.iload_n 1, 1) := by decide +kernel
theorem dX10_isLetter_1 : decode cX10_isLetter 1 = .ok (.iconst 0, 1) := by decide +kernel
theorem dX10_isLetter_2 : decode cX10_isLetter 2 = .ok (.aload_n 0, 1) := by decide +kernel
theorem dX10_isLetter_3 : decode cX10_isLetter 3 = .ok (.getfield 9, 3) := by decide +kernel
theorem dX10_isLetter_6 : decode cX10_isLetter 6 = .ok (.iconst 2, 1) := by decide +kernel
theorem dX10_isLetter_7 : decode cX10_isLetter 7 = .ok (.iaload, 1) := by decide +kernel
theorem dX10_isLetter_8 : decode cX10_isLetter 8 = .ok (.iconst 1, 1) := by decide +kernel
theorem dX10_isLetter_9 : decode cX10_isLetter 9 = .ok (.isub, 1) := by decide +kernel
theorem dX10_isLetter_10 : decode cX10_isLetter 10 = .ok (.invokestatic 48, 3) := by decide +kernel
theorem dX10_isLetter_13 : decode cX10_isLetter 13 = .ok (.ireturn, 1) := by decide +kernel
theorem dX10_at_0 : decode cX10_at 0 = .ok (.bipush 29, 2) := by decide +kernel
theorem dX10_at_2 : decode cX10_at 2 = .ok (.iconst 3, 1) := by decide +kernel
theorem dX10_at_3 : decode cX10_at 3 = .ok (.iload_n 1, 1) := by decide +kernel
theorem dX10_at_4 : decode cX10_at 4 = .ok (.imul, 1) := by decide +kernel
theorem dX10_at_5 : decode cX10_at 5 = .ok (.iadd, 1) := by decide +kernel
theorem dX10_at_6 : decode cX10_at 6 = .ok (.iload_n 2, 1) := by decide +kernel
theorem dX10_at_7 : decode cX10_at 7 = .ok (.iadd, 1) := by decide +kernel
theorem dX10_at_8 : decode cX10_at 8 = .ok (.ireturn, 1) := by decide +kernel
theorem dX10_oneEnd_0 : decode cX10_oneEnd 0 = .ok (.iload_n 0, 1) := by decide +kernel
theorem dX10_oneEnd_1 : decode cX10_oneEnd 1 = .ok (.bipush 6, 2) := by decide +kernel
theorem dX10_oneEnd_3 : decode cX10_oneEnd 3 = .ok (.if_icmp .ge 15, 3) := by decide +kernel
theorem dX10_oneEnd_6 : decode cX10_oneEnd 6 = .ok (.iconst 3, 1) := by decide +kernel
theorem dX10_oneEnd_7 : decode cX10_oneEnd 7 = .ok (.iload_n 0, 1) := by decide +kernel
theorem dX10_oneEnd_8 : decode cX10_oneEnd 8 = .ok (.iconst 2, 1) := by decide +kernel
theorem dX10_oneEnd_9 : decode cX10_oneEnd 9 = .ok (.idiv, 1) := by decide +kernel
theorem dX10_oneEnd_10 : decode cX10_oneEnd 10 = .ok (.imul, 1) := by decide +kernel
theorem dX10_oneEnd_11 : decode cX10_oneEnd 11 = .ok (.iload_n 0, 1) := by decide +kernel
theorem dX10_oneEnd_12 : decode cX10_oneEnd 12 = .ok (.iconst 2, 1) := by decide +kernel
theorem dX10_oneEnd_13 : decode cX10_oneEnd 13 = .ok (.irem, 1) := by decide +kernel
theorem dX10_oneEnd_14 : decode cX10_oneEnd 14 = .ok (.iadd, 1) := by decide +kernel
theorem dX10_oneEnd_15 : decode cX10_oneEnd 15 = .ok (.goto 7, 3) := by decide +kernel
theorem dX10_oneEnd_18 : decode cX10_oneEnd 18 = .ok (.iload_n 0, 1) := by decide +kernel
theorem dX10_oneEnd_19 : decode cX10_oneEnd 19 = .ok (.bipush 6, 2) := by decide +kernel
theorem dX10_oneEnd_21 : decode cX10_oneEnd 21 = .ok (.isub, 1) := by decide +kernel
theorem dX10_oneEnd_22 : decode cX10_oneEnd 22 = .ok (.ireturn, 1) := by decide +kernel
theorem dX10_otherEnd_0 : decode cX10_otherEnd 0 = .ok (.iload_n 0, 1) := by decide +kernel
theorem dX10_otherEnd_1 : decode cX10_otherEnd 1 = .ok (.bipush 6, 2) := by decide +kernel
theorem dX10_otherEnd_3 : decode cX10_otherEnd 3 = .ok (.if_icmp .ge 12, 3) := by decide +kernel
theorem dX10_otherEnd_6 : decode cX10_otherEnd 6 = .ok (.iload_n 0, 1) := by decide +kernel
theorem dX10_otherEnd_7 : decode cX10_otherEnd 7 = .ok (.invokestatic 52, 3) := by decide +kernel
theorem dX10_otherEnd_10 : decode cX10_otherEnd 10 = .ok (.iconst 1, 1) := by decide +kernel
theorem dX10_otherEnd_11 : decode cX10_otherEnd 11 = .ok (.iadd, 1) := by decide +kernel
theorem dX10_otherEnd_12 : decode cX10_otherEnd 12 = .ok (.goto 6, 3) := by decide +kernel
theorem dX10_otherEnd_15 : decode cX10_otherEnd 15 = .ok (.iload_n 0, 1) := by decide +kernel
theorem dX10_otherEnd_16 : decode cX10_otherEnd 16 = .ok (.iconst 3, 1) := by decide +kernel
theorem dX10_otherEnd_17 : decode cX10_otherEnd 17 = .ok (.isub, 1) := by decide +kernel
theorem dX10_otherEnd_18 : decode cX10_otherEnd 18 = .ok (.ireturn, 1) := by decide +kernel
theorem dX10_has_0 : decode cX10_has 0 = .ok (.iload_n 0, 1) := by decide +kernel
theorem dX10_has_1 : decode cX10_has 1 = .ok (.iconst 1, 1) := by decide +kernel
theorem dX10_has_2 : decode cX10_has 2 = .ok (.iload_n 1, 1) := by decide +kernel
theorem dX10_has_3 : decode cX10_has 3 = .ok (.ishl, 1) := by decide +kernel
theorem dX10_has_4 : decode cX10_has 4 = .ok (.iand, 1) := by decide +kernel
theorem dX10_has_5 : decode cX10_has 5 = .ok (.ifCond .eq 7, 3) := by decide +kernel
theorem dX10_has_8 : decode cX10_has 8 = .ok (.iconst 1, 1) := by decide +kernel
theorem dX10_has_9 : decode cX10_has 9 = .ok (.goto 4, 3) := by decide +kernel
theorem dX10_has_12 : decode cX10_has 12 = .ok (.iconst 0, 1) := by decide +kernel
theorem dX10_has_13 : decode cX10_has 13 = .ok (.ireturn, 1) := by decide +kernel
theorem dX10_ends_0 : decode cX10_ends 0 = .ok (.iload_n 0, 1) := by decide +kernel
theorem dX10_ends_1 : decode cX10_ends 1 = .ok (.invokestatic 52, 3) := by decide +kernel
theorem dX10_ends_4 : decode cX10_ends 4 = .ok (.iload_n 1, 1) := by decide +kernel
theorem dX10_ends_5 : decode cX10_ends 5 = .ok (.if_icmp .eq 11, 3) := by decide +kernel
theorem dX10_ends_8 : decode cX10_ends 8 = .ok (.iload_n 0, 1) := by decide +kernel
theorem dX10_ends_9 : decode cX10_ends 9 = .ok (.invokestatic 56, 3) := by decide +kernel
theorem dX10_ends_12 : decode cX10_ends 12 = .ok (.iload_n 1, 1) := by decide +kernel
theorem dX10_ends_13 : decode cX10_ends 13 = .ok (.if_icmp .ne 7, 3) := by decide +kernel
theorem dX10_ends_16 : decode cX10_ends 16 = .ok (.iconst 1, 1) := by decide +kernel
theorem dX10_ends_17 : decode cX10_ends 17 = .ok (.goto 4, 3) := by decide +kernel
theorem dX10_ends_20 : decode cX10_ends 20 = .ok (.iconst 0, 1) := by decide +kernel
theorem dX10_ends_21 : decode cX10_ends 21 = .ok (.ireturn, 1) := by decide +kernel
theorem dX10_ones_0 : decode cX10_ones 0 = .ok (.iconst 0, 1) := by decide +kernel
theorem dX10_ones_1 : decode cX10_ones 1 = .ok (.istore_n 1, 1) := by decide +kernel
theorem dX10_ones_2 : decode cX10_ones 2 = .ok (.iload_n 0, 1) := by decide +kernel
theorem dX10_ones_3 : decode cX10_ones 3 = .ok (.istore_n 2, 1) := by decide +kernel
theorem dX10_ones_4 : decode cX10_ones 4 = .ok (.iload_n 2, 1) := by decide +kernel
theorem dX10_ones_5 : decode cX10_ones 5 = .ok (.ifCond .eq 15, 3) := by decide +kernel
theorem dX10_ones_8 : decode cX10_ones 8 = .ok (.iinc 1 1, 3) := by decide +kernel
theorem dX10_ones_11 : decode cX10_ones 11 = .ok (.iload_n 2, 1) := by decide +kernel
theorem dX10_ones_12 : decode cX10_ones 12 = .ok (.iload_n 2, 1) := by decide +kernel
theorem dX10_ones_13 : decode cX10_ones 13 = .ok (.iconst 1, 1) := by decide +kernel
theorem dX10_ones_14 : decode cX10_ones 14 = .ok (.isub, 1) := by decide +kernel
theorem dX10_ones_15 : decode cX10_ones 15 = .ok (.iand, 1) := by decide +kernel
theorem dX10_ones_16 : decode cX10_ones 16 = .ok (.istore_n 2, 1) := by decide +kernel
theorem dX10_ones_17 : decode cX10_ones 17 = .ok (.goto (-13), 3) := by decide +kernel
theorem dX10_ones_20 : decode cX10_ones 20 = .ok (.iload_n 1, 1) := by decide +kernel
theorem dX10_ones_21 : decode cX10_ones 21 = .ok (.ireturn, 1) := by decide +kernel
theorem dX10_degree_0 : decode cX10_degree 0 = .ok (.iconst 0, 1) := by decide +kernel
theorem dX10_degree_1 : decode cX10_degree 1 = .ok (.istore_n 2, 1) := by decide +kernel
theorem dX10_degree_2 : decode cX10_degree 2 = .ok (.iconst 0, 1) := by decide +kernel
theorem dX10_degree_3 : decode cX10_degree 3 = .ok (.istore_n 3, 1) := by decide +kernel
theorem dX10_degree_4 : decode cX10_degree 4 = .ok (.iload_n 3, 1) := by decide +kernel
theorem dX10_degree_5 : decode cX10_degree 5 = .ok (.bipush 12, 2) := by decide +kernel
theorem dX10_degree_7 : decode cX10_degree 7 = .ok (.if_icmp .ge 33, 3) := by decide +kernel
theorem dX10_degree_10 : decode cX10_degree 10 = .ok (.iload_n 2, 1) := by decide +kernel
theorem dX10_degree_11 : decode cX10_degree 11 = .ok (.iload_n 0, 1) := by decide +kernel
theorem dX10_degree_12 : decode cX10_degree 12 = .ok (.iload_n 3, 1) := by decide +kernel
theorem dX10_degree_13 : decode cX10_degree 13 = .ok (.invokestatic 59, 3) := by decide +kernel
theorem dX10_degree_16 : decode cX10_degree 16 = .ok (.ifCond .eq 15, 3) := by decide +kernel
theorem dX10_degree_19 : decode cX10_degree 19 = .ok (.iload_n 3, 1) := by decide +kernel
theorem dX10_degree_20 : decode cX10_degree 20 = .ok (.iload_n 1, 1) := by decide +kernel
theorem dX10_degree_21 : decode cX10_degree 21 = .ok (.invokestatic 63, 3) := by decide +kernel
theorem dX10_degree_24 : decode cX10_degree 24 = .ok (.ifCond .eq 7, 3) := by decide +kernel
theorem dX10_degree_27 : decode cX10_degree 27 = .ok (.iconst 1, 1) := by decide +kernel
theorem dX10_degree_28 : decode cX10_degree 28 = .ok (.goto 4, 3) := by decide +kernel
theorem dX10_degree_31 : decode cX10_degree 31 = .ok (.iconst 0, 1) := by decide +kernel
theorem dX10_degree_32 : decode cX10_degree 32 = .ok (.iadd, 1) := by decide +kernel
theorem dX10_degree_33 : decode cX10_degree 33 = .ok (.istore_n 2, 1) := by decide +kernel
theorem dX10_degree_34 : decode cX10_degree 34 = .ok (.iinc 3 1, 3) := by decide +kernel
theorem dX10_degree_37 : decode cX10_degree 37 = .ok (.goto (-33), 3) := by decide +kernel
theorem dX10_degree_40 : decode cX10_degree 40 = .ok (.iload_n 2, 1) := by decide +kernel
theorem dX10_degree_41 : decode cX10_degree 41 = .ok (.ireturn, 1) := by decide +kernel
theorem dX10_odds_0 : decode cX10_odds 0 = .ok (.iconst 0, 1) := by decide +kernel
theorem dX10_odds_1 : decode cX10_odds 1 = .ok (.istore_n 1, 1) := by decide +kernel
theorem dX10_odds_2 : decode cX10_odds 2 = .ok (.iconst 0, 1) := by decide +kernel
theorem dX10_odds_3 : decode cX10_odds 3 = .ok (.istore_n 2, 1) := by decide +kernel
theorem dX10_odds_4 : decode cX10_odds 4 = .ok (.iload_n 2, 1) := by decide +kernel
theorem dX10_odds_5 : decode cX10_odds 5 = .ok (.bipush 9, 2) := by decide +kernel
theorem dX10_odds_7 : decode cX10_odds 7 = .ok (.if_icmp .ge 21, 3) := by decide +kernel
theorem dX10_odds_10 : decode cX10_odds 10 = .ok (.iload_n 1, 1) := by decide +kernel
theorem dX10_odds_11 : decode cX10_odds 11 = .ok (.iload_n 0, 1) := by decide +kernel
theorem dX10_odds_12 : decode cX10_odds 12 = .ok (.iload_n 2, 1) := by decide +kernel
theorem dX10_odds_13 : decode cX10_odds 13 = .ok (.invokestatic 66, 3) := by decide +kernel
theorem dX10_odds_16 : decode cX10_odds 16 = .ok (.iconst 1, 1) := by decide +kernel
theorem dX10_odds_17 : decode cX10_odds 17 = .ok (.iand, 1) := by decide +kernel
theorem dX10_odds_18 : decode cX10_odds 18 = .ok (.iload_n 2, 1) := by decide +kernel
theorem dX10_odds_19 : decode cX10_odds 19 = .ok (.ishl, 1) := by decide +kernel
theorem dX10_odds_20 : decode cX10_odds 20 = .ok (.ior, 1) := by decide +kernel
theorem dX10_odds_21 : decode cX10_odds 21 = .ok (.istore_n 1, 1) := by decide +kernel
theorem dX10_odds_22 : decode cX10_odds 22 = .ok (.iinc 2 1, 3) := by decide +kernel
theorem dX10_odds_25 : decode cX10_odds 25 = .ok (.goto (-21), 3) := by decide +kernel
theorem dX10_odds_28 : decode cX10_odds 28 = .ok (.iload_n 1, 1) := by decide +kernel
theorem dX10_odds_29 : decode cX10_odds 29 = .ok (.ireturn, 1) := by decide +kernel
theorem dX10_pieceOf_0 : decode cX10_pieceOf 0 = .ok (.iconst 1, 1) := by decide +kernel
theorem dX10_pieceOf_1 : decode cX10_pieceOf 1 = .ok (.iload_n 1, 1) := by decide +kernel
theorem dX10_pieceOf_2 : decode cX10_pieceOf 2 = .ok (.ishl, 1) := by decide +kernel
theorem dX10_pieceOf_3 : decode cX10_pieceOf 3 = .ok (.istore_n 2, 1) := by decide +kernel
theorem dX10_pieceOf_4 : decode cX10_pieceOf 4 = .ok (.iconst 1, 1) := by decide +kernel
theorem dX10_pieceOf_5 : decode cX10_pieceOf 5 = .ok (.istore_n 3, 1) := by decide +kernel
theorem dX10_pieceOf_6 : decode cX10_pieceOf 6 = .ok (.iload_n 3, 1) := by decide +kernel
theorem dX10_pieceOf_7 : decode cX10_pieceOf 7 = .ok (.ifCond .eq 92, 3) := by decide +kernel
theorem dX10_pieceOf_10 : decode cX10_pieceOf 10 = .ok (.iconst 0, 1) := by decide +kernel
theorem dX10_pieceOf_11 : decode cX10_pieceOf 11 = .ok (.istore_n 3, 1) := by decide +kernel
theorem dX10_pieceOf_12 : decode cX10_pieceOf 12 = .ok (.iconst 0, 1) := by decide +kernel
theorem dX10_pieceOf_13 : decode cX10_pieceOf 13 = .ok (.istore 4, 2) := by decide +kernel
theorem dX10_pieceOf_15 : decode cX10_pieceOf 15 = .ok (.iload 4, 2) := by decide +kernel
theorem dX10_pieceOf_17 : decode cX10_pieceOf 17 = .ok (.bipush 12, 2) := by decide +kernel
theorem dX10_pieceOf_19 : decode cX10_pieceOf 19 = .ok (.if_icmp .ge 77, 3) := by decide +kernel
theorem dX10_pieceOf_22 : decode cX10_pieceOf 22 = .ok (.iload_n 0, 1) := by decide +kernel
theorem dX10_pieceOf_23 : decode cX10_pieceOf 23 = .ok (.iload 4, 2) := by decide +kernel
theorem dX10_pieceOf_25 : decode cX10_pieceOf 25 = .ok (.invokestatic 59, 3) := by decide +kernel
theorem dX10_pieceOf_28 : decode cX10_pieceOf 28 = .ok (.ifCond .eq 38, 3) := by decide +kernel
theorem dX10_pieceOf_31 : decode cX10_pieceOf 31 = .ok (.iload_n 2, 1) := by decide +kernel
theorem dX10_pieceOf_32 : decode cX10_pieceOf 32 = .ok (.iload 4, 2) := by decide +kernel
theorem dX10_pieceOf_34 : decode cX10_pieceOf 34 = .ok (.invokestatic 59, 3) := by decide +kernel
theorem dX10_pieceOf_37 : decode cX10_pieceOf 37 = .ok (.ifCond .ne 29, 3) := by decide +kernel
theorem dX10_pieceOf_40 : decode cX10_pieceOf 40 = .ok (.iload_n 2, 1) := by decide +kernel
theorem dX10_pieceOf_41 : decode cX10_pieceOf 41 = .ok (.iload 4, 2) := by decide +kernel
theorem dX10_pieceOf_43 : decode cX10_pieceOf 43 = .ok (.invokestatic 52, 3) := by decide +kernel
theorem dX10_pieceOf_46 : decode cX10_pieceOf 46 = .ok (.invokestatic 66, 3) := by decide +kernel
theorem dX10_pieceOf_49 : decode cX10_pieceOf 49 = .ok (.iload_n 2, 1) := by decide +kernel
theorem dX10_pieceOf_50 : decode cX10_pieceOf 50 = .ok (.iload 4, 2) := by decide +kernel
theorem dX10_pieceOf_52 : decode cX10_pieceOf 52 = .ok (.invokestatic 56, 3) := by decide +kernel
theorem dX10_pieceOf_55 : decode cX10_pieceOf 55 = .ok (.invokestatic 66, 3) := by decide +kernel
theorem dX10_pieceOf_58 : decode cX10_pieceOf 58 = .ok (.iadd, 1) := by decide +kernel
theorem dX10_pieceOf_59 : decode cX10_pieceOf 59 = .ok (.ifCond .le 7, 3) := by decide +kernel
theorem dX10_pieceOf_62 : decode cX10_pieceOf 62 = .ok (.iconst 1, 1) := by decide +kernel
theorem dX10_pieceOf_63 : decode cX10_pieceOf 63 = .ok (.goto 4, 3) := by decide +kernel
theorem dX10_pieceOf_66 : decode cX10_pieceOf 66 = .ok (.iconst 0, 1) := by decide +kernel
theorem dX10_pieceOf_67 : decode cX10_pieceOf 67 = .ok (.istore 5, 2) := by decide +kernel
theorem dX10_pieceOf_69 : decode cX10_pieceOf 69 = .ok (.iload_n 2, 1) := by decide +kernel
theorem dX10_pieceOf_70 : decode cX10_pieceOf 70 = .ok (.iload 5, 2) := by decide +kernel
theorem dX10_pieceOf_72 : decode cX10_pieceOf 72 = .ok (.ifCond .eq 10, 3) := by decide +kernel
theorem dX10_pieceOf_75 : decode cX10_pieceOf 75 = .ok (.iconst 1, 1) := by decide +kernel
theorem dX10_pieceOf_76 : decode cX10_pieceOf 76 = .ok (.iload 4, 2) := by decide +kernel
theorem dX10_pieceOf_78 : decode cX10_pieceOf 78 = .ok (.ishl, 1) := by decide +kernel
theorem dX10_pieceOf_79 : decode cX10_pieceOf 79 = .ok (.goto 4, 3) := by decide +kernel
theorem dX10_pieceOf_82 : decode cX10_pieceOf 82 = .ok (.iconst 0, 1) := by decide +kernel
theorem dX10_pieceOf_83 : decode cX10_pieceOf 83 = .ok (.ior, 1) := by decide +kernel
theorem dX10_pieceOf_84 : decode cX10_pieceOf 84 = .ok (.istore_n 2, 1) := by decide +kernel
theorem dX10_pieceOf_85 : decode cX10_pieceOf 85 = .ok (.iload_n 3, 1) := by decide +kernel
theorem dX10_pieceOf_86 : decode cX10_pieceOf 86 = .ok (.iload 5, 2) := by decide +kernel
theorem dX10_pieceOf_88 : decode cX10_pieceOf 88 = .ok (.ior, 1) := by decide +kernel
theorem dX10_pieceOf_89 : decode cX10_pieceOf 89 = .ok (.istore_n 3, 1) := by decide +kernel
theorem dX10_pieceOf_90 : decode cX10_pieceOf 90 = .ok (.iinc 4 1, 3) := by decide +kernel
theorem dX10_pieceOf_93 : decode cX10_pieceOf 93 = .ok (.goto (-78), 3) := by decide +kernel
theorem dX10_pieceOf_96 : decode cX10_pieceOf 96 = .ok (.goto (-90), 3) := by decide +kernel
theorem dX10_pieceOf_99 : decode cX10_pieceOf 99 = .ok (.iload_n 2, 1) := by decide +kernel
theorem dX10_pieceOf_100 : decode cX10_pieceOf 100 = .ok (.ireturn, 1) := by decide +kernel
theorem dX10_least_0 : decode cX10_least 0 = .ok (.iconst 0, 1) := by decide +kernel
theorem dX10_least_1 : decode cX10_least 1 = .ok (.istore_n 1, 1) := by decide +kernel
theorem dX10_least_2 : decode cX10_least 2 = .ok (.iload_n 0, 1) := by decide +kernel
theorem dX10_least_3 : decode cX10_least 3 = .ok (.iload_n 1, 1) := by decide +kernel
theorem dX10_least_4 : decode cX10_least 4 = .ok (.invokestatic 59, 3) := by decide +kernel
theorem dX10_least_7 : decode cX10_least 7 = .ok (.ifCond .ne 9, 3) := by decide +kernel
theorem dX10_least_10 : decode cX10_least 10 = .ok (.iinc 1 1, 3) := by decide +kernel
theorem dX10_least_13 : decode cX10_least 13 = .ok (.goto (-11), 3) := by decide +kernel
theorem dX10_least_16 : decode cX10_least 16 = .ok (.iload_n 1, 1) := by decide +kernel
theorem dX10_least_17 : decode cX10_least 17 = .ok (.ireturn, 1) := by decide +kernel
theorem dX10_piecesOf_0 : decode cX10_piecesOf 0 = .ok (.iconst 0, 1) := by decide +kernel
theorem dX10_piecesOf_1 : decode cX10_piecesOf 1 = .ok (.istore_n 1, 1) := by decide +kernel
theorem dX10_piecesOf_2 : decode cX10_piecesOf 2 = .ok (.iload_n 0, 1) := by decide +kernel
theorem dX10_piecesOf_3 : decode cX10_piecesOf 3 = .ok (.istore_n 2, 1) := by decide +kernel
theorem dX10_piecesOf_4 : decode cX10_piecesOf 4 = .ok (.iload_n 2, 1) := by decide +kernel
theorem dX10_piecesOf_5 : decode cX10_piecesOf 5 = .ok (.ifCond .eq 22, 3) := by decide +kernel
theorem dX10_piecesOf_8 : decode cX10_piecesOf 8 = .ok (.iload_n 2, 1) := by decide +kernel
theorem dX10_piecesOf_9 : decode cX10_piecesOf 9 = .ok (.iload_n 0, 1) := by decide +kernel
theorem dX10_piecesOf_10 : decode cX10_piecesOf 10 = .ok (.iload_n 2, 1) := by decide +kernel
theorem dX10_piecesOf_11 : decode cX10_piecesOf 11 = .ok (.invokestatic 70, 3) := by decide +kernel
theorem dX10_piecesOf_14 : decode cX10_piecesOf 14 = .ok (.invokestatic 73, 3) := by decide +kernel
theorem dX10_piecesOf_17 : decode cX10_piecesOf 17 = .ok (.iconst (-1), 1) := by decide +kernel
theorem dX10_piecesOf_18 : decode cX10_piecesOf 18 = .ok (.ixor, 1) := by decide +kernel
theorem dX10_piecesOf_19 : decode cX10_piecesOf 19 = .ok (.iand, 1) := by decide +kernel
theorem dX10_piecesOf_20 : decode cX10_piecesOf 20 = .ok (.istore_n 2, 1) := by decide +kernel
theorem dX10_piecesOf_21 : decode cX10_piecesOf 21 = .ok (.iinc 1 1, 3) := by decide +kernel
theorem dX10_piecesOf_24 : decode cX10_piecesOf 24 = .ok (.goto (-20), 3) := by decide +kernel
theorem dX10_piecesOf_27 : decode cX10_piecesOf 27 = .ok (.iload_n 1, 1) := by decide +kernel
theorem dX10_piecesOf_28 : decode cX10_piecesOf 28 = .ok (.ireturn, 1) := by decide +kernel
theorem dX10_linesOf_0 : decode cX10_linesOf 0 = .ok (.iconst 0, 1) := by decide +kernel
theorem dX10_linesOf_1 : decode cX10_linesOf 1 = .ok (.istore_n 1, 1) := by decide +kernel
theorem dX10_linesOf_2 : decode cX10_linesOf 2 = .ok (.iload_n 0, 1) := by decide +kernel
theorem dX10_linesOf_3 : decode cX10_linesOf 3 = .ok (.istore_n 2, 1) := by decide +kernel
theorem dX10_linesOf_4 : decode cX10_linesOf 4 = .ok (.iload_n 2, 1) := by decide +kernel
theorem dX10_linesOf_5 : decode cX10_linesOf 5 = .ok (.ifCond .eq 47, 3) := by decide +kernel
theorem dX10_linesOf_8 : decode cX10_linesOf 8 = .ok (.iload_n 0, 1) := by decide +kernel
theorem dX10_linesOf_9 : decode cX10_linesOf 9 = .ok (.iload_n 2, 1) := by decide +kernel
theorem dX10_linesOf_10 : decode cX10_linesOf 10 = .ok (.invokestatic 70, 3) := by decide +kernel
theorem dX10_linesOf_13 : decode cX10_linesOf 13 = .ok (.invokestatic 73, 3) := by decide +kernel
theorem dX10_linesOf_16 : decode cX10_linesOf 16 = .ok (.istore_n 3, 1) := by decide +kernel
theorem dX10_linesOf_17 : decode cX10_linesOf 17 = .ok (.iload_n 3, 1) := by decide +kernel
theorem dX10_linesOf_18 : decode cX10_linesOf 18 = .ok (.invokestatic 76, 3) := by decide +kernel
theorem dX10_linesOf_21 : decode cX10_linesOf 21 = .ok (.invokestatic 79, 3) := by decide +kernel
theorem dX10_linesOf_24 : decode cX10_linesOf 24 = .ok (.iconst 2, 1) := by decide +kernel
theorem dX10_linesOf_25 : decode cX10_linesOf 25 = .ok (.idiv, 1) := by decide +kernel
theorem dX10_linesOf_26 : decode cX10_linesOf 26 = .ok (.istore 4, 2) := by decide +kernel
theorem dX10_linesOf_28 : decode cX10_linesOf 28 = .ok (.iload_n 1, 1) := by decide +kernel
theorem dX10_linesOf_29 : decode cX10_linesOf 29 = .ok (.iload 4, 2) := by decide +kernel
theorem dX10_linesOf_31 : decode cX10_linesOf 31 = .ok (.iconst 1, 1) := by decide +kernel
theorem dX10_linesOf_32 : decode cX10_linesOf 32 = .ok (.if_icmp .le 8, 3) := by decide +kernel
theorem dX10_linesOf_35 : decode cX10_linesOf 35 = .ok (.iload 4, 2) := by decide +kernel
theorem dX10_linesOf_37 : decode cX10_linesOf 37 = .ok (.goto 4, 3) := by decide +kernel
theorem dX10_linesOf_40 : decode cX10_linesOf 40 = .ok (.iconst 1, 1) := by decide +kernel
theorem dX10_linesOf_41 : decode cX10_linesOf 41 = .ok (.iadd, 1) := by decide +kernel
theorem dX10_linesOf_42 : decode cX10_linesOf 42 = .ok (.istore_n 1, 1) := by decide +kernel
theorem dX10_linesOf_43 : decode cX10_linesOf 43 = .ok (.iload_n 2, 1) := by decide +kernel
theorem dX10_linesOf_44 : decode cX10_linesOf 44 = .ok (.iload_n 3, 1) := by decide +kernel
theorem dX10_linesOf_45 : decode cX10_linesOf 45 = .ok (.iconst (-1), 1) := by decide +kernel
theorem dX10_linesOf_46 : decode cX10_linesOf 46 = .ok (.ixor, 1) := by decide +kernel
theorem dX10_linesOf_47 : decode cX10_linesOf 47 = .ok (.iand, 1) := by decide +kernel
theorem dX10_linesOf_48 : decode cX10_linesOf 48 = .ok (.istore_n 2, 1) := by decide +kernel
theorem dX10_linesOf_49 : decode cX10_linesOf 49 = .ok (.goto (-45), 3) := by decide +kernel
theorem dX10_linesOf_52 : decode cX10_linesOf 52 = .ok (.iload_n 1, 1) := by decide +kernel
theorem dX10_linesOf_53 : decode cX10_linesOf 53 = .ok (.ireturn, 1) := by decide +kernel
theorem dX10_straysOf_0 : decode cX10_straysOf 0 = .ok (.iload_n 0, 1) := by decide +kernel
theorem dX10_straysOf_1 : decode cX10_straysOf 1 = .ok (.ifCond .ne 7, 3) := by decide +kernel
theorem dX10_straysOf_4 : decode cX10_straysOf 4 = .ok (.iconst 0, 1) := by decide +kernel
theorem dX10_straysOf_5 : decode cX10_straysOf 5 = .ok (.goto 9, 3) := by decide +kernel
theorem dX10_straysOf_8 : decode cX10_straysOf 8 = .ok (.iload_n 0, 1) := by decide +kernel
theorem dX10_straysOf_9 : decode cX10_straysOf 9 = .ok (.invokestatic 82, 3) := by decide +kernel
theorem dX10_straysOf_12 : decode cX10_straysOf 12 = .ok (.iconst 1, 1) := by decide +kernel
theorem dX10_straysOf_13 : decode cX10_straysOf 13 = .ok (.isub, 1) := by decide +kernel
theorem dX10_straysOf_14 : decode cX10_straysOf 14 = .ok (.ireturn, 1) := by decide +kernel
theorem dX10_odd_0 : decode cX10_odd 0 = .ok (.iload_n 1, 1) := by decide +kernel
theorem dX10_odd_1 : decode cX10_odd 1 = .ok (.invokestatic 85, 3) := by decide +kernel
theorem dX10_odd_4 : decode cX10_odd 4 = .ok (.ifCond .eq 10, 3) := by decide +kernel
theorem dX10_odd_7 : decode cX10_odd 7 = .ok (.iload_n 1, 1) := by decide +kernel
theorem dX10_odd_8 : decode cX10_odd 8 = .ok (.invokestatic 76, 3) := by decide +kernel
theorem dX10_odd_11 : decode cX10_odd 11 = .ok (.goto 8, 3) := by decide +kernel
theorem dX10_odd_14 : decode cX10_odd 14 = .ok (.aload_n 0, 1) := by decide +kernel
theorem dX10_odd_15 : decode cX10_odd 15 = .ok (.iconst 0, 1) := by decide +kernel
theorem dX10_odd_16 : decode cX10_odd 16 = .ok (.invokevirtual 89, 3) := by decide +kernel
theorem dX10_odd_19 : decode cX10_odd 19 = .ok (.ireturn, 1) := by decide +kernel
theorem dX10_pieces_0 : decode cX10_pieces 0 = .ok (.iload_n 1, 1) := by decide +kernel
theorem dX10_pieces_1 : decode cX10_pieces 1 = .ok (.invokestatic 85, 3) := by decide +kernel
theorem dX10_pieces_4 : decode cX10_pieces 4 = .ok (.ifCond .eq 10, 3) := by decide +kernel
theorem dX10_pieces_7 : decode cX10_pieces 7 = .ok (.iload_n 1, 1) := by decide +kernel
theorem dX10_pieces_8 : decode cX10_pieces 8 = .ok (.invokestatic 92, 3) := by decide +kernel
theorem dX10_pieces_11 : decode cX10_pieces 11 = .ok (.goto 8, 3) := by decide +kernel
theorem dX10_pieces_14 : decode cX10_pieces 14 = .ok (.aload_n 0, 1) := by decide +kernel
theorem dX10_pieces_15 : decode cX10_pieces 15 = .ok (.iconst 0, 1) := by decide +kernel
theorem dX10_pieces_16 : decode cX10_pieces 16 = .ok (.invokevirtual 89, 3) := by decide +kernel
theorem dX10_pieces_19 : decode cX10_pieces 19 = .ok (.ireturn, 1) := by decide +kernel
theorem dX10_lines_0 : decode cX10_lines 0 = .ok (.iload_n 1, 1) := by decide +kernel
theorem dX10_lines_1 : decode cX10_lines 1 = .ok (.invokestatic 85, 3) := by decide +kernel
theorem dX10_lines_4 : decode cX10_lines 4 = .ok (.ifCond .eq 10, 3) := by decide +kernel
theorem dX10_lines_7 : decode cX10_lines 7 = .ok (.iload_n 1, 1) := by decide +kernel
theorem dX10_lines_8 : decode cX10_lines 8 = .ok (.invokestatic 82, 3) := by decide +kernel
theorem dX10_lines_11 : decode cX10_lines 11 = .ok (.goto 8, 3) := by decide +kernel
theorem dX10_lines_14 : decode cX10_lines 14 = .ok (.aload_n 0, 1) := by decide +kernel
theorem dX10_lines_15 : decode cX10_lines 15 = .ok (.iconst 0, 1) := by decide +kernel
theorem dX10_lines_16 : decode cX10_lines 16 = .ok (.invokevirtual 89, 3) := by decide +kernel
theorem dX10_lines_19 : decode cX10_lines 19 = .ok (.ireturn, 1) := by decide +kernel
theorem dX10_strays_0 : decode cX10_strays 0 = .ok (.iload_n 1, 1) := by decide +kernel
theorem dX10_strays_1 : decode cX10_strays 1 = .ok (.invokestatic 85, 3) := by decide +kernel
theorem dX10_strays_4 : decode cX10_strays 4 = .ok (.ifCond .eq 10, 3) := by decide +kernel
theorem dX10_strays_7 : decode cX10_strays 7 = .ok (.iload_n 1, 1) := by decide +kernel
theorem dX10_strays_8 : decode cX10_strays 8 = .ok (.invokestatic 95, 3) := by decide +kernel
theorem dX10_strays_11 : decode cX10_strays 11 = .ok (.goto 8, 3) := by decide +kernel
theorem dX10_strays_14 : decode cX10_strays 14 = .ok (.aload_n 0, 1) := by decide +kernel
theorem dX10_strays_15 : decode cX10_strays 15 = .ok (.iconst 0, 1) := by decide +kernel
theorem dX10_strays_16 : decode cX10_strays 16 = .ok (.invokevirtual 89, 3) := by decide +kernel
theorem dX10_strays_19 : decode cX10_strays 19 = .ok (.ireturn, 1) := by decide +kernel
theorem dX10_waysFrom_0 : decode cX10_waysFrom 0 = .ok (.iload_n 0, 1) := by decide +kernel
theorem dX10_waysFrom_1 : decode cX10_waysFrom 1 = .ok (.ifCond .ne 5, 3) := by decide +kernel
theorem dX10_waysFrom_4 : decode cX10_waysFrom 4 = .ok (.lconst 1, 1) := by decide +kernel
theorem dX10_waysFrom_5 : decode cX10_waysFrom 5 = .ok (.lreturn, 1) := by decide +kernel
theorem dX10_waysFrom_6 : decode cX10_waysFrom 6 = .ok (.lconst 0, 1) := by decide +kernel
theorem dX10_waysFrom_7 : decode cX10_waysFrom 7 = .ok (.lstore_n 2, 1) := by decide +kernel
theorem dX10_waysFrom_8 : decode cX10_waysFrom 8 = .ok (.iconst 0, 1) := by decide +kernel
theorem dX10_waysFrom_9 : decode cX10_waysFrom 9 = .ok (.istore 4, 2) := by decide +kernel
theorem dX10_waysFrom_11 : decode cX10_waysFrom 11 = .ok (.iload 4, 2) := by decide +kernel
theorem dX10_waysFrom_13 : decode cX10_waysFrom 13 = .ok (.bipush 12, 2) := by decide +kernel
theorem dX10_waysFrom_15 : decode cX10_waysFrom 15 = .ok (.if_icmp .ge 54, 3) := by decide +kernel
theorem dX10_waysFrom_18 : decode cX10_waysFrom 18 = .ok (.iload_n 0, 1) := by decide +kernel
theorem dX10_waysFrom_19 : decode cX10_waysFrom 19 = .ok (.iload 4, 2) := by decide +kernel
theorem dX10_waysFrom_21 : decode cX10_waysFrom 21 = .ok (.invokestatic 59, 3) := by decide +kernel
theorem dX10_waysFrom_24 : decode cX10_waysFrom 24 = .ok (.ifCond .eq 39, 3) := by decide +kernel
theorem dX10_waysFrom_27 : decode cX10_waysFrom 27 = .ok (.iload 4, 2) := by decide +kernel
theorem dX10_waysFrom_29 : decode cX10_waysFrom 29 = .ok (.iload_n 1, 1) := by decide +kernel
theorem dX10_waysFrom_30 : decode cX10_waysFrom 30 = .ok (.invokestatic 63, 3) := by decide +kernel
theorem dX10_waysFrom_33 : decode cX10_waysFrom 33 = .ok (.ifCond .eq 30, 3) := by decide +kernel
theorem dX10_waysFrom_36 : decode cX10_waysFrom 36 = .ok (.lload_n 2, 1) := by decide +kernel
theorem dX10_waysFrom_37 : decode cX10_waysFrom 37 = .ok (.iload_n 0, 1) := by decide +kernel
theorem dX10_waysFrom_38 : decode cX10_waysFrom 38 = .ok (.iconst 1, 1) := by decide +kernel
theorem dX10_waysFrom_39 : decode cX10_waysFrom 39 = .ok (.iload 4, 2) := by decide +kernel
theorem dX10_waysFrom_41 : decode cX10_waysFrom 41 = .ok (.ishl, 1) := by decide +kernel
theorem dX10_waysFrom_42 : decode cX10_waysFrom 42 = .ok (.iconst (-1), 1) := by decide +kernel
theorem dX10_waysFrom_43 : decode cX10_waysFrom 43 = .ok (.ixor, 1) := by decide +kernel
theorem dX10_waysFrom_44 : decode cX10_waysFrom 44 = .ok (.iand, 1) := by decide +kernel
theorem dX10_waysFrom_45 : decode cX10_waysFrom 45 = .ok (.iload 4, 2) := by decide +kernel
theorem dX10_waysFrom_47 : decode cX10_waysFrom 47 = .ok (.invokestatic 52, 3) := by decide +kernel
theorem dX10_waysFrom_50 : decode cX10_waysFrom 50 = .ok (.iload 4, 2) := by decide +kernel
theorem dX10_waysFrom_52 : decode cX10_waysFrom 52 = .ok (.invokestatic 56, 3) := by decide +kernel
theorem dX10_waysFrom_55 : decode cX10_waysFrom 55 = .ok (.iadd, 1) := by decide +kernel
theorem dX10_waysFrom_56 : decode cX10_waysFrom 56 = .ok (.iload_n 1, 1) := by decide +kernel
theorem dX10_waysFrom_57 : decode cX10_waysFrom 57 = .ok (.isub, 1) := by decide +kernel
theorem dX10_waysFrom_58 : decode cX10_waysFrom 58 = .ok (.invokestatic 98, 3) := by decide +kernel
theorem dX10_waysFrom_61 : decode cX10_waysFrom 61 = .ok (.ladd, 1) := by decide +kernel
theorem dX10_waysFrom_62 : decode cX10_waysFrom 62 = .ok (.lstore_n 2, 1) := by decide +kernel
theorem dX10_waysFrom_63 : decode cX10_waysFrom 63 = .ok (.iinc 4 1, 3) := by decide +kernel
theorem dX10_waysFrom_66 : decode cX10_waysFrom 66 = .ok (.goto (-55), 3) := by decide +kernel
theorem dX10_waysFrom_69 : decode cX10_waysFrom 69 = .ok (.lload_n 2, 1) := by decide +kernel
theorem dX10_waysFrom_70 : decode cX10_waysFrom 70 = .ok (.lreturn, 1) := by decide +kernel
theorem dX10_ways_0 : decode cX10_ways 0 = .ok (.iload_n 1, 1) := by decide +kernel
theorem dX10_ways_1 : decode cX10_ways 1 = .ok (.invokestatic 85, 3) := by decide +kernel
theorem dX10_ways_4 : decode cX10_ways 4 = .ok (.ifCond .eq 18, 3) := by decide +kernel
theorem dX10_ways_7 : decode cX10_ways 7 = .ok (.iload_n 2, 1) := by decide +kernel
theorem dX10_ways_8 : decode cX10_ways 8 = .ok (.invokestatic 102, 3) := by decide +kernel
theorem dX10_ways_11 : decode cX10_ways 11 = .ok (.ifCond .eq 11, 3) := by decide +kernel
theorem dX10_ways_14 : decode cX10_ways 14 = .ok (.iload_n 1, 1) := by decide +kernel
theorem dX10_ways_15 : decode cX10_ways 15 = .ok (.iload_n 2, 1) := by decide +kernel
theorem dX10_ways_16 : decode cX10_ways 16 = .ok (.invokestatic 98, 3) := by decide +kernel
theorem dX10_ways_19 : decode cX10_ways 19 = .ok (.goto 9, 3) := by decide +kernel
theorem dX10_ways_22 : decode cX10_ways 22 = .ok (.aload_n 0, 1) := by decide +kernel
theorem dX10_ways_23 : decode cX10_ways 23 = .ok (.iconst 0, 1) := by decide +kernel
theorem dX10_ways_24 : decode cX10_ways 24 = .ok (.invokevirtual 89, 3) := by decide +kernel
theorem dX10_ways_27 : decode cX10_ways 27 = .ok (.i2l, 1) := by decide +kernel
theorem dX10_ways_28 : decode cX10_ways 28 = .ok (.lreturn, 1) := by decide +kernel
theorem dX10_nextStroke_0 : decode cX10_nextStroke 0 = .ok (.iconst 0, 1) := by decide +kernel
theorem dX10_nextStroke_1 : decode cX10_nextStroke 1 = .ok (.istore_n 2, 1) := by decide +kernel
theorem dX10_nextStroke_2 : decode cX10_nextStroke 2 = .ok (.iload_n 0, 1) := by decide +kernel
theorem dX10_nextStroke_3 : decode cX10_nextStroke 3 = .ok (.iload_n 2, 1) := by decide +kernel
theorem dX10_nextStroke_4 : decode cX10_nextStroke 4 = .ok (.invokestatic 59, 3) := by decide +kernel
theorem dX10_nextStroke_7 : decode cX10_nextStroke 7 = .ok (.ifCond .eq 37, 3) := by decide +kernel
theorem dX10_nextStroke_10 : decode cX10_nextStroke 10 = .ok (.iload_n 2, 1) := by decide +kernel
theorem dX10_nextStroke_11 : decode cX10_nextStroke 11 = .ok (.iload_n 1, 1) := by decide +kernel
theorem dX10_nextStroke_12 : decode cX10_nextStroke 12 = .ok (.invokestatic 63, 3) := by decide +kernel
theorem dX10_nextStroke_15 : decode cX10_nextStroke 15 = .ok (.ifCond .eq 29, 3) := by decide +kernel
theorem dX10_nextStroke_18 : decode cX10_nextStroke 18 = .ok (.iload_n 0, 1) := by decide +kernel
theorem dX10_nextStroke_19 : decode cX10_nextStroke 19 = .ok (.iconst 1, 1) := by decide +kernel
theorem dX10_nextStroke_20 : decode cX10_nextStroke 20 = .ok (.iload_n 2, 1) := by decide +kernel
theorem dX10_nextStroke_21 : decode cX10_nextStroke 21 = .ok (.ishl, 1) := by decide +kernel
theorem dX10_nextStroke_22 : decode cX10_nextStroke 22 = .ok (.iconst (-1), 1) := by decide +kernel
theorem dX10_nextStroke_23 : decode cX10_nextStroke 23 = .ok (.ixor, 1) := by decide +kernel
theorem dX10_nextStroke_24 : decode cX10_nextStroke 24 = .ok (.iand, 1) := by decide +kernel
theorem dX10_nextStroke_25 : decode cX10_nextStroke 25 = .ok (.iload_n 2, 1) := by decide +kernel
theorem dX10_nextStroke_26 : decode cX10_nextStroke 26 = .ok (.invokestatic 52, 3) := by decide +kernel
theorem dX10_nextStroke_29 : decode cX10_nextStroke 29 = .ok (.iload_n 2, 1) := by decide +kernel
theorem dX10_nextStroke_30 : decode cX10_nextStroke 30 = .ok (.invokestatic 56, 3) := by decide +kernel
theorem dX10_nextStroke_33 : decode cX10_nextStroke 33 = .ok (.iadd, 1) := by decide +kernel
theorem dX10_nextStroke_34 : decode cX10_nextStroke 34 = .ok (.iload_n 1, 1) := by decide +kernel
theorem dX10_nextStroke_35 : decode cX10_nextStroke 35 = .ok (.isub, 1) := by decide +kernel
theorem dX10_nextStroke_36 : decode cX10_nextStroke 36 = .ok (.invokestatic 98, 3) := by decide +kernel
theorem dX10_nextStroke_39 : decode cX10_nextStroke 39 = .ok (.lconst 0, 1) := by decide +kernel
theorem dX10_nextStroke_40 : decode cX10_nextStroke 40 = .ok (.lcmp, 1) := by decide +kernel
theorem dX10_nextStroke_41 : decode cX10_nextStroke 41 = .ok (.ifCond .ne 9, 3) := by decide +kernel
theorem dX10_nextStroke_44 : decode cX10_nextStroke 44 = .ok (.iinc 2 1, 3) := by decide +kernel
theorem dX10_nextStroke_47 : decode cX10_nextStroke 47 = .ok (.goto (-45), 3) := by decide +kernel
theorem dX10_nextStroke_50 : decode cX10_nextStroke 50 = .ok (.iload_n 2, 1) := by decide +kernel
theorem dX10_nextStroke_51 : decode cX10_nextStroke 51 = .ok (.ireturn, 1) := by decide +kernel
theorem dX10_ith_0 : decode cX10_ith 0 = .ok (.iload_n 1, 1) := by decide +kernel
theorem dX10_ith_1 : decode cX10_ith 1 = .ok (.invokestatic 85, 3) := by decide +kernel
theorem dX10_ith_4 : decode cX10_ith 4 = .ok (.ifCond .eq 20, 3) := by decide +kernel
theorem dX10_ith_7 : decode cX10_ith 7 = .ok (.iload_n 2, 1) := by decide +kernel
theorem dX10_ith_8 : decode cX10_ith 8 = .ok (.invokestatic 102, 3) := by decide +kernel
theorem dX10_ith_11 : decode cX10_ith 11 = .ok (.ifCond .eq 13, 3) := by decide +kernel
theorem dX10_ith_14 : decode cX10_ith 14 = .ok (.iload_n 3, 1) := by decide +kernel
theorem dX10_ith_15 : decode cX10_ith 15 = .ok (.iconst 0, 1) := by decide +kernel
theorem dX10_ith_16 : decode cX10_ith 16 = .ok (.bipush 11, 2) := by decide +kernel
theorem dX10_ith_18 : decode cX10_ith 18 = .ok (.invokestatic 48, 3) := by decide +kernel
theorem dX10_ith_21 : decode cX10_ith 21 = .ok (.ifCond .ne 9, 3) := by decide +kernel
theorem dX10_ith_24 : decode cX10_ith 24 = .ok (.aload_n 0, 1) := by decide +kernel
theorem dX10_ith_25 : decode cX10_ith 25 = .ok (.iconst 0, 1) := by decide +kernel
theorem dX10_ith_26 : decode cX10_ith 26 = .ok (.invokevirtual 89, 3) := by decide +kernel
theorem dX10_ith_29 : decode cX10_ith 29 = .ok (.ireturn, 1) := by decide +kernel
theorem dX10_ith_30 : decode cX10_ith 30 = .ok (.iload_n 1, 1) := by decide +kernel
theorem dX10_ith_31 : decode cX10_ith 31 = .ok (.iload_n 2, 1) := by decide +kernel
theorem dX10_ith_32 : decode cX10_ith 32 = .ok (.invokestatic 98, 3) := by decide +kernel
theorem dX10_ith_35 : decode cX10_ith 35 = .ok (.lconst 0, 1) := by decide +kernel
theorem dX10_ith_36 : decode cX10_ith 36 = .ok (.lcmp, 1) := by decide +kernel
theorem dX10_ith_37 : decode cX10_ith 37 = .ok (.ifCond .eq 11, 3) := by decide +kernel
theorem dX10_ith_40 : decode cX10_ith 40 = .ok (.iload_n 3, 1) := by decide +kernel
theorem dX10_ith_41 : decode cX10_ith 41 = .ok (.iload_n 1, 1) := by decide +kernel
theorem dX10_ith_42 : decode cX10_ith 42 = .ok (.invokestatic 79, 3) := by decide +kernel
theorem dX10_ith_45 : decode cX10_ith 45 = .ok (.if_icmp .lt 9, 3) := by decide +kernel
theorem dX10_ith_48 : decode cX10_ith 48 = .ok (.aload_n 0, 1) := by decide +kernel
theorem dX10_ith_49 : decode cX10_ith 49 = .ok (.iconst 3, 1) := by decide +kernel
theorem dX10_ith_50 : decode cX10_ith 50 = .ok (.invokevirtual 89, 3) := by decide +kernel
theorem dX10_ith_53 : decode cX10_ith 53 = .ok (.ireturn, 1) := by decide +kernel
theorem dX10_ith_54 : decode cX10_ith 54 = .ok (.iload_n 1, 1) := by decide +kernel
theorem dX10_ith_55 : decode cX10_ith 55 = .ok (.istore 4, 2) := by decide +kernel
theorem dX10_ith_57 : decode cX10_ith 57 = .ok (.iload_n 2, 1) := by decide +kernel
theorem dX10_ith_58 : decode cX10_ith 58 = .ok (.istore 5, 2) := by decide +kernel
theorem dX10_ith_60 : decode cX10_ith 60 = .ok (.iload 4, 2) := by decide +kernel
theorem dX10_ith_62 : decode cX10_ith 62 = .ok (.iload 5, 2) := by decide +kernel
theorem dX10_ith_64 : decode cX10_ith 64 = .ok (.invokestatic 105, 3) := by decide +kernel
theorem dX10_ith_67 : decode cX10_ith 67 = .ok (.istore 6, 2) := by decide +kernel
theorem dX10_ith_69 : decode cX10_ith 69 = .ok (.iconst 0, 1) := by decide +kernel
theorem dX10_ith_70 : decode cX10_ith 70 = .ok (.istore 7, 2) := by decide +kernel
theorem dX10_ith_72 : decode cX10_ith 72 = .ok (.iload 7, 2) := by decide +kernel
theorem dX10_ith_74 : decode cX10_ith 74 = .ok (.iload_n 3, 1) := by decide +kernel
theorem dX10_ith_75 : decode cX10_ith 75 = .ok (.if_icmp .ge 45, 3) := by decide +kernel
theorem dX10_ith_78 : decode cX10_ith 78 = .ok (.iload 4, 2) := by decide +kernel
theorem dX10_ith_80 : decode cX10_ith 80 = .ok (.iconst 1, 1) := by decide +kernel
theorem dX10_ith_81 : decode cX10_ith 81 = .ok (.iload 6, 2) := by decide +kernel
theorem dX10_ith_83 : decode cX10_ith 83 = .ok (.ishl, 1) := by decide +kernel
theorem dX10_ith_84 : decode cX10_ith 84 = .ok (.iconst (-1), 1) := by decide +kernel
theorem dX10_ith_85 : decode cX10_ith 85 = .ok (.ixor, 1) := by decide +kernel
theorem dX10_ith_86 : decode cX10_ith 86 = .ok (.iand, 1) := by decide +kernel
theorem dX10_ith_87 : decode cX10_ith 87 = .ok (.istore 4, 2) := by decide +kernel
theorem dX10_ith_89 : decode cX10_ith 89 = .ok (.iload 6, 2) := by decide +kernel
theorem dX10_ith_91 : decode cX10_ith 91 = .ok (.invokestatic 52, 3) := by decide +kernel
theorem dX10_ith_94 : decode cX10_ith 94 = .ok (.iload 6, 2) := by decide +kernel
theorem dX10_ith_96 : decode cX10_ith 96 = .ok (.invokestatic 56, 3) := by decide +kernel
theorem dX10_ith_99 : decode cX10_ith 99 = .ok (.iadd, 1) := by decide +kernel
theorem dX10_ith_100 : decode cX10_ith 100 = .ok (.iload 5, 2) := by decide +kernel
theorem dX10_ith_102 : decode cX10_ith 102 = .ok (.isub, 1) := by decide +kernel
theorem dX10_ith_103 : decode cX10_ith 103 = .ok (.istore 5, 2) := by decide +kernel
theorem dX10_ith_105 : decode cX10_ith 105 = .ok (.iload 4, 2) := by decide +kernel
theorem dX10_ith_107 : decode cX10_ith 107 = .ok (.iload 5, 2) := by decide +kernel
theorem dX10_ith_109 : decode cX10_ith 109 = .ok (.invokestatic 105, 3) := by decide +kernel
theorem dX10_ith_112 : decode cX10_ith 112 = .ok (.istore 6, 2) := by decide +kernel
theorem dX10_ith_114 : decode cX10_ith 114 = .ok (.iinc 7 1, 3) := by decide +kernel
theorem dX10_ith_117 : decode cX10_ith 117 = .ok (.goto (-45), 3) := by decide +kernel
theorem dX10_ith_120 : decode cX10_ith 120 = .ok (.iload 6, 2) := by decide +kernel
theorem dX10_ith_122 : decode cX10_ith 122 = .ok (.ireturn, 1) := by decide +kernel
theorem dX10_again_0 : decode cX10_again 0 = .ok (.iload_n 1, 1) := by decide +kernel
theorem dX10_again_1 : decode cX10_again 1 = .ok (.invokestatic 85, 3) := by decide +kernel
theorem dX10_again_4 : decode cX10_again 4 = .ok (.ifCond .ne 9, 3) := by decide +kernel
theorem dX10_again_7 : decode cX10_again 7 = .ok (.aload_n 0, 1) := by decide +kernel
theorem dX10_again_8 : decode cX10_again 8 = .ok (.iconst 0, 1) := by decide +kernel
theorem dX10_again_9 : decode cX10_again 9 = .ok (.invokevirtual 89, 3) := by decide +kernel
theorem dX10_again_12 : decode cX10_again 12 = .ok (.ireturn, 1) := by decide +kernel
theorem dX10_again_13 : decode cX10_again 13 = .ok (.iload_n 1, 1) := by decide +kernel
theorem dX10_again_14 : decode cX10_again 14 = .ok (.invokestatic 92, 3) := by decide +kernel
theorem dX10_again_17 : decode cX10_again 17 = .ok (.iconst 1, 1) := by decide +kernel
theorem dX10_again_18 : decode cX10_again 18 = .ok (.if_icmp .le 9, 3) := by decide +kernel
theorem dX10_again_21 : decode cX10_again 21 = .ok (.aload_n 0, 1) := by decide +kernel
theorem dX10_again_22 : decode cX10_again 22 = .ok (.iconst 3, 1) := by decide +kernel
theorem dX10_again_23 : decode cX10_again 23 = .ok (.invokevirtual 89, 3) := by decide +kernel
theorem dX10_again_26 : decode cX10_again 26 = .ok (.ireturn, 1) := by decide +kernel
theorem dX10_again_27 : decode cX10_again 27 = .ok (.iload_n 1, 1) := by decide +kernel
theorem dX10_again_28 : decode cX10_again 28 = .ok (.invokestatic 76, 3) := by decide +kernel
theorem dX10_again_31 : decode cX10_again 31 = .ok (.istore_n 2, 1) := by decide +kernel
theorem dX10_again_32 : decode cX10_again 32 = .ok (.bipush 12, 2) := by decide +kernel
theorem dX10_again_34 : decode cX10_again 34 = .ok (.istore_n 3, 1) := by decide +kernel
theorem dX10_again_35 : decode cX10_again 35 = .ok (.iload_n 1, 1) := by decide +kernel
theorem dX10_again_36 : decode cX10_again 36 = .ok (.istore 4, 2) := by decide +kernel
theorem dX10_again_38 : decode cX10_again 38 = .ok (.iload 4, 2) := by decide +kernel
theorem dX10_again_40 : decode cX10_again 40 = .ok (.ifCond .le 38, 3) := by decide +kernel
theorem dX10_again_43 : decode cX10_again 43 = .ok (.iload 4, 2) := by decide +kernel
theorem dX10_again_45 : decode cX10_again 45 = .ok (.invokestatic 79, 3) := by decide +kernel
theorem dX10_again_48 : decode cX10_again 48 = .ok (.iload_n 3, 1) := by decide +kernel
theorem dX10_again_49 : decode cX10_again 49 = .ok (.if_icmp .ge 18, 3) := by decide +kernel
theorem dX10_again_52 : decode cX10_again 52 = .ok (.iload 4, 2) := by decide +kernel
theorem dX10_again_54 : decode cX10_again 54 = .ok (.invokestatic 76, 3) := by decide +kernel
theorem dX10_again_57 : decode cX10_again 57 = .ok (.iload_n 2, 1) := by decide +kernel
theorem dX10_again_58 : decode cX10_again 58 = .ok (.if_icmp .ne 9, 3) := by decide +kernel
theorem dX10_again_61 : decode cX10_again 61 = .ok (.iload 4, 2) := by decide +kernel
theorem dX10_again_63 : decode cX10_again 63 = .ok (.invokestatic 79, 3) := by decide +kernel
theorem dX10_again_66 : decode cX10_again 66 = .ok (.istore_n 3, 1) := by decide +kernel
theorem dX10_again_67 : decode cX10_again 67 = .ok (.iload 4, 2) := by decide +kernel
theorem dX10_again_69 : decode cX10_again 69 = .ok (.iconst 1, 1) := by decide +kernel
theorem dX10_again_70 : decode cX10_again 70 = .ok (.isub, 1) := by decide +kernel
theorem dX10_again_71 : decode cX10_again 71 = .ok (.iload_n 1, 1) := by decide +kernel
theorem dX10_again_72 : decode cX10_again 72 = .ok (.iand, 1) := by decide +kernel
theorem dX10_again_73 : decode cX10_again 73 = .ok (.istore 4, 2) := by decide +kernel
theorem dX10_again_75 : decode cX10_again 75 = .ok (.goto (-37), 3) := by decide +kernel
theorem dX10_again_78 : decode cX10_again 78 = .ok (.iload_n 2, 1) := by decide +kernel
theorem dX10_again_79 : decode cX10_again 79 = .ok (.ifCond .ne 7, 3) := by decide +kernel
theorem dX10_again_82 : decode cX10_again 82 = .ok (.iconst 0, 1) := by decide +kernel
theorem dX10_again_83 : decode cX10_again 83 = .ok (.goto 4, 3) := by decide +kernel
theorem dX10_again_86 : decode cX10_again 86 = .ok (.iload_n 3, 1) := by decide +kernel
theorem dX10_again_87 : decode cX10_again 87 = .ok (.ireturn, 1) := by decide +kernel
theorem dX10_quarter_0 : decode cX10_quarter 0 = .ok (.iconst 3, 1) := by decide +kernel
theorem dX10_quarter_1 : decode cX10_quarter 1 = .ok (.iload_n 0, 1) := by decide +kernel
theorem dX10_quarter_2 : decode cX10_quarter 2 = .ok (.iconst 3, 1) := by decide +kernel
theorem dX10_quarter_3 : decode cX10_quarter 3 = .ok (.irem, 1) := by decide +kernel
theorem dX10_quarter_4 : decode cX10_quarter 4 = .ok (.imul, 1) := by decide +kernel
theorem dX10_quarter_5 : decode cX10_quarter 5 = .ok (.iconst 2, 1) := by decide +kernel
theorem dX10_quarter_6 : decode cX10_quarter 6 = .ok (.iadd, 1) := by decide +kernel
theorem dX10_quarter_7 : decode cX10_quarter 7 = .ok (.iload_n 0, 1) := by decide +kernel
theorem dX10_quarter_8 : decode cX10_quarter 8 = .ok (.iconst 3, 1) := by decide +kernel
theorem dX10_quarter_9 : decode cX10_quarter 9 = .ok (.idiv, 1) := by decide +kernel
theorem dX10_quarter_10 : decode cX10_quarter 10 = .ok (.isub, 1) := by decide +kernel
theorem dX10_quarter_11 : decode cX10_quarter 11 = .ok (.ireturn, 1) := by decide +kernel
theorem dX10_strokeOf_0 : decode cX10_strokeOf 0 = .ok (.iconst 0, 1) := by decide +kernel
theorem dX10_strokeOf_1 : decode cX10_strokeOf 1 = .ok (.istore_n 2, 1) := by decide +kernel
theorem dX10_strokeOf_2 : decode cX10_strokeOf 2 = .ok (.iload_n 2, 1) := by decide +kernel
theorem dX10_strokeOf_3 : decode cX10_strokeOf 3 = .ok (.iload_n 0, 1) := by decide +kernel
theorem dX10_strokeOf_4 : decode cX10_strokeOf 4 = .ok (.invokestatic 63, 3) := by decide +kernel
theorem dX10_strokeOf_7 : decode cX10_strokeOf 7 = .ok (.ifCond .eq 11, 3) := by decide +kernel
theorem dX10_strokeOf_10 : decode cX10_strokeOf 10 = .ok (.iload_n 2, 1) := by decide +kernel
theorem dX10_strokeOf_11 : decode cX10_strokeOf 11 = .ok (.iload_n 1, 1) := by decide +kernel
theorem dX10_strokeOf_12 : decode cX10_strokeOf 12 = .ok (.invokestatic 63, 3) := by decide +kernel
theorem dX10_strokeOf_15 : decode cX10_strokeOf 15 = .ok (.ifCond .ne 9, 3) := by decide +kernel
theorem dX10_strokeOf_18 : decode cX10_strokeOf 18 = .ok (.iinc 2 1, 3) := by decide +kernel
theorem dX10_strokeOf_21 : decode cX10_strokeOf 21 = .ok (.goto (-19), 3) := by decide +kernel
theorem dX10_strokeOf_24 : decode cX10_strokeOf 24 = .ok (.iload_n 2, 1) := by decide +kernel
theorem dX10_strokeOf_25 : decode cX10_strokeOf 25 = .ok (.ireturn, 1) := by decide +kernel
theorem dX10_turned_0 : decode cX10_turned 0 = .ok (.iload_n 1, 1) := by decide +kernel
theorem dX10_turned_1 : decode cX10_turned 1 = .ok (.invokestatic 85, 3) := by decide +kernel
theorem dX10_turned_4 : decode cX10_turned 4 = .ok (.ifCond .eq 12, 3) := by decide +kernel
theorem dX10_turned_7 : decode cX10_turned 7 = .ok (.iload_n 2, 1) := by decide +kernel
theorem dX10_turned_8 : decode cX10_turned 8 = .ok (.iconst 0, 1) := by decide +kernel
theorem dX10_turned_9 : decode cX10_turned 9 = .ok (.iconst 3, 1) := by decide +kernel
theorem dX10_turned_10 : decode cX10_turned 10 = .ok (.invokestatic 48, 3) := by decide +kernel
theorem dX10_turned_13 : decode cX10_turned 13 = .ok (.ifCond .ne 9, 3) := by decide +kernel
theorem dX10_turned_16 : decode cX10_turned 16 = .ok (.aload_n 0, 1) := by decide +kernel
theorem dX10_turned_17 : decode cX10_turned 17 = .ok (.iconst 0, 1) := by decide +kernel
theorem dX10_turned_18 : decode cX10_turned 18 = .ok (.invokevirtual 89, 3) := by decide +kernel
theorem dX10_turned_21 : decode cX10_turned 21 = .ok (.ireturn, 1) := by decide +kernel
theorem dX10_turned_22 : decode cX10_turned 22 = .ok (.iload_n 1, 1) := by decide +kernel
theorem dX10_turned_23 : decode cX10_turned 23 = .ok (.istore_n 3, 1) := by decide +kernel
theorem dX10_turned_24 : decode cX10_turned 24 = .ok (.iconst 0, 1) := by decide +kernel
theorem dX10_turned_25 : decode cX10_turned 25 = .ok (.istore 4, 2) := by decide +kernel
theorem dX10_turned_27 : decode cX10_turned 27 = .ok (.iload 4, 2) := by decide +kernel
theorem dX10_turned_29 : decode cX10_turned 29 = .ok (.iload_n 2, 1) := by decide +kernel
theorem dX10_turned_30 : decode cX10_turned 30 = .ok (.if_icmp .ge 70, 3) := by decide +kernel
theorem dX10_turned_33 : decode cX10_turned 33 = .ok (.iconst 0, 1) := by decide +kernel
theorem dX10_turned_34 : decode cX10_turned 34 = .ok (.istore 5, 2) := by decide +kernel
theorem dX10_turned_36 : decode cX10_turned 36 = .ok (.iconst 0, 1) := by decide +kernel
theorem dX10_turned_37 : decode cX10_turned 37 = .ok (.istore 6, 2) := by decide +kernel
theorem dX10_turned_39 : decode cX10_turned 39 = .ok (.iload 6, 2) := by decide +kernel
theorem dX10_turned_41 : decode cX10_turned 41 = .ok (.bipush 12, 2) := by decide +kernel
theorem dX10_turned_43 : decode cX10_turned 43 = .ok (.if_icmp .ge 48, 3) := by decide +kernel
theorem dX10_turned_46 : decode cX10_turned 46 = .ok (.iload 5, 2) := by decide +kernel
theorem dX10_turned_48 : decode cX10_turned 48 = .ok (.iload_n 3, 1) := by decide +kernel
theorem dX10_turned_49 : decode cX10_turned 49 = .ok (.iload 6, 2) := by decide +kernel
theorem dX10_turned_51 : decode cX10_turned 51 = .ok (.invokestatic 59, 3) := by decide +kernel
theorem dX10_turned_54 : decode cX10_turned 54 = .ok (.ifCond .eq 27, 3) := by decide +kernel
theorem dX10_turned_57 : decode cX10_turned 57 = .ok (.iconst 1, 1) := by decide +kernel
theorem dX10_turned_58 : decode cX10_turned 58 = .ok (.iload 6, 2) := by decide +kernel
theorem dX10_turned_60 : decode cX10_turned 60 = .ok (.invokestatic 52, 3) := by decide +kernel
theorem dX10_turned_63 : decode cX10_turned 63 = .ok (.invokestatic 108, 3) := by decide +kernel
theorem dX10_turned_66 : decode cX10_turned 66 = .ok (.iload 6, 2) := by decide +kernel
theorem dX10_turned_68 : decode cX10_turned 68 = .ok (.invokestatic 56, 3) := by decide +kernel
theorem dX10_turned_71 : decode cX10_turned 71 = .ok (.invokestatic 108, 3) := by decide +kernel
theorem dX10_turned_74 : decode cX10_turned 74 = .ok (.invokestatic 111, 3) := by decide +kernel
theorem dX10_turned_77 : decode cX10_turned 77 = .ok (.ishl, 1) := by decide +kernel
theorem dX10_turned_78 : decode cX10_turned 78 = .ok (.goto 4, 3) := by decide +kernel
theorem dX10_turned_81 : decode cX10_turned 81 = .ok (.iconst 0, 1) := by decide +kernel
theorem dX10_turned_82 : decode cX10_turned 82 = .ok (.ior, 1) := by decide +kernel
theorem dX10_turned_83 : decode cX10_turned 83 = .ok (.istore 5, 2) := by decide +kernel
theorem dX10_turned_85 : decode cX10_turned 85 = .ok (.iinc 6 1, 3) := by decide +kernel
theorem dX10_turned_88 : decode cX10_turned 88 = .ok (.goto (-49), 3) := by decide +kernel
theorem dX10_turned_91 : decode cX10_turned 91 = .ok (.iload 5, 2) := by decide +kernel
theorem dX10_turned_93 : decode cX10_turned 93 = .ok (.istore_n 3, 1) := by decide +kernel
theorem dX10_turned_94 : decode cX10_turned 94 = .ok (.iinc 4 1, 3) := by decide +kernel
theorem dX10_turned_97 : decode cX10_turned 97 = .ok (.goto (-70), 3) := by decide +kernel
theorem dX10_turned_100 : decode cX10_turned 100 = .ok (.iload_n 3, 1) := by decide +kernel
theorem dX10_turned_101 : decode cX10_turned 101 = .ok (.ireturn, 1) := by decide +kernel
theorem dX10_sign_0 : decode cX10_sign 0 = .ok (.iload_n 1, 1) := by decide +kernel
theorem dX10_sign_1 : decode cX10_sign 1 = .ok (.invokestatic 114, 3) := by decide +kernel
theorem dX10_sign_4 : decode cX10_sign 4 = .ok (.ifCond .eq 21, 3) := by decide +kernel
theorem dX10_sign_7 : decode cX10_sign 7 = .ok (.iload_n 2, 1) := by decide +kernel
theorem dX10_sign_8 : decode cX10_sign 8 = .ok (.invokestatic 85, 3) := by decide +kernel
theorem dX10_sign_11 : decode cX10_sign 11 = .ok (.ifCond .eq 14, 3) := by decide +kernel
theorem dX10_sign_14 : decode cX10_sign 14 = .ok (.aload_n 0, 1) := by decide +kernel
theorem dX10_sign_15 : decode cX10_sign 15 = .ok (.iconst 3, 1) := by decide +kernel
theorem dX10_sign_16 : decode cX10_sign 16 = .ok (.iload_n 1, 1) := by decide +kernel
theorem dX10_sign_17 : decode cX10_sign 17 = .ok (.iadd, 1) := by decide +kernel
theorem dX10_sign_18 : decode cX10_sign 18 = .ok (.iload_n 2, 1) := by decide +kernel
theorem dX10_sign_19 : decode cX10_sign 19 = .ok (.invokevirtual 117, 3) := by decide +kernel
theorem dX10_sign_22 : decode cX10_sign 22 = .ok (.goto 8, 3) := by decide +kernel
theorem dX10_sign_25 : decode cX10_sign 25 = .ok (.aload_n 0, 1) := by decide +kernel
theorem dX10_sign_26 : decode cX10_sign 26 = .ok (.iconst 0, 1) := by decide +kernel
theorem dX10_sign_27 : decode cX10_sign 27 = .ok (.invokevirtual 89, 3) := by decide +kernel
theorem dX10_sign_30 : decode cX10_sign 30 = .ok (.ireturn, 1) := by decide +kernel
theorem dX10_form_0 : decode cX10_form 0 = .ok (.iload_n 1, 1) := by decide +kernel
theorem dX10_form_1 : decode cX10_form 1 = .ok (.invokestatic 114, 3) := by decide +kernel
theorem dX10_form_4 : decode cX10_form 4 = .ok (.ifCond .eq 14, 3) := by decide +kernel
theorem dX10_form_7 : decode cX10_form 7 = .ok (.aload_n 0, 1) := by decide +kernel
theorem dX10_form_8 : decode cX10_form 8 = .ok (.getfield 9, 3) := by decide +kernel
theorem dX10_form_11 : decode cX10_form 11 = .ok (.iconst 3, 1) := by decide +kernel
theorem dX10_form_12 : decode cX10_form 12 = .ok (.iload_n 1, 1) := by decide +kernel
theorem dX10_form_13 : decode cX10_form 13 = .ok (.iadd, 1) := by decide +kernel
theorem dX10_form_14 : decode cX10_form 14 = .ok (.iaload, 1) := by decide +kernel
theorem dX10_form_15 : decode cX10_form 15 = .ok (.goto 8, 3) := by decide +kernel
theorem dX10_form_18 : decode cX10_form 18 = .ok (.aload_n 0, 1) := by decide +kernel
theorem dX10_form_19 : decode cX10_form 19 = .ok (.iconst 0, 1) := by decide +kernel
theorem dX10_form_20 : decode cX10_form 20 = .ok (.invokevirtual 89, 3) := by decide +kernel
theorem dX10_form_23 : decode cX10_form 23 = .ok (.ireturn, 1) := by decide +kernel
theorem dX10_apartFrom_0 : decode cX10_apartFrom 0 = .ok (.iload_n 1, 1) := by decide +kernel
theorem dX10_apartFrom_1 : decode cX10_apartFrom 1 = .ok (.aload_n 0, 1) := by decide +kernel
theorem dX10_apartFrom_2 : decode cX10_apartFrom 2 = .ok (.getfield 9, 3) := by decide +kernel
theorem dX10_apartFrom_5 : decode cX10_apartFrom 5 = .ok (.iconst 3, 1) := by decide +kernel
theorem dX10_apartFrom_6 : decode cX10_apartFrom 6 = .ok (.iload_n 2, 1) := by decide +kernel
theorem dX10_apartFrom_7 : decode cX10_apartFrom 7 = .ok (.iadd, 1) := by decide +kernel
theorem dX10_apartFrom_8 : decode cX10_apartFrom 8 = .ok (.iaload, 1) := by decide +kernel
theorem dX10_apartFrom_9 : decode cX10_apartFrom 9 = .ok (.ixor, 1) := by decide +kernel
theorem dX10_apartFrom_10 : decode cX10_apartFrom 10 = .ok (.invokestatic 79, 3) := by decide +kernel
theorem dX10_apartFrom_13 : decode cX10_apartFrom 13 = .ok (.ireturn, 1) := by decide +kernel
theorem dX10_readAs_0 : decode cX10_readAs 0 = .ok (.iconst (-1), 1) := by decide +kernel
theorem dX10_readAs_1 : decode cX10_readAs 1 = .ok (.istore_n 2, 1) := by decide +kernel
theorem dX10_readAs_2 : decode cX10_readAs 2 = .ok (.bipush 25, 2) := by decide +kernel
theorem dX10_readAs_4 : decode cX10_readAs 4 = .ok (.istore_n 3, 1) := by decide +kernel
theorem dX10_readAs_5 : decode cX10_readAs 5 = .ok (.iload_n 3, 1) := by decide +kernel
theorem dX10_readAs_6 : decode cX10_readAs 6 = .ok (.ifCond .lt 41, 3) := by decide +kernel
theorem dX10_readAs_9 : decode cX10_readAs 9 = .ok (.aload_n 0, 1) := by decide +kernel
theorem dX10_readAs_10 : decode cX10_readAs 10 = .ok (.getfield 9, 3) := by decide +kernel
theorem dX10_readAs_13 : decode cX10_readAs 13 = .ok (.iconst 3, 1) := by decide +kernel
theorem dX10_readAs_14 : decode cX10_readAs 14 = .ok (.iload_n 3, 1) := by decide +kernel
theorem dX10_readAs_15 : decode cX10_readAs 15 = .ok (.iadd, 1) := by decide +kernel
theorem dX10_readAs_16 : decode cX10_readAs 16 = .ok (.iaload, 1) := by decide +kernel
theorem dX10_readAs_17 : decode cX10_readAs 17 = .ok (.ifCond .eq 24, 3) := by decide +kernel
theorem dX10_readAs_20 : decode cX10_readAs 20 = .ok (.iload_n 2, 1) := by decide +kernel
theorem dX10_readAs_21 : decode cX10_readAs 21 = .ok (.ifCond .lt 18, 3) := by decide +kernel
theorem dX10_readAs_24 : decode cX10_readAs 24 = .ok (.aload_n 0, 1) := by decide +kernel
theorem dX10_readAs_25 : decode cX10_readAs 25 = .ok (.iload_n 1, 1) := by decide +kernel
theorem dX10_readAs_26 : decode cX10_readAs 26 = .ok (.iload_n 3, 1) := by decide +kernel
theorem dX10_readAs_27 : decode cX10_readAs 27 = .ok (.invokevirtual 120, 3) := by decide +kernel
theorem dX10_readAs_30 : decode cX10_readAs 30 = .ok (.aload_n 0, 1) := by decide +kernel
theorem dX10_readAs_31 : decode cX10_readAs 31 = .ok (.iload_n 1, 1) := by decide +kernel
theorem dX10_readAs_32 : decode cX10_readAs 32 = .ok (.iload_n 2, 1) := by decide +kernel
theorem dX10_readAs_33 : decode cX10_readAs 33 = .ok (.invokevirtual 120, 3) := by decide +kernel
theorem dX10_readAs_36 : decode cX10_readAs 36 = .ok (.if_icmp .gt 5, 3) := by decide +kernel
theorem dX10_readAs_39 : decode cX10_readAs 39 = .ok (.iload_n 3, 1) := by decide +kernel
theorem dX10_readAs_40 : decode cX10_readAs 40 = .ok (.istore_n 2, 1) := by decide +kernel
theorem dX10_readAs_41 : decode cX10_readAs 41 = .ok (.iinc 3 (-1), 3) := by decide +kernel
theorem dX10_readAs_44 : decode cX10_readAs 44 = .ok (.goto (-39), 3) := by decide +kernel
theorem dX10_readAs_47 : decode cX10_readAs 47 = .ok (.iload_n 2, 1) := by decide +kernel
theorem dX10_readAs_48 : decode cX10_readAs 48 = .ok (.ireturn, 1) := by decide +kernel
theorem dX10_read_0 : decode cX10_read 0 = .ok (.iload_n 1, 1) := by decide +kernel
theorem dX10_read_1 : decode cX10_read 1 = .ok (.invokestatic 85, 3) := by decide +kernel
theorem dX10_read_4 : decode cX10_read 4 = .ok (.ifCond .ne 9, 3) := by decide +kernel
theorem dX10_read_7 : decode cX10_read 7 = .ok (.aload_n 0, 1) := by decide +kernel
theorem dX10_read_8 : decode cX10_read 8 = .ok (.iconst 0, 1) := by decide +kernel
theorem dX10_read_9 : decode cX10_read 9 = .ok (.invokevirtual 89, 3) := by decide +kernel
theorem dX10_read_12 : decode cX10_read 12 = .ok (.ireturn, 1) := by decide +kernel
theorem dX10_read_13 : decode cX10_read 13 = .ok (.aload_n 0, 1) := by decide +kernel
theorem dX10_read_14 : decode cX10_read 14 = .ok (.iload_n 1, 1) := by decide +kernel
theorem dX10_read_15 : decode cX10_read 15 = .ok (.invokevirtual 123, 3) := by decide +kernel
theorem dX10_read_18 : decode cX10_read 18 = .ok (.istore_n 2, 1) := by decide +kernel
theorem dX10_read_19 : decode cX10_read 19 = .ok (.iload_n 2, 1) := by decide +kernel
theorem dX10_read_20 : decode cX10_read 20 = .ok (.ifCond .ge 11, 3) := by decide +kernel
theorem dX10_read_23 : decode cX10_read 23 = .ok (.aload_n 0, 1) := by decide +kernel
theorem dX10_read_24 : decode cX10_read 24 = .ok (.iconst 3, 1) := by decide +kernel
theorem dX10_read_25 : decode cX10_read 25 = .ok (.invokevirtual 89, 3) := by decide +kernel
theorem dX10_read_28 : decode cX10_read 28 = .ok (.goto 4, 3) := by decide +kernel
theorem dX10_read_31 : decode cX10_read 31 = .ok (.iload_n 2, 1) := by decide +kernel
theorem dX10_read_32 : decode cX10_read 32 = .ok (.ireturn, 1) := by decide +kernel
theorem dX10_doubts_0 : decode cX10_doubts 0 = .ok (.iload_n 1, 1) := by decide +kernel
theorem dX10_doubts_1 : decode cX10_doubts 1 = .ok (.invokestatic 85, 3) := by decide +kernel
theorem dX10_doubts_4 : decode cX10_doubts 4 = .ok (.ifCond .ne 9, 3) := by decide +kernel
theorem dX10_doubts_7 : decode cX10_doubts 7 = .ok (.aload_n 0, 1) := by decide +kernel
theorem dX10_doubts_8 : decode cX10_doubts 8 = .ok (.iconst 0, 1) := by decide +kernel
theorem dX10_doubts_9 : decode cX10_doubts 9 = .ok (.invokevirtual 89, 3) := by decide +kernel
theorem dX10_doubts_12 : decode cX10_doubts 12 = .ok (.ireturn, 1) := by decide +kernel
theorem dX10_doubts_13 : decode cX10_doubts 13 = .ok (.aload_n 0, 1) := by decide +kernel
theorem dX10_doubts_14 : decode cX10_doubts 14 = .ok (.iload_n 1, 1) := by decide +kernel
theorem dX10_doubts_15 : decode cX10_doubts 15 = .ok (.invokevirtual 123, 3) := by decide +kernel
theorem dX10_doubts_18 : decode cX10_doubts 18 = .ok (.istore_n 2, 1) := by decide +kernel
theorem dX10_doubts_19 : decode cX10_doubts 19 = .ok (.iload_n 2, 1) := by decide +kernel
theorem dX10_doubts_20 : decode cX10_doubts 20 = .ok (.ifCond .ge 9, 3) := by decide +kernel
theorem dX10_doubts_23 : decode cX10_doubts 23 = .ok (.aload_n 0, 1) := by decide +kernel
theorem dX10_doubts_24 : decode cX10_doubts 24 = .ok (.iconst 3, 1) := by decide +kernel
theorem dX10_doubts_25 : decode cX10_doubts 25 = .ok (.invokevirtual 89, 3) := by decide +kernel
theorem dX10_doubts_28 : decode cX10_doubts 28 = .ok (.ireturn, 1) := by decide +kernel
theorem dX10_doubts_29 : decode cX10_doubts 29 = .ok (.iconst 0, 1) := by decide +kernel
theorem dX10_doubts_30 : decode cX10_doubts 30 = .ok (.istore_n 3, 1) := by decide +kernel
theorem dX10_doubts_31 : decode cX10_doubts 31 = .ok (.iconst 0, 1) := by decide +kernel
theorem dX10_doubts_32 : decode cX10_doubts 32 = .ok (.istore 4, 2) := by decide +kernel
theorem dX10_doubts_34 : decode cX10_doubts 34 = .ok (.iload 4, 2) := by decide +kernel
theorem dX10_doubts_36 : decode cX10_doubts 36 = .ok (.bipush 26, 2) := by decide +kernel
theorem dX10_doubts_38 : decode cX10_doubts 38 = .ok (.if_icmp .ge 45, 3) := by decide +kernel
theorem dX10_doubts_41 : decode cX10_doubts 41 = .ok (.iload_n 3, 1) := by decide +kernel
theorem dX10_doubts_42 : decode cX10_doubts 42 = .ok (.aload_n 0, 1) := by decide +kernel
theorem dX10_doubts_43 : decode cX10_doubts 43 = .ok (.getfield 9, 3) := by decide +kernel
theorem dX10_doubts_46 : decode cX10_doubts 46 = .ok (.iconst 3, 1) := by decide +kernel
theorem dX10_doubts_47 : decode cX10_doubts 47 = .ok (.iload 4, 2) := by decide +kernel
theorem dX10_doubts_49 : decode cX10_doubts 49 = .ok (.iadd, 1) := by decide +kernel
theorem dX10_doubts_50 : decode cX10_doubts 50 = .ok (.iaload, 1) := by decide +kernel
theorem dX10_doubts_51 : decode cX10_doubts 51 = .ok (.ifCond .eq 23, 3) := by decide +kernel
theorem dX10_doubts_54 : decode cX10_doubts 54 = .ok (.aload_n 0, 1) := by decide +kernel
theorem dX10_doubts_55 : decode cX10_doubts 55 = .ok (.iload_n 1, 1) := by decide +kernel
theorem dX10_doubts_56 : decode cX10_doubts 56 = .ok (.iload 4, 2) := by decide +kernel
theorem dX10_doubts_58 : decode cX10_doubts 58 = .ok (.invokevirtual 120, 3) := by decide +kernel
theorem dX10_doubts_61 : decode cX10_doubts 61 = .ok (.aload_n 0, 1) := by decide +kernel
theorem dX10_doubts_62 : decode cX10_doubts 62 = .ok (.iload_n 1, 1) := by decide +kernel
theorem dX10_doubts_63 : decode cX10_doubts 63 = .ok (.iload_n 2, 1) := by decide +kernel
theorem dX10_doubts_64 : decode cX10_doubts 64 = .ok (.invokevirtual 120, 3) := by decide +kernel
theorem dX10_doubts_67 : decode cX10_doubts 67 = .ok (.if_icmp .ne 7, 3) := by decide +kernel
theorem dX10_doubts_70 : decode cX10_doubts 70 = .ok (.iconst 1, 1) := by decide +kernel
theorem dX10_doubts_71 : decode cX10_doubts 71 = .ok (.goto 4, 3) := by decide +kernel
theorem dX10_doubts_74 : decode cX10_doubts 74 = .ok (.iconst 0, 1) := by decide +kernel
theorem dX10_doubts_75 : decode cX10_doubts 75 = .ok (.iadd, 1) := by decide +kernel
theorem dX10_doubts_76 : decode cX10_doubts 76 = .ok (.istore_n 3, 1) := by decide +kernel
theorem dX10_doubts_77 : decode cX10_doubts 77 = .ok (.iinc 4 1, 3) := by decide +kernel
theorem dX10_doubts_80 : decode cX10_doubts 80 = .ok (.goto (-46), 3) := by decide +kernel
theorem dX10_doubts_83 : decode cX10_doubts 83 = .ok (.iload_n 3, 1) := by decide +kernel
theorem dX10_doubts_84 : decode cX10_doubts 84 = .ok (.ireturn, 1) := by decide +kernel
theorem dX10_apart_0 : decode cX10_apart 0 = .ok (.bipush 13, 2) := by decide +kernel
theorem dX10_apart_2 : decode cX10_apart 2 = .ok (.istore_n 1, 1) := by decide +kernel
theorem dX10_apart_3 : decode cX10_apart 3 = .ok (.iconst 0, 1) := by decide +kernel
theorem dX10_apart_4 : decode cX10_apart 4 = .ok (.istore_n 2, 1) := by decide +kernel
theorem dX10_apart_5 : decode cX10_apart 5 = .ok (.iload_n 2, 1) := by decide +kernel
theorem dX10_apart_6 : decode cX10_apart 6 = .ok (.bipush 26, 2) := by decide +kernel
theorem dX10_apart_8 : decode cX10_apart 8 = .ok (.if_icmp .ge 75, 3) := by decide +kernel
theorem dX10_apart_11 : decode cX10_apart 11 = .ok (.iconst 0, 1) := by decide +kernel
theorem dX10_apart_12 : decode cX10_apart 12 = .ok (.istore_n 3, 1) := by decide +kernel
theorem dX10_apart_13 : decode cX10_apart 13 = .ok (.iload_n 3, 1) := by decide +kernel
theorem dX10_apart_14 : decode cX10_apart 14 = .ok (.iload_n 2, 1) := by decide +kernel
theorem dX10_apart_15 : decode cX10_apart 15 = .ok (.if_icmp .ge 62, 3) := by decide +kernel
theorem dX10_apart_18 : decode cX10_apart 18 = .ok (.aload_n 0, 1) := by decide +kernel
theorem dX10_apart_19 : decode cX10_apart 19 = .ok (.getfield 9, 3) := by decide +kernel
theorem dX10_apart_22 : decode cX10_apart 22 = .ok (.iconst 3, 1) := by decide +kernel
theorem dX10_apart_23 : decode cX10_apart 23 = .ok (.iload_n 2, 1) := by decide +kernel
theorem dX10_apart_24 : decode cX10_apart 24 = .ok (.iadd, 1) := by decide +kernel
theorem dX10_apart_25 : decode cX10_apart 25 = .ok (.iaload, 1) := by decide +kernel
theorem dX10_apart_26 : decode cX10_apart 26 = .ok (.ifCond .eq 45, 3) := by decide +kernel
theorem dX10_apart_29 : decode cX10_apart 29 = .ok (.aload_n 0, 1) := by decide +kernel
theorem dX10_apart_30 : decode cX10_apart 30 = .ok (.getfield 9, 3) := by decide +kernel
theorem dX10_apart_33 : decode cX10_apart 33 = .ok (.iconst 3, 1) := by decide +kernel
theorem dX10_apart_34 : decode cX10_apart 34 = .ok (.iload_n 3, 1) := by decide +kernel
theorem dX10_apart_35 : decode cX10_apart 35 = .ok (.iadd, 1) := by decide +kernel
theorem dX10_apart_36 : decode cX10_apart 36 = .ok (.iaload, 1) := by decide +kernel
theorem dX10_apart_37 : decode cX10_apart 37 = .ok (.ifCond .eq 34, 3) := by decide +kernel
theorem dX10_apart_40 : decode cX10_apart 40 = .ok (.aload_n 0, 1) := by decide +kernel
theorem dX10_apart_41 : decode cX10_apart 41 = .ok (.aload_n 0, 1) := by decide +kernel
theorem dX10_apart_42 : decode cX10_apart 42 = .ok (.getfield 9, 3) := by decide +kernel
theorem dX10_apart_45 : decode cX10_apart 45 = .ok (.iconst 3, 1) := by decide +kernel
theorem dX10_apart_46 : decode cX10_apart 46 = .ok (.iload_n 2, 1) := by decide +kernel
theorem dX10_apart_47 : decode cX10_apart 47 = .ok (.iadd, 1) := by decide +kernel
theorem dX10_apart_48 : decode cX10_apart 48 = .ok (.iaload, 1) := by decide +kernel
theorem dX10_apart_49 : decode cX10_apart 49 = .ok (.iload_n 3, 1) := by decide +kernel
theorem dX10_apart_50 : decode cX10_apart 50 = .ok (.invokevirtual 120, 3) := by decide +kernel
theorem dX10_apart_53 : decode cX10_apart 53 = .ok (.iload_n 1, 1) := by decide +kernel
theorem dX10_apart_54 : decode cX10_apart 54 = .ok (.if_icmp .ge 17, 3) := by decide +kernel
theorem dX10_apart_57 : decode cX10_apart 57 = .ok (.aload_n 0, 1) := by decide +kernel
theorem dX10_apart_58 : decode cX10_apart 58 = .ok (.aload_n 0, 1) := by decide +kernel
theorem dX10_apart_59 : decode cX10_apart 59 = .ok (.getfield 9, 3) := by decide +kernel
theorem dX10_apart_62 : decode cX10_apart 62 = .ok (.iconst 3, 1) := by decide +kernel
theorem dX10_apart_63 : decode cX10_apart 63 = .ok (.iload_n 2, 1) := by decide +kernel
theorem dX10_apart_64 : decode cX10_apart 64 = .ok (.iadd, 1) := by decide +kernel
theorem dX10_apart_65 : decode cX10_apart 65 = .ok (.iaload, 1) := by decide +kernel
theorem dX10_apart_66 : decode cX10_apart 66 = .ok (.iload_n 3, 1) := by decide +kernel
theorem dX10_apart_67 : decode cX10_apart 67 = .ok (.invokevirtual 120, 3) := by decide +kernel
theorem dX10_apart_70 : decode cX10_apart 70 = .ok (.istore_n 1, 1) := by decide +kernel
theorem dX10_apart_71 : decode cX10_apart 71 = .ok (.iinc 3 1, 3) := by decide +kernel
theorem dX10_apart_74 : decode cX10_apart 74 = .ok (.goto (-61), 3) := by decide +kernel
theorem dX10_apart_77 : decode cX10_apart 77 = .ok (.iinc 2 1, 3) := by decide +kernel
theorem dX10_apart_80 : decode cX10_apart 80 = .ok (.goto (-75), 3) := by decide +kernel
theorem dX10_apart_83 : decode cX10_apart 83 = .ok (.iload_n 1, 1) := by decide +kernel
theorem dX10_apart_84 : decode cX10_apart 84 = .ok (.bipush 12, 2) := by decide +kernel
theorem dX10_apart_86 : decode cX10_apart 86 = .ok (.if_icmp .le 11, 3) := by decide +kernel
theorem dX10_apart_89 : decode cX10_apart 89 = .ok (.aload_n 0, 1) := by decide +kernel
theorem dX10_apart_90 : decode cX10_apart 90 = .ok (.iconst 3, 1) := by decide +kernel
theorem dX10_apart_91 : decode cX10_apart 91 = .ok (.invokevirtual 89, 3) := by decide +kernel
theorem dX10_apart_94 : decode cX10_apart 94 = .ok (.goto 4, 3) := by decide +kernel
theorem dX10_apart_97 : decode cX10_apart 97 = .ok (.iload_n 1, 1) := by decide +kernel
theorem dX10_apart_98 : decode cX10_apart 98 = .ok (.ireturn, 1) := by decide +kernel
theorem dX10_stay_0 : decode cX10_stay 0 = .ok (.iconst 0, 1) := by decide +kernel
theorem dX10_stay_1 : decode cX10_stay 1 = .ok (.istore_n 1, 1) := by decide +kernel
theorem dX10_stay_2 : decode cX10_stay 2 = .ok (.iconst 0, 1) := by decide +kernel
theorem dX10_stay_3 : decode cX10_stay 3 = .ok (.istore_n 2, 1) := by decide +kernel
theorem dX10_stay_4 : decode cX10_stay 4 = .ok (.iload_n 2, 1) := by decide +kernel
theorem dX10_stay_5 : decode cX10_stay 5 = .ok (.bipush 26, 2) := by decide +kernel
theorem dX10_stay_7 : decode cX10_stay 7 = .ok (.if_icmp .ge 55, 3) := by decide +kernel
theorem dX10_stay_10 : decode cX10_stay 10 = .ok (.iload_n 1, 1) := by decide +kernel
theorem dX10_stay_11 : decode cX10_stay 11 = .ok (.aload_n 0, 1) := by decide +kernel
theorem dX10_stay_12 : decode cX10_stay 12 = .ok (.getfield 9, 3) := by decide +kernel
theorem dX10_stay_15 : decode cX10_stay 15 = .ok (.iconst 3, 1) := by decide +kernel
theorem dX10_stay_16 : decode cX10_stay 16 = .ok (.iload_n 2, 1) := by decide +kernel
theorem dX10_stay_17 : decode cX10_stay 17 = .ok (.iadd, 1) := by decide +kernel
theorem dX10_stay_18 : decode cX10_stay 18 = .ok (.iaload, 1) := by decide +kernel
theorem dX10_stay_19 : decode cX10_stay 19 = .ok (.ifCond .eq 34, 3) := by decide +kernel
theorem dX10_stay_22 : decode cX10_stay 22 = .ok (.aload_n 0, 1) := by decide +kernel
theorem dX10_stay_23 : decode cX10_stay 23 = .ok (.aload_n 0, 1) := by decide +kernel
theorem dX10_stay_24 : decode cX10_stay 24 = .ok (.getfield 9, 3) := by decide +kernel
theorem dX10_stay_27 : decode cX10_stay 27 = .ok (.iconst 3, 1) := by decide +kernel
theorem dX10_stay_28 : decode cX10_stay 28 = .ok (.iload_n 2, 1) := by decide +kernel
theorem dX10_stay_29 : decode cX10_stay 29 = .ok (.iadd, 1) := by decide +kernel
theorem dX10_stay_30 : decode cX10_stay 30 = .ok (.iaload, 1) := by decide +kernel
theorem dX10_stay_31 : decode cX10_stay 31 = .ok (.aload_n 0, 1) := by decide +kernel
theorem dX10_stay_32 : decode cX10_stay 32 = .ok (.getfield 9, 3) := by decide +kernel
theorem dX10_stay_35 : decode cX10_stay 35 = .ok (.iconst 1, 1) := by decide +kernel
theorem dX10_stay_36 : decode cX10_stay 36 = .ok (.iaload, 1) := by decide +kernel
theorem dX10_stay_37 : decode cX10_stay 37 = .ok (.iconst (-1), 1) := by decide +kernel
theorem dX10_stay_38 : decode cX10_stay 38 = .ok (.ixor, 1) := by decide +kernel
theorem dX10_stay_39 : decode cX10_stay 39 = .ok (.iand, 1) := by decide +kernel
theorem dX10_stay_40 : decode cX10_stay 40 = .ok (.invokevirtual 123, 3) := by decide +kernel
theorem dX10_stay_43 : decode cX10_stay 43 = .ok (.iload_n 2, 1) := by decide +kernel
theorem dX10_stay_44 : decode cX10_stay 44 = .ok (.if_icmp .ne 9, 3) := by decide +kernel
theorem dX10_stay_47 : decode cX10_stay 47 = .ok (.iconst 1, 1) := by decide +kernel
theorem dX10_stay_48 : decode cX10_stay 48 = .ok (.iload_n 2, 1) := by decide +kernel
theorem dX10_stay_49 : decode cX10_stay 49 = .ok (.ishl, 1) := by decide +kernel
theorem dX10_stay_50 : decode cX10_stay 50 = .ok (.goto 4, 3) := by decide +kernel
theorem dX10_stay_53 : decode cX10_stay 53 = .ok (.iconst 0, 1) := by decide +kernel
theorem dX10_stay_54 : decode cX10_stay 54 = .ok (.ior, 1) := by decide +kernel
theorem dX10_stay_55 : decode cX10_stay 55 = .ok (.istore_n 1, 1) := by decide +kernel
theorem dX10_stay_56 : decode cX10_stay 56 = .ok (.iinc 2 1, 3) := by decide +kernel
theorem dX10_stay_59 : decode cX10_stay 59 = .ok (.goto (-55), 3) := by decide +kernel
theorem dX10_stay_62 : decode cX10_stay 62 = .ok (.iload_n 1, 1) := by decide +kernel
theorem dX10_stay_63 : decode cX10_stay 63 = .ok (.ireturn, 1) := by decide +kernel
theorem dX10_forge_0 : decode cX10_forge 0 = .ok (.iload_n 1, 1) := by decide +kernel
theorem dX10_forge_1 : decode cX10_forge 1 = .ok (.invokestatic 114, 3) := by decide +kernel
theorem dX10_forge_4 : decode cX10_forge 4 = .ok (.ifCond .eq 15, 3) := by decide +kernel
theorem dX10_forge_7 : decode cX10_forge 7 = .ok (.iload_n 2, 1) := by decide +kernel
theorem dX10_forge_8 : decode cX10_forge 8 = .ok (.invokestatic 114, 3) := by decide +kernel
theorem dX10_forge_11 : decode cX10_forge 11 = .ok (.ifCond .eq 8, 3) := by decide +kernel
theorem dX10_forge_14 : decode cX10_forge 14 = .ok (.iload_n 1, 1) := by decide +kernel
theorem dX10_forge_15 : decode cX10_forge 15 = .ok (.iload_n 2, 1) := by decide +kernel
theorem dX10_forge_16 : decode cX10_forge 16 = .ok (.if_icmp .ne 9, 3) := by decide +kernel
theorem dX10_forge_19 : decode cX10_forge 19 = .ok (.aload_n 0, 1) := by decide +kernel
theorem dX10_forge_20 : decode cX10_forge 20 = .ok (.iconst 0, 1) := by decide +kernel
theorem dX10_forge_21 : decode cX10_forge 21 = .ok (.invokevirtual 89, 3) := by decide +kernel
theorem dX10_forge_24 : decode cX10_forge 24 = .ok (.ireturn, 1) := by decide +kernel
theorem dX10_forge_25 : decode cX10_forge 25 = .ok (.aload_n 0, 1) := by decide +kernel
theorem dX10_forge_26 : decode cX10_forge 26 = .ok (.getfield 9, 3) := by decide +kernel
theorem dX10_forge_29 : decode cX10_forge 29 = .ok (.iconst 3, 1) := by decide +kernel
theorem dX10_forge_30 : decode cX10_forge 30 = .ok (.iload_n 1, 1) := by decide +kernel
theorem dX10_forge_31 : decode cX10_forge 31 = .ok (.iadd, 1) := by decide +kernel
theorem dX10_forge_32 : decode cX10_forge 32 = .ok (.iaload, 1) := by decide +kernel
theorem dX10_forge_33 : decode cX10_forge 33 = .ok (.ifCond .eq 14, 3) := by decide +kernel
theorem dX10_forge_36 : decode cX10_forge 36 = .ok (.aload_n 0, 1) := by decide +kernel
theorem dX10_forge_37 : decode cX10_forge 37 = .ok (.getfield 9, 3) := by decide +kernel
theorem dX10_forge_40 : decode cX10_forge 40 = .ok (.iconst 3, 1) := by decide +kernel
theorem dX10_forge_41 : decode cX10_forge 41 = .ok (.iload_n 2, 1) := by decide +kernel
theorem dX10_forge_42 : decode cX10_forge 42 = .ok (.iadd, 1) := by decide +kernel
theorem dX10_forge_43 : decode cX10_forge 43 = .ok (.iaload, 1) := by decide +kernel
theorem dX10_forge_44 : decode cX10_forge 44 = .ok (.ifCond .ne 9, 3) := by decide +kernel
theorem dX10_forge_47 : decode cX10_forge 47 = .ok (.aload_n 0, 1) := by decide +kernel
theorem dX10_forge_48 : decode cX10_forge 48 = .ok (.iconst 4, 1) := by decide +kernel
theorem dX10_forge_49 : decode cX10_forge 49 = .ok (.invokevirtual 89, 3) := by decide +kernel
theorem dX10_forge_52 : decode cX10_forge 52 = .ok (.ireturn, 1) := by decide +kernel
theorem dX10_forge_53 : decode cX10_forge 53 = .ok (.bipush 13, 2) := by decide +kernel
theorem dX10_forge_55 : decode cX10_forge 55 = .ok (.istore_n 3, 1) := by decide +kernel
theorem dX10_forge_56 : decode cX10_forge 56 = .ok (.iconst 0, 1) := by decide +kernel
theorem dX10_forge_57 : decode cX10_forge 57 = .ok (.istore 4, 2) := by decide +kernel
theorem dX10_forge_59 : decode cX10_forge 59 = .ok (.iload 4, 2) := by decide +kernel
theorem dX10_forge_61 : decode cX10_forge 61 = .ok (.sipush 4096, 3) := by decide +kernel
theorem dX10_forge_64 : decode cX10_forge 64 = .ok (.if_icmp .ge 38, 3) := by decide +kernel
theorem dX10_forge_67 : decode cX10_forge 67 = .ok (.aload_n 0, 1) := by decide +kernel
theorem dX10_forge_68 : decode cX10_forge 68 = .ok (.iload 4, 2) := by decide +kernel
theorem dX10_forge_70 : decode cX10_forge 70 = .ok (.iload_n 1, 1) := by decide +kernel
theorem dX10_forge_71 : decode cX10_forge 71 = .ok (.invokevirtual 120, 3) := by decide +kernel
theorem dX10_forge_74 : decode cX10_forge 74 = .ok (.iload_n 3, 1) := by decide +kernel
theorem dX10_forge_75 : decode cX10_forge 75 = .ok (.if_icmp .ge 21, 3) := by decide +kernel
theorem dX10_forge_78 : decode cX10_forge 78 = .ok (.aload_n 0, 1) := by decide +kernel
theorem dX10_forge_79 : decode cX10_forge 79 = .ok (.iload 4, 2) := by decide +kernel
theorem dX10_forge_81 : decode cX10_forge 81 = .ok (.invokevirtual 123, 3) := by decide +kernel
theorem dX10_forge_84 : decode cX10_forge 84 = .ok (.iload_n 2, 1) := by decide +kernel
theorem dX10_forge_85 : decode cX10_forge 85 = .ok (.if_icmp .ne 11, 3) := by decide +kernel
theorem dX10_forge_88 : decode cX10_forge 88 = .ok (.aload_n 0, 1) := by decide +kernel
theorem dX10_forge_89 : decode cX10_forge 89 = .ok (.iload 4, 2) := by decide +kernel
theorem dX10_forge_91 : decode cX10_forge 91 = .ok (.iload_n 1, 1) := by decide +kernel
theorem dX10_forge_92 : decode cX10_forge 92 = .ok (.invokevirtual 120, 3) := by decide +kernel
theorem dX10_forge_95 : decode cX10_forge 95 = .ok (.istore_n 3, 1) := by decide +kernel
theorem dX10_forge_96 : decode cX10_forge 96 = .ok (.iinc 4 1, 3) := by decide +kernel
theorem dX10_forge_99 : decode cX10_forge 99 = .ok (.goto (-40), 3) := by decide +kernel
theorem dX10_forge_102 : decode cX10_forge 102 = .ok (.iload_n 3, 1) := by decide +kernel
theorem dX10_forge_103 : decode cX10_forge 103 = .ok (.bipush 12, 2) := by decide +kernel
theorem dX10_forge_105 : decode cX10_forge 105 = .ok (.if_icmp .le 11, 3) := by decide +kernel
theorem dX10_forge_108 : decode cX10_forge 108 = .ok (.aload_n 0, 1) := by decide +kernel
theorem dX10_forge_109 : decode cX10_forge 109 = .ok (.iconst 3, 1) := by decide +kernel
theorem dX10_forge_110 : decode cX10_forge 110 = .ok (.invokevirtual 89, 3) := by decide +kernel
theorem dX10_forge_113 : decode cX10_forge 113 = .ok (.goto 4, 3) := by decide +kernel
theorem dX10_forge_116 : decode cX10_forge 116 = .ok (.iload_n 3, 1) := by decide +kernel
theorem dX10_forge_117 : decode cX10_forge 117 = .ok (.ireturn, 1) := by decide +kernel
theorem dX10_adds_0 : decode cX10_adds 0 = .ok (.aload_n 0, 1) := by decide +kernel
theorem dX10_adds_1 : decode cX10_adds 1 = .ok (.getfield 9, 3) := by decide +kernel
theorem dX10_adds_4 : decode cX10_adds 4 = .ok (.iconst 2, 1) := by decide +kernel
theorem dX10_adds_5 : decode cX10_adds 5 = .ok (.iaload, 1) := by decide +kernel
theorem dX10_adds_6 : decode cX10_adds 6 = .ok (.istore 4, 2) := by decide +kernel
theorem dX10_adds_8 : decode cX10_adds 8 = .ok (.aload_n 0, 1) := by decide +kernel
theorem dX10_adds_9 : decode cX10_adds 9 = .ok (.getfield 9, 3) := by decide +kernel
theorem dX10_adds_12 : decode cX10_adds 12 = .ok (.aload_n 0, 1) := by decide +kernel
theorem dX10_adds_13 : decode cX10_adds 13 = .ok (.iload 4, 2) := by decide +kernel
theorem dX10_adds_15 : decode cX10_adds 15 = .ok (.iconst 0, 1) := by decide +kernel
theorem dX10_adds_16 : decode cX10_adds 16 = .ok (.invokevirtual 126, 3) := by decide +kernel
theorem dX10_adds_19 : decode cX10_adds 19 = .ok (.iload_n 1, 1) := by decide +kernel
theorem dX10_adds_20 : decode cX10_adds 20 = .ok (.iastore, 1) := by decide +kernel
theorem dX10_adds_21 : decode cX10_adds 21 = .ok (.aload_n 0, 1) := by decide +kernel
theorem dX10_adds_22 : decode cX10_adds 22 = .ok (.getfield 9, 3) := by decide +kernel
theorem dX10_adds_25 : decode cX10_adds 25 = .ok (.aload_n 0, 1) := by decide +kernel
theorem dX10_adds_26 : decode cX10_adds 26 = .ok (.iload 4, 2) := by decide +kernel
theorem dX10_adds_28 : decode cX10_adds 28 = .ok (.iconst 1, 1) := by decide +kernel
theorem dX10_adds_29 : decode cX10_adds 29 = .ok (.invokevirtual 126, 3) := by decide +kernel
theorem dX10_adds_32 : decode cX10_adds 32 = .ok (.iload_n 2, 1) := by decide +kernel
theorem dX10_adds_33 : decode cX10_adds 33 = .ok (.iastore, 1) := by decide +kernel
