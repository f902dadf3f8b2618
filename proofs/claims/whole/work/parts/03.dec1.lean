theorem dX0_init_0 : decode cX0_init 0 = .ok (.aload_n 0, 1) := by decide +kernel
theorem dX0_init_1 : decode cX0_init 1 = .ok (.invokespecial 1, 3) := by decide +kernel
theorem dX0_init_4 : decode cX0_init 4 = .ok (.aload_n 0, 1) := by decide +kernel
theorem dX0_init_5 : decode cX0_init 5 = .ok (.bipush 26, 2) := by decide +kernel
theorem dX0_init_7 : decode cX0_init 7 = .ok (.newarray .int, 2) := by decide +kernel
theorem dX0_init_9 : decode cX0_init 9 = .ok (.putfield 9, 3) := by decide +kernel
theorem dX0_init_12 : decode cX0_init 12 = .ok (.return_, 1) := by decide +kernel
theorem dX0_isSign_0 : decode cX0_isSign 0 = .ok (.iload_n 0, 1) := by decide +kernel
theorem dX0_isSign_1 : decode cX0_isSign 1 = .ok (.ifCond .lt 13, 3) := by decide +kernel
theorem dX0_isSign_4 : decode cX0_isSign 4 = .ok (.iload_n 0, 1) := by decide +kernel
theorem dX0_isSign_5 : decode cX0_isSign 5 = .ok (.bipush 26, 2) := by decide +kernel
theorem dX0_isSign_7 : decode cX0_isSign 7 = .ok (.if_icmp .ge 7, 3) := by decide +kernel
theorem dX0_isSign_10 : decode cX0_isSign 10 = .ok (.iconst 1, 1) := by decide +kernel
theorem dX0_isSign_11 : decode cX0_isSign 11 = .ok (.goto 4, 3) := by decide +kernel
theorem dX0_isSign_14 : decode cX0_isSign 14 = .ok (.iconst 0, 1) := by decide +kernel
theorem dX0_isSign_15 : decode cX0_isSign 15 = .ok (.ireturn, 1) := by decide +kernel
theorem dX0_formAt_0 : decode cX0_formAt 0 = .ok (.iload_n 1, 1) := by decide +kernel
theorem dX0_formAt_1 : decode cX0_formAt 1 = .ok (.invokestatic 13, 3) := by decide +kernel
theorem dX0_formAt_4 : decode cX0_formAt 4 = .ok (.ifCond .eq 12, 3) := by decide +kernel
theorem dX0_formAt_7 : decode cX0_formAt 7 = .ok (.aload_n 0, 1) := by decide +kernel
theorem dX0_formAt_8 : decode cX0_formAt 8 = .ok (.getfield 9, 3) := by decide +kernel
theorem dX0_formAt_11 : decode cX0_formAt 11 = .ok (.iload_n 1, 1) := by decide +kernel
theorem dX0_formAt_12 : decode cX0_formAt 12 = .ok (.iaload, 1) := by decide +kernel
theorem dX0_formAt_13 : decode cX0_formAt 13 = .ok (.goto 4, 3) := by decide +kernel
theorem dX0_formAt_16 : decode cX0_formAt 16 = .ok (.iconst 0, 1) := by decide +kernel
theorem dX0_formAt_17 : decode cX0_formAt 17 = .ok (.ireturn, 1) := by decide +kernel
theorem dX0_put_0 : decode cX0_put 0 = .ok (.iload_n 1, 1) := by decide +kernel
theorem dX0_put_1 : decode cX0_put 1 = .ok (.invokestatic 13, 3) := by decide +kernel
theorem dX0_put_4 : decode cX0_put 4 = .ok (.ifCond .eq 10, 3) := by decide +kernel
theorem dX0_put_7 : decode cX0_put 7 = .ok (.aload_n 0, 1) := by decide +kernel
theorem dX0_put_8 : decode cX0_put 8 = .ok (.getfield 9, 3) := by decide +kernel
theorem dX0_put_11 : decode cX0_put 11 = .ok (.iload_n 1, 1) := by decide +kernel
theorem dX0_put_12 : decode cX0_put 12 = .ok (.iload_n 2, 1) := by decide +kernel
theorem dX0_put_13 : decode cX0_put 13 = .ok (.iastore, 1) := by decide +kernel
theorem dX0_put_14 : decode cX0_put 14 = .ok (.return_, 1) := by decide +kernel
theorem dX0_become_0 : decode cX0_become 0 = .ok (.aload_n 1, 1) := by decide +kernel
theorem dX0_become_1 : decode cX0_become 1 = .ok (.getfield 9, 3) := by decide +kernel
theorem dX0_become_4 : decode cX0_become 4 = .ok (.iconst 0, 1) := by decide +kernel
theorem dX0_become_5 : decode cX0_become 5 = .ok (.aload_n 0, 1) := by decide +kernel
theorem dX0_become_6 : decode cX0_become 6 = .ok (.getfield 9, 3) := by decide +kernel
theorem dX0_become_9 : decode cX0_become 9 = .ok (.iconst 0, 1) := by decide +kernel
theorem dX0_become_10 : decode cX0_become 10 = .ok (.bipush 26, 2) := by decide +kernel
theorem dX0_become_12 : decode cX0_become 12 = .ok (.invokestatic 17, 3) := by decide +kernel
theorem dX0_become_15 : decode cX0_become 15 = .ok (.return_, 1) := by decide +kernel
theorem dX0_countSigns_0 : decode cX0_countSigns 0 = .ok (.iconst 0, 1) := by decide +kernel
theorem dX0_countSigns_1 : decode cX0_countSigns 1 = .ok (.istore_n 1, 1) := by decide +kernel
theorem dX0_countSigns_2 : decode cX0_countSigns 2 = .ok (.iconst 0, 1) := by decide +kernel
theorem dX0_countSigns_3 : decode cX0_countSigns 3 = .ok (.istore_n 2, 1) := by decide +kernel
theorem dX0_countSigns_4 : decode cX0_countSigns 4 = .ok (.iload_n 2, 1) := by decide +kernel
theorem dX0_countSigns_5 : decode cX0_countSigns 5 = .ok (.bipush 26, 2) := by decide +kernel
theorem dX0_countSigns_7 : decode cX0_countSigns 7 = .ok (.if_icmp .ge 21, 3) := by decide +kernel
theorem dX0_countSigns_10 : decode cX0_countSigns 10 = .ok (.aload_n 0, 1) := by decide +kernel
theorem dX0_countSigns_11 : decode cX0_countSigns 11 = .ok (.getfield 9, 3) := by decide +kernel
theorem dX0_countSigns_14 : decode cX0_countSigns 14 = .ok (.iload_n 2, 1) := by decide +kernel
theorem dX0_countSigns_15 : decode cX0_countSigns 15 = .ok (.iaload, 1) := by decide +kernel
theorem dX0_countSigns_16 : decode cX0_countSigns 16 = .ok (.ifCond .eq 6, 3) := by decide +kernel
theorem dX0_countSigns_19 : decode cX0_countSigns 19 = .ok (.iinc 1 1, 3) := by decide +kernel
theorem dX0_countSigns_22 : decode cX0_countSigns 22 = .ok (.iinc 2 1, 3) := by decide +kernel
theorem dX0_countSigns_25 : decode cX0_countSigns 25 = .ok (.goto (-21), 3) := by decide +kernel
theorem dX0_countSigns_28 : decode cX0_countSigns 28 = .ok (.iload_n 1, 1) := by decide +kernel
theorem dX0_countSigns_29 : decode cX0_countSigns 29 = .ok (.ireturn, 1) := by decide +kernel
theorem dX0_nearest_0 : decode cX0_nearest 0 = .ok (.iconst (-1), 1) := by decide +kernel
theorem dX0_nearest_1 : decode cX0_nearest 1 = .ok (.istore_n 2, 1) := by decide +kernel
theorem dX0_nearest_2 : decode cX0_nearest 2 = .ok (.bipush 13, 2) := by decide +kernel
theorem dX0_nearest_4 : decode cX0_nearest 4 = .ok (.istore_n 3, 1) := by decide +kernel
theorem dX0_nearest_5 : decode cX0_nearest 5 = .ok (.iconst 0, 1) := by decide +kernel
theorem dX0_nearest_6 : decode cX0_nearest 6 = .ok (.istore 4, 2) := by decide +kernel
theorem dX0_nearest_8 : decode cX0_nearest 8 = .ok (.iload 4, 2) := by decide +kernel
theorem dX0_nearest_10 : decode cX0_nearest 10 = .ok (.bipush 26, 2) := by decide +kernel
theorem dX0_nearest_12 : decode cX0_nearest 12 = .ok (.if_icmp .ge 44, 3) := by decide +kernel
theorem dX0_nearest_15 : decode cX0_nearest 15 = .ok (.aload_n 0, 1) := by decide +kernel
theorem dX0_nearest_16 : decode cX0_nearest 16 = .ok (.getfield 9, 3) := by decide +kernel
theorem dX0_nearest_19 : decode cX0_nearest 19 = .ok (.iload 4, 2) := by decide +kernel
theorem dX0_nearest_21 : decode cX0_nearest 21 = .ok (.iaload, 1) := by decide +kernel
theorem dX0_nearest_22 : decode cX0_nearest 22 = .ok (.iload_n 1, 1) := by decide +kernel
theorem dX0_nearest_23 : decode cX0_nearest 23 = .ok (.invokestatic 25, 3) := by decide +kernel
theorem dX0_nearest_26 : decode cX0_nearest 26 = .ok (.istore 5, 2) := by decide +kernel
theorem dX0_nearest_28 : decode cX0_nearest 28 = .ok (.aload_n 0, 1) := by decide +kernel
theorem dX0_nearest_29 : decode cX0_nearest 29 = .ok (.getfield 9, 3) := by decide +kernel
theorem dX0_nearest_32 : decode cX0_nearest 32 = .ok (.iload 4, 2) := by decide +kernel
theorem dX0_nearest_34 : decode cX0_nearest 34 = .ok (.iaload, 1) := by decide +kernel
theorem dX0_nearest_35 : decode cX0_nearest 35 = .ok (.ifCond .eq 15, 3) := by decide +kernel
theorem dX0_nearest_38 : decode cX0_nearest 38 = .ok (.iload 5, 2) := by decide +kernel
theorem dX0_nearest_40 : decode cX0_nearest 40 = .ok (.iload_n 3, 1) := by decide +kernel
theorem dX0_nearest_41 : decode cX0_nearest 41 = .ok (.if_icmp .ge 9, 3) := by decide +kernel
theorem dX0_nearest_44 : decode cX0_nearest 44 = .ok (.iload 5, 2) := by decide +kernel
theorem dX0_nearest_46 : decode cX0_nearest 46 = .ok (.istore_n 3, 1) := by decide +kernel
theorem dX0_nearest_47 : decode cX0_nearest 47 = .ok (.iload 4, 2) := by decide +kernel
theorem dX0_nearest_49 : decode cX0_nearest 49 = .ok (.istore_n 2, 1) := by decide +kernel
theorem dX0_nearest_50 : decode cX0_nearest 50 = .ok (.iinc 4 1, 3) := by decide +kernel
theorem dX0_nearest_53 : decode cX0_nearest 53 = .ok (.goto (-45), 3) := by decide +kernel
theorem dX0_nearest_56 : decode cX0_nearest 56 = .ok (.iload_n 2, 1) := by decide +kernel
theorem dX0_nearest_57 : decode cX0_nearest 57 = .ok (.ireturn, 1) := by decide +kernel
theorem dX0_countAsNear_0 : decode cX0_countAsNear 0 = .ok (.aload_n 0, 1) := by decide +kernel
theorem dX0_countAsNear_1 : decode cX0_countAsNear 1 = .ok (.iload_n 2, 1) := by decide +kernel
theorem dX0_countAsNear_2 : decode cX0_countAsNear 2 = .ok (.invokevirtual 29, 3) := by decide +kernel
theorem dX0_countAsNear_5 : decode cX0_countAsNear 5 = .ok (.iload_n 1, 1) := by decide +kernel
theorem dX0_countAsNear_6 : decode cX0_countAsNear 6 = .ok (.invokestatic 25, 3) := by decide +kernel
theorem dX0_countAsNear_9 : decode cX0_countAsNear 9 = .ok (.istore_n 3, 1) := by decide +kernel
theorem dX0_countAsNear_10 : decode cX0_countAsNear 10 = .ok (.iconst 0, 1) := by decide +kernel
theorem dX0_countAsNear_11 : decode cX0_countAsNear 11 = .ok (.istore 4, 2) := by decide +kernel
theorem dX0_countAsNear_13 : decode cX0_countAsNear 13 = .ok (.iconst 0, 1) := by decide +kernel
theorem dX0_countAsNear_14 : decode cX0_countAsNear 14 = .ok (.istore 5, 2) := by decide +kernel
theorem dX0_countAsNear_16 : decode cX0_countAsNear 16 = .ok (.iload 5, 2) := by decide +kernel
theorem dX0_countAsNear_18 : decode cX0_countAsNear 18 = .ok (.bipush 26, 2) := by decide +kernel
theorem dX0_countAsNear_20 : decode cX0_countAsNear 20 = .ok (.if_icmp .ge 37, 3) := by decide +kernel
theorem dX0_countAsNear_23 : decode cX0_countAsNear 23 = .ok (.aload_n 0, 1) := by decide +kernel
theorem dX0_countAsNear_24 : decode cX0_countAsNear 24 = .ok (.getfield 9, 3) := by decide +kernel
theorem dX0_countAsNear_27 : decode cX0_countAsNear 27 = .ok (.iload 5, 2) := by decide +kernel
theorem dX0_countAsNear_29 : decode cX0_countAsNear 29 = .ok (.iaload, 1) := by decide +kernel
theorem dX0_countAsNear_30 : decode cX0_countAsNear 30 = .ok (.ifCond .eq 21, 3) := by decide +kernel
theorem dX0_countAsNear_33 : decode cX0_countAsNear 33 = .ok (.aload_n 0, 1) := by decide +kernel
theorem dX0_countAsNear_34 : decode cX0_countAsNear 34 = .ok (.getfield 9, 3) := by decide +kernel
theorem dX0_countAsNear_37 : decode cX0_countAsNear 37 = .ok (.iload 5, 2) := by decide +kernel
theorem dX0_countAsNear_39 : decode cX0_countAsNear 39 = .ok (.iaload, 1) := by decide +kernel
theorem dX0_countAsNear_40 : decode cX0_countAsNear 40 = .ok (.iload_n 1, 1) := by decide +kernel
theorem dX0_countAsNear_41 : decode cX0_countAsNear 41 = .ok (.invokestatic 25, 3) := by decide +kernel
theorem dX0_countAsNear_44 : decode cX0_countAsNear 44 = .ok (.iload_n 3, 1) := by decide +kernel
theorem dX0_countAsNear_45 : decode cX0_countAsNear 45 = .ok (.if_icmp .ne 6, 3) := by decide +kernel
theorem dX0_countAsNear_48 : decode cX0_countAsNear 48 = .ok (.iinc 4 1, 3) := by decide +kernel
theorem dX0_countAsNear_51 : decode cX0_countAsNear 51 = .ok (.iinc 5 1, 3) := by decide +kernel
theorem dX0_countAsNear_54 : decode cX0_countAsNear 54 = .ok (.goto (-38), 3) := by decide +kernel
theorem dX0_countAsNear_57 : decode cX0_countAsNear 57 = .ok (.iload 4, 2) := by decide +kernel
theorem dX0_countAsNear_59 : decode cX0_countAsNear 59 = .ok (.ireturn, 1) := by decide +kernel
theorem dX0_leastBetweenTwo_0 : decode cX0_leastBetweenTwo 0 = .ok (.iconst (-1), 1) := by decide +kernel
theorem dX0_leastBetweenTwo_1 : decode cX0_leastBetweenTwo 1 = .ok (.istore_n 1, 1) := by decide +kernel
theorem dX0_leastBetweenTwo_2 : decode cX0_leastBetweenTwo 2 = .ok (.iconst 0, 1) := by decide +kernel
theorem dX0_leastBetweenTwo_3 : decode cX0_leastBetweenTwo 3 = .ok (.istore_n 2, 1) := by decide +kernel
theorem dX0_leastBetweenTwo_4 : decode cX0_leastBetweenTwo 4 = .ok (.iload_n 2, 1) := by decide +kernel
theorem dX0_leastBetweenTwo_5 : decode cX0_leastBetweenTwo 5 = .ok (.bipush 26, 2) := by decide +kernel
theorem dX0_leastBetweenTwo_7 : decode cX0_leastBetweenTwo 7 = .ok (.if_icmp .ge 70, 3) := by decide +kernel
theorem dX0_leastBetweenTwo_10 : decode cX0_leastBetweenTwo 10 = .ok (.iconst 0, 1) := by decide +kernel
theorem dX0_leastBetweenTwo_11 : decode cX0_leastBetweenTwo 11 = .ok (.istore_n 3, 1) := by decide +kernel
theorem dX0_leastBetweenTwo_12 : decode cX0_leastBetweenTwo 12 = .ok (.iload_n 3, 1) := by decide +kernel
theorem dX0_leastBetweenTwo_13 : decode cX0_leastBetweenTwo 13 = .ok (.iload_n 2, 1) := by decide +kernel
theorem dX0_leastBetweenTwo_14 : decode cX0_leastBetweenTwo 14 = .ok (.if_icmp .ge 57, 3) := by decide +kernel
theorem dX0_leastBetweenTwo_17 : decode cX0_leastBetweenTwo 17 = .ok (.aload_n 0, 1) := by decide +kernel
theorem dX0_leastBetweenTwo_18 : decode cX0_leastBetweenTwo 18 = .ok (.getfield 9, 3) := by decide +kernel
theorem dX0_leastBetweenTwo_21 : decode cX0_leastBetweenTwo 21 = .ok (.iload_n 2, 1) := by decide +kernel
theorem dX0_leastBetweenTwo_22 : decode cX0_leastBetweenTwo 22 = .ok (.iaload, 1) := by decide +kernel
theorem dX0_leastBetweenTwo_23 : decode cX0_leastBetweenTwo 23 = .ok (.aload_n 0, 1) := by decide +kernel
theorem dX0_leastBetweenTwo_24 : decode cX0_leastBetweenTwo 24 = .ok (.getfield 9, 3) := by decide +kernel
theorem dX0_leastBetweenTwo_27 : decode cX0_leastBetweenTwo 27 = .ok (.iload_n 3, 1) := by decide +kernel
theorem dX0_leastBetweenTwo_28 : decode cX0_leastBetweenTwo 28 = .ok (.iaload, 1) := by decide +kernel
theorem dX0_leastBetweenTwo_29 : decode cX0_leastBetweenTwo 29 = .ok (.invokestatic 25, 3) := by decide +kernel
theorem dX0_leastBetweenTwo_32 : decode cX0_leastBetweenTwo 32 = .ok (.istore 4, 2) := by decide +kernel
theorem dX0_leastBetweenTwo_34 : decode cX0_leastBetweenTwo 34 = .ok (.aload_n 0, 1) := by decide +kernel
theorem dX0_leastBetweenTwo_35 : decode cX0_leastBetweenTwo 35 = .ok (.getfield 9, 3) := by decide +kernel
theorem dX0_leastBetweenTwo_38 : decode cX0_leastBetweenTwo 38 = .ok (.iload_n 2, 1) := by decide +kernel
theorem dX0_leastBetweenTwo_39 : decode cX0_leastBetweenTwo 39 = .ok (.iaload, 1) := by decide +kernel
theorem dX0_leastBetweenTwo_40 : decode cX0_leastBetweenTwo 40 = .ok (.ifCond .eq 25, 3) := by decide +kernel
theorem dX0_leastBetweenTwo_43 : decode cX0_leastBetweenTwo 43 = .ok (.aload_n 0, 1) := by decide +kernel
theorem dX0_leastBetweenTwo_44 : decode cX0_leastBetweenTwo 44 = .ok (.getfield 9, 3) := by decide +kernel
theorem dX0_leastBetweenTwo_47 : decode cX0_leastBetweenTwo 47 = .ok (.iload_n 3, 1) := by decide +kernel
theorem dX0_leastBetweenTwo_48 : decode cX0_leastBetweenTwo 48 = .ok (.iaload, 1) := by decide +kernel
theorem dX0_leastBetweenTwo_49 : decode cX0_leastBetweenTwo 49 = .ok (.ifCond .eq 16, 3) := by decide +kernel
theorem dX0_leastBetweenTwo_52 : decode cX0_leastBetweenTwo 52 = .ok (.iload_n 1, 1) := by decide +kernel
theorem dX0_leastBetweenTwo_53 : decode cX0_leastBetweenTwo 53 = .ok (.ifCond .lt 9, 3) := by decide +kernel
theorem dX0_leastBetweenTwo_56 : decode cX0_leastBetweenTwo 56 = .ok (.iload 4, 2) := by decide +kernel
theorem dX0_leastBetweenTwo_58 : decode cX0_leastBetweenTwo 58 = .ok (.iload_n 1, 1) := by decide +kernel
theorem dX0_leastBetweenTwo_59 : decode cX0_leastBetweenTwo 59 = .ok (.if_icmp .ge 6, 3) := by decide +kernel
theorem dX0_leastBetweenTwo_62 : decode cX0_leastBetweenTwo 62 = .ok (.iload 4, 2) := by decide +kernel
theorem dX0_leastBetweenTwo_64 : decode cX0_leastBetweenTwo 64 = .ok (.istore_n 1, 1) := by decide +kernel
theorem dX0_leastBetweenTwo_65 : decode cX0_leastBetweenTwo 65 = .ok (.iinc 3 1, 3) := by decide +kernel
theorem dX0_leastBetweenTwo_68 : decode cX0_leastBetweenTwo 68 = .ok (.goto (-56), 3) := by decide +kernel
theorem dX0_leastBetweenTwo_71 : decode cX0_leastBetweenTwo 71 = .ok (.iinc 2 1, 3) := by decide +kernel
theorem dX0_leastBetweenTwo_74 : decode cX0_leastBetweenTwo 74 = .ok (.goto (-70), 3) := by decide +kernel
theorem dX0_leastBetweenTwo_77 : decode cX0_leastBetweenTwo 77 = .ok (.iload_n 1, 1) := by decide +kernel
theorem dX0_leastBetweenTwo_78 : decode cX0_leastBetweenTwo 78 = .ok (.ireturn, 1) := by decide +kernel
theorem dX0_signsThatStay_0 : decode cX0_signsThatStay 0 = .ok (.iconst 0, 1) := by decide +kernel
theorem dX0_signsThatStay_1 : decode cX0_signsThatStay 1 = .ok (.istore_n 2, 1) := by decide +kernel
theorem dX0_signsThatStay_2 : decode cX0_signsThatStay 2 = .ok (.iconst 0, 1) := by decide +kernel
theorem dX0_signsThatStay_3 : decode cX0_signsThatStay 3 = .ok (.istore_n 3, 1) := by decide +kernel
theorem dX0_signsThatStay_4 : decode cX0_signsThatStay 4 = .ok (.iload_n 3, 1) := by decide +kernel
theorem dX0_signsThatStay_5 : decode cX0_signsThatStay 5 = .ok (.bipush 26, 2) := by decide +kernel
theorem dX0_signsThatStay_7 : decode cX0_signsThatStay 7 = .ok (.if_icmp .ge 42, 3) := by decide +kernel
theorem dX0_signsThatStay_10 : decode cX0_signsThatStay 10 = .ok (.aload_n 0, 1) := by decide +kernel
theorem dX0_signsThatStay_11 : decode cX0_signsThatStay 11 = .ok (.getfield 9, 3) := by decide +kernel
theorem dX0_signsThatStay_14 : decode cX0_signsThatStay 14 = .ok (.iload_n 3, 1) := by decide +kernel
theorem dX0_signsThatStay_15 : decode cX0_signsThatStay 15 = .ok (.iaload, 1) := by decide +kernel
theorem dX0_signsThatStay_16 : decode cX0_signsThatStay 16 = .ok (.ifCond .eq 27, 3) := by decide +kernel
theorem dX0_signsThatStay_19 : decode cX0_signsThatStay 19 = .ok (.aload_n 0, 1) := by decide +kernel
theorem dX0_signsThatStay_20 : decode cX0_signsThatStay 20 = .ok (.aload_n 0, 1) := by decide +kernel
theorem dX0_signsThatStay_21 : decode cX0_signsThatStay 21 = .ok (.getfield 9, 3) := by decide +kernel
theorem dX0_signsThatStay_24 : decode cX0_signsThatStay 24 = .ok (.iload_n 3, 1) := by decide +kernel
theorem dX0_signsThatStay_25 : decode cX0_signsThatStay 25 = .ok (.iaload, 1) := by decide +kernel
theorem dX0_signsThatStay_26 : decode cX0_signsThatStay 26 = .ok (.iload_n 1, 1) := by decide +kernel
theorem dX0_signsThatStay_27 : decode cX0_signsThatStay 27 = .ok (.iconst (-1), 1) := by decide +kernel
theorem dX0_signsThatStay_28 : decode cX0_signsThatStay 28 = .ok (.ixor, 1) := by decide +kernel
theorem dX0_signsThatStay_29 : decode cX0_signsThatStay 29 = .ok (.iand, 1) := by decide +kernel
theorem dX0_signsThatStay_30 : decode cX0_signsThatStay 30 = .ok (.invokevirtual 33, 3) := by decide +kernel
theorem dX0_signsThatStay_33 : decode cX0_signsThatStay 33 = .ok (.iload_n 3, 1) := by decide +kernel
theorem dX0_signsThatStay_34 : decode cX0_signsThatStay 34 = .ok (.if_icmp .ne 9, 3) := by decide +kernel
theorem dX0_signsThatStay_37 : decode cX0_signsThatStay 37 = .ok (.iload_n 2, 1) := by decide +kernel
theorem dX0_signsThatStay_38 : decode cX0_signsThatStay 38 = .ok (.iconst 1, 1) := by decide +kernel
theorem dX0_signsThatStay_39 : decode cX0_signsThatStay 39 = .ok (.iload_n 3, 1) := by decide +kernel
theorem dX0_signsThatStay_40 : decode cX0_signsThatStay 40 = .ok (.ishl, 1) := by decide +kernel
theorem dX0_signsThatStay_41 : decode cX0_signsThatStay 41 = .ok (.ior, 1) := by decide +kernel
theorem dX0_signsThatStay_42 : decode cX0_signsThatStay 42 = .ok (.istore_n 2, 1) := by decide +kernel
theorem dX0_signsThatStay_43 : decode cX0_signsThatStay 43 = .ok (.iinc 3 1, 3) := by decide +kernel
theorem dX0_signsThatStay_46 : decode cX0_signsThatStay 46 = .ok (.goto (-42), 3) := by decide +kernel
theorem dX0_signsThatStay_49 : decode cX0_signsThatStay 49 = .ok (.iload_n 2, 1) := by decide +kernel
theorem dX0_signsThatStay_50 : decode cX0_signsThatStay 50 = .ok (.ireturn, 1) := by decide +kernel
theorem dX0_fewestToForge_0 : decode cX0_fewestToForge 0 = .ok (.aload_n 0, 1) := by decide +kernel
theorem dX0_fewestToForge_1 : decode cX0_fewestToForge 1 = .ok (.iload_n 1, 1) := by decide +kernel
theorem dX0_fewestToForge_2 : decode cX0_fewestToForge 2 = .ok (.invokevirtual 29, 3) := by decide +kernel
theorem dX0_fewestToForge_5 : decode cX0_fewestToForge 5 = .ok (.istore_n 3, 1) := by decide +kernel
theorem dX0_fewestToForge_6 : decode cX0_fewestToForge 6 = .ok (.aload_n 0, 1) := by decide +kernel
theorem dX0_fewestToForge_7 : decode cX0_fewestToForge 7 = .ok (.iload_n 2, 1) := by decide +kernel
theorem dX0_fewestToForge_8 : decode cX0_fewestToForge 8 = .ok (.invokevirtual 29, 3) := by decide +kernel
theorem dX0_fewestToForge_11 : decode cX0_fewestToForge 11 = .ok (.istore 4, 2) := by decide +kernel
theorem dX0_fewestToForge_13 : decode cX0_fewestToForge 13 = .ok (.aload_n 0, 1) := by decide +kernel
theorem dX0_fewestToForge_14 : decode cX0_fewestToForge 14 = .ok (.iload 4, 2) := by decide +kernel
theorem dX0_fewestToForge_16 : decode cX0_fewestToForge 16 = .ok (.invokevirtual 33, 3) := by decide +kernel
theorem dX0_fewestToForge_19 : decode cX0_fewestToForge 19 = .ok (.iload_n 2, 1) := by decide +kernel
theorem dX0_fewestToForge_20 : decode cX0_fewestToForge 20 = .ok (.if_icmp .eq 5, 3) := by decide +kernel
theorem dX0_fewestToForge_23 : decode cX0_fewestToForge 23 = .ok (.iconst (-1), 1) := by decide +kernel
theorem dX0_fewestToForge_24 : decode cX0_fewestToForge 24 = .ok (.ireturn, 1) := by decide +kernel
theorem dX0_fewestToForge_25 : decode cX0_fewestToForge 25 = .ok (.iload_n 3, 1) := by decide +kernel
theorem dX0_fewestToForge_26 : decode cX0_fewestToForge 26 = .ok (.iload 4, 2) := by decide +kernel
theorem dX0_fewestToForge_28 : decode cX0_fewestToForge 28 = .ok (.ixor, 1) := by decide +kernel
theorem dX0_fewestToForge_29 : decode cX0_fewestToForge 29 = .ok (.istore 5, 2) := by decide +kernel
theorem dX0_fewestToForge_31 : decode cX0_fewestToForge 31 = .ok (.iload 5, 2) := by decide +kernel
theorem dX0_fewestToForge_33 : decode cX0_fewestToForge 33 = .ok (.invokestatic 36, 3) := by decide +kernel
theorem dX0_fewestToForge_36 : decode cX0_fewestToForge 36 = .ok (.istore 6, 2) := by decide +kernel
theorem dX0_fewestToForge_38 : decode cX0_fewestToForge 38 = .ok (.iconst 0, 1) := by decide +kernel
theorem dX0_fewestToForge_39 : decode cX0_fewestToForge 39 = .ok (.istore 7, 2) := by decide +kernel
theorem dX0_fewestToForge_41 : decode cX0_fewestToForge 41 = .ok (.iconst 0, 1) := by decide +kernel
theorem dX0_fewestToForge_42 : decode cX0_fewestToForge 42 = .ok (.istore 8, 2) := by decide +kernel
theorem dX0_fewestToForge_44 : decode cX0_fewestToForge 44 = .ok (.iload 8, 2) := by decide +kernel
theorem dX0_fewestToForge_46 : decode cX0_fewestToForge 46 = .ok (.sipush 4095, 3) := by decide +kernel
theorem dX0_fewestToForge_49 : decode cX0_fewestToForge 49 = .ok (.if_icmp .gt 55, 3) := by decide +kernel
theorem dX0_fewestToForge_52 : decode cX0_fewestToForge 52 = .ok (.iload 7, 2) := by decide +kernel
theorem dX0_fewestToForge_54 : decode cX0_fewestToForge 54 = .ok (.invokestatic 36, 3) := by decide +kernel
theorem dX0_fewestToForge_57 : decode cX0_fewestToForge 57 = .ok (.iload 6, 2) := by decide +kernel
theorem dX0_fewestToForge_59 : decode cX0_fewestToForge 59 = .ok (.if_icmp .ge 22, 3) := by decide +kernel
theorem dX0_fewestToForge_62 : decode cX0_fewestToForge 62 = .ok (.aload_n 0, 1) := by decide +kernel
theorem dX0_fewestToForge_63 : decode cX0_fewestToForge 63 = .ok (.iload_n 3, 1) := by decide +kernel
theorem dX0_fewestToForge_64 : decode cX0_fewestToForge 64 = .ok (.iload 7, 2) := by decide +kernel
theorem dX0_fewestToForge_66 : decode cX0_fewestToForge 66 = .ok (.ixor, 1) := by decide +kernel
theorem dX0_fewestToForge_67 : decode cX0_fewestToForge 67 = .ok (.iload_n 2, 1) := by decide +kernel
theorem dX0_fewestToForge_68 : decode cX0_fewestToForge 68 = .ok (.invokevirtual 41, 3) := by decide +kernel
theorem dX0_fewestToForge_71 : decode cX0_fewestToForge 71 = .ok (.ifCond .eq 10, 3) := by decide +kernel
theorem dX0_fewestToForge_74 : decode cX0_fewestToForge 74 = .ok (.iload 7, 2) := by decide +kernel
theorem dX0_fewestToForge_76 : decode cX0_fewestToForge 76 = .ok (.invokestatic 36, 3) := by decide +kernel
theorem dX0_fewestToForge_79 : decode cX0_fewestToForge 79 = .ok (.istore 6, 2) := by decide +kernel
theorem dX0_fewestToForge_81 : decode cX0_fewestToForge 81 = .ok (.iload 7, 2) := by decide +kernel
theorem dX0_fewestToForge_83 : decode cX0_fewestToForge 83 = .ok (.iload 5, 2) := by decide +kernel
theorem dX0_fewestToForge_85 : decode cX0_fewestToForge 85 = .ok (.invokestatic 45, 3) := by decide +kernel
theorem dX0_fewestToForge_88 : decode cX0_fewestToForge 88 = .ok (.istore 7, 2) := by decide +kernel
theorem dX0_fewestToForge_90 : decode cX0_fewestToForge 90 = .ok (.iload 7, 2) := by decide +kernel
theorem dX0_fewestToForge_92 : decode cX0_fewestToForge 92 = .ok (.ifCond .ne 6, 3) := by decide +kernel
theorem dX0_fewestToForge_95 : decode cX0_fewestToForge 95 = .ok (.goto 9, 3) := by decide +kernel
theorem dX0_fewestToForge_98 : decode cX0_fewestToForge 98 = .ok (.iinc 8 1, 3) := by decide +kernel
theorem dX0_fewestToForge_101 : decode cX0_fewestToForge 101 = .ok (.goto (-57), 3) := by decide +kernel
theorem dX0_fewestToForge_104 : decode cX0_fewestToForge 104 = .ok (.iload 6, 2) := by decide +kernel
theorem dX0_fewestToForge_106 : decode cX0_fewestToForge 106 = .ok (.ireturn, 1) := by decide +kernel
theorem dX0_isReadAs_0 : decode cX0_isReadAs 0 = .ok (.aload_n 0, 1) := by decide +kernel
theorem dX0_isReadAs_1 : decode cX0_isReadAs 1 = .ok (.iload_n 2, 1) := by decide +kernel
theorem dX0_isReadAs_2 : decode cX0_isReadAs 2 = .ok (.invokevirtual 29, 3) := by decide +kernel
theorem dX0_isReadAs_5 : decode cX0_isReadAs 5 = .ok (.iload_n 1, 1) := by decide +kernel
theorem dX0_isReadAs_6 : decode cX0_isReadAs 6 = .ok (.invokestatic 25, 3) := by decide +kernel
theorem dX0_isReadAs_9 : decode cX0_isReadAs 9 = .ok (.istore_n 3, 1) := by decide +kernel
theorem dX0_isReadAs_10 : decode cX0_isReadAs 10 = .ok (.iconst 0, 1) := by decide +kernel
theorem dX0_isReadAs_11 : decode cX0_isReadAs 11 = .ok (.istore 4, 2) := by decide +kernel
theorem dX0_isReadAs_13 : decode cX0_isReadAs 13 = .ok (.iload 4, 2) := by decide +kernel
theorem dX0_isReadAs_15 : decode cX0_isReadAs 15 = .ok (.bipush 26, 2) := by decide +kernel
theorem dX0_isReadAs_17 : decode cX0_isReadAs 17 = .ok (.if_icmp .ge 52, 3) := by decide +kernel
theorem dX0_isReadAs_20 : decode cX0_isReadAs 20 = .ok (.iload 4, 2) := by decide +kernel
theorem dX0_isReadAs_22 : decode cX0_isReadAs 22 = .ok (.iload_n 2, 1) := by decide +kernel
theorem dX0_isReadAs_23 : decode cX0_isReadAs 23 = .ok (.if_icmp .ge 9, 3) := by decide +kernel
theorem dX0_isReadAs_26 : decode cX0_isReadAs 26 = .ok (.iload_n 3, 1) := by decide +kernel
theorem dX0_isReadAs_27 : decode cX0_isReadAs 27 = .ok (.iconst 1, 1) := by decide +kernel
theorem dX0_isReadAs_28 : decode cX0_isReadAs 28 = .ok (.iadd, 1) := by decide +kernel
theorem dX0_isReadAs_29 : decode cX0_isReadAs 29 = .ok (.goto 4, 3) := by decide +kernel
theorem dX0_isReadAs_32 : decode cX0_isReadAs 32 = .ok (.iload_n 3, 1) := by decide +kernel
theorem dX0_isReadAs_33 : decode cX0_isReadAs 33 = .ok (.istore 5, 2) := by decide +kernel
theorem dX0_isReadAs_35 : decode cX0_isReadAs 35 = .ok (.aload_n 0, 1) := by decide +kernel
theorem dX0_isReadAs_36 : decode cX0_isReadAs 36 = .ok (.getfield 9, 3) := by decide +kernel
theorem dX0_isReadAs_39 : decode cX0_isReadAs 39 = .ok (.iload 4, 2) := by decide +kernel
theorem dX0_isReadAs_41 : decode cX0_isReadAs 41 = .ok (.iaload, 1) := by decide +kernel
theorem dX0_isReadAs_42 : decode cX0_isReadAs 42 = .ok (.ifCond .eq 21, 3) := by decide +kernel
theorem dX0_isReadAs_45 : decode cX0_isReadAs 45 = .ok (.aload_n 0, 1) := by decide +kernel
theorem dX0_isReadAs_46 : decode cX0_isReadAs 46 = .ok (.getfield 9, 3) := by decide +kernel
theorem dX0_isReadAs_49 : decode cX0_isReadAs 49 = .ok (.iload 4, 2) := by decide +kernel
theorem dX0_isReadAs_51 : decode cX0_isReadAs 51 = .ok (.iaload, 1) := by decide +kernel
theorem dX0_isReadAs_52 : decode cX0_isReadAs 52 = .ok (.iload_n 1, 1) := by decide +kernel
theorem dX0_isReadAs_53 : decode cX0_isReadAs 53 = .ok (.invokestatic 25, 3) := by decide +kernel
theorem dX0_isReadAs_56 : decode cX0_isReadAs 56 = .ok (.iload 5, 2) := by decide +kernel
theorem dX0_isReadAs_58 : decode cX0_isReadAs 58 = .ok (.if_icmp .ge 5, 3) := by decide +kernel
theorem dX0_isReadAs_61 : decode cX0_isReadAs 61 = .ok (.iconst 0, 1) := by decide +kernel
theorem dX0_isReadAs_62 : decode cX0_isReadAs 62 = .ok (.ireturn, 1) := by decide +kernel
theorem dX0_isReadAs_63 : decode cX0_isReadAs 63 = .ok (.iinc 4 1, 3) := by decide +kernel
theorem dX0_isReadAs_66 : decode cX0_isReadAs 66 = .ok (.goto (-53), 3) := by decide +kernel
theorem dX0_isReadAs_69 : decode cX0_isReadAs 69 = .ok (.iconst 1, 1) := by decide +kernel
theorem dX0_isReadAs_70 : decode cX0_isReadAs 70 = .ok (.ireturn, 1) := by decide +kernel
theorem dX0_signsLeftAs_0 : decode cX0_signsLeftAs 0 = .ok (.iconst 0, 1) := by decide +kernel
theorem dX0_signsLeftAs_1 : decode cX0_signsLeftAs 1 = .ok (.istore_n 3, 1) := by decide +kernel
theorem dX0_signsLeftAs_2 : decode cX0_signsLeftAs 2 = .ok (.iconst 0, 1) := by decide +kernel
theorem dX0_signsLeftAs_3 : decode cX0_signsLeftAs 3 = .ok (.istore 4, 2) := by decide +kernel
theorem dX0_signsLeftAs_5 : decode cX0_signsLeftAs 5 = .ok (.iload 4, 2) := by decide +kernel
theorem dX0_signsLeftAs_7 : decode cX0_signsLeftAs 7 = .ok (.bipush 26, 2) := by decide +kernel
theorem dX0_signsLeftAs_9 : decode cX0_signsLeftAs 9 = .ok (.if_icmp .ge 82, 3) := by decide +kernel
theorem dX0_signsLeftAs_12 : decode cX0_signsLeftAs 12 = .ok (.iload_n 1, 1) := by decide +kernel
theorem dX0_signsLeftAs_13 : decode cX0_signsLeftAs 13 = .ok (.aload_n 0, 1) := by decide +kernel
theorem dX0_signsLeftAs_14 : decode cX0_signsLeftAs 14 = .ok (.getfield 9, 3) := by decide +kernel
theorem dX0_signsLeftAs_17 : decode cX0_signsLeftAs 17 = .ok (.iload 4, 2) := by decide +kernel
theorem dX0_signsLeftAs_19 : decode cX0_signsLeftAs 19 = .ok (.iaload, 1) := by decide +kernel
theorem dX0_signsLeftAs_20 : decode cX0_signsLeftAs 20 = .ok (.iconst (-1), 1) := by decide +kernel
theorem dX0_signsLeftAs_21 : decode cX0_signsLeftAs 21 = .ok (.ixor, 1) := by decide +kernel
theorem dX0_signsLeftAs_22 : decode cX0_signsLeftAs 22 = .ok (.iand, 1) := by decide +kernel
theorem dX0_signsLeftAs_23 : decode cX0_signsLeftAs 23 = .ok (.ifCond .ne 7, 3) := by decide +kernel
theorem dX0_signsLeftAs_26 : decode cX0_signsLeftAs 26 = .ok (.iconst 1, 1) := by decide +kernel
theorem dX0_signsLeftAs_27 : decode cX0_signsLeftAs 27 = .ok (.goto 4, 3) := by decide +kernel
theorem dX0_signsLeftAs_30 : decode cX0_signsLeftAs 30 = .ok (.iconst 0, 1) := by decide +kernel
theorem dX0_signsLeftAs_31 : decode cX0_signsLeftAs 31 = .ok (.istore 5, 2) := by decide +kernel
theorem dX0_signsLeftAs_33 : decode cX0_signsLeftAs 33 = .ok (.aload_n 0, 1) := by decide +kernel
theorem dX0_signsLeftAs_34 : decode cX0_signsLeftAs 34 = .ok (.getfield 9, 3) := by decide +kernel
theorem dX0_signsLeftAs_37 : decode cX0_signsLeftAs 37 = .ok (.iload 4, 2) := by decide +kernel
theorem dX0_signsLeftAs_39 : decode cX0_signsLeftAs 39 = .ok (.iaload, 1) := by decide +kernel
theorem dX0_signsLeftAs_40 : decode cX0_signsLeftAs 40 = .ok (.iload_n 1, 1) := by decide +kernel
theorem dX0_signsLeftAs_41 : decode cX0_signsLeftAs 41 = .ok (.iconst (-1), 1) := by decide +kernel
theorem dX0_signsLeftAs_42 : decode cX0_signsLeftAs 42 = .ok (.ixor, 1) := by decide +kernel
theorem dX0_signsLeftAs_43 : decode cX0_signsLeftAs 43 = .ok (.iand, 1) := by decide +kernel
theorem dX0_signsLeftAs_44 : decode cX0_signsLeftAs 44 = .ok (.iload_n 2, 1) := by decide +kernel
theorem dX0_signsLeftAs_45 : decode cX0_signsLeftAs 45 = .ok (.iconst (-1), 1) := by decide +kernel
theorem dX0_signsLeftAs_46 : decode cX0_signsLeftAs 46 = .ok (.ixor, 1) := by decide +kernel
theorem dX0_signsLeftAs_47 : decode cX0_signsLeftAs 47 = .ok (.iand, 1) := by decide +kernel
theorem dX0_signsLeftAs_48 : decode cX0_signsLeftAs 48 = .ok (.ifCond .ne 7, 3) := by decide +kernel
theorem dX0_signsLeftAs_51 : decode cX0_signsLeftAs 51 = .ok (.iconst 1, 1) := by decide +kernel
theorem dX0_signsLeftAs_52 : decode cX0_signsLeftAs 52 = .ok (.goto 4, 3) := by decide +kernel
theorem dX0_signsLeftAs_55 : decode cX0_signsLeftAs 55 = .ok (.iconst 0, 1) := by decide +kernel
theorem dX0_signsLeftAs_56 : decode cX0_signsLeftAs 56 = .ok (.istore 6, 2) := by decide +kernel
theorem dX0_signsLeftAs_58 : decode cX0_signsLeftAs 58 = .ok (.aload_n 0, 1) := by decide +kernel
theorem dX0_signsLeftAs_59 : decode cX0_signsLeftAs 59 = .ok (.getfield 9, 3) := by decide +kernel
theorem dX0_signsLeftAs_62 : decode cX0_signsLeftAs 62 = .ok (.iload 4, 2) := by decide +kernel
theorem dX0_signsLeftAs_64 : decode cX0_signsLeftAs 64 = .ok (.iaload, 1) := by decide +kernel
theorem dX0_signsLeftAs_65 : decode cX0_signsLeftAs 65 = .ok (.ifCond .eq 20, 3) := by decide +kernel
theorem dX0_signsLeftAs_68 : decode cX0_signsLeftAs 68 = .ok (.iload 5, 2) := by decide +kernel
theorem dX0_signsLeftAs_70 : decode cX0_signsLeftAs 70 = .ok (.ifCond .eq 15, 3) := by decide +kernel
theorem dX0_signsLeftAs_73 : decode cX0_signsLeftAs 73 = .ok (.iload 6, 2) := by decide +kernel
theorem dX0_signsLeftAs_75 : decode cX0_signsLeftAs 75 = .ok (.ifCond .eq 10, 3) := by decide +kernel
theorem dX0_signsLeftAs_78 : decode cX0_signsLeftAs 78 = .ok (.iload_n 3, 1) := by decide +kernel
theorem dX0_signsLeftAs_79 : decode cX0_signsLeftAs 79 = .ok (.iconst 1, 1) := by decide +kernel
theorem dX0_signsLeftAs_80 : decode cX0_signsLeftAs 80 = .ok (.iload 4, 2) := by decide +kernel
theorem dX0_signsLeftAs_82 : decode cX0_signsLeftAs 82 = .ok (.ishl, 1) := by decide +kernel
theorem dX0_signsLeftAs_83 : decode cX0_signsLeftAs 83 = .ok (.ior, 1) := by decide +kernel
theorem dX0_signsLeftAs_84 : decode cX0_signsLeftAs 84 = .ok (.istore_n 3, 1) := by decide +kernel
theorem dX0_signsLeftAs_85 : decode cX0_signsLeftAs 85 = .ok (.iinc 4 1, 3) := by decide +kernel
theorem dX0_signsLeftAs_88 : decode cX0_signsLeftAs 88 = .ok (.goto (-83), 3) := by decide +kernel
theorem dX0_signsLeftAs_91 : decode cX0_signsLeftAs 91 = .ok (.iload_n 3, 1) := by decide +kernel
theorem dX0_signsLeftAs_92 : decode cX0_signsLeftAs 92 = .ok (.ireturn, 1) := by decide +kernel
theorem dX0_cheapest_0 : decode cX0_cheapest 0 = .ok (.iconst (-1), 1) := by decide +kernel
theorem dX0_cheapest_1 : decode cX0_cheapest 1 = .ok (.istore_n 2, 1) := by decide +kernel
theorem dX0_cheapest_2 : decode cX0_cheapest 2 = .ok (.iconst 0, 1) := by decide +kernel
theorem dX0_cheapest_3 : decode cX0_cheapest 3 = .ok (.istore_n 3, 1) := by decide +kernel
theorem dX0_cheapest_4 : decode cX0_cheapest 4 = .ok (.iconst 0, 1) := by decide +kernel
theorem dX0_cheapest_5 : decode cX0_cheapest 5 = .ok (.istore 4, 2) := by decide +kernel
theorem dX0_cheapest_7 : decode cX0_cheapest 7 = .ok (.iload 4, 2) := by decide +kernel
theorem dX0_cheapest_9 : decode cX0_cheapest 9 = .ok (.bipush 26, 2) := by decide +kernel
theorem dX0_cheapest_11 : decode cX0_cheapest 11 = .ok (.if_icmp .ge 48, 3) := by decide +kernel
theorem dX0_cheapest_14 : decode cX0_cheapest 14 = .ok (.iload_n 1, 1) := by decide +kernel
theorem dX0_cheapest_15 : decode cX0_cheapest 15 = .ok (.aload_n 0, 1) := by decide +kernel
theorem dX0_cheapest_16 : decode cX0_cheapest 16 = .ok (.getfield 9, 3) := by decide +kernel
theorem dX0_cheapest_19 : decode cX0_cheapest 19 = .ok (.iload 4, 2) := by decide +kernel
theorem dX0_cheapest_21 : decode cX0_cheapest 21 = .ok (.iaload, 1) := by decide +kernel
theorem dX0_cheapest_22 : decode cX0_cheapest 22 = .ok (.invokestatic 48, 3) := by decide +kernel
theorem dX0_cheapest_25 : decode cX0_cheapest 25 = .ok (.istore 5, 2) := by decide +kernel
theorem dX0_cheapest_27 : decode cX0_cheapest 27 = .ok (.aload_n 0, 1) := by decide +kernel
theorem dX0_cheapest_28 : decode cX0_cheapest 28 = .ok (.getfield 9, 3) := by decide +kernel
theorem dX0_cheapest_31 : decode cX0_cheapest 31 = .ok (.iload 4, 2) := by decide +kernel
theorem dX0_cheapest_33 : decode cX0_cheapest 33 = .ok (.iaload, 1) := by decide +kernel
theorem dX0_cheapest_34 : decode cX0_cheapest 34 = .ok (.ifCond .eq 19, 3) := by decide +kernel
theorem dX0_cheapest_37 : decode cX0_cheapest 37 = .ok (.iload_n 2, 1) := by decide +kernel
theorem dX0_cheapest_38 : decode cX0_cheapest 38 = .ok (.ifCond .lt 9, 3) := by decide +kernel
theorem dX0_cheapest_41 : decode cX0_cheapest 41 = .ok (.iload 5, 2) := by decide +kernel
theorem dX0_cheapest_43 : decode cX0_cheapest 43 = .ok (.iload_n 3, 1) := by decide +kernel
theorem dX0_cheapest_44 : decode cX0_cheapest 44 = .ok (.if_icmp .ge 9, 3) := by decide +kernel
theorem dX0_cheapest_47 : decode cX0_cheapest 47 = .ok (.iload 5, 2) := by decide +kernel
theorem dX0_cheapest_49 : decode cX0_cheapest 49 = .ok (.istore_n 3, 1) := by decide +kernel
theorem dX0_cheapest_50 : decode cX0_cheapest 50 = .ok (.iload 4, 2) := by decide +kernel
theorem dX0_cheapest_52 : decode cX0_cheapest 52 = .ok (.istore_n 2, 1) := by decide +kernel
theorem dX0_cheapest_53 : decode cX0_cheapest 53 = .ok (.iinc 4 1, 3) := by decide +kernel
theorem dX0_cheapest_56 : decode cX0_cheapest 56 = .ok (.goto (-49), 3) := by decide +kernel
theorem dX0_cheapest_59 : decode cX0_cheapest 59 = .ok (.iload_n 2, 1) := by decide +kernel
theorem dX0_cheapest_60 : decode cX0_cheapest 60 = .ok (.ireturn, 1) := by decide +kernel
theorem dX1_init_0 : decode cX1_init 0 = .ok (.aload_n 0, 1) := by decide +kernel
theorem dX1_init_1 : decode cX1_init 1 = .ok (.invokespecial 1, 3) := by decide +kernel
theorem dX1_init_4 : decode cX1_init 4 = .ok (.aload_n 0, 1) := by decide +kernel
theorem dX1_init_5 : decode cX1_init 5 = .ok (.bipush 12, 2) := by decide +kernel
theorem dX1_init_7 : decode cX1_init 7 = .ok (.newarray .int, 2) := by decide +kernel
theorem dX1_init_9 : decode cX1_init 9 = .ok (.putfield 9, 3) := by decide +kernel
theorem dX1_init_12 : decode cX1_init 12 = .ok (.aload_n 0, 1) := by decide +kernel
theorem dX1_init_13 : decode cX1_init 13 = .ok (.bipush 12, 2) := by decide +kernel
theorem dX1_init_15 : decode cX1_init 15 = .ok (.newarray .int, 2) := by decide +kernel
theorem dX1_init_17 : decode cX1_init 17 = .ok (.putfield 15, 3) := by decide +kernel
theorem dX1_init_20 : decode cX1_init 20 = .ok (.return_, 1) := by decide +kernel
theorem dX1_choose_0 : decode cX1_choose 0 = .ok (.aload_n 1, 1) := by decide +kernel
theorem dX1_choose_1 : decode cX1_choose 1 = .ok (.getfield 18, 3) := by decide +kernel
theorem dX1_choose_4 : decode cX1_choose 4 = .ok (.istore_n 3, 1) := by decide +kernel
theorem dX1_choose_5 : decode cX1_choose 5 = .ok (.iconst 0, 1) := by decide +kernel
theorem dX1_choose_6 : decode cX1_choose 6 = .ok (.istore 4, 2) := by decide +kernel
theorem dX1_choose_8 : decode cX1_choose 8 = .ok (.iload 4, 2) := by decide +kernel
theorem dX1_choose_10 : decode cX1_choose 10 = .ok (.iload_n 3, 1) := by decide +kernel
theorem dX1_choose_11 : decode cX1_choose 11 = .ok (.if_icmp .ge 35, 3) := by decide +kernel
theorem dX1_choose_14 : decode cX1_choose 14 = .ok (.aload_n 0, 1) := by decide +kernel
theorem dX1_choose_15 : decode cX1_choose 15 = .ok (.getfield 9, 3) := by decide +kernel
theorem dX1_choose_18 : decode cX1_choose 18 = .ok (.iload 4, 2) := by decide +kernel
theorem dX1_choose_20 : decode cX1_choose 20 = .ok (.aload_n 1, 1) := by decide +kernel
theorem dX1_choose_21 : decode cX1_choose 21 = .ok (.iload 4, 2) := by decide +kernel
theorem dX1_choose_23 : decode cX1_choose 23 = .ok (.invokevirtual 22, 3) := by decide +kernel
theorem dX1_choose_26 : decode cX1_choose 26 = .ok (.iastore, 1) := by decide +kernel
theorem dX1_choose_27 : decode cX1_choose 27 = .ok (.aload_n 0, 1) := by decide +kernel
theorem dX1_choose_28 : decode cX1_choose 28 = .ok (.getfield 15, 3) := by decide +kernel
theorem dX1_choose_31 : decode cX1_choose 31 = .ok (.iload 4, 2) := by decide +kernel
theorem dX1_choose_33 : decode cX1_choose 33 = .ok (.aload_n 1, 1) := by decide +kernel
theorem dX1_choose_34 : decode cX1_choose 34 = .ok (.iload 4, 2) := by decide +kernel
theorem dX1_choose_36 : decode cX1_choose 36 = .ok (.invokevirtual 26, 3) := by decide +kernel
theorem dX1_choose_39 : decode cX1_choose 39 = .ok (.iastore, 1) := by decide +kernel
theorem dX1_choose_40 : decode cX1_choose 40 = .ok (.iinc 4 1, 3) := by decide +kernel
theorem dX1_choose_43 : decode cX1_choose 43 = .ok (.goto (-35), 3) := by decide +kernel
theorem dX1_choose_46 : decode cX1_choose 46 = .ok (.aload_n 0, 1) := by decide +kernel
theorem dX1_choose_47 : decode cX1_choose 47 = .ok (.iconst 0, 1) := by decide +kernel
theorem dX1_choose_48 : decode cX1_choose 48 = .ok (.putfield 29, 3) := by decide +kernel
theorem dX1_choose_51 : decode cX1_choose 51 = .ok (.aload_n 0, 1) := by decide +kernel
theorem dX1_choose_52 : decode cX1_choose 52 = .ok (.iconst 0, 1) := by decide +kernel
theorem dX1_choose_53 : decode cX1_choose 53 = .ok (.putfield 32, 3) := by decide +kernel
theorem dX1_choose_56 : decode cX1_choose 56 = .ok (.iconst 0, 1) := by decide +kernel
theorem dX1_choose_57 : decode cX1_choose 57 = .ok (.istore 4, 2) := by decide +kernel
theorem dX1_choose_59 : decode cX1_choose 59 = .ok (.iconst 0, 1) := by decide +kernel
theorem dX1_choose_60 : decode cX1_choose 60 = .ok (.istore 5, 2) := by decide +kernel
theorem dX1_choose_62 : decode cX1_choose 62 = .ok (.iconst 0, 1) := by decide +kernel
theorem dX1_choose_63 : decode cX1_choose 63 = .ok (.istore 6, 2) := by decide +kernel
theorem dX1_choose_65 : decode cX1_choose 65 = .ok (.iconst 1, 1) := by decide +kernel
theorem dX1_choose_66 : decode cX1_choose 66 = .ok (.istore 7, 2) := by decide +kernel
theorem dX1_choose_68 : decode cX1_choose 68 = .ok (.iload 7, 2) := by decide +kernel
theorem dX1_choose_70 : decode cX1_choose 70 = .ok (.iconst 1, 1) := by decide +kernel
theorem dX1_choose_71 : decode cX1_choose 71 = .ok (.iload_n 3, 1) := by decide +kernel
theorem dX1_choose_72 : decode cX1_choose 72 = .ok (.ishl, 1) := by decide +kernel
theorem dX1_choose_73 : decode cX1_choose 73 = .ok (.if_icmp .ge 86, 3) := by decide +kernel
theorem dX1_choose_76 : decode cX1_choose 76 = .ok (.iload 7, 2) := by decide +kernel
theorem dX1_choose_78 : decode cX1_choose 78 = .ok (.invokestatic 35, 3) := by decide +kernel
theorem dX1_choose_81 : decode cX1_choose 81 = .ok (.istore 8, 2) := by decide +kernel
theorem dX1_choose_83 : decode cX1_choose 83 = .ok (.iload 4, 2) := by decide +kernel
theorem dX1_choose_85 : decode cX1_choose 85 = .ok (.iconst 1, 1) := by decide +kernel
theorem dX1_choose_86 : decode cX1_choose 86 = .ok (.iload 8, 2) := by decide +kernel
theorem dX1_choose_88 : decode cX1_choose 88 = .ok (.ishl, 1) := by decide +kernel
theorem dX1_choose_89 : decode cX1_choose 89 = .ok (.ixor, 1) := by decide +kernel
theorem dX1_choose_90 : decode cX1_choose 90 = .ok (.istore 4, 2) := by decide +kernel
theorem dX1_choose_92 : decode cX1_choose 92 = .ok (.iload 4, 2) := by decide +kernel
theorem dX1_choose_94 : decode cX1_choose 94 = .ok (.iload 8, 2) := by decide +kernel
theorem dX1_choose_96 : decode cX1_choose 96 = .ok (.ishr, 1) := by decide +kernel
theorem dX1_choose_97 : decode cX1_choose 97 = .ok (.iconst 1, 1) := by decide +kernel
theorem dX1_choose_98 : decode cX1_choose 98 = .ok (.iand, 1) := by decide +kernel
theorem dX1_choose_99 : decode cX1_choose 99 = .ok (.ifCond .eq 7, 3) := by decide +kernel
theorem dX1_choose_102 : decode cX1_choose 102 = .ok (.iconst 1, 1) := by decide +kernel
theorem dX1_choose_103 : decode cX1_choose 103 = .ok (.goto 4, 3) := by decide +kernel
theorem dX1_choose_106 : decode cX1_choose 106 = .ok (.iconst (-1), 1) := by decide +kernel
theorem dX1_choose_107 : decode cX1_choose 107 = .ok (.istore 9, 2) := by decide +kernel
theorem dX1_choose_109 : decode cX1_choose 109 = .ok (.iload 5, 2) := by decide +kernel
theorem dX1_choose_111 : decode cX1_choose 111 = .ok (.iload 9, 2) := by decide +kernel
theorem dX1_choose_113 : decode cX1_choose 113 = .ok (.aload_n 0, 1) := by decide +kernel
theorem dX1_choose_114 : decode cX1_choose 114 = .ok (.getfield 9, 3) := by decide +kernel
theorem dX1_choose_117 : decode cX1_choose 117 = .ok (.iload 8, 2) := by decide +kernel
theorem dX1_choose_119 : decode cX1_choose 119 = .ok (.iaload, 1) := by decide +kernel
theorem dX1_choose_120 : decode cX1_choose 120 = .ok (.imul, 1) := by decide +kernel
theorem dX1_choose_121 : decode cX1_choose 121 = .ok (.iadd, 1) := by decide +kernel
theorem dX1_choose_122 : decode cX1_choose 122 = .ok (.istore 5, 2) := by decide +kernel
theorem dX1_choose_124 : decode cX1_choose 124 = .ok (.iload 6, 2) := by decide +kernel
theorem dX1_choose_126 : decode cX1_choose 126 = .ok (.iload 9, 2) := by decide +kernel
theorem dX1_choose_128 : decode cX1_choose 128 = .ok (.aload_n 0, 1) := by decide +kernel
theorem dX1_choose_129 : decode cX1_choose 129 = .ok (.getfield 15, 3) := by decide +kernel
theorem dX1_choose_132 : decode cX1_choose 132 = .ok (.iload 8, 2) := by decide +kernel
theorem dX1_choose_134 : decode cX1_choose 134 = .ok (.iaload, 1) := by decide +kernel
theorem dX1_choose_135 : decode cX1_choose 135 = .ok (.imul, 1) := by decide +kernel
theorem dX1_choose_136 : decode cX1_choose 136 = .ok (.iadd, 1) := by decide +kernel
theorem dX1_choose_137 : decode cX1_choose 137 = .ok (.istore 6, 2) := by decide +kernel
theorem dX1_choose_139 : decode cX1_choose 139 = .ok (.iload 5, 2) := by decide +kernel
theorem dX1_choose_141 : decode cX1_choose 141 = .ok (.iload_n 2, 1) := by decide +kernel
theorem dX1_choose_142 : decode cX1_choose 142 = .ok (.if_icmp .gt 11, 3) := by decide +kernel
theorem dX1_choose_145 : decode cX1_choose 145 = .ok (.aload_n 0, 1) := by decide +kernel
theorem dX1_choose_146 : decode cX1_choose 146 = .ok (.iload 4, 2) := by decide +kernel
theorem dX1_choose_148 : decode cX1_choose 148 = .ok (.iload 6, 2) := by decide +kernel
theorem dX1_choose_150 : decode cX1_choose 150 = .ok (.invokevirtual 40, 3) := by decide +kernel
theorem dX1_choose_153 : decode cX1_choose 153 = .ok (.iinc 7 1, 3) := by decide +kernel
theorem dX1_choose_156 : decode cX1_choose 156 = .ok (.goto (-88), 3) := by decide +kernel
theorem dX1_choose_159 : decode cX1_choose 159 = .ok (.return_, 1) := by decide +kernel
theorem dX1_offer_0 : decode cX1_offer 0 = .ok (.iload_n 2, 1) := by decide +kernel
theorem dX1_offer_1 : decode cX1_offer 1 = .ok (.aload_n 0, 1) := by decide +kernel
theorem dX1_offer_2 : decode cX1_offer 2 = .ok (.getfield 32, 3) := by decide +kernel
theorem dX1_offer_5 : decode cX1_offer 5 = .ok (.if_icmp .gt 19, 3) := by decide +kernel
theorem dX1_offer_8 : decode cX1_offer 8 = .ok (.iload_n 2, 1) := by decide +kernel
theorem dX1_offer_9 : decode cX1_offer 9 = .ok (.aload_n 0, 1) := by decide +kernel
theorem dX1_offer_10 : decode cX1_offer 10 = .ok (.getfield 32, 3) := by decide +kernel
theorem dX1_offer_13 : decode cX1_offer 13 = .ok (.if_icmp .ne 21, 3) := by decide +kernel
theorem dX1_offer_16 : decode cX1_offer 16 = .ok (.iload_n 1, 1) := by decide +kernel
theorem dX1_offer_17 : decode cX1_offer 17 = .ok (.aload_n 0, 1) := by decide +kernel
theorem dX1_offer_18 : decode cX1_offer 18 = .ok (.getfield 29, 3) := by decide +kernel
theorem dX1_offer_21 : decode cX1_offer 21 = .ok (.if_icmp .ge 13, 3) := by decide +kernel
theorem dX1_offer_24 : decode cX1_offer 24 = .ok (.aload_n 0, 1) := by decide +kernel
theorem dX1_offer_25 : decode cX1_offer 25 = .ok (.iload_n 1, 1) := by decide +kernel
theorem dX1_offer_26 : decode cX1_offer 26 = .ok (.putfield 29, 3) := by decide +kernel
theorem dX1_offer_29 : decode cX1_offer 29 = .ok (.aload_n 0, 1) := by decide +kernel
theorem dX1_offer_30 : decode cX1_offer 30 = .ok (.iload_n 2, 1) := by decide +kernel
theorem dX1_offer_31 : decode cX1_offer 31 = .ok (.putfield 32, 3) := by decide +kernel
theorem dX1_offer_34 : decode cX1_offer 34 = .ok (.return_, 1) := by decide +kernel
theorem dX2_init_0 : decode cX2_init 0 = .ok (.aload_n 0, 1) := by decide +kernel
theorem dX2_init_1 : decode cX2_init 1 = .ok (.invokespecial 1, 3) := by decide +kernel
theorem dX2_init_4 : decode cX2_init 4 = .ok (.aload_n 0, 1) := by decide +kernel
theorem dX2_init_5 : decode cX2_init 5 = .ok (.new 7, 3) := by decide +kernel
theorem dX2_init_8 : decode cX2_init 8 = .ok (.dup, 1) := by decide +kernel
theorem dX2_init_9 : decode cX2_init 9 = .ok (.invokespecial 9, 3) := by decide +kernel
theorem dX2_init_12 : decode cX2_init 12 = .ok (.putfield 10, 3) := by decide +kernel
theorem dX2_init_15 : decode cX2_init 15 = .ok (.return_, 1) := by decide +kernel
theorem dX2_tell_0 : decode cX2_tell 0 = .ok (.aload_n 0, 1) := by decide +kernel
theorem dX2_tell_1 : decode cX2_tell 1 = .ok (.getfield 10, 3) := by decide +kernel
theorem dX2_tell_4 : decode cX2_tell 4 = .ok (.aload_n 1, 1) := by decide +kernel
theorem dX2_tell_5 : decode cX2_tell 5 = .ok (.invokevirtual 16, 3) := by decide +kernel
theorem dX2_tell_8 : decode cX2_tell 8 = .ok (.aload_n 0, 1) := by decide +kernel
theorem dX2_tell_9 : decode cX2_tell 9 = .ok (.iconst 0, 1) := by decide +kernel
theorem dX2_tell_10 : decode cX2_tell 10 = .ok (.putfield 20, 3) := by decide +kernel
theorem dX2_tell_13 : decode cX2_tell 13 = .ok (.iconst 1, 1) := by decide +kernel
theorem dX2_tell_14 : decode cX2_tell 14 = .ok (.istore_n 3, 1) := by decide +kernel
theorem dX2_tell_15 : decode cX2_tell 15 = .ok (.iload_n 3, 1) := by decide +kernel
theorem dX2_tell_16 : decode cX2_tell 16 = .ok (.bipush 120, 2) := by decide +kernel
theorem dX2_tell_18 : decode cX2_tell 18 = .ok (.if_icmp .gt 64, 3) := by decide +kernel
theorem dX2_tell_21 : decode cX2_tell 21 = .ok (.aload_n 0, 1) := by decide +kernel
theorem dX2_tell_22 : decode cX2_tell 22 = .ok (.aload_n 2, 1) := by decide +kernel
theorem dX2_tell_23 : decode cX2_tell 23 = .ok (.invokevirtual 26, 3) := by decide +kernel
theorem dX2_tell_26 : decode cX2_tell 26 = .ok (.ifCond .ne 6, 3) := by decide +kernel
theorem dX2_tell_29 : decode cX2_tell 29 = .ok (.goto 53, 3) := by decide +kernel
theorem dX2_tell_32 : decode cX2_tell 32 = .ok (.aload_n 0, 1) := by decide +kernel
theorem dX2_tell_33 : decode cX2_tell 33 = .ok (.getfield 10, 3) := by decide +kernel
theorem dX2_tell_36 : decode cX2_tell 36 = .ok (.aload_n 0, 1) := by decide +kernel
theorem dX2_tell_37 : decode cX2_tell 37 = .ok (.getfield 20, 3) := by decide +kernel
theorem dX2_tell_40 : decode cX2_tell 40 = .ok (.invokevirtual 30, 3) := by decide +kernel
theorem dX2_tell_43 : decode cX2_tell 43 = .ok (.ifCond .ne 5, 3) := by decide +kernel
theorem dX2_tell_46 : decode cX2_tell 46 = .ok (.iload_n 3, 1) := by decide +kernel
theorem dX2_tell_47 : decode cX2_tell 47 = .ok (.ireturn, 1) := by decide +kernel
theorem dX2_tell_48 : decode cX2_tell 48 = .ok (.aload_n 0, 1) := by decide +kernel
theorem dX2_tell_49 : decode cX2_tell 49 = .ok (.getfield 10, 3) := by decide +kernel
theorem dX2_tell_52 : decode cX2_tell 52 = .ok (.aload_n 0, 1) := by decide +kernel
theorem dX2_tell_53 : decode cX2_tell 53 = .ok (.getfield 20, 3) := by decide +kernel
theorem dX2_tell_56 : decode cX2_tell 56 = .ok (.invokevirtual 30, 3) := by decide +kernel
theorem dX2_tell_59 : decode cX2_tell 59 = .ok (.iconst 3, 1) := by decide +kernel
theorem dX2_tell_60 : decode cX2_tell 60 = .ok (.if_icmp .eq 6, 3) := by decide +kernel
theorem dX2_tell_63 : decode cX2_tell 63 = .ok (.goto 19, 3) := by decide +kernel
theorem dX2_tell_66 : decode cX2_tell 66 = .ok (.aload_n 0, 1) := by decide +kernel
theorem dX2_tell_67 : decode cX2_tell 67 = .ok (.dup, 1) := by decide +kernel
theorem dX2_tell_68 : decode cX2_tell 68 = .ok (.getfield 20, 3) := by decide +kernel
theorem dX2_tell_71 : decode cX2_tell 71 = .ok (.iconst 1, 1) := by decide +kernel
theorem dX2_tell_72 : decode cX2_tell 72 = .ok (.iadd, 1) := by decide +kernel
theorem dX2_tell_73 : decode cX2_tell 73 = .ok (.putfield 20, 3) := by decide +kernel
theorem dX2_tell_76 : decode cX2_tell 76 = .ok (.iinc 3 1, 3) := by decide +kernel
theorem dX2_tell_79 : decode cX2_tell 79 = .ok (.goto (-64), 3) := by decide +kernel
theorem dX2_tell_82 : decode cX2_tell 82 = .ok (.iconst (-1), 1) := by decide +kernel
theorem dX2_tell_83 : decode cX2_tell 83 = .ok (.aload_n 0, 1) := by decide +kernel
theorem dX2_tell_84 : decode cX2_tell 84 = .ok (.getfield 10, 3) := by decide +kernel
theorem dX2_tell_87 : decode cX2_tell 87 = .ok (.aload_n 0, 1) := by decide +kernel
theorem dX2_tell_88 : decode cX2_tell 88 = .ok (.getfield 20, 3) := by decide +kernel
theorem dX2_tell_91 : decode cX2_tell 91 = .ok (.invokevirtual 34, 3) := by decide +kernel
theorem dX2_tell_94 : decode cX2_tell 94 = .ok (.isub, 1) := by decide +kernel
theorem dX2_tell_95 : decode cX2_tell 95 = .ok (.ireturn, 1) := by decide +kernel
theorem dX2_passItem_0 : decode cX2_passItem 0 = .ok (.aload_n 0, 1) := by decide +kernel
theorem dX2_passItem_1 : decode cX2_passItem 1 = .ok (.bipush 6, 2) := by decide +kernel
theorem dX2_passItem_3 : decode cX2_passItem 3 = .ok (.invokevirtual 37, 3) := by decide +kernel
theorem dX2_passItem_6 : decode cX2_passItem 6 = .ok (.ifCond .eq 9, 3) := by decide +kernel
theorem dX2_passItem_9 : decode cX2_passItem 9 = .ok (.aload_n 0, 1) := by decide +kernel
theorem dX2_passItem_10 : decode cX2_passItem 10 = .ok (.aload_n 1, 1) := by decide +kernel
theorem dX2_passItem_11 : decode cX2_passItem 11 = .ok (.invokevirtual 41, 3) := by decide +kernel
theorem dX2_passItem_14 : decode cX2_passItem 14 = .ok (.ireturn, 1) := by decide +kernel
theorem dX2_passItem_15 : decode cX2_passItem 15 = .ok (.aload_n 0, 1) := by decide +kernel
theorem dX2_passItem_16 : decode cX2_passItem 16 = .ok (.bipush 7, 2) := by decide +kernel
theorem dX2_passItem_18 : decode cX2_passItem 18 = .ok (.invokevirtual 37, 3) := by decide +kernel
theorem dX2_passItem_21 : decode cX2_passItem 21 = .ok (.ifCond .eq 9, 3) := by decide +kernel
theorem dX2_passItem_24 : decode cX2_passItem 24 = .ok (.aload_n 0, 1) := by decide +kernel
theorem dX2_passItem_25 : decode cX2_passItem 25 = .ok (.aload_n 1, 1) := by decide +kernel
theorem dX2_passItem_26 : decode cX2_passItem 26 = .ok (.invokevirtual 44, 3) := by decide +kernel
theorem dX2_passItem_29 : decode cX2_passItem 29 = .ok (.ireturn, 1) := by decide +kernel
theorem dX2_passItem_30 : decode cX2_passItem 30 = .ok (.aload_n 0, 1) := by decide +kernel
theorem dX2_passItem_31 : decode cX2_passItem 31 = .ok (.getfield 10, 3) := by decide +kernel
theorem dX2_passItem_34 : decode cX2_passItem 34 = .ok (.aload_n 0, 1) := by decide +kernel
theorem dX2_passItem_35 : decode cX2_passItem 35 = .ok (.getfield 20, 3) := by decide +kernel
theorem dX2_passItem_38 : decode cX2_passItem 38 = .ok (.iconst 1, 1) := by decide +kernel
theorem dX2_passItem_39 : decode cX2_passItem 39 = .ok (.invokevirtual 47, 3) := by decide +kernel
theorem dX2_passItem_42 : decode cX2_passItem 42 = .ok (.istore_n 2, 1) := by decide +kernel
theorem dX2_passItem_43 : decode cX2_passItem 43 = .ok (.iload_n 2, 1) := by decide +kernel
theorem dX2_passItem_44 : decode cX2_passItem 44 = .ok (.invokestatic 51, 3) := by decide +kernel
theorem dX2_passItem_47 : decode cX2_passItem 47 = .ok (.ifCond .eq 10, 3) := by decide +kernel
theorem dX2_passItem_50 : decode cX2_passItem 50 = .ok (.aload_n 1, 1) := by decide +kernel
theorem dX2_passItem_51 : decode cX2_passItem 51 = .ok (.invokevirtual 56, 3) := by decide +kernel
theorem dX2_passItem_54 : decode cX2_passItem 54 = .ok (.ifCond .eq 5, 3) := by decide +kernel
theorem dX2_passItem_57 : decode cX2_passItem 57 = .ok (.iconst 0, 1) := by decide +kernel
theorem dX2_passItem_58 : decode cX2_passItem 58 = .ok (.ireturn, 1) := by decide +kernel
theorem dX2_passItem_59 : decode cX2_passItem 59 = .ok (.aload_n 0, 1) := by decide +kernel
theorem dX2_passItem_60 : decode cX2_passItem 60 = .ok (.dup, 1) := by decide +kernel
theorem dX2_passItem_61 : decode cX2_passItem 61 = .ok (.getfield 20, 3) := by decide +kernel
theorem dX2_passItem_64 : decode cX2_passItem 64 = .ok (.iconst 1, 1) := by decide +kernel
theorem dX2_passItem_65 : decode cX2_passItem 65 = .ok (.iadd, 1) := by decide +kernel
theorem dX2_passItem_66 : decode cX2_passItem 66 = .ok (.putfield 20, 3) := by decide +kernel
theorem dX2_passItem_69 : decode cX2_passItem 69 = .ok (.aload_n 0, 1) := by decide +kernel
theorem dX2_passItem_70 : decode cX2_passItem 70 = .ok (.aload_n 1, 1) := by decide +kernel
theorem dX2_passItem_71 : decode cX2_passItem 71 = .ok (.iload_n 2, 1) := by decide +kernel
theorem dX2_passItem_72 : decode cX2_passItem 72 = .ok (.invokevirtual 62, 3) := by decide +kernel
theorem dX2_passItem_75 : decode cX2_passItem 75 = .ok (.ireturn, 1) := by decide +kernel
theorem dX2_passSign_0 : decode cX2_passSign 0 = .ok (.aload_n 0, 1) := by decide +kernel
theorem dX2_passSign_1 : decode cX2_passSign 1 = .ok (.bipush 25, 2) := by decide +kernel
theorem dX2_passSign_3 : decode cX2_passSign 3 = .ok (.invokevirtual 68, 3) := by decide +kernel
theorem dX2_passSign_6 : decode cX2_passSign 6 = .ok (.istore_n 2, 1) := by decide +kernel
theorem dX2_passSign_7 : decode cX2_passSign 7 = .ok (.iload_n 2, 1) := by decide +kernel
theorem dX2_passSign_8 : decode cX2_passSign 8 = .ok (.ifCond .ge 5, 3) := by decide +kernel
theorem dX2_passSign_11 : decode cX2_passSign 11 = .ok (.iconst 0, 1) := by decide +kernel
theorem dX2_passSign_12 : decode cX2_passSign 12 = .ok (.ireturn, 1) := by decide +kernel
theorem dX2_passSign_13 : decode cX2_passSign 13 = .ok (.aload_n 0, 1) := by decide +kernel
theorem dX2_passSign_14 : decode cX2_passSign 14 = .ok (.sipush 4095, 3) := by decide +kernel
theorem dX2_passSign_17 : decode cX2_passSign 17 = .ok (.invokevirtual 68, 3) := by decide +kernel
theorem dX2_passSign_20 : decode cX2_passSign 20 = .ok (.istore_n 3, 1) := by decide +kernel
theorem dX2_passSign_21 : decode cX2_passSign 21 = .ok (.iload_n 3, 1) := by decide +kernel
theorem dX2_passSign_22 : decode cX2_passSign 22 = .ok (.ifCond .ge 5, 3) := by decide +kernel
theorem dX2_passSign_25 : decode cX2_passSign 25 = .ok (.iconst 0, 1) := by decide +kernel
theorem dX2_passSign_26 : decode cX2_passSign 26 = .ok (.ireturn, 1) := by decide +kernel
theorem dX2_passSign_27 : decode cX2_passSign 27 = .ok (.aload_n 1, 1) := by decide +kernel
theorem dX2_passSign_28 : decode cX2_passSign 28 = .ok (.getfield 73, 3) := by decide +kernel
theorem dX2_passSign_31 : decode cX2_passSign 31 = .ok (.iload_n 2, 1) := by decide +kernel
theorem dX2_passSign_32 : decode cX2_passSign 32 = .ok (.iload_n 3, 1) := by decide +kernel
theorem dX2_passSign_33 : decode cX2_passSign 33 = .ok (.invokevirtual 77, 3) := by decide +kernel
theorem dX2_passSign_36 : decode cX2_passSign 36 = .ok (.iconst 1, 1) := by decide +kernel
theorem dX2_passSign_37 : decode cX2_passSign 37 = .ok (.ireturn, 1) := by decide +kernel
theorem dX2_passSun_0 : decode cX2_passSun 0 = .ok (.aload_n 0, 1) := by decide +kernel
theorem dX2_passSun_1 : decode cX2_passSun 1 = .ok (.sipush 4095, 3) := by decide +kernel
theorem dX2_passSun_4 : decode cX2_passSun 4 = .ok (.invokevirtual 68, 3) := by decide +kernel
theorem dX2_passSun_7 : decode cX2_passSun 7 = .ok (.istore_n 2, 1) := by decide +kernel
theorem dX2_passSun_8 : decode cX2_passSun 8 = .ok (.iload_n 2, 1) := by decide +kernel
theorem dX2_passSun_9 : decode cX2_passSun 9 = .ok (.ifCond .ge 5, 3) := by decide +kernel
theorem dX2_passSun_12 : decode cX2_passSun 12 = .ok (.iconst 0, 1) := by decide +kernel
theorem dX2_passSun_13 : decode cX2_passSun 13 = .ok (.ireturn, 1) := by decide +kernel
theorem dX2_passSun_14 : decode cX2_passSun 14 = .ok (.aload_n 1, 1) := by decide +kernel
theorem dX2_passSun_15 : decode cX2_passSun 15 = .ok (.iload_n 2, 1) := by decide +kernel
theorem dX2_passSun_16 : decode cX2_passSun 16 = .ok (.putfield 81, 3) := by decide +kernel
theorem dX2_passSun_19 : decode cX2_passSun 19 = .ok (.iconst 1, 1) := by decide +kernel
theorem dX2_passSun_20 : decode cX2_passSun 20 = .ok (.ireturn, 1) := by decide +kernel
theorem dX2_passLetter_0 : decode cX2_passLetter 0 = .ok (.aload_n 0, 1) := by decide +kernel
theorem dX2_passLetter_1 : decode cX2_passLetter 1 = .ok (.aload_n 1, 1) := by decide +kernel
theorem dX2_passLetter_2 : decode cX2_passLetter 2 = .ok (.invokevirtual 84, 3) := by decide +kernel
theorem dX2_passLetter_5 : decode cX2_passLetter 5 = .ok (.istore_n 3, 1) := by decide +kernel
theorem dX2_passLetter_6 : decode cX2_passLetter 6 = .ok (.iload_n 3, 1) := by decide +kernel
theorem dX2_passLetter_7 : decode cX2_passLetter 7 = .ok (.ifCond .ge 5, 3) := by decide +kernel
theorem dX2_passLetter_10 : decode cX2_passLetter 10 = .ok (.iconst 0, 1) := by decide +kernel
theorem dX2_passLetter_11 : decode cX2_passLetter 11 = .ok (.ireturn, 1) := by decide +kernel
theorem dX2_passLetter_12 : decode cX2_passLetter 12 = .ok (.bipush 6, 2) := by decide +kernel
theorem dX2_passLetter_14 : decode cX2_passLetter 14 = .ok (.istore 4, 2) := by decide +kernel
theorem dX2_passLetter_16 : decode cX2_passLetter 16 = .ok (.aload_n 0, 1) := by decide +kernel
theorem dX2_passLetter_17 : decode cX2_passLetter 17 = .ok (.bipush 10, 2) := by decide +kernel
theorem dX2_passLetter_19 : decode cX2_passLetter 19 = .ok (.invokevirtual 37, 3) := by decide +kernel
theorem dX2_passLetter_22 : decode cX2_passLetter 22 = .ok (.ifCond .eq 11, 3) := by decide +kernel
theorem dX2_passLetter_25 : decode cX2_passLetter 25 = .ok (.aload_n 0, 1) := by decide +kernel
theorem dX2_passLetter_26 : decode cX2_passLetter 26 = .ok (.bipush 99, 2) := by decide +kernel
theorem dX2_passLetter_28 : decode cX2_passLetter 28 = .ok (.invokevirtual 68, 3) := by decide +kernel
theorem dX2_passLetter_31 : decode cX2_passLetter 31 = .ok (.istore 4, 2) := by decide +kernel
theorem dX2_passLetter_33 : decode cX2_passLetter 33 = .ok (.iload 4, 2) := by decide +kernel
theorem dX2_passLetter_35 : decode cX2_passLetter 35 = .ok (.ifCond .ge 5, 3) := by decide +kernel
theorem dX2_passLetter_38 : decode cX2_passLetter 38 = .ok (.iconst 0, 1) := by decide +kernel
theorem dX2_passLetter_39 : decode cX2_passLetter 39 = .ok (.ireturn, 1) := by decide +kernel
theorem dX2_passLetter_40 : decode cX2_passLetter 40 = .ok (.aload_n 1, 1) := by decide +kernel
theorem dX2_passLetter_41 : decode cX2_passLetter 41 = .ok (.iload_n 2, 1) := by decide +kernel
theorem dX2_passLetter_42 : decode cX2_passLetter 42 = .ok (.iload_n 3, 1) := by decide +kernel
theorem dX2_passLetter_43 : decode cX2_passLetter 43 = .ok (.iload 4, 2) := by decide +kernel
theorem dX2_passLetter_45 : decode cX2_passLetter 45 = .ok (.invokevirtual 88, 3) := by decide +kernel
theorem dX2_passLetter_48 : decode cX2_passLetter 48 = .ok (.pop, 1) := by decide +kernel
theorem dX2_passLetter_49 : decode cX2_passLetter 49 = .ok (.iconst 1, 1) := by decide +kernel
theorem dX2_passLetter_50 : decode cX2_passLetter 50 = .ok (.ireturn, 1) := by decide +kernel
theorem dX2_passForm_0 : decode cX2_passForm 0 = .ok (.aload_n 0, 1) := by decide +kernel
theorem dX2_passForm_1 : decode cX2_passForm 1 = .ok (.bipush 8, 2) := by decide +kernel
theorem dX2_passForm_3 : decode cX2_passForm 3 = .ok (.invokevirtual 37, 3) := by decide +kernel
theorem dX2_passForm_6 : decode cX2_passForm 6 = .ok (.ifCond .eq 11, 3) := by decide +kernel
theorem dX2_passForm_9 : decode cX2_passForm 9 = .ok (.aload_n 0, 1) := by decide +kernel
theorem dX2_passForm_10 : decode cX2_passForm 10 = .ok (.sipush 4095, 3) := by decide +kernel
theorem dX2_passForm_13 : decode cX2_passForm 13 = .ok (.invokevirtual 68, 3) := by decide +kernel
theorem dX2_passForm_16 : decode cX2_passForm 16 = .ok (.ireturn, 1) := by decide +kernel
theorem dX2_passForm_17 : decode cX2_passForm 17 = .ok (.aload_n 0, 1) := by decide +kernel
theorem dX2_passForm_18 : decode cX2_passForm 18 = .ok (.bipush 9, 2) := by decide +kernel
theorem dX2_passForm_20 : decode cX2_passForm 20 = .ok (.invokevirtual 37, 3) := by decide +kernel
theorem dX2_passForm_23 : decode cX2_passForm 23 = .ok (.ifCond .ne 5, 3) := by decide +kernel
theorem dX2_passForm_26 : decode cX2_passForm 26 = .ok (.iconst (-1), 1) := by decide +kernel
theorem dX2_passForm_27 : decode cX2_passForm 27 = .ok (.ireturn, 1) := by decide +kernel
theorem dX2_passForm_28 : decode cX2_passForm 28 = .ok (.aload_n 0, 1) := by decide +kernel
theorem dX2_passForm_29 : decode cX2_passForm 29 = .ok (.bipush 25, 2) := by decide +kernel
theorem dX2_passForm_31 : decode cX2_passForm 31 = .ok (.invokevirtual 68, 3) := by decide +kernel
theorem dX2_passForm_34 : decode cX2_passForm 34 = .ok (.istore_n 2, 1) := by decide +kernel
theorem dX2_passForm_35 : decode cX2_passForm 35 = .ok (.iload_n 2, 1) := by decide +kernel
theorem dX2_passForm_36 : decode cX2_passForm 36 = .ok (.ifCond .ge 7, 3) := by decide +kernel
theorem dX2_passForm_39 : decode cX2_passForm 39 = .ok (.iconst (-1), 1) := by decide +kernel
theorem dX2_passForm_40 : decode cX2_passForm 40 = .ok (.goto 11, 3) := by decide +kernel
theorem dX2_passForm_43 : decode cX2_passForm 43 = .ok (.aload_n 1, 1) := by decide +kernel
theorem dX2_passForm_44 : decode cX2_passForm 44 = .ok (.getfield 73, 3) := by decide +kernel
theorem dX2_passForm_47 : decode cX2_passForm 47 = .ok (.iload_n 2, 1) := by decide +kernel
theorem dX2_passForm_48 : decode cX2_passForm 48 = .ok (.invokevirtual 92, 3) := by decide +kernel
theorem dX2_passForm_51 : decode cX2_passForm 51 = .ok (.ireturn, 1) := by decide +kernel
theorem dX2_passWord_0 : decode cX2_passWord 0 = .ok (.aload_n 0, 1) := by decide +kernel
theorem dX2_passWord_1 : decode cX2_passWord 1 = .ok (.getfield 10, 3) := by decide +kernel
theorem dX2_passWord_4 : decode cX2_passWord 4 = .ok (.aload_n 0, 1) := by decide +kernel
theorem dX2_passWord_5 : decode cX2_passWord 5 = .ok (.getfield 20, 3) := by decide +kernel
theorem dX2_passWord_8 : decode cX2_passWord 8 = .ok (.iconst 1, 1) := by decide +kernel
theorem dX2_passWord_9 : decode cX2_passWord 9 = .ok (.invokevirtual 47, 3) := by decide +kernel
theorem dX2_passWord_12 : decode cX2_passWord 12 = .ok (.iload_n 1, 1) := by decide +kernel
theorem dX2_passWord_13 : decode cX2_passWord 13 = .ok (.if_icmp .eq 5, 3) := by decide +kernel
theorem dX2_passWord_16 : decode cX2_passWord 16 = .ok (.iconst 0, 1) := by decide +kernel
theorem dX2_passWord_17 : decode cX2_passWord 17 = .ok (.ireturn, 1) := by decide +kernel
theorem dX2_passWord_18 : decode cX2_passWord 18 = .ok (.aload_n 0, 1) := by decide +kernel
theorem dX2_passWord_19 : decode cX2_passWord 19 = .ok (.dup, 1) := by decide +kernel
theorem dX2_passWord_20 : decode cX2_passWord 20 = .ok (.getfield 20, 3) := by decide +kernel
theorem dX2_passWord_23 : decode cX2_passWord 23 = .ok (.iconst 1, 1) := by decide +kernel
theorem dX2_passWord_24 : decode cX2_passWord 24 = .ok (.iadd, 1) := by decide +kernel
theorem dX2_passWord_25 : decode cX2_passWord 25 = .ok (.putfield 20, 3) := by decide +kernel
theorem dX2_passWord_28 : decode cX2_passWord 28 = .ok (.iconst 1, 1) := by decide +kernel
theorem dX2_passWord_29 : decode cX2_passWord 29 = .ok (.ireturn, 1) := by decide +kernel
theorem dX2_passNumber_0 : decode cX2_passNumber 0 = .ok (.aload_n 0, 1) := by decide +kernel
theorem dX2_passNumber_1 : decode cX2_passNumber 1 = .ok (.getfield 10, 3) := by decide +kernel
theorem dX2_passNumber_4 : decode cX2_passNumber 4 = .ok (.aload_n 0, 1) := by decide +kernel
theorem dX2_passNumber_5 : decode cX2_passNumber 5 = .ok (.getfield 20, 3) := by decide +kernel
theorem dX2_passNumber_8 : decode cX2_passNumber 8 = .ok (.iconst 2, 1) := by decide +kernel
theorem dX2_passNumber_9 : decode cX2_passNumber 9 = .ok (.invokevirtual 47, 3) := by decide +kernel
theorem dX2_passNumber_12 : decode cX2_passNumber 12 = .ok (.istore_n 2, 1) := by decide +kernel
theorem dX2_passNumber_13 : decode cX2_passNumber 13 = .ok (.iload_n 2, 1) := by decide +kernel
theorem dX2_passNumber_14 : decode cX2_passNumber 14 = .ok (.ifCond .lt 8, 3) := by decide +kernel
theorem dX2_passNumber_17 : decode cX2_passNumber 17 = .ok (.iload_n 2, 1) := by decide +kernel
theorem dX2_passNumber_18 : decode cX2_passNumber 18 = .ok (.iload_n 1, 1) := by decide +kernel
theorem dX2_passNumber_19 : decode cX2_passNumber 19 = .ok (.if_icmp .le 5, 3) := by decide +kernel
theorem dX2_passNumber_22 : decode cX2_passNumber 22 = .ok (.iconst (-1), 1) := by decide +kernel
theorem dX2_passNumber_23 : decode cX2_passNumber 23 = .ok (.ireturn, 1) := by decide +kernel
theorem dX2_passNumber_24 : decode cX2_passNumber 24 = .ok (.aload_n 0, 1) := by decide +kernel
theorem dX2_passNumber_25 : decode cX2_passNumber 25 = .ok (.dup, 1) := by decide +kernel
theorem dX2_passNumber_26 : decode cX2_passNumber 26 = .ok (.getfield 20, 3) := by decide +kernel
theorem dX2_passNumber_29 : decode cX2_passNumber 29 = .ok (.iconst 1, 1) := by decide +kernel
theorem dX2_passNumber_30 : decode cX2_passNumber 30 = .ok (.iadd, 1) := by decide +kernel
theorem dX2_passNumber_31 : decode cX2_passNumber 31 = .ok (.putfield 20, 3) := by decide +kernel
theorem dX2_passNumber_34 : decode cX2_passNumber 34 = .ok (.iload_n 2, 1) := by decide +kernel
theorem dX2_passNumber_35 : decode cX2_passNumber 35 = .ok (.ireturn, 1) := by decide +kernel
theorem dX3_isForm_0 : decode cX3_isForm 0 = .ok (.iload_n 0, 1) := by decide +kernel
theorem dX3_isForm_1 : decode cX3_isForm 1 = .ok (.ifCond .lt 14, 3) := by decide +kernel
theorem dX3_isForm_4 : decode cX3_isForm 4 = .ok (.iload_n 0, 1) := by decide +kernel
theorem dX3_isForm_5 : decode cX3_isForm 5 = .ok (.sipush 4095, 3) := by decide +kernel
theorem dX3_isForm_8 : decode cX3_isForm 8 = .ok (.if_icmp .gt 7, 3) := by decide +kernel
theorem dX3_isForm_11 : decode cX3_isForm 11 = .ok (.iconst 1, 1) := by decide +kernel
theorem dX3_isForm_12 : decode cX3_isForm 12 = .ok (.goto 4, 3) := by decide +kernel
theorem dX3_isForm_15 : decode cX3_isForm 15 = .ok (.iconst 0, 1) := by decide +kernel
theorem dX3_isForm_16 : decode cX3_isForm 16 = .ok (.ireturn, 1) := by decide +kernel
theorem dX3_isPoint_0 : decode cX3_isPoint 0 = .ok (.lload_n 0, 1) := by decide +kernel
theorem dX3_isPoint_1 : decode cX3_isPoint 1 = .ok (.lconst 0, 1) := by decide +kernel
theorem dX3_isPoint_2 : decode cX3_isPoint 2 = .ok (.lcmp, 1) := by decide +kernel
theorem dX3_isPoint_3 : decode cX3_isPoint 3 = .ok (.ifCond .lt 15, 3) := by decide +kernel
theorem dX3_isPoint_6 : decode cX3_isPoint 6 = .ok (.lload_n 0, 1) := by decide +kernel
theorem dX3_isPoint_7 : decode cX3_isPoint 7 = .ok (.ldc2_w 9, 3) := by decide +kernel
theorem dX3_isPoint_10 : decode cX3_isPoint 10 = .ok (.lcmp, 1) := by decide +kernel
theorem dX3_isPoint_11 : decode cX3_isPoint 11 = .ok (.ifCond .ge 7, 3) := by decide +kernel
theorem dX3_isPoint_14 : decode cX3_isPoint 14 = .ok (.iconst 1, 1) := by decide +kernel
theorem dX3_isPoint_15 : decode cX3_isPoint 15 = .ok (.goto 4, 3) := by decide +kernel
theorem dX3_isPoint_18 : decode cX3_isPoint 18 = .ok (.iconst 0, 1) := by decide +kernel
theorem dX3_isPoint_19 : decode cX3_isPoint 19 = .ok (.ireturn, 1) := by decide +kernel
theorem dX3_hasStroke_0 : decode cX3_hasStroke 0 = .ok (.iload_n 0, 1) := by decide +kernel
theorem dX3_hasStroke_1 : decode cX3_hasStroke 1 = .ok (.iload_n 1, 1) := by decide +kernel
theorem dX3_hasStroke_2 : decode cX3_hasStroke 2 = .ok (.ishr, 1) := by decide +kernel
theorem dX3_hasStroke_3 : decode cX3_hasStroke 3 = .ok (.iconst 1, 1) := by decide +kernel
theorem dX3_hasStroke_4 : decode cX3_hasStroke 4 = .ok (.iand, 1) := by decide +kernel
theorem dX3_hasStroke_5 : decode cX3_hasStroke 5 = .ok (.ifCond .eq 7, 3) := by decide +kernel
theorem dX3_hasStroke_8 : decode cX3_hasStroke 8 = .ok (.iconst 1, 1) := by decide +kernel
theorem dX3_hasStroke_9 : decode cX3_hasStroke 9 = .ok (.goto 4, 3) := by decide +kernel
theorem dX3_hasStroke_12 : decode cX3_hasStroke 12 = .ok (.iconst 0, 1) := by decide +kernel
theorem dX3_hasStroke_13 : decode cX3_hasStroke 13 = .ok (.ireturn, 1) := by decide +kernel
theorem dX3_across_0 : decode cX3_across 0 = .ok (.iload_n 0, 1) := by decide +kernel
theorem dX3_across_1 : decode cX3_across 1 = .ok (.ifCond .lt 9, 3) := by decide +kernel
theorem dX3_across_4 : decode cX3_across 4 = .ok (.iload_n 0, 1) := by decide +kernel
theorem dX3_across_5 : decode cX3_across 5 = .ok (.bipush 12, 2) := by decide +kernel
theorem dX3_across_7 : decode cX3_across 7 = .ok (.if_icmp .lt 5, 3) := by decide +kernel
theorem dX3_across_10 : decode cX3_across 10 = .ok (.iconst (-1), 1) := by decide +kernel
theorem dX3_across_11 : decode cX3_across 11 = .ok (.ireturn, 1) := by decide +kernel
theorem dX3_across_12 : decode cX3_across 12 = .ok (.getstatic 11, 3) := by decide +kernel
theorem dX3_across_15 : decode cX3_across 15 = .ok (.iload_n 0, 1) := by decide +kernel
theorem dX3_across_16 : decode cX3_across 16 = .ok (.iaload, 1) := by decide +kernel
theorem dX3_across_17 : decode cX3_across 17 = .ok (.iload_n 1, 1) := by decide +kernel
theorem dX3_across_18 : decode cX3_across 18 = .ok (.if_icmp .ne 9, 3) := by decide +kernel
theorem dX3_across_21 : decode cX3_across 21 = .ok (.getstatic 15, 3) := by decide +kernel
theorem dX3_across_24 : decode cX3_across 24 = .ok (.iload_n 0, 1) := by decide +kernel
theorem dX3_across_25 : decode cX3_across 25 = .ok (.iaload, 1) := by decide +kernel
theorem dX3_across_26 : decode cX3_across 26 = .ok (.ireturn, 1) := by decide +kernel
theorem dX3_across_27 : decode cX3_across 27 = .ok (.getstatic 15, 3) := by decide +kernel
theorem dX3_across_30 : decode cX3_across 30 = .ok (.iload_n 0, 1) := by decide +kernel
theorem dX3_across_31 : decode cX3_across 31 = .ok (.iaload, 1) := by decide +kernel
theorem dX3_across_32 : decode cX3_across 32 = .ok (.iload_n 1, 1) := by decide +kernel
theorem dX3_across_33 : decode cX3_across 33 = .ok (.if_icmp .ne 11, 3) := by decide +kernel
theorem dX3_across_36 : decode cX3_across 36 = .ok (.getstatic 11, 3) := by decide +kernel
theorem dX3_across_39 : decode cX3_across 39 = .ok (.iload_n 0, 1) := by decide +kernel
theorem dX3_across_40 : decode cX3_across 40 = .ok (.iaload, 1) := by decide +kernel
theorem dX3_across_41 : decode cX3_across 41 = .ok (.goto 4, 3) := by decide +kernel
theorem dX3_across_44 : decode cX3_across 44 = .ok (.iconst (-1), 1) := by decide +kernel
theorem dX3_across_45 : decode cX3_across 45 = .ok (.ireturn, 1) := by decide +kernel
theorem dX3_oddPoints_0 : decode cX3_oddPoints 0 = .ok (.iconst 0, 1) := by decide +kernel
theorem dX3_oddPoints_1 : decode cX3_oddPoints 1 = .ok (.istore_n 1, 1) := by decide +kernel
theorem dX3_oddPoints_2 : decode cX3_oddPoints 2 = .ok (.iconst 0, 1) := by decide +kernel
theorem dX3_oddPoints_3 : decode cX3_oddPoints 3 = .ok (.istore_n 2, 1) := by decide +kernel
theorem dX3_oddPoints_4 : decode cX3_oddPoints 4 = .ok (.iload_n 2, 1) := by decide +kernel
theorem dX3_oddPoints_5 : decode cX3_oddPoints 5 = .ok (.bipush 12, 2) := by decide +kernel
theorem dX3_oddPoints_7 : decode cX3_oddPoints 7 = .ok (.if_icmp .ge 25, 3) := by decide +kernel
theorem dX3_oddPoints_10 : decode cX3_oddPoints 10 = .ok (.iload_n 0, 1) := by decide +kernel
theorem dX3_oddPoints_11 : decode cX3_oddPoints 11 = .ok (.iload_n 2, 1) := by decide +kernel
theorem dX3_oddPoints_12 : decode cX3_oddPoints 12 = .ok (.ishr, 1) := by decide +kernel
theorem dX3_oddPoints_13 : decode cX3_oddPoints 13 = .ok (.iconst 1, 1) := by decide +kernel
theorem dX3_oddPoints_14 : decode cX3_oddPoints 14 = .ok (.iand, 1) := by decide +kernel
theorem dX3_oddPoints_15 : decode cX3_oddPoints 15 = .ok (.ifCond .eq 11, 3) := by decide +kernel
theorem dX3_oddPoints_18 : decode cX3_oddPoints 18 = .ok (.iload_n 1, 1) := by decide +kernel
theorem dX3_oddPoints_19 : decode cX3_oddPoints 19 = .ok (.getstatic 18, 3) := by decide +kernel
theorem dX3_oddPoints_22 : decode cX3_oddPoints 22 = .ok (.iload_n 2, 1) := by decide +kernel
theorem dX3_oddPoints_23 : decode cX3_oddPoints 23 = .ok (.iaload, 1) := by decide +kernel
theorem dX3_oddPoints_24 : decode cX3_oddPoints 24 = .ok (.ixor, 1) := by decide +kernel
theorem dX3_oddPoints_25 : decode cX3_oddPoints 25 = .ok (.istore_n 1, 1) := by decide +kernel
theorem dX3_oddPoints_26 : decode cX3_oddPoints 26 = .ok (.iinc 2 1, 3) := by decide +kernel
theorem dX3_oddPoints_29 : decode cX3_oddPoints 29 = .ok (.goto (-25), 3) := by decide +kernel
theorem dX3_oddPoints_32 : decode cX3_oddPoints 32 = .ok (.iload_n 1, 1) := by decide +kernel
theorem dX3_oddPoints_33 : decode cX3_oddPoints 33 = .ok (.ireturn, 1) := by decide +kernel
theorem dX3_firstPiece_0 : decode cX3_firstPiece 0 = .ok (.iload_n 0, 1) := by decide +kernel
theorem dX3_firstPiece_1 : decode cX3_firstPiece 1 = .ok (.iload_n 0, 1) := by decide +kernel
theorem dX3_firstPiece_2 : decode cX3_firstPiece 2 = .ok (.ineg, 1) := by decide +kernel
theorem dX3_firstPiece_3 : decode cX3_firstPiece 3 = .ok (.iand, 1) := by decide +kernel
theorem dX3_firstPiece_4 : decode cX3_firstPiece 4 = .ok (.istore_n 1, 1) := by decide +kernel
theorem dX3_firstPiece_5 : decode cX3_firstPiece 5 = .ok (.iconst 0, 1) := by decide +kernel
theorem dX3_firstPiece_6 : decode cX3_firstPiece 6 = .ok (.istore_n 2, 1) := by decide +kernel
theorem dX3_firstPiece_7 : decode cX3_firstPiece 7 = .ok (.iconst 0, 1) := by decide +kernel
theorem dX3_firstPiece_8 : decode cX3_firstPiece 8 = .ok (.istore_n 3, 1) := by decide +kernel
theorem dX3_firstPiece_9 : decode cX3_firstPiece 9 = .ok (.iload_n 3, 1) := by decide +kernel
theorem dX3_firstPiece_10 : decode cX3_firstPiece 10 = .ok (.bipush 12, 2) := by decide +kernel
theorem dX3_firstPiece_12 : decode cX3_firstPiece 12 = .ok (.if_icmp .ge 94, 3) := by decide +kernel
theorem dX3_firstPiece_15 : decode cX3_firstPiece 15 = .ok (.iload_n 2, 1) := by decide +kernel
theorem dX3_firstPiece_16 : decode cX3_firstPiece 16 = .ok (.istore 4, 2) := by decide +kernel
theorem dX3_firstPiece_18 : decode cX3_firstPiece 18 = .ok (.iconst 0, 1) := by decide +kernel
theorem dX3_firstPiece_19 : decode cX3_firstPiece 19 = .ok (.istore 5, 2) := by decide +kernel
theorem dX3_firstPiece_21 : decode cX3_firstPiece 21 = .ok (.iload 5, 2) := by decide +kernel
theorem dX3_firstPiece_23 : decode cX3_firstPiece 23 = .ok (.bipush 12, 2) := by decide +kernel
theorem dX3_firstPiece_25 : decode cX3_firstPiece 25 = .ok (.if_icmp .ge 66, 3) := by decide +kernel
theorem dX3_firstPiece_28 : decode cX3_firstPiece 28 = .ok (.iconst 1, 1) := by decide +kernel
theorem dX3_firstPiece_29 : decode cX3_firstPiece 29 = .ok (.iload 5, 2) := by decide +kernel
theorem dX3_firstPiece_31 : decode cX3_firstPiece 31 = .ok (.ishl, 1) := by decide +kernel
theorem dX3_firstPiece_32 : decode cX3_firstPiece 32 = .ok (.istore 6, 2) := by decide +kernel
theorem dX3_firstPiece_34 : decode cX3_firstPiece 34 = .ok (.iload_n 1, 1) := by decide +kernel
theorem dX3_firstPiece_35 : decode cX3_firstPiece 35 = .ok (.iload 6, 2) := by decide +kernel
theorem dX3_firstPiece_37 : decode cX3_firstPiece 37 = .ok (.iand, 1) := by decide +kernel
theorem dX3_firstPiece_38 : decode cX3_firstPiece 38 = .ok (.ifCond .ne 14, 3) := by decide +kernel
theorem dX3_firstPiece_41 : decode cX3_firstPiece 41 = .ok (.iload_n 2, 1) := by decide +kernel
theorem dX3_firstPiece_42 : decode cX3_firstPiece 42 = .ok (.getstatic 18, 3) := by decide +kernel
theorem dX3_firstPiece_45 : decode cX3_firstPiece 45 = .ok (.iload 5, 2) := by decide +kernel
theorem dX3_firstPiece_47 : decode cX3_firstPiece 47 = .ok (.iaload, 1) := by decide +kernel
theorem dX3_firstPiece_48 : decode cX3_firstPiece 48 = .ok (.iand, 1) := by decide +kernel
theorem dX3_firstPiece_49 : decode cX3_firstPiece 49 = .ok (.ifCond .eq 7, 3) := by decide +kernel
theorem dX3_firstPiece_52 : decode cX3_firstPiece 52 = .ok (.iconst 1, 1) := by decide +kernel
theorem dX3_firstPiece_53 : decode cX3_firstPiece 53 = .ok (.goto 4, 3) := by decide +kernel
theorem dX3_firstPiece_56 : decode cX3_firstPiece 56 = .ok (.iconst 0, 1) := by decide +kernel
theorem dX3_firstPiece_57 : decode cX3_firstPiece 57 = .ok (.istore 7, 2) := by decide +kernel
theorem dX3_firstPiece_59 : decode cX3_firstPiece 59 = .ok (.iload 7, 2) := by decide +kernel
theorem dX3_firstPiece_61 : decode cX3_firstPiece 61 = .ok (.ifCond .eq 24, 3) := by decide +kernel
theorem dX3_firstPiece_64 : decode cX3_firstPiece 64 = .ok (.iload_n 0, 1) := by decide +kernel
theorem dX3_firstPiece_65 : decode cX3_firstPiece 65 = .ok (.iload 6, 2) := by decide +kernel
theorem dX3_firstPiece_67 : decode cX3_firstPiece 67 = .ok (.iand, 1) := by decide +kernel
theorem dX3_firstPiece_68 : decode cX3_firstPiece 68 = .ok (.ifCond .eq 17, 3) := by decide +kernel
theorem dX3_firstPiece_71 : decode cX3_firstPiece 71 = .ok (.iload_n 1, 1) := by decide +kernel
theorem dX3_firstPiece_72 : decode cX3_firstPiece 72 = .ok (.iload 6, 2) := by decide +kernel
theorem dX3_firstPiece_74 : decode cX3_firstPiece 74 = .ok (.ior, 1) := by decide +kernel
theorem dX3_firstPiece_75 : decode cX3_firstPiece 75 = .ok (.istore_n 1, 1) := by decide +kernel
theorem dX3_firstPiece_76 : decode cX3_firstPiece 76 = .ok (.iload_n 2, 1) := by decide +kernel
theorem dX3_firstPiece_77 : decode cX3_firstPiece 77 = .ok (.getstatic 18, 3) := by decide +kernel
theorem dX3_firstPiece_80 : decode cX3_firstPiece 80 = .ok (.iload 5, 2) := by decide +kernel
theorem dX3_firstPiece_82 : decode cX3_firstPiece 82 = .ok (.iaload, 1) := by decide +kernel
theorem dX3_firstPiece_83 : decode cX3_firstPiece 83 = .ok (.ior, 1) := by decide +kernel
theorem dX3_firstPiece_84 : decode cX3_firstPiece 84 = .ok (.istore_n 2, 1) := by decide +kernel
theorem dX3_firstPiece_85 : decode cX3_firstPiece 85 = .ok (.iinc 5 1, 3) := by decide +kernel
theorem dX3_firstPiece_88 : decode cX3_firstPiece 88 = .ok (.goto (-67), 3) := by decide +kernel
theorem dX3_firstPiece_91 : decode cX3_firstPiece 91 = .ok (.iload_n 2, 1) := by decide +kernel
theorem dX3_firstPiece_92 : decode cX3_firstPiece 92 = .ok (.iload 4, 2) := by decide +kernel
theorem dX3_firstPiece_94 : decode cX3_firstPiece 94 = .ok (.if_icmp .ne 6, 3) := by decide +kernel
theorem dX3_firstPiece_97 : decode cX3_firstPiece 97 = .ok (.goto 9, 3) := by decide +kernel
theorem dX3_firstPiece_100 : decode cX3_firstPiece 100 = .ok (.iinc 3 1, 3) := by decide +kernel
theorem dX3_firstPiece_103 : decode cX3_firstPiece 103 = .ok (.goto (-94), 3) := by decide +kernel
theorem dX3_firstPiece_106 : decode cX3_firstPiece 106 = .ok (.iload_n 1, 1) := by decide +kernel
theorem dX3_firstPiece_107 : decode cX3_firstPiece 107 = .ok (.ireturn, 1) := by decide +kernel
theorem dX3_countPieces_0 : decode cX3_countPieces 0 = .ok (.iconst 0, 1) := by decide +kernel
theorem dX3_countPieces_1 : decode cX3_countPieces 1 = .ok (.istore_n 1, 1) := by decide +kernel
theorem dX3_countPieces_2 : decode cX3_countPieces 2 = .ok (.iload_n 0, 1) := by decide +kernel
theorem dX3_countPieces_3 : decode cX3_countPieces 3 = .ok (.istore_n 2, 1) := by decide +kernel
theorem dX3_countPieces_4 : decode cX3_countPieces 4 = .ok (.iconst 0, 1) := by decide +kernel
theorem dX3_countPieces_5 : decode cX3_countPieces 5 = .ok (.istore_n 3, 1) := by decide +kernel
theorem dX3_countPieces_6 : decode cX3_countPieces 6 = .ok (.iload_n 3, 1) := by decide +kernel
theorem dX3_countPieces_7 : decode cX3_countPieces 7 = .ok (.bipush 12, 2) := by decide +kernel
theorem dX3_countPieces_9 : decode cX3_countPieces 9 = .ok (.if_icmp .ge 25, 3) := by decide +kernel
theorem dX3_countPieces_12 : decode cX3_countPieces 12 = .ok (.iload_n 2, 1) := by decide +kernel
theorem dX3_countPieces_13 : decode cX3_countPieces 13 = .ok (.ifCond .eq 21, 3) := by decide +kernel
theorem dX3_countPieces_16 : decode cX3_countPieces 16 = .ok (.iload_n 2, 1) := by decide +kernel
theorem dX3_countPieces_17 : decode cX3_countPieces 17 = .ok (.iload_n 2, 1) := by decide +kernel
theorem dX3_countPieces_18 : decode cX3_countPieces 18 = .ok (.invokestatic 21, 3) := by decide +kernel
theorem dX3_countPieces_21 : decode cX3_countPieces 21 = .ok (.iconst (-1), 1) := by decide +kernel
theorem dX3_countPieces_22 : decode cX3_countPieces 22 = .ok (.ixor, 1) := by decide +kernel
theorem dX3_countPieces_23 : decode cX3_countPieces 23 = .ok (.iand, 1) := by decide +kernel
theorem dX3_countPieces_24 : decode cX3_countPieces 24 = .ok (.istore_n 2, 1) := by decide +kernel
theorem dX3_countPieces_25 : decode cX3_countPieces 25 = .ok (.iinc 1 1, 3) := by decide +kernel
theorem dX3_countPieces_28 : decode cX3_countPieces 28 = .ok (.iinc 3 1, 3) := by decide +kernel
theorem dX3_countPieces_31 : decode cX3_countPieces 31 = .ok (.goto (-25), 3) := by decide +kernel
theorem dX3_countPieces_34 : decode cX3_countPieces 34 = .ok (.iload_n 1, 1) := by decide +kernel
theorem dX3_countPieces_35 : decode cX3_countPieces 35 = .ok (.ireturn, 1) := by decide +kernel
theorem dX3_countLines_0 : decode cX3_countLines 0 = .ok (.iconst 0, 1) := by decide +kernel
theorem dX3_countLines_1 : decode cX3_countLines 1 = .ok (.istore_n 1, 1) := by decide +kernel
theorem dX3_countLines_2 : decode cX3_countLines 2 = .ok (.iload_n 0, 1) := by decide +kernel
theorem dX3_countLines_3 : decode cX3_countLines 3 = .ok (.istore_n 2, 1) := by decide +kernel
theorem dX3_countLines_4 : decode cX3_countLines 4 = .ok (.iconst 0, 1) := by decide +kernel
theorem dX3_countLines_5 : decode cX3_countLines 5 = .ok (.istore_n 3, 1) := by decide +kernel
theorem dX3_countLines_6 : decode cX3_countLines 6 = .ok (.iload_n 3, 1) := by decide +kernel
theorem dX3_countLines_7 : decode cX3_countLines 7 = .ok (.bipush 12, 2) := by decide +kernel
theorem dX3_countLines_9 : decode cX3_countLines 9 = .ok (.if_icmp .ge 43, 3) := by decide +kernel
theorem dX3_countLines_12 : decode cX3_countLines 12 = .ok (.iload_n 2, 1) := by decide +kernel
theorem dX3_countLines_13 : decode cX3_countLines 13 = .ok (.ifCond .eq 39, 3) := by decide +kernel
theorem dX3_countLines_16 : decode cX3_countLines 16 = .ok (.iload_n 2, 1) := by decide +kernel
theorem dX3_countLines_17 : decode cX3_countLines 17 = .ok (.invokestatic 21, 3) := by decide +kernel
theorem dX3_countLines_20 : decode cX3_countLines 20 = .ok (.istore 4, 2) := by decide +kernel
theorem dX3_countLines_22 : decode cX3_countLines 22 = .ok (.iload_n 1, 1) := by decide +kernel
theorem dX3_countLines_23 : decode cX3_countLines 23 = .ok (.iconst 1, 1) := by decide +kernel
theorem dX3_countLines_24 : decode cX3_countLines 24 = .ok (.iload 4, 2) := by decide +kernel
theorem dX3_countLines_26 : decode cX3_countLines 26 = .ok (.invokestatic 25, 3) := by decide +kernel
theorem dX3_countLines_29 : decode cX3_countLines 29 = .ok (.invokestatic 28, 3) := by decide +kernel
theorem dX3_countLines_32 : decode cX3_countLines 32 = .ok (.iconst 2, 1) := by decide +kernel
theorem dX3_countLines_33 : decode cX3_countLines 33 = .ok (.idiv, 1) := by decide +kernel
theorem dX3_countLines_34 : decode cX3_countLines 34 = .ok (.invokestatic 33, 3) := by decide +kernel
theorem dX3_countLines_37 : decode cX3_countLines 37 = .ok (.iadd, 1) := by decide +kernel
theorem dX3_countLines_38 : decode cX3_countLines 38 = .ok (.istore_n 1, 1) := by decide +kernel
theorem dX3_countLines_39 : decode cX3_countLines 39 = .ok (.iload_n 2, 1) := by decide +kernel
theorem dX3_countLines_40 : decode cX3_countLines 40 = .ok (.iload 4, 2) := by decide +kernel
theorem dX3_countLines_42 : decode cX3_countLines 42 = .ok (.iconst (-1), 1) := by decide +kernel
theorem dX3_countLines_43 : decode cX3_countLines 43 = .ok (.ixor, 1) := by decide +kernel
theorem dX3_countLines_44 : decode cX3_countLines 44 = .ok (.iand, 1) := by decide +kernel
theorem dX3_countLines_45 : decode cX3_countLines 45 = .ok (.istore_n 2, 1) := by decide +kernel
theorem dX3_countLines_46 : decode cX3_countLines 46 = .ok (.iinc 3 1, 3) := by decide +kernel
theorem dX3_countLines_49 : decode cX3_countLines 49 = .ok (.goto (-43), 3) := by decide +kernel
theorem dX3_countLines_52 : decode cX3_countLines 52 = .ok (.iload_n 1, 1) := by decide +kernel
theorem dX3_countLines_53 : decode cX3_countLines 53 = .ok (.ireturn, 1) := by decide +kernel
theorem dX3_countStrays_0 : decode cX3_countStrays 0 = .ok (.iconst 0, 1) := by decide +kernel
theorem dX3_countStrays_1 : decode cX3_countStrays 1 = .ok (.iload_n 0, 1) := by decide +kernel
theorem dX3_countStrays_2 : decode cX3_countStrays 2 = .ok (.invokestatic 39, 3) := by decide +kernel
theorem dX3_countStrays_5 : decode cX3_countStrays 5 = .ok (.iconst 1, 1) := by decide +kernel
theorem dX3_countStrays_6 : decode cX3_countStrays 6 = .ok (.isub, 1) := by decide +kernel
theorem dX3_countStrays_7 : decode cX3_countStrays 7 = .ok (.invokestatic 33, 3) := by decide +kernel
theorem dX3_countStrays_10 : decode cX3_countStrays 10 = .ok (.ireturn, 1) := by decide +kernel
theorem dX3_canBeTrodden_0 : decode cX3_canBeTrodden 0 = .ok (.iload_n 0, 1) := by decide +kernel
theorem dX3_canBeTrodden_1 : decode cX3_canBeTrodden 1 = .ok (.ifCond .ne 5, 3) := by decide +kernel
theorem dX3_canBeTrodden_4 : decode cX3_canBeTrodden 4 = .ok (.iconst 1, 1) := by decide +kernel
theorem dX3_canBeTrodden_5 : decode cX3_canBeTrodden 5 = .ok (.ireturn, 1) := by decide +kernel
theorem dX3_canBeTrodden_6 : decode cX3_canBeTrodden 6 = .ok (.iload_n 0, 1) := by decide +kernel
theorem dX3_canBeTrodden_7 : decode cX3_canBeTrodden 7 = .ok (.iload_n 1, 1) := by decide +kernel
theorem dX3_canBeTrodden_8 : decode cX3_canBeTrodden 8 = .ok (.invokestatic 42, 3) := by decide +kernel
theorem dX3_canBeTrodden_11 : decode cX3_canBeTrodden 11 = .ok (.ifCond .eq 11, 3) := by decide +kernel
theorem dX3_canBeTrodden_14 : decode cX3_canBeTrodden 14 = .ok (.iload_n 0, 1) := by decide +kernel
theorem dX3_canBeTrodden_15 : decode cX3_canBeTrodden 15 = .ok (.invokestatic 46, 3) := by decide +kernel
theorem dX3_canBeTrodden_18 : decode cX3_canBeTrodden 18 = .ok (.iconst 1, 1) := by decide +kernel
theorem dX3_canBeTrodden_19 : decode cX3_canBeTrodden 19 = .ok (.if_icmp .eq 5, 3) := by decide +kernel
theorem dX3_canBeTrodden_22 : decode cX3_canBeTrodden 22 = .ok (.iconst 0, 1) := by decide +kernel
theorem dX3_canBeTrodden_23 : decode cX3_canBeTrodden 23 = .ok (.ireturn, 1) := by decide +kernel
theorem dX3_canBeTrodden_24 : decode cX3_canBeTrodden 24 = .ok (.iload_n 0, 1) := by decide +kernel
theorem dX3_canBeTrodden_25 : decode cX3_canBeTrodden 25 = .ok (.invokestatic 25, 3) := by decide +kernel
theorem dX3_canBeTrodden_28 : decode cX3_canBeTrodden 28 = .ok (.istore_n 2, 1) := by decide +kernel
theorem dX3_canBeTrodden_29 : decode cX3_canBeTrodden 29 = .ok (.iload_n 2, 1) := by decide +kernel
theorem dX3_canBeTrodden_30 : decode cX3_canBeTrodden 30 = .ok (.ifCond .eq 19, 3) := by decide +kernel
theorem dX3_canBeTrodden_33 : decode cX3_canBeTrodden 33 = .ok (.iload_n 2, 1) := by decide +kernel
theorem dX3_canBeTrodden_34 : decode cX3_canBeTrodden 34 = .ok (.invokestatic 28, 3) := by decide +kernel
theorem dX3_canBeTrodden_37 : decode cX3_canBeTrodden 37 = .ok (.iconst 2, 1) := by decide +kernel
theorem dX3_canBeTrodden_38 : decode cX3_canBeTrodden 38 = .ok (.if_icmp .ne 15, 3) := by decide +kernel
theorem dX3_canBeTrodden_41 : decode cX3_canBeTrodden 41 = .ok (.iload_n 2, 1) := by decide +kernel
theorem dX3_canBeTrodden_42 : decode cX3_canBeTrodden 42 = .ok (.iload_n 1, 1) := by decide +kernel
theorem dX3_canBeTrodden_43 : decode cX3_canBeTrodden 43 = .ok (.ishr, 1) := by decide +kernel
theorem dX3_canBeTrodden_44 : decode cX3_canBeTrodden 44 = .ok (.iconst 1, 1) := by decide +kernel
theorem dX3_canBeTrodden_45 : decode cX3_canBeTrodden 45 = .ok (.iand, 1) := by decide +kernel
theorem dX3_canBeTrodden_46 : decode cX3_canBeTrodden 46 = .ok (.ifCond .eq 7, 3) := by decide +kernel
theorem dX3_canBeTrodden_49 : decode cX3_canBeTrodden 49 = .ok (.iconst 1, 1) := by decide +kernel
theorem dX3_canBeTrodden_50 : decode cX3_canBeTrodden 50 = .ok (.goto 4, 3) := by decide +kernel
theorem dX3_canBeTrodden_53 : decode cX3_canBeTrodden 53 = .ok (.iconst 0, 1) := by decide +kernel
theorem dX3_canBeTrodden_54 : decode cX3_canBeTrodden 54 = .ok (.ireturn, 1) := by decide +kernel
theorem dX3_touches_0 : decode cX3_touches 0 = .ok (.iconst 0, 1) := by decide +kernel
theorem dX3_touches_1 : decode cX3_touches 1 = .ok (.istore_n 2, 1) := by decide +kernel
theorem dX3_touches_2 : decode cX3_touches 2 = .ok (.iload_n 2, 1) := by decide +kernel
theorem dX3_touches_3 : decode cX3_touches 3 = .ok (.bipush 12, 2) := by decide +kernel
theorem dX3_touches_5 : decode cX3_touches 5 = .ok (.if_icmp .ge 27, 3) := by decide +kernel
theorem dX3_touches_8 : decode cX3_touches 8 = .ok (.iload_n 0, 1) := by decide +kernel
theorem dX3_touches_9 : decode cX3_touches 9 = .ok (.iload_n 2, 1) := by decide +kernel
theorem dX3_touches_10 : decode cX3_touches 10 = .ok (.invokestatic 49, 3) := by decide +kernel
theorem dX3_touches_13 : decode cX3_touches 13 = .ok (.ifCond .eq 13, 3) := by decide +kernel
theorem dX3_touches_16 : decode cX3_touches 16 = .ok (.iload_n 2, 1) := by decide +kernel
theorem dX3_touches_17 : decode cX3_touches 17 = .ok (.iload_n 1, 1) := by decide +kernel
theorem dX3_touches_18 : decode cX3_touches 18 = .ok (.invokestatic 52, 3) := by decide +kernel
theorem dX3_touches_21 : decode cX3_touches 21 = .ok (.ifCond .lt 5, 3) := by decide +kernel
theorem dX3_touches_24 : decode cX3_touches 24 = .ok (.iconst 1, 1) := by decide +kernel
theorem dX3_touches_25 : decode cX3_touches 25 = .ok (.ireturn, 1) := by decide +kernel
theorem dX3_touches_26 : decode cX3_touches 26 = .ok (.iinc 2 1, 3) := by decide +kernel
theorem dX3_touches_29 : decode cX3_touches 29 = .ok (.goto (-27), 3) := by decide +kernel
theorem dX3_touches_32 : decode cX3_touches 32 = .ok (.iconst 0, 1) := by decide +kernel
theorem dX3_touches_33 : decode cX3_touches 33 = .ok (.ireturn, 1) := by decide +kernel
theorem dX3_countWays_0 : decode cX3_countWays 0 = .ok (.iload_n 0, 1) := by decide +kernel
theorem dX3_countWays_1 : decode cX3_countWays 1 = .ok (.ifCond .ne 5, 3) := by decide +kernel
theorem dX3_countWays_4 : decode cX3_countWays 4 = .ok (.lconst 1, 1) := by decide +kernel
theorem dX3_countWays_5 : decode cX3_countWays 5 = .ok (.lreturn, 1) := by decide +kernel
theorem dX3_countWays_6 : decode cX3_countWays 6 = .ok (.iload_n 2, 1) := by decide +kernel
theorem dX3_countWays_7 : decode cX3_countWays 7 = .ok (.bipush 12, 2) := by decide +kernel
theorem dX3_countWays_9 : decode cX3_countWays 9 = .ok (.if_icmp .lt 5, 3) := by decide +kernel
theorem dX3_countWays_12 : decode cX3_countWays 12 = .ok (.lconst 0, 1) := by decide +kernel
theorem dX3_countWays_13 : decode cX3_countWays 13 = .ok (.lreturn, 1) := by decide +kernel
theorem dX3_countWays_14 : decode cX3_countWays 14 = .ok (.lconst 0, 1) := by decide +kernel
theorem dX3_countWays_15 : decode cX3_countWays 15 = .ok (.lstore_n 3, 1) := by decide +kernel
theorem dX3_countWays_16 : decode cX3_countWays 16 = .ok (.iconst 0, 1) := by decide +kernel
theorem dX3_countWays_17 : decode cX3_countWays 17 = .ok (.istore 5, 2) := by decide +kernel
theorem dX3_countWays_19 : decode cX3_countWays 19 = .ok (.iload 5, 2) := by decide +kernel
theorem dX3_countWays_21 : decode cX3_countWays 21 = .ok (.bipush 12, 2) := by decide +kernel
theorem dX3_countWays_23 : decode cX3_countWays 23 = .ok (.if_icmp .ge 50, 3) := by decide +kernel
theorem dX3_countWays_26 : decode cX3_countWays 26 = .ok (.iload 5, 2) := by decide +kernel
theorem dX3_countWays_28 : decode cX3_countWays 28 = .ok (.iload_n 1, 1) := by decide +kernel
theorem dX3_countWays_29 : decode cX3_countWays 29 = .ok (.invokestatic 52, 3) := by decide +kernel
theorem dX3_countWays_32 : decode cX3_countWays 32 = .ok (.istore 6, 2) := by decide +kernel
theorem dX3_countWays_34 : decode cX3_countWays 34 = .ok (.iload_n 0, 1) := by decide +kernel
theorem dX3_countWays_35 : decode cX3_countWays 35 = .ok (.iload 5, 2) := by decide +kernel
theorem dX3_countWays_37 : decode cX3_countWays 37 = .ok (.invokestatic 49, 3) := by decide +kernel
theorem dX3_countWays_40 : decode cX3_countWays 40 = .ok (.ifCond .eq 27, 3) := by decide +kernel
theorem dX3_countWays_43 : decode cX3_countWays 43 = .ok (.iload 6, 2) := by decide +kernel
theorem dX3_countWays_45 : decode cX3_countWays 45 = .ok (.ifCond .lt 22, 3) := by decide +kernel
theorem dX3_countWays_48 : decode cX3_countWays 48 = .ok (.lload_n 3, 1) := by decide +kernel
theorem dX3_countWays_49 : decode cX3_countWays 49 = .ok (.iload_n 0, 1) := by decide +kernel
theorem dX3_countWays_50 : decode cX3_countWays 50 = .ok (.iconst 1, 1) := by decide +kernel
theorem dX3_countWays_51 : decode cX3_countWays 51 = .ok (.iload 5, 2) := by decide +kernel
theorem dX3_countWays_53 : decode cX3_countWays 53 = .ok (.ishl, 1) := by decide +kernel
theorem dX3_countWays_54 : decode cX3_countWays 54 = .ok (.iconst (-1), 1) := by decide +kernel
theorem dX3_countWays_55 : decode cX3_countWays 55 = .ok (.ixor, 1) := by decide +kernel
theorem dX3_countWays_56 : decode cX3_countWays 56 = .ok (.iand, 1) := by decide +kernel
theorem dX3_countWays_57 : decode cX3_countWays 57 = .ok (.iload 6, 2) := by decide +kernel
theorem dX3_countWays_59 : decode cX3_countWays 59 = .ok (.iload_n 2, 1) := by decide +kernel
theorem dX3_countWays_60 : decode cX3_countWays 60 = .ok (.iconst 1, 1) := by decide +kernel
theorem dX3_countWays_61 : decode cX3_countWays 61 = .ok (.iadd, 1) := by decide +kernel
theorem dX3_countWays_62 : decode cX3_countWays 62 = .ok (.invokestatic 55, 3) := by decide +kernel
theorem dX3_countWays_65 : decode cX3_countWays 65 = .ok (.ladd, 1) := by decide +kernel
theorem dX3_countWays_66 : decode cX3_countWays 66 = .ok (.lstore_n 3, 1) := by decide +kernel
theorem dX3_countWays_67 : decode cX3_countWays 67 = .ok (.iinc 5 1, 3) := by decide +kernel
theorem dX3_countWays_70 : decode cX3_countWays 70 = .ok (.goto (-51), 3) := by decide +kernel
theorem dX3_countWays_73 : decode cX3_countWays 73 = .ok (.lload_n 3, 1) := by decide +kernel
theorem dX3_countWays_74 : decode cX3_countWays 74 = .ok (.lreturn, 1) := by decide +kernel
theorem dX3_strokeOfFirstWay_0 : decode cX3_strokeOfFirstWay 0 = .ok (.iload_n 2, 1) := by decide +kernel
theorem dX3_strokeOfFirstWay_1 : decode cX3_strokeOfFirstWay 1 = .ok (.ifCond .lt 19, 3) := by decide +kernel
theorem dX3_strokeOfFirstWay_4 : decode cX3_strokeOfFirstWay 4 = .ok (.iload_n 2, 1) := by decide +kernel
theorem dX3_strokeOfFirstWay_5 : decode cX3_strokeOfFirstWay 5 = .ok (.iload_n 0, 1) := by decide +kernel
theorem dX3_strokeOfFirstWay_6 : decode cX3_strokeOfFirstWay 6 = .ok (.invokestatic 28, 3) := by decide +kernel
theorem dX3_strokeOfFirstWay_9 : decode cX3_strokeOfFirstWay 9 = .ok (.if_icmp .ge 11, 3) := by decide +kernel
theorem dX3_strokeOfFirstWay_12 : decode cX3_strokeOfFirstWay 12 = .ok (.iload_n 0, 1) := by decide +kernel
theorem dX3_strokeOfFirstWay_13 : decode cX3_strokeOfFirstWay 13 = .ok (.iload_n 1, 1) := by decide +kernel
theorem dX3_strokeOfFirstWay_14 : decode cX3_strokeOfFirstWay 14 = .ok (.invokestatic 59, 3) := by decide +kernel
theorem dX3_strokeOfFirstWay_17 : decode cX3_strokeOfFirstWay 17 = .ok (.ifCond .ne 5, 3) := by decide +kernel
theorem dX3_strokeOfFirstWay_20 : decode cX3_strokeOfFirstWay 20 = .ok (.iconst (-1), 1) := by decide +kernel
theorem dX3_strokeOfFirstWay_21 : decode cX3_strokeOfFirstWay 21 = .ok (.ireturn, 1) := by decide +kernel
theorem dX3_strokeOfFirstWay_22 : decode cX3_strokeOfFirstWay 22 = .ok (.iload_n 0, 1) := by decide +kernel
theorem dX3_strokeOfFirstWay_23 : decode cX3_strokeOfFirstWay 23 = .ok (.istore_n 3, 1) := by decide +kernel
theorem dX3_strokeOfFirstWay_24 : decode cX3_strokeOfFirstWay 24 = .ok (.iload_n 1, 1) := by decide +kernel
theorem dX3_strokeOfFirstWay_25 : decode cX3_strokeOfFirstWay 25 = .ok (.istore 4, 2) := by decide +kernel
theorem dX3_strokeOfFirstWay_27 : decode cX3_strokeOfFirstWay 27 = .ok (.iconst (-1), 1) := by decide +kernel
theorem dX3_strokeOfFirstWay_28 : decode cX3_strokeOfFirstWay 28 = .ok (.istore 5, 2) := by decide +kernel
theorem dX3_strokeOfFirstWay_30 : decode cX3_strokeOfFirstWay 30 = .ok (.iconst 0, 1) := by decide +kernel
theorem dX3_strokeOfFirstWay_31 : decode cX3_strokeOfFirstWay 31 = .ok (.istore 6, 2) := by decide +kernel
theorem dX3_strokeOfFirstWay_33 : decode cX3_strokeOfFirstWay 33 = .ok (.iload 6, 2) := by decide +kernel
theorem dX3_strokeOfFirstWay_35 : decode cX3_strokeOfFirstWay 35 = .ok (.iload_n 2, 1) := by decide +kernel
theorem dX3_strokeOfFirstWay_36 : decode cX3_strokeOfFirstWay 36 = .ok (.if_icmp .gt 42, 3) := by decide +kernel
theorem dX3_strokeOfFirstWay_39 : decode cX3_strokeOfFirstWay 39 = .ok (.iload_n 3, 1) := by decide +kernel
theorem dX3_strokeOfFirstWay_40 : decode cX3_strokeOfFirstWay 40 = .ok (.iload 4, 2) := by decide +kernel
theorem dX3_strokeOfFirstWay_42 : decode cX3_strokeOfFirstWay 42 = .ok (.invokestatic 62, 3) := by decide +kernel
theorem dX3_strokeOfFirstWay_45 : decode cX3_strokeOfFirstWay 45 = .ok (.istore 5, 2) := by decide +kernel
theorem dX3_strokeOfFirstWay_47 : decode cX3_strokeOfFirstWay 47 = .ok (.iload 5, 2) := by decide +kernel
theorem dX3_strokeOfFirstWay_49 : decode cX3_strokeOfFirstWay 49 = .ok (.ifCond .ge 5, 3) := by decide +kernel
theorem dX3_strokeOfFirstWay_52 : decode cX3_strokeOfFirstWay 52 = .ok (.iconst (-1), 1) := by decide +kernel
theorem dX3_strokeOfFirstWay_53 : decode cX3_strokeOfFirstWay 53 = .ok (.ireturn, 1) := by decide +kernel
theorem dX3_strokeOfFirstWay_54 : decode cX3_strokeOfFirstWay 54 = .ok (.iload 5, 2) := by decide +kernel
theorem dX3_strokeOfFirstWay_56 : decode cX3_strokeOfFirstWay 56 = .ok (.iload 4, 2) := by decide +kernel
theorem dX3_strokeOfFirstWay_58 : decode cX3_strokeOfFirstWay 58 = .ok (.invokestatic 52, 3) := by decide +kernel
theorem dX3_strokeOfFirstWay_61 : decode cX3_strokeOfFirstWay 61 = .ok (.istore 4, 2) := by decide +kernel
theorem dX3_strokeOfFirstWay_63 : decode cX3_strokeOfFirstWay 63 = .ok (.iload_n 3, 1) := by decide +kernel
theorem dX3_strokeOfFirstWay_64 : decode cX3_strokeOfFirstWay 64 = .ok (.iconst 1, 1) := by decide +kernel
theorem dX3_strokeOfFirstWay_65 : decode cX3_strokeOfFirstWay 65 = .ok (.iload 5, 2) := by decide +kernel
theorem dX3_strokeOfFirstWay_67 : decode cX3_strokeOfFirstWay 67 = .ok (.ishl, 1) := by decide +kernel
theorem dX3_strokeOfFirstWay_68 : decode cX3_strokeOfFirstWay 68 = .ok (.iconst (-1), 1) := by decide +kernel
theorem dX3_strokeOfFirstWay_69 : decode cX3_strokeOfFirstWay 69 = .ok (.ixor, 1) := by decide +kernel
theorem dX3_strokeOfFirstWay_70 : decode cX3_strokeOfFirstWay 70 = .ok (.iand, 1) := by decide +kernel
theorem dX3_strokeOfFirstWay_71 : decode cX3_strokeOfFirstWay 71 = .ok (.istore_n 3, 1) := by decide +kernel
theorem dX3_strokeOfFirstWay_72 : decode cX3_strokeOfFirstWay 72 = .ok (.iinc 6 1, 3) := by decide +kernel
theorem dX3_strokeOfFirstWay_75 : decode cX3_strokeOfFirstWay 75 = .ok (.goto (-42), 3) := by decide +kernel
theorem dX3_strokeOfFirstWay_78 : decode cX3_strokeOfFirstWay 78 = .ok (.iload 5, 2) := by decide +kernel
theorem dX3_strokeOfFirstWay_80 : decode cX3_strokeOfFirstWay 80 = .ok (.ireturn, 1) := by decide +kernel
theorem dX3_leastOnward_0 : decode cX3_leastOnward 0 = .ok (.iconst 0, 1) := by decide +kernel
theorem dX3_leastOnward_1 : decode cX3_leastOnward 1 = .ok (.istore_n 2, 1) := by decide +kernel
theorem dX3_leastOnward_2 : decode cX3_leastOnward 2 = .ok (.iload_n 2, 1) := by decide +kernel
theorem dX3_leastOnward_3 : decode cX3_leastOnward 3 = .ok (.bipush 12, 2) := by decide +kernel
theorem dX3_leastOnward_5 : decode cX3_leastOnward 5 = .ok (.if_icmp .ge 43, 3) := by decide +kernel
theorem dX3_leastOnward_8 : decode cX3_leastOnward 8 = .ok (.iload_n 2, 1) := by decide +kernel
theorem dX3_leastOnward_9 : decode cX3_leastOnward 9 = .ok (.iload_n 1, 1) := by decide +kernel
theorem dX3_leastOnward_10 : decode cX3_leastOnward 10 = .ok (.invokestatic 52, 3) := by decide +kernel
theorem dX3_leastOnward_13 : decode cX3_leastOnward 13 = .ok (.istore_n 3, 1) := by decide +kernel
theorem dX3_leastOnward_14 : decode cX3_leastOnward 14 = .ok (.iload_n 0, 1) := by decide +kernel
theorem dX3_leastOnward_15 : decode cX3_leastOnward 15 = .ok (.iload_n 2, 1) := by decide +kernel
theorem dX3_leastOnward_16 : decode cX3_leastOnward 16 = .ok (.invokestatic 49, 3) := by decide +kernel
theorem dX3_leastOnward_19 : decode cX3_leastOnward 19 = .ok (.ifCond .eq 23, 3) := by decide +kernel
theorem dX3_leastOnward_22 : decode cX3_leastOnward 22 = .ok (.iload_n 3, 1) := by decide +kernel
theorem dX3_leastOnward_23 : decode cX3_leastOnward 23 = .ok (.ifCond .lt 19, 3) := by decide +kernel
theorem dX3_leastOnward_26 : decode cX3_leastOnward 26 = .ok (.iload_n 0, 1) := by decide +kernel
theorem dX3_leastOnward_27 : decode cX3_leastOnward 27 = .ok (.iconst 1, 1) := by decide +kernel
theorem dX3_leastOnward_28 : decode cX3_leastOnward 28 = .ok (.iload_n 2, 1) := by decide +kernel
theorem dX3_leastOnward_29 : decode cX3_leastOnward 29 = .ok (.ishl, 1) := by decide +kernel
theorem dX3_leastOnward_30 : decode cX3_leastOnward 30 = .ok (.iconst (-1), 1) := by decide +kernel
theorem dX3_leastOnward_31 : decode cX3_leastOnward 31 = .ok (.ixor, 1) := by decide +kernel
theorem dX3_leastOnward_32 : decode cX3_leastOnward 32 = .ok (.iand, 1) := by decide +kernel
theorem dX3_leastOnward_33 : decode cX3_leastOnward 33 = .ok (.iload_n 3, 1) := by decide +kernel
theorem dX3_leastOnward_34 : decode cX3_leastOnward 34 = .ok (.invokestatic 59, 3) := by decide +kernel
theorem dX3_leastOnward_37 : decode cX3_leastOnward 37 = .ok (.ifCond .eq 5, 3) := by decide +kernel
theorem dX3_leastOnward_40 : decode cX3_leastOnward 40 = .ok (.iload_n 2, 1) := by decide +kernel
theorem dX3_leastOnward_41 : decode cX3_leastOnward 41 = .ok (.ireturn, 1) := by decide +kernel
theorem dX3_leastOnward_42 : decode cX3_leastOnward 42 = .ok (.iinc 2 1, 3) := by decide +kernel
theorem dX3_leastOnward_45 : decode cX3_leastOnward 45 = .ok (.goto (-43), 3) := by decide +kernel
theorem dX3_leastOnward_48 : decode cX3_leastOnward 48 = .ok (.iconst (-1), 1) := by decide +kernel
theorem dX3_leastOnward_49 : decode cX3_leastOnward 49 = .ok (.ireturn, 1) := by decide +kernel
theorem dX3_fewestToClose_0 : decode cX3_fewestToClose 0 = .ok (.iload_n 0, 1) := by decide +kernel
theorem dX3_fewestToClose_1 : decode cX3_fewestToClose 1 = .ok (.invokestatic 25, 3) := by decide +kernel
theorem dX3_fewestToClose_4 : decode cX3_fewestToClose 4 = .ok (.istore_n 1, 1) := by decide +kernel
theorem dX3_fewestToClose_5 : decode cX3_fewestToClose 5 = .ok (.iload_n 0, 1) := by decide +kernel
theorem dX3_fewestToClose_6 : decode cX3_fewestToClose 6 = .ok (.invokestatic 28, 3) := by decide +kernel
theorem dX3_fewestToClose_9 : decode cX3_fewestToClose 9 = .ok (.istore_n 2, 1) := by decide +kernel
theorem dX3_fewestToClose_10 : decode cX3_fewestToClose 10 = .ok (.iconst 0, 1) := by decide +kernel
theorem dX3_fewestToClose_11 : decode cX3_fewestToClose 11 = .ok (.istore_n 3, 1) := by decide +kernel
theorem dX3_fewestToClose_12 : decode cX3_fewestToClose 12 = .ok (.iconst 0, 1) := by decide +kernel
theorem dX3_fewestToClose_13 : decode cX3_fewestToClose 13 = .ok (.istore 4, 2) := by decide +kernel
theorem dX3_fewestToClose_15 : decode cX3_fewestToClose 15 = .ok (.iload 4, 2) := by decide +kernel
theorem dX3_fewestToClose_17 : decode cX3_fewestToClose 17 = .ok (.sipush 4095, 3) := by decide +kernel
theorem dX3_fewestToClose_20 : decode cX3_fewestToClose 20 = .ok (.if_icmp .gt 43, 3) := by decide +kernel
theorem dX3_fewestToClose_23 : decode cX3_fewestToClose 23 = .ok (.iload_n 3, 1) := by decide +kernel
theorem dX3_fewestToClose_24 : decode cX3_fewestToClose 24 = .ok (.invokestatic 28, 3) := by decide +kernel
theorem dX3_fewestToClose_27 : decode cX3_fewestToClose 27 = .ok (.iload_n 2, 1) := by decide +kernel
theorem dX3_fewestToClose_28 : decode cX3_fewestToClose 28 = .ok (.if_icmp .ge 16, 3) := by decide +kernel
theorem dX3_fewestToClose_31 : decode cX3_fewestToClose 31 = .ok (.iload_n 3, 1) := by decide +kernel
theorem dX3_fewestToClose_32 : decode cX3_fewestToClose 32 = .ok (.invokestatic 25, 3) := by decide +kernel
theorem dX3_fewestToClose_35 : decode cX3_fewestToClose 35 = .ok (.iload_n 1, 1) := by decide +kernel
theorem dX3_fewestToClose_36 : decode cX3_fewestToClose 36 = .ok (.if_icmp .ne 8, 3) := by decide +kernel
theorem dX3_fewestToClose_39 : decode cX3_fewestToClose 39 = .ok (.iload_n 3, 1) := by decide +kernel
theorem dX3_fewestToClose_40 : decode cX3_fewestToClose 40 = .ok (.invokestatic 28, 3) := by decide +kernel
theorem dX3_fewestToClose_43 : decode cX3_fewestToClose 43 = .ok (.istore_n 2, 1) := by decide +kernel
theorem dX3_fewestToClose_44 : decode cX3_fewestToClose 44 = .ok (.iload_n 3, 1) := by decide +kernel
theorem dX3_fewestToClose_45 : decode cX3_fewestToClose 45 = .ok (.iload_n 0, 1) := by decide +kernel
theorem dX3_fewestToClose_46 : decode cX3_fewestToClose 46 = .ok (.invokestatic 65, 3) := by decide +kernel
theorem dX3_fewestToClose_49 : decode cX3_fewestToClose 49 = .ok (.istore_n 3, 1) := by decide +kernel
theorem dX3_fewestToClose_50 : decode cX3_fewestToClose 50 = .ok (.iload_n 3, 1) := by decide +kernel
theorem dX3_fewestToClose_51 : decode cX3_fewestToClose 51 = .ok (.ifCond .ne 6, 3) := by decide +kernel
theorem dX3_fewestToClose_54 : decode cX3_fewestToClose 54 = .ok (.goto 9, 3) := by decide +kernel
theorem dX3_fewestToClose_57 : decode cX3_fewestToClose 57 = .ok (.iinc 4 1, 3) := by decide +kernel
theorem dX3_fewestToClose_60 : decode cX3_fewestToClose 60 = .ok (.goto (-45), 3) := by decide +kernel
theorem dX3_fewestToClose_63 : decode cX3_fewestToClose 63 = .ok (.iload_n 2, 1) := by decide +kernel
theorem dX3_fewestToClose_64 : decode cX3_fewestToClose 64 = .ok (.ireturn, 1) := by decide +kernel
theorem dX3_nextPart_0 : decode cX3_nextPart 0 = .ok (.iload_n 0, 1) := by decide +kernel
theorem dX3_nextPart_1 : decode cX3_nextPart 1 = .ok (.iload_n 1, 1) := by decide +kernel
theorem dX3_nextPart_2 : decode cX3_nextPart 2 = .ok (.isub, 1) := by decide +kernel
theorem dX3_nextPart_3 : decode cX3_nextPart 3 = .ok (.iload_n 1, 1) := by decide +kernel
theorem dX3_nextPart_4 : decode cX3_nextPart 4 = .ok (.iand, 1) := by decide +kernel
theorem dX3_nextPart_5 : decode cX3_nextPart 5 = .ok (.ireturn, 1) := by decide +kernel
theorem dX3_byAQuarter_0 : decode cX3_byAQuarter 0 = .ok (.iconst 0, 1) := by decide +kernel
theorem dX3_byAQuarter_1 : decode cX3_byAQuarter 1 = .ok (.istore_n 1, 1) := by decide +kernel
theorem dX3_byAQuarter_2 : decode cX3_byAQuarter 2 = .ok (.iconst 0, 1) := by decide +kernel
theorem dX3_byAQuarter_3 : decode cX3_byAQuarter 3 = .ok (.istore_n 2, 1) := by decide +kernel
theorem dX3_byAQuarter_4 : decode cX3_byAQuarter 4 = .ok (.iload_n 2, 1) := by decide +kernel
theorem dX3_byAQuarter_5 : decode cX3_byAQuarter 5 = .ok (.getstatic 68, 3) := by decide +kernel
theorem dX3_byAQuarter_8 : decode cX3_byAQuarter 8 = .ok (.arraylength, 1) := by decide +kernel
theorem dX3_byAQuarter_9 : decode cX3_byAQuarter 9 = .ok (.if_icmp .ge 27, 3) := by decide +kernel
theorem dX3_byAQuarter_12 : decode cX3_byAQuarter 12 = .ok (.iload_n 0, 1) := by decide +kernel
theorem dX3_byAQuarter_13 : decode cX3_byAQuarter 13 = .ok (.iload_n 2, 1) := by decide +kernel
theorem dX3_byAQuarter_14 : decode cX3_byAQuarter 14 = .ok (.invokestatic 49, 3) := by decide +kernel
theorem dX3_byAQuarter_17 : decode cX3_byAQuarter 17 = .ok (.ifCond .eq 13, 3) := by decide +kernel
theorem dX3_byAQuarter_20 : decode cX3_byAQuarter 20 = .ok (.iload_n 1, 1) := by decide +kernel
theorem dX3_byAQuarter_21 : decode cX3_byAQuarter 21 = .ok (.iconst 1, 1) := by decide +kernel
theorem dX3_byAQuarter_22 : decode cX3_byAQuarter 22 = .ok (.getstatic 68, 3) := by decide +kernel
theorem dX3_byAQuarter_25 : decode cX3_byAQuarter 25 = .ok (.iload_n 2, 1) := by decide +kernel
theorem dX3_byAQuarter_26 : decode cX3_byAQuarter 26 = .ok (.iaload, 1) := by decide +kernel
theorem dX3_byAQuarter_27 : decode cX3_byAQuarter 27 = .ok (.ishl, 1) := by decide +kernel
theorem dX3_byAQuarter_28 : decode cX3_byAQuarter 28 = .ok (.ior, 1) := by decide +kernel
theorem dX3_byAQuarter_29 : decode cX3_byAQuarter 29 = .ok (.istore_n 1, 1) := by decide +kernel
theorem dX3_byAQuarter_30 : decode cX3_byAQuarter 30 = .ok (.iinc 2 1, 3) := by decide +kernel
theorem dX3_byAQuarter_33 : decode cX3_byAQuarter 33 = .ok (.goto (-29), 3) := by decide +kernel
theorem dX3_byAQuarter_36 : decode cX3_byAQuarter 36 = .ok (.iload_n 1, 1) := by decide +kernel
theorem dX3_byAQuarter_37 : decode cX3_byAQuarter 37 = .ok (.ireturn, 1) := by decide +kernel
theorem dX3_differ_0 : decode cX3_differ 0 = .ok (.iload_n 0, 1) := by decide +kernel
theorem dX3_differ_1 : decode cX3_differ 1 = .ok (.iload_n 1, 1) := by decide +kernel
theorem dX3_differ_2 : decode cX3_differ 2 = .ok (.ixor, 1) := by decide +kernel
theorem dX3_differ_3 : decode cX3_differ 3 = .ok (.invokestatic 28, 3) := by decide +kernel
theorem dX3_differ_6 : decode cX3_differ 6 = .ok (.ireturn, 1) := by decide +kernel
theorem dX3_between_0 : decode cX3_between 0 = .ok (.iconst 0, 1) := by decide +kernel
theorem dX3_between_1 : decode cX3_between 1 = .ok (.istore_n 2, 1) := by decide +kernel
theorem dX3_between_2 : decode cX3_between 2 = .ok (.iload_n 2, 1) := by decide +kernel
theorem dX3_between_3 : decode cX3_between 3 = .ok (.bipush 12, 2) := by decide +kernel
theorem dX3_between_5 : decode cX3_between 5 = .ok (.if_icmp .ge 20, 3) := by decide +kernel
theorem dX3_between_8 : decode cX3_between 8 = .ok (.iload_n 2, 1) := by decide +kernel
theorem dX3_between_9 : decode cX3_between 9 = .ok (.iload_n 0, 1) := by decide +kernel
theorem dX3_between_10 : decode cX3_between 10 = .ok (.invokestatic 52, 3) := by decide +kernel
theorem dX3_between_13 : decode cX3_between 13 = .ok (.iload_n 1, 1) := by decide +kernel
theorem dX3_between_14 : decode cX3_between 14 = .ok (.if_icmp .ne 5, 3) := by decide +kernel
theorem dX3_between_17 : decode cX3_between 17 = .ok (.iload_n 2, 1) := by decide +kernel
theorem dX3_between_18 : decode cX3_between 18 = .ok (.ireturn, 1) := by decide +kernel
theorem dX3_between_19 : decode cX3_between 19 = .ok (.iinc 2 1, 3) := by decide +kernel
theorem dX3_between_22 : decode cX3_between 22 = .ok (.goto (-20), 3) := by decide +kernel
theorem dX3_between_25 : decode cX3_between 25 = .ok (.iconst (-1), 1) := by decide +kernel
theorem dX3_between_26 : decode cX3_between 26 = .ok (.ireturn, 1) := by decide +kernel
theorem dX4_isKind_0 : decode cX4_isKind 0 = .ok (.iload_n 0, 1) := by decide +kernel
theorem dX4_isKind_1 : decode cX4_isKind 1 = .ok (.ifCond .lt 13, 3) := by decide +kernel
theorem dX4_isKind_4 : decode cX4_isKind 4 = .ok (.iload_n 0, 1) := by decide +kernel
theorem dX4_isKind_5 : decode cX4_isKind 5 = .ok (.bipush 6, 2) := by decide +kernel
theorem dX4_isKind_7 : decode cX4_isKind 7 = .ok (.if_icmp .ge 7, 3) := by decide +kernel
theorem dX4_isKind_10 : decode cX4_isKind 10 = .ok (.iconst 1, 1) := by decide +kernel
theorem dX4_isKind_11 : decode cX4_isKind 11 = .ok (.goto 4, 3) := by decide +kernel
theorem dX4_isKind_14 : decode cX4_isKind 14 = .ok (.iconst 0, 1) := by decide +kernel
theorem dX4_isKind_15 : decode cX4_isKind 15 = .ok (.ireturn, 1) := by decide +kernel
theorem dX4_above_0 : decode cX4_above 0 = .ok (.iload_n 0, 1) := by decide +kernel
theorem dX4_above_1 : decode cX4_above 1 = .ok (.tableswitch 41 1 5 #[35, 35, 35, 37, 39], 35) := by decide +kernel
theorem dX4_above_36 : decode cX4_above 36 = .ok (.iconst 0, 1) := by decide +kernel
theorem dX4_above_37 : decode cX4_above 37 = .ok (.ireturn, 1) := by decide +kernel
theorem dX4_above_38 : decode cX4_above 38 = .ok (.iconst 1, 1) := by decide +kernel
theorem dX4_above_39 : decode cX4_above 39 = .ok (.ireturn, 1) := by decide +kernel
theorem dX4_above_40 : decode cX4_above 40 = .ok (.iconst 2, 1) := by decide +kernel
theorem dX4_above_41 : decode cX4_above 41 = .ok (.ireturn, 1) := by decide +kernel
theorem dX4_above_42 : decode cX4_above 42 = .ok (.iconst (-1), 1) := by decide +kernel
theorem dX4_above_43 : decode cX4_above 43 = .ok (.ireturn, 1) := by decide +kernel
theorem dX4_isUnder_0 : decode cX4_isUnder 0 = .ok (.iload_n 0, 1) := by decide +kernel
theorem dX4_isUnder_1 : decode cX4_isUnder 1 = .ok (.istore_n 2, 1) := by decide +kernel
theorem dX4_isUnder_2 : decode cX4_isUnder 2 = .ok (.iconst 0, 1) := by decide +kernel
theorem dX4_isUnder_3 : decode cX4_isUnder 3 = .ok (.istore_n 3, 1) := by decide +kernel
theorem dX4_isUnder_4 : decode cX4_isUnder 4 = .ok (.iload_n 3, 1) := by decide +kernel
theorem dX4_isUnder_5 : decode cX4_isUnder 5 = .ok (.bipush 6, 2) := by decide +kernel
theorem dX4_isUnder_7 : decode cX4_isUnder 7 = .ok (.if_icmp .ge 25, 3) := by decide +kernel
theorem dX4_isUnder_10 : decode cX4_isUnder 10 = .ok (.iload_n 2, 1) := by decide +kernel
theorem dX4_isUnder_11 : decode cX4_isUnder 11 = .ok (.ifCond .lt 21, 3) := by decide +kernel
theorem dX4_isUnder_14 : decode cX4_isUnder 14 = .ok (.iload_n 2, 1) := by decide +kernel
theorem dX4_isUnder_15 : decode cX4_isUnder 15 = .ok (.iload_n 1, 1) := by decide +kernel
theorem dX4_isUnder_16 : decode cX4_isUnder 16 = .ok (.if_icmp .ne 5, 3) := by decide +kernel
theorem dX4_isUnder_19 : decode cX4_isUnder 19 = .ok (.iconst 1, 1) := by decide +kernel
theorem dX4_isUnder_20 : decode cX4_isUnder 20 = .ok (.ireturn, 1) := by decide +kernel
theorem dX4_isUnder_21 : decode cX4_isUnder 21 = .ok (.iload_n 2, 1) := by decide +kernel
theorem dX4_isUnder_22 : decode cX4_isUnder 22 = .ok (.invokestatic 9, 3) := by decide +kernel
theorem dX4_isUnder_25 : decode cX4_isUnder 25 = .ok (.istore_n 2, 1) := by decide +kernel
theorem dX4_isUnder_26 : decode cX4_isUnder 26 = .ok (.iinc 3 1, 3) := by decide +kernel
theorem dX4_isUnder_29 : decode cX4_isUnder 29 = .ok (.goto (-25), 3) := by decide +kernel
theorem dX4_isUnder_32 : decode cX4_isUnder 32 = .ok (.iconst 0, 1) := by decide +kernel
theorem dX4_isUnder_33 : decode cX4_isUnder 33 = .ok (.ireturn, 1) := by decide +kernel
theorem dX4_lasts_0 : decode cX4_lasts 0 = .ok (.iload_n 0, 1) := by decide +kernel
theorem dX4_lasts_1 : decode cX4_lasts 1 = .ok (.tableswitch 49 1 5 #[35, 39, 49, 35, 43], 35) := by decide +kernel
theorem dX4_lasts_36 : decode cX4_lasts 36 = .ok (.iconst 2, 1) := by decide +kernel
theorem dX4_lasts_37 : decode cX4_lasts 37 = .ok (.iload_n 1, 1) := by decide +kernel
theorem dX4_lasts_38 : decode cX4_lasts 38 = .ok (.imul, 1) := by decide +kernel
theorem dX4_lasts_39 : decode cX4_lasts 39 = .ok (.ireturn, 1) := by decide +kernel
theorem dX4_lasts_40 : decode cX4_lasts 40 = .ok (.iload_n 1, 1) := by decide +kernel
theorem dX4_lasts_41 : decode cX4_lasts 41 = .ok (.iconst 2, 1) := by decide +kernel
theorem dX4_lasts_42 : decode cX4_lasts 42 = .ok (.idiv, 1) := by decide +kernel
theorem dX4_lasts_43 : decode cX4_lasts 43 = .ok (.ireturn, 1) := by decide +kernel
theorem dX4_lasts_44 : decode cX4_lasts 44 = .ok (.iload_n 1, 1) := by decide +kernel
theorem dX4_lasts_45 : decode cX4_lasts 45 = .ok (.iconst 2, 1) := by decide +kernel
theorem dX4_lasts_46 : decode cX4_lasts 46 = .ok (.idiv, 1) := by decide +kernel
theorem dX4_lasts_47 : decode cX4_lasts 47 = .ok (.iconst 4, 1) := by decide +kernel
theorem dX4_lasts_48 : decode cX4_lasts 48 = .ok (.iadd, 1) := by decide +kernel
theorem dX4_lasts_49 : decode cX4_lasts 49 = .ok (.ireturn, 1) := by decide +kernel
theorem dX4_lasts_50 : decode cX4_lasts 50 = .ok (.iload_n 1, 1) := by decide +kernel
theorem dX4_lasts_51 : decode cX4_lasts 51 = .ok (.ireturn, 1) := by decide +kernel
theorem dX4_shows_0 : decode cX4_shows 0 = .ok (.iload_n 0, 1) := by decide +kernel
theorem dX4_shows_1 : decode cX4_shows 1 = .ok (.lookupswitch 37 #[(3, 27), (4, 32)], 27) := by decide +kernel
theorem dX4_shows_28 : decode cX4_shows 28 = .ok (.iload_n 1, 1) := by decide +kernel
theorem dX4_shows_29 : decode cX4_shows 29 = .ok (.bipush 12, 2) := by decide +kernel
theorem dX4_shows_31 : decode cX4_shows 31 = .ok (.ior, 1) := by decide +kernel
theorem dX4_shows_32 : decode cX4_shows 32 = .ok (.ireturn, 1) := by decide +kernel
theorem dX4_shows_33 : decode cX4_shows 33 = .ok (.iload_n 1, 1) := by decide +kernel
theorem dX4_shows_34 : decode cX4_shows 34 = .ok (.bipush 48, 2) := by decide +kernel
theorem dX4_shows_36 : decode cX4_shows 36 = .ok (.ior, 1) := by decide +kernel
theorem dX4_shows_37 : decode cX4_shows 37 = .ok (.ireturn, 1) := by decide +kernel
theorem dX4_shows_38 : decode cX4_shows 38 = .ok (.iload_n 1, 1) := by decide +kernel
theorem dX4_shows_39 : decode cX4_shows 39 = .ok (.ireturn, 1) := by decide +kernel
theorem dX4_feet_0 : decode cX4_feet 0 = .ok (.iload_n 1, 1) := by decide +kernel
theorem dX4_feet_1 : decode cX4_feet 1 = .ok (.invokestatic 13, 3) := by decide +kernel
theorem dX4_feet_4 : decode cX4_feet 4 = .ok (.iload_n 1, 1) := by decide +kernel
theorem dX4_feet_5 : decode cX4_feet 5 = .ok (.invokestatic 18, 3) := by decide +kernel
theorem dX4_feet_8 : decode cX4_feet 8 = .ok (.iadd, 1) := by decide +kernel
theorem dX4_feet_9 : decode cX4_feet 9 = .ok (.istore_n 2, 1) := by decide +kernel
theorem dX4_feet_10 : decode cX4_feet 10 = .ok (.iload_n 0, 1) := by decide +kernel
theorem dX4_feet_11 : decode cX4_feet 11 = .ok (.tableswitch 43 1 4 #[29, 43, 33, 37], 29) := by decide +kernel
theorem dX4_feet_40 : decode cX4_feet 40 = .ok (.iconst 2, 1) := by decide +kernel
theorem dX4_feet_41 : decode cX4_feet 41 = .ok (.iload_n 2, 1) := by decide +kernel
theorem dX4_feet_42 : decode cX4_feet 42 = .ok (.imul, 1) := by decide +kernel
theorem dX4_feet_43 : decode cX4_feet 43 = .ok (.ireturn, 1) := by decide +kernel
theorem dX4_feet_44 : decode cX4_feet 44 = .ok (.iload_n 2, 1) := by decide +kernel
theorem dX4_feet_45 : decode cX4_feet 45 = .ok (.iconst 2, 1) := by decide +kernel
theorem dX4_feet_46 : decode cX4_feet 46 = .ok (.iadd, 1) := by decide +kernel
theorem dX4_feet_47 : decode cX4_feet 47 = .ok (.ireturn, 1) := by decide +kernel
theorem dX4_feet_48 : decode cX4_feet 48 = .ok (.iconst 2, 1) := by decide +kernel
theorem dX4_feet_49 : decode cX4_feet 49 = .ok (.iload_n 2, 1) := by decide +kernel
theorem dX4_feet_50 : decode cX4_feet 50 = .ok (.imul, 1) := by decide +kernel
theorem dX4_feet_51 : decode cX4_feet 51 = .ok (.iconst 2, 1) := by decide +kernel
theorem dX4_feet_52 : decode cX4_feet 52 = .ok (.iadd, 1) := by decide +kernel
theorem dX4_feet_53 : decode cX4_feet 53 = .ok (.ireturn, 1) := by decide +kernel
theorem dX4_feet_54 : decode cX4_feet 54 = .ok (.iload_n 2, 1) := by decide +kernel
theorem dX4_feet_55 : decode cX4_feet 55 = .ok (.ireturn, 1) := by decide +kernel
theorem dX4_lastsForFeet_0 : decode cX4_lastsForFeet 0 = .ok (.iload_n 0, 1) := by decide +kernel
theorem dX4_lastsForFeet_1 : decode cX4_lastsForFeet 1 = .ok (.iload_n 1, 1) := by decide +kernel
theorem dX4_lastsForFeet_2 : decode cX4_lastsForFeet 2 = .ok (.invokestatic 23, 3) := by decide +kernel
theorem dX4_lastsForFeet_5 : decode cX4_lastsForFeet 5 = .ok (.istore_n 3, 1) := by decide +kernel
theorem dX4_lastsForFeet_6 : decode cX4_lastsForFeet 6 = .ok (.iload_n 3, 1) := by decide +kernel
theorem dX4_lastsForFeet_7 : decode cX4_lastsForFeet 7 = .ok (.ifCond .le 16, 3) := by decide +kernel
theorem dX4_lastsForFeet_10 : decode cX4_lastsForFeet 10 = .ok (.iload_n 0, 1) := by decide +kernel
theorem dX4_lastsForFeet_11 : decode cX4_lastsForFeet 11 = .ok (.iload_n 2, 1) := by decide +kernel
theorem dX4_lastsForFeet_12 : decode cX4_lastsForFeet 12 = .ok (.invokestatic 27, 3) := by decide +kernel
theorem dX4_lastsForFeet_15 : decode cX4_lastsForFeet 15 = .ok (.bipush 100, 2) := by decide +kernel
theorem dX4_lastsForFeet_17 : decode cX4_lastsForFeet 17 = .ok (.imul, 1) := by decide +kernel
theorem dX4_lastsForFeet_18 : decode cX4_lastsForFeet 18 = .ok (.iload_n 3, 1) := by decide +kernel
theorem dX4_lastsForFeet_19 : decode cX4_lastsForFeet 19 = .ok (.idiv, 1) := by decide +kernel
theorem dX4_lastsForFeet_20 : decode cX4_lastsForFeet 20 = .ok (.goto 4, 3) := by decide +kernel
theorem dX4_lastsForFeet_23 : decode cX4_lastsForFeet 23 = .ok (.iconst 0, 1) := by decide +kernel
theorem dX4_lastsForFeet_24 : decode cX4_lastsForFeet 24 = .ok (.ireturn, 1) := by decide +kernel
theorem dX4_longestForFeet_0 : decode cX4_longestForFeet 0 = .ok (.iconst 0, 1) := by decide +kernel
theorem dX4_longestForFeet_1 : decode cX4_longestForFeet 1 = .ok (.istore_n 2, 1) := by decide +kernel
theorem dX4_longestForFeet_2 : decode cX4_longestForFeet 2 = .ok (.iconst 0, 1) := by decide +kernel
theorem dX4_longestForFeet_3 : decode cX4_longestForFeet 3 = .ok (.iload_n 0, 1) := by decide +kernel
theorem dX4_longestForFeet_4 : decode cX4_longestForFeet 4 = .ok (.iload_n 1, 1) := by decide +kernel
theorem dX4_longestForFeet_5 : decode cX4_longestForFeet 5 = .ok (.invokestatic 30, 3) := by decide +kernel
theorem dX4_longestForFeet_8 : decode cX4_longestForFeet 8 = .ok (.istore_n 3, 1) := by decide +kernel
theorem dX4_longestForFeet_9 : decode cX4_longestForFeet 9 = .ok (.iconst 1, 1) := by decide +kernel
theorem dX4_longestForFeet_10 : decode cX4_longestForFeet 10 = .ok (.istore 4, 2) := by decide +kernel
theorem dX4_longestForFeet_12 : decode cX4_longestForFeet 12 = .ok (.iload 4, 2) := by decide +kernel
theorem dX4_longestForFeet_14 : decode cX4_longestForFeet 14 = .ok (.bipush 6, 2) := by decide +kernel
theorem dX4_longestForFeet_16 : decode cX4_longestForFeet 16 = .ok (.if_icmp .ge 30, 3) := by decide +kernel
theorem dX4_longestForFeet_19 : decode cX4_longestForFeet 19 = .ok (.iload 4, 2) := by decide +kernel
theorem dX4_longestForFeet_21 : decode cX4_longestForFeet 21 = .ok (.iload_n 0, 1) := by decide +kernel
theorem dX4_longestForFeet_22 : decode cX4_longestForFeet 22 = .ok (.iload_n 1, 1) := by decide +kernel
theorem dX4_longestForFeet_23 : decode cX4_longestForFeet 23 = .ok (.invokestatic 30, 3) := by decide +kernel
theorem dX4_longestForFeet_26 : decode cX4_longestForFeet 26 = .ok (.istore 5, 2) := by decide +kernel
theorem dX4_longestForFeet_28 : decode cX4_longestForFeet 28 = .ok (.iload 5, 2) := by decide +kernel
theorem dX4_longestForFeet_30 : decode cX4_longestForFeet 30 = .ok (.iload_n 3, 1) := by decide +kernel
theorem dX4_longestForFeet_31 : decode cX4_longestForFeet 31 = .ok (.if_icmp .le 9, 3) := by decide +kernel
theorem dX4_longestForFeet_34 : decode cX4_longestForFeet 34 = .ok (.iload 5, 2) := by decide +kernel
theorem dX4_longestForFeet_36 : decode cX4_longestForFeet 36 = .ok (.istore_n 3, 1) := by decide +kernel
theorem dX4_longestForFeet_37 : decode cX4_longestForFeet 37 = .ok (.iload 4, 2) := by decide +kernel
theorem dX4_longestForFeet_39 : decode cX4_longestForFeet 39 = .ok (.istore_n 2, 1) := by decide +kernel
theorem dX4_longestForFeet_40 : decode cX4_longestForFeet 40 = .ok (.iinc 4 1, 3) := by decide +kernel
theorem dX4_longestForFeet_43 : decode cX4_longestForFeet 43 = .ok (.goto (-31), 3) := by decide +kernel
theorem dX4_longestForFeet_46 : decode cX4_longestForFeet 46 = .ok (.iload_n 2, 1) := by decide +kernel
theorem dX4_longestForFeet_47 : decode cX4_longestForFeet 47 = .ok (.ireturn, 1) := by decide +kernel
theorem dX5_init_0 : decode cX5_init 0 = .ok (.aload_n 0, 1) := by decide +kernel
theorem dX5_init_1 : decode cX5_init 1 = .ok (.invokespecial 1, 3) := by decide +kernel
theorem dX5_init_4 : decode cX5_init 4 = .ok (.aload_n 0, 1) := by decide +kernel
theorem dX5_init_5 : decode cX5_init 5 = .ok (.new 7, 3) := by decide +kernel
theorem dX5_init_8 : decode cX5_init 8 = .ok (.dup, 1) := by decide +kernel
theorem dX5_init_9 : decode cX5_init 9 = .ok (.invokespecial 9, 3) := by decide +kernel
theorem dX5_init_12 : decode cX5_init 12 = .ok (.putfield 10, 3) := by decide +kernel
theorem dX5_init_15 : decode cX5_init 15 = .ok (.aload_n 0, 1) := by decide +kernel
theorem dX5_init_16 : decode cX5_init 16 = .ok (.bipush 12, 2) := by decide +kernel
theorem dX5_init_18 : decode cX5_init 18 = .ok (.newarray .int, 2) := by decide +kernel
theorem dX5_init_20 : decode cX5_init 20 = .ok (.putfield 16, 3) := by decide +kernel
theorem dX5_init_23 : decode cX5_init 23 = .ok (.aload_n 0, 1) := by decide +kernel
theorem dX5_init_24 : decode cX5_init 24 = .ok (.bipush 12, 2) := by decide +kernel
theorem dX5_init_26 : decode cX5_init 26 = .ok (.newarray .int, 2) := by decide +kernel
theorem dX5_init_28 : decode cX5_init 28 = .ok (.putfield 20, 3) := by decide +kernel
theorem dX5_init_31 : decode cX5_init 31 = .ok (.aload_n 0, 1) := by decide +kernel
theorem dX5_init_32 : decode cX5_init 32 = .ok (.bipush 12, 2) := by decide +kernel
theorem dX5_init_34 : decode cX5_init 34 = .ok (.newarray .int, 2) := by decide +kernel
theorem dX5_init_36 : decode cX5_init 36 = .ok (.putfield 23, 3) := by decide +kernel
theorem dX5_init_39 : decode cX5_init 39 = .ok (.return_, 1) := by decide +kernel
theorem dX5_become_0 : decode cX5_become 0 = .ok (.aload_n 0, 1) := by decide +kernel
theorem dX5_become_1 : decode cX5_become 1 = .ok (.getfield 10, 3) := by decide +kernel
theorem dX5_become_4 : decode cX5_become 4 = .ok (.aload_n 1, 1) := by decide +kernel
theorem dX5_become_5 : decode cX5_become 5 = .ok (.getfield 10, 3) := by decide +kernel
theorem dX5_become_8 : decode cX5_become 8 = .ok (.invokevirtual 26, 3) := by decide +kernel
theorem dX5_become_11 : decode cX5_become 11 = .ok (.aload_n 1, 1) := by decide +kernel
theorem dX5_become_12 : decode cX5_become 12 = .ok (.getfield 16, 3) := by decide +kernel
theorem dX5_become_15 : decode cX5_become 15 = .ok (.iconst 0, 1) := by decide +kernel
theorem dX5_become_16 : decode cX5_become 16 = .ok (.aload_n 0, 1) := by decide +kernel
theorem dX5_become_17 : decode cX5_become 17 = .ok (.getfield 16, 3) := by decide +kernel
theorem dX5_become_20 : decode cX5_become 20 = .ok (.iconst 0, 1) := by decide +kernel
theorem dX5_become_21 : decode cX5_become 21 = .ok (.bipush 12, 2) := by decide +kernel
theorem dX5_become_23 : decode cX5_become 23 = .ok (.invokestatic 30, 3) := by decide +kernel
theorem dX5_become_26 : decode cX5_become 26 = .ok (.aload_n 1, 1) := by decide +kernel
theorem dX5_become_27 : decode cX5_become 27 = .ok (.getfield 20, 3) := by decide +kernel
theorem dX5_become_30 : decode cX5_become 30 = .ok (.iconst 0, 1) := by decide +kernel
theorem dX5_become_31 : decode cX5_become 31 = .ok (.aload_n 0, 1) := by decide +kernel
theorem dX5_become_32 : decode cX5_become 32 = .ok (.getfield 20, 3) := by decide +kernel
theorem dX5_become_35 : decode cX5_become 35 = .ok (.iconst 0, 1) := by decide +kernel
theorem dX5_become_36 : decode cX5_become 36 = .ok (.bipush 12, 2) := by decide +kernel
theorem dX5_become_38 : decode cX5_become 38 = .ok (.invokestatic 30, 3) := by decide +kernel
theorem dX5_become_41 : decode cX5_become 41 = .ok (.aload_n 1, 1) := by decide +kernel
theorem dX5_become_42 : decode cX5_become 42 = .ok (.getfield 23, 3) := by decide +kernel
theorem dX5_become_45 : decode cX5_become 45 = .ok (.iconst 0, 1) := by decide +kernel
theorem dX5_become_46 : decode cX5_become 46 = .ok (.aload_n 0, 1) := by decide +kernel
theorem dX5_become_47 : decode cX5_become 47 = .ok (.getfield 23, 3) := by decide +kernel
theorem dX5_become_50 : decode cX5_become 50 = .ok (.iconst 0, 1) := by decide +kernel
theorem dX5_become_51 : decode cX5_become 51 = .ok (.bipush 12, 2) := by decide +kernel
theorem dX5_become_53 : decode cX5_become 53 = .ok (.invokestatic 30, 3) := by decide +kernel
theorem dX5_become_56 : decode cX5_become 56 = .ok (.aload_n 0, 1) := by decide +kernel
theorem dX5_become_57 : decode cX5_become 57 = .ok (.aload_n 1, 1) := by decide +kernel
theorem dX5_become_58 : decode cX5_become 58 = .ok (.getfield 36, 3) := by decide +kernel
theorem dX5_become_61 : decode cX5_become 61 = .ok (.putfield 36, 3) := by decide +kernel
theorem dX5_become_64 : decode cX5_become 64 = .ok (.aload_n 0, 1) := by decide +kernel
theorem dX5_become_65 : decode cX5_become 65 = .ok (.aload_n 1, 1) := by decide +kernel
theorem dX5_become_66 : decode cX5_become 66 = .ok (.getfield 40, 3) := by decide +kernel
theorem dX5_become_69 : decode cX5_become 69 = .ok (.putfield 40, 3) := by decide +kernel
theorem dX5_become_72 : decode cX5_become 72 = .ok (.aload_n 0, 1) := by decide +kernel
theorem dX5_become_73 : decode cX5_become 73 = .ok (.aload_n 1, 1) := by decide +kernel
theorem dX5_become_74 : decode cX5_become 74 = .ok (.getfield 43, 3) := by decide +kernel
theorem dX5_become_77 : decode cX5_become 77 = .ok (.putfield 43, 3) := by decide +kernel
theorem dX5_become_80 : decode cX5_become 80 = .ok (.return_, 1) := by decide +kernel
theorem dX5_has_0 : decode cX5_has 0 = .ok (.iload_n 1, 1) := by decide +kernel
theorem dX5_has_1 : decode cX5_has 1 = .ok (.ifCond .lt 15, 3) := by decide +kernel
theorem dX5_has_4 : decode cX5_has 4 = .ok (.iload_n 1, 1) := by decide +kernel
theorem dX5_has_5 : decode cX5_has 5 = .ok (.aload_n 0, 1) := by decide +kernel
theorem dX5_has_6 : decode cX5_has 6 = .ok (.getfield 36, 3) := by decide +kernel
theorem dX5_has_9 : decode cX5_has 9 = .ok (.if_icmp .ge 7, 3) := by decide +kernel
theorem dX5_has_12 : decode cX5_has 12 = .ok (.iconst 1, 1) := by decide +kernel
theorem dX5_has_13 : decode cX5_has 13 = .ok (.goto 4, 3) := by decide +kernel
theorem dX5_has_16 : decode cX5_has 16 = .ok (.iconst 0, 1) := by decide +kernel
theorem dX5_has_17 : decode cX5_has 17 = .ok (.ireturn, 1) := by decide +kernel
theorem dX5_isFull_0 : decode cX5_isFull 0 = .ok (.aload_n 0, 1) := by decide +kernel
theorem dX5_isFull_1 : decode cX5_isFull 1 = .ok (.getfield 36, 3) := by decide +kernel
theorem dX5_isFull_4 : decode cX5_isFull 4 = .ok (.bipush 12, 2) := by decide +kernel
theorem dX5_isFull_6 : decode cX5_isFull 6 = .ok (.if_icmp .lt 7, 3) := by decide +kernel
theorem dX5_isFull_9 : decode cX5_isFull 9 = .ok (.iconst 1, 1) := by decide +kernel
theorem dX5_isFull_10 : decode cX5_isFull 10 = .ok (.goto 4, 3) := by decide +kernel
theorem dX5_isFull_13 : decode cX5_isFull 13 = .ok (.iconst 0, 1) := by decide +kernel
theorem dX5_isFull_14 : decode cX5_isFull 14 = .ok (.ireturn, 1) := by decide +kernel
theorem dX5_add_0 : decode cX5_add 0 = .ok (.aload_n 0, 1) := by decide +kernel
theorem dX5_add_1 : decode cX5_add 1 = .ok (.invokevirtual 46, 3) := by decide +kernel
theorem dX5_add_4 : decode cX5_add 4 = .ok (.ifCond .eq 5, 3) := by decide +kernel
theorem dX5_add_7 : decode cX5_add 7 = .ok (.iconst (-1), 1) := by decide +kernel
theorem dX5_add_8 : decode cX5_add 8 = .ok (.ireturn, 1) := by decide +kernel
theorem dX5_add_9 : decode cX5_add 9 = .ok (.aload_n 0, 1) := by decide +kernel
theorem dX5_add_10 : decode cX5_add 10 = .ok (.getfield 16, 3) := by decide +kernel
theorem dX5_add_13 : decode cX5_add 13 = .ok (.aload_n 0, 1) := by decide +kernel
theorem dX5_add_14 : decode cX5_add 14 = .ok (.getfield 36, 3) := by decide +kernel
theorem dX5_add_17 : decode cX5_add 17 = .ok (.iload_n 1, 1) := by decide +kernel
theorem dX5_add_18 : decode cX5_add 18 = .ok (.iastore, 1) := by decide +kernel
theorem dX5_add_19 : decode cX5_add 19 = .ok (.aload_n 0, 1) := by decide +kernel
theorem dX5_add_20 : decode cX5_add 20 = .ok (.getfield 20, 3) := by decide +kernel
theorem dX5_add_23 : decode cX5_add 23 = .ok (.aload_n 0, 1) := by decide +kernel
theorem dX5_add_24 : decode cX5_add 24 = .ok (.getfield 36, 3) := by decide +kernel
theorem dX5_add_27 : decode cX5_add 27 = .ok (.iload_n 2, 1) := by decide +kernel
theorem dX5_add_28 : decode cX5_add 28 = .ok (.iastore, 1) := by decide +kernel
theorem dX5_add_29 : decode cX5_add 29 = .ok (.aload_n 0, 1) := by decide +kernel
theorem dX5_add_30 : decode cX5_add 30 = .ok (.getfield 23, 3) := by decide +kernel
theorem dX5_add_33 : decode cX5_add 33 = .ok (.aload_n 0, 1) := by decide +kernel
theorem dX5_add_34 : decode cX5_add 34 = .ok (.getfield 36, 3) := by decide +kernel
theorem dX5_add_37 : decode cX5_add 37 = .ok (.iload_n 3, 1) := by decide +kernel
theorem dX5_add_38 : decode cX5_add 38 = .ok (.iastore, 1) := by decide +kernel
theorem dX5_add_39 : decode cX5_add 39 = .ok (.aload_n 0, 1) := by decide +kernel
theorem dX5_add_40 : decode cX5_add 40 = .ok (.dup, 1) := by decide +kernel
theorem dX5_add_41 : decode cX5_add 41 = .ok (.getfield 36, 3) := by decide +kernel
theorem dX5_add_44 : decode cX5_add 44 = .ok (.iconst 1, 1) := by decide +kernel
theorem dX5_add_45 : decode cX5_add 45 = .ok (.iadd, 1) := by decide +kernel
theorem dX5_add_46 : decode cX5_add 46 = .ok (.putfield 36, 3) := by decide +kernel
theorem dX5_add_49 : decode cX5_add 49 = .ok (.aload_n 0, 1) := by decide +kernel
theorem dX5_add_50 : decode cX5_add 50 = .ok (.getfield 36, 3) := by decide +kernel
theorem dX5_add_53 : decode cX5_add 53 = .ok (.iconst 1, 1) := by decide +kernel
theorem dX5_add_54 : decode cX5_add 54 = .ok (.isub, 1) := by decide +kernel
theorem dX5_add_55 : decode cX5_add 55 = .ok (.ireturn, 1) := by decide +kernel
theorem dX5_lastsOf_0 : decode cX5_lastsOf 0 = .ok (.aload_n 0, 1) := by decide +kernel
theorem dX5_lastsOf_1 : decode cX5_lastsOf 1 = .ok (.getfield 16, 3) := by decide +kernel
theorem dX5_lastsOf_4 : decode cX5_lastsOf 4 = .ok (.iload_n 1, 1) := by decide +kernel
theorem dX5_lastsOf_5 : decode cX5_lastsOf 5 = .ok (.iaload, 1) := by decide +kernel
theorem dX5_lastsOf_6 : decode cX5_lastsOf 6 = .ok (.aload_n 0, 1) := by decide +kernel
theorem dX5_lastsOf_7 : decode cX5_lastsOf 7 = .ok (.getfield 23, 3) := by decide +kernel
theorem dX5_lastsOf_10 : decode cX5_lastsOf 10 = .ok (.iload_n 1, 1) := by decide +kernel
theorem dX5_lastsOf_11 : decode cX5_lastsOf 11 = .ok (.iaload, 1) := by decide +kernel
theorem dX5_lastsOf_12 : decode cX5_lastsOf 12 = .ok (.invokestatic 50, 3) := by decide +kernel
theorem dX5_lastsOf_15 : decode cX5_lastsOf 15 = .ok (.ireturn, 1) := by decide +kernel
theorem dX5_feetOf_0 : decode cX5_feetOf 0 = .ok (.aload_n 0, 1) := by decide +kernel
theorem dX5_feetOf_1 : decode cX5_feetOf 1 = .ok (.getfield 16, 3) := by decide +kernel
theorem dX5_feetOf_4 : decode cX5_feetOf 4 = .ok (.iload_n 1, 1) := by decide +kernel
theorem dX5_feetOf_5 : decode cX5_feetOf 5 = .ok (.iaload, 1) := by decide +kernel
theorem dX5_feetOf_6 : decode cX5_feetOf 6 = .ok (.aload_n 0, 1) := by decide +kernel
theorem dX5_feetOf_7 : decode cX5_feetOf 7 = .ok (.getfield 20, 3) := by decide +kernel
theorem dX5_feetOf_10 : decode cX5_feetOf 10 = .ok (.iload_n 1, 1) := by decide +kernel
theorem dX5_feetOf_11 : decode cX5_feetOf 11 = .ok (.iaload, 1) := by decide +kernel
theorem dX5_feetOf_12 : decode cX5_feetOf 12 = .ok (.invokestatic 56, 3) := by decide +kernel
theorem dX5_feetOf_15 : decode cX5_feetOf 15 = .ok (.ireturn, 1) := by decide +kernel
theorem dX5_shownAt_0 : decode cX5_shownAt 0 = .ok (.iload_n 2, 1) := by decide +kernel
theorem dX5_shownAt_1 : decode cX5_shownAt 1 = .ok (.aload_n 0, 1) := by decide +kernel
theorem dX5_shownAt_2 : decode cX5_shownAt 2 = .ok (.iload_n 1, 1) := by decide +kernel
theorem dX5_shownAt_3 : decode cX5_shownAt 3 = .ok (.invokevirtual 59, 3) := by decide +kernel
theorem dX5_shownAt_6 : decode cX5_shownAt 6 = .ok (.if_icmp .ge 12, 3) := by decide +kernel
theorem dX5_shownAt_9 : decode cX5_shownAt 9 = .ok (.aload_n 0, 1) := by decide +kernel
theorem dX5_shownAt_10 : decode cX5_shownAt 10 = .ok (.getfield 20, 3) := by decide +kernel
theorem dX5_shownAt_13 : decode cX5_shownAt 13 = .ok (.iload_n 1, 1) := by decide +kernel
theorem dX5_shownAt_14 : decode cX5_shownAt 14 = .ok (.iaload, 1) := by decide +kernel
theorem dX5_shownAt_15 : decode cX5_shownAt 15 = .ok (.goto 16, 3) := by decide +kernel
theorem dX5_shownAt_18 : decode cX5_shownAt 18 = .ok (.aload_n 0, 1) := by decide +kernel
theorem dX5_shownAt_19 : decode cX5_shownAt 19 = .ok (.getfield 20, 3) := by decide +kernel
theorem dX5_shownAt_22 : decode cX5_shownAt 22 = .ok (.iload_n 1, 1) := by decide +kernel
theorem dX5_shownAt_23 : decode cX5_shownAt 23 = .ok (.iaload, 1) := by decide +kernel
theorem dX5_shownAt_24 : decode cX5_shownAt 24 = .ok (.aload_n 0, 1) := by decide +kernel
theorem dX5_shownAt_25 : decode cX5_shownAt 25 = .ok (.getfield 43, 3) := by decide +kernel
theorem dX5_shownAt_28 : decode cX5_shownAt 28 = .ok (.iconst (-1), 1) := by decide +kernel
theorem dX5_shownAt_29 : decode cX5_shownAt 29 = .ok (.ixor, 1) := by decide +kernel
theorem dX5_shownAt_30 : decode cX5_shownAt 30 = .ok (.iand, 1) := by decide +kernel
theorem dX5_shownAt_31 : decode cX5_shownAt 31 = .ok (.istore_n 3, 1) := by decide +kernel
theorem dX5_shownAt_32 : decode cX5_shownAt 32 = .ok (.aload_n 0, 1) := by decide +kernel
theorem dX5_shownAt_33 : decode cX5_shownAt 33 = .ok (.getfield 16, 3) := by decide +kernel
theorem dX5_shownAt_36 : decode cX5_shownAt 36 = .ok (.iload_n 1, 1) := by decide +kernel
theorem dX5_shownAt_37 : decode cX5_shownAt 37 = .ok (.iaload, 1) := by decide +kernel
theorem dX5_shownAt_38 : decode cX5_shownAt 38 = .ok (.iload_n 3, 1) := by decide +kernel
theorem dX5_shownAt_39 : decode cX5_shownAt 39 = .ok (.invokestatic 63, 3) := by decide +kernel
theorem dX5_shownAt_42 : decode cX5_shownAt 42 = .ok (.ireturn, 1) := by decide +kernel
theorem dX5_seenAs_0 : decode cX5_seenAs 0 = .ok (.aload_n 0, 1) := by decide +kernel
theorem dX5_seenAs_1 : decode cX5_seenAs 1 = .ok (.getfield 10, 3) := by decide +kernel
theorem dX5_seenAs_4 : decode cX5_seenAs 4 = .ok (.aload_n 0, 1) := by decide +kernel
theorem dX5_seenAs_5 : decode cX5_seenAs 5 = .ok (.iload_n 1, 1) := by decide +kernel
theorem dX5_seenAs_6 : decode cX5_seenAs 6 = .ok (.aload_n 0, 1) := by decide +kernel
theorem dX5_seenAs_7 : decode cX5_seenAs 7 = .ok (.getfield 40, 3) := by decide +kernel
theorem dX5_seenAs_10 : decode cX5_seenAs 10 = .ok (.invokevirtual 66, 3) := by decide +kernel
theorem dX5_seenAs_13 : decode cX5_seenAs 13 = .ok (.invokevirtual 69, 3) := by decide +kernel
theorem dX5_seenAs_16 : decode cX5_seenAs 16 = .ok (.ireturn, 1) := by decide +kernel
theorem dX5_isMisreadAt_0 : decode cX5_isMisreadAt 0 = .ok (.aload_n 0, 1) := by decide +kernel
theorem dX5_isMisreadAt_1 : decode cX5_isMisreadAt 1 = .ok (.getfield 10, 3) := by decide +kernel
theorem dX5_isMisreadAt_4 : decode cX5_isMisreadAt 4 = .ok (.aload_n 0, 1) := by decide +kernel
theorem dX5_isMisreadAt_5 : decode cX5_isMisreadAt 5 = .ok (.iload_n 1, 1) := by decide +kernel
theorem dX5_isMisreadAt_6 : decode cX5_isMisreadAt 6 = .ok (.iload_n 2, 1) := by decide +kernel
theorem dX5_isMisreadAt_7 : decode cX5_isMisreadAt 7 = .ok (.invokevirtual 66, 3) := by decide +kernel
theorem dX5_isMisreadAt_10 : decode cX5_isMisreadAt 10 = .ok (.invokevirtual 69, 3) := by decide +kernel
theorem dX5_isMisreadAt_13 : decode cX5_isMisreadAt 13 = .ok (.aload_n 0, 1) := by decide +kernel
theorem dX5_isMisreadAt_14 : decode cX5_isMisreadAt 14 = .ok (.getfield 10, 3) := by decide +kernel
theorem dX5_isMisreadAt_17 : decode cX5_isMisreadAt 17 = .ok (.aload_n 0, 1) := by decide +kernel
theorem dX5_isMisreadAt_18 : decode cX5_isMisreadAt 18 = .ok (.getfield 20, 3) := by decide +kernel
theorem dX5_isMisreadAt_21 : decode cX5_isMisreadAt 21 = .ok (.iload_n 1, 1) := by decide +kernel
theorem dX5_isMisreadAt_22 : decode cX5_isMisreadAt 22 = .ok (.iaload, 1) := by decide +kernel
theorem dX5_isMisreadAt_23 : decode cX5_isMisreadAt 23 = .ok (.invokevirtual 69, 3) := by decide +kernel
theorem dX5_isMisreadAt_26 : decode cX5_isMisreadAt 26 = .ok (.if_icmp .eq 7, 3) := by decide +kernel
theorem dX5_isMisreadAt_29 : decode cX5_isMisreadAt 29 = .ok (.iconst 1, 1) := by decide +kernel
theorem dX5_isMisreadAt_30 : decode cX5_isMisreadAt 30 = .ok (.goto 4, 3) := by decide +kernel
theorem dX5_isMisreadAt_33 : decode cX5_isMisreadAt 33 = .ok (.iconst 0, 1) := by decide +kernel
theorem dX5_isMisreadAt_34 : decode cX5_isMisreadAt 34 = .ok (.ireturn, 1) := by decide +kernel
theorem dX5_countChanged_0 : decode cX5_countChanged 0 = .ok (.iconst 0, 1) := by decide +kernel
theorem dX5_countChanged_1 : decode cX5_countChanged 1 = .ok (.istore_n 2, 1) := by decide +kernel
theorem dX5_countChanged_2 : decode cX5_countChanged 2 = .ok (.iconst 0, 1) := by decide +kernel
theorem dX5_countChanged_3 : decode cX5_countChanged 3 = .ok (.istore_n 3, 1) := by decide +kernel
theorem dX5_countChanged_4 : decode cX5_countChanged 4 = .ok (.iload_n 3, 1) := by decide +kernel
theorem dX5_countChanged_5 : decode cX5_countChanged 5 = .ok (.aload_n 0, 1) := by decide +kernel
theorem dX5_countChanged_6 : decode cX5_countChanged 6 = .ok (.getfield 36, 3) := by decide +kernel
theorem dX5_countChanged_9 : decode cX5_countChanged 9 = .ok (.if_icmp .ge 30, 3) := by decide +kernel
theorem dX5_countChanged_12 : decode cX5_countChanged 12 = .ok (.aload_n 0, 1) := by decide +kernel
theorem dX5_countChanged_13 : decode cX5_countChanged 13 = .ok (.iload_n 3, 1) := by decide +kernel
theorem dX5_countChanged_14 : decode cX5_countChanged 14 = .ok (.aload_n 0, 1) := by decide +kernel
theorem dX5_countChanged_15 : decode cX5_countChanged 15 = .ok (.getfield 40, 3) := by decide +kernel
theorem dX5_countChanged_18 : decode cX5_countChanged 18 = .ok (.invokevirtual 66, 3) := by decide +kernel
theorem dX5_countChanged_21 : decode cX5_countChanged 21 = .ok (.aload_n 0, 1) := by decide +kernel
theorem dX5_countChanged_22 : decode cX5_countChanged 22 = .ok (.iload_n 3, 1) := by decide +kernel
theorem dX5_countChanged_23 : decode cX5_countChanged 23 = .ok (.iload_n 1, 1) := by decide +kernel
theorem dX5_countChanged_24 : decode cX5_countChanged 24 = .ok (.invokevirtual 66, 3) := by decide +kernel
theorem dX5_countChanged_27 : decode cX5_countChanged 27 = .ok (.if_icmp .eq 6, 3) := by decide +kernel
theorem dX5_countChanged_30 : decode cX5_countChanged 30 = .ok (.iinc 2 1, 3) := by decide +kernel
theorem dX5_countChanged_33 : decode cX5_countChanged 33 = .ok (.iinc 3 1, 3) := by decide +kernel
theorem dX5_countChanged_36 : decode cX5_countChanged 36 = .ok (.goto (-32), 3) := by decide +kernel
theorem dX5_countChanged_39 : decode cX5_countChanged 39 = .ok (.iload_n 2, 1) := by decide +kernel
theorem dX5_countChanged_40 : decode cX5_countChanged 40 = .ok (.ireturn, 1) := by decide +kernel
theorem dX5_feetOfAll_0 : decode cX5_feetOfAll 0 = .ok (.iconst 0, 1) := by decide +kernel
theorem dX5_feetOfAll_1 : decode cX5_feetOfAll 1 = .ok (.istore_n 1, 1) := by decide +kernel
theorem dX5_feetOfAll_2 : decode cX5_feetOfAll 2 = .ok (.iconst 0, 1) := by decide +kernel
theorem dX5_feetOfAll_3 : decode cX5_feetOfAll 3 = .ok (.istore_n 2, 1) := by decide +kernel
theorem dX5_feetOfAll_4 : decode cX5_feetOfAll 4 = .ok (.iload_n 2, 1) := by decide +kernel
theorem dX5_feetOfAll_5 : decode cX5_feetOfAll 5 = .ok (.aload_n 0, 1) := by decide +kernel
theorem dX5_feetOfAll_6 : decode cX5_feetOfAll 6 = .ok (.getfield 36, 3) := by decide +kernel
theorem dX5_feetOfAll_9 : decode cX5_feetOfAll 9 = .ok (.if_icmp .ge 17, 3) := by decide +kernel
theorem dX5_feetOfAll_12 : decode cX5_feetOfAll 12 = .ok (.iload_n 1, 1) := by decide +kernel
theorem dX5_feetOfAll_13 : decode cX5_feetOfAll 13 = .ok (.aload_n 0, 1) := by decide +kernel
theorem dX5_feetOfAll_14 : decode cX5_feetOfAll 14 = .ok (.iload_n 2, 1) := by decide +kernel
theorem dX5_feetOfAll_15 : decode cX5_feetOfAll 15 = .ok (.invokevirtual 72, 3) := by decide +kernel
theorem dX5_feetOfAll_18 : decode cX5_feetOfAll 18 = .ok (.iadd, 1) := by decide +kernel
theorem dX5_feetOfAll_19 : decode cX5_feetOfAll 19 = .ok (.istore_n 1, 1) := by decide +kernel
theorem dX5_feetOfAll_20 : decode cX5_feetOfAll 20 = .ok (.iinc 2 1, 3) := by decide +kernel
theorem dX5_feetOfAll_23 : decode cX5_feetOfAll 23 = .ok (.goto (-19), 3) := by decide +kernel
theorem dX5_feetOfAll_26 : decode cX5_feetOfAll 26 = .ok (.iload_n 1, 1) := by decide +kernel
theorem dX5_feetOfAll_27 : decode cX5_feetOfAll 27 = .ok (.ireturn, 1) := by decide +kernel
theorem dX5_strokesOfAll_0 : decode cX5_strokesOfAll 0 = .ok (.iconst 0, 1) := by decide +kernel
theorem dX5_strokesOfAll_1 : decode cX5_strokesOfAll 1 = .ok (.istore_n 1, 1) := by decide +kernel
theorem dX5_strokesOfAll_2 : decode cX5_strokesOfAll 2 = .ok (.iconst 0, 1) := by decide +kernel
theorem dX5_strokesOfAll_3 : decode cX5_strokesOfAll 3 = .ok (.istore_n 2, 1) := by decide +kernel
theorem dX5_strokesOfAll_4 : decode cX5_strokesOfAll 4 = .ok (.iload_n 2, 1) := by decide +kernel
theorem dX5_strokesOfAll_5 : decode cX5_strokesOfAll 5 = .ok (.aload_n 0, 1) := by decide +kernel
theorem dX5_strokesOfAll_6 : decode cX5_strokesOfAll 6 = .ok (.getfield 36, 3) := by decide +kernel
theorem dX5_strokesOfAll_9 : decode cX5_strokesOfAll 9 = .ok (.if_icmp .ge 21, 3) := by decide +kernel
theorem dX5_strokesOfAll_12 : decode cX5_strokesOfAll 12 = .ok (.iload_n 1, 1) := by decide +kernel
theorem dX5_strokesOfAll_13 : decode cX5_strokesOfAll 13 = .ok (.aload_n 0, 1) := by decide +kernel
theorem dX5_strokesOfAll_14 : decode cX5_strokesOfAll 14 = .ok (.getfield 20, 3) := by decide +kernel
theorem dX5_strokesOfAll_17 : decode cX5_strokesOfAll 17 = .ok (.iload_n 2, 1) := by decide +kernel
theorem dX5_strokesOfAll_18 : decode cX5_strokesOfAll 18 = .ok (.iaload, 1) := by decide +kernel
theorem dX5_strokesOfAll_19 : decode cX5_strokesOfAll 19 = .ok (.invokestatic 75, 3) := by decide +kernel
theorem dX5_strokesOfAll_22 : decode cX5_strokesOfAll 22 = .ok (.iadd, 1) := by decide +kernel
theorem dX5_strokesOfAll_23 : decode cX5_strokesOfAll 23 = .ok (.istore_n 1, 1) := by decide +kernel
theorem dX5_strokesOfAll_24 : decode cX5_strokesOfAll 24 = .ok (.iinc 2 1, 3) := by decide +kernel
theorem dX5_strokesOfAll_27 : decode cX5_strokesOfAll 27 = .ok (.goto (-23), 3) := by decide +kernel
theorem dX5_strokesOfAll_30 : decode cX5_strokesOfAll 30 = .ok (.iload_n 1, 1) := by decide +kernel
theorem dX5_strokesOfAll_31 : decode cX5_strokesOfAll 31 = .ok (.ireturn, 1) := by decide +kernel
theorem dX5_lettersMisread_0 : decode cX5_lettersMisread 0 = .ok (.iconst 0, 1) := by decide +kernel
theorem dX5_lettersMisread_1 : decode cX5_lettersMisread 1 = .ok (.istore_n 1, 1) := by decide +kernel
theorem dX5_lettersMisread_2 : decode cX5_lettersMisread 2 = .ok (.iconst 0, 1) := by decide +kernel
theorem dX5_lettersMisread_3 : decode cX5_lettersMisread 3 = .ok (.istore_n 2, 1) := by decide +kernel
theorem dX5_lettersMisread_4 : decode cX5_lettersMisread 4 = .ok (.iload_n 2, 1) := by decide +kernel
theorem dX5_lettersMisread_5 : decode cX5_lettersMisread 5 = .ok (.aload_n 0, 1) := by decide +kernel
theorem dX5_lettersMisread_6 : decode cX5_lettersMisread 6 = .ok (.getfield 36, 3) := by decide +kernel
theorem dX5_lettersMisread_9 : decode cX5_lettersMisread 9 = .ok (.if_icmp .ge 27, 3) := by decide +kernel
theorem dX5_lettersMisread_12 : decode cX5_lettersMisread 12 = .ok (.aload_n 0, 1) := by decide +kernel
theorem dX5_lettersMisread_13 : decode cX5_lettersMisread 13 = .ok (.iload_n 2, 1) := by decide +kernel
theorem dX5_lettersMisread_14 : decode cX5_lettersMisread 14 = .ok (.aload_n 0, 1) := by decide +kernel
theorem dX5_lettersMisread_15 : decode cX5_lettersMisread 15 = .ok (.getfield 40, 3) := by decide +kernel
theorem dX5_lettersMisread_18 : decode cX5_lettersMisread 18 = .ok (.invokevirtual 80, 3) := by decide +kernel
theorem dX5_lettersMisread_21 : decode cX5_lettersMisread 21 = .ok (.ifCond .eq 9, 3) := by decide +kernel
theorem dX5_lettersMisread_24 : decode cX5_lettersMisread 24 = .ok (.iload_n 1, 1) := by decide +kernel
theorem dX5_lettersMisread_25 : decode cX5_lettersMisread 25 = .ok (.iconst 1, 1) := by decide +kernel
theorem dX5_lettersMisread_26 : decode cX5_lettersMisread 26 = .ok (.iload_n 2, 1) := by decide +kernel
theorem dX5_lettersMisread_27 : decode cX5_lettersMisread 27 = .ok (.ishl, 1) := by decide +kernel
theorem dX5_lettersMisread_28 : decode cX5_lettersMisread 28 = .ok (.ior, 1) := by decide +kernel
theorem dX5_lettersMisread_29 : decode cX5_lettersMisread 29 = .ok (.istore_n 1, 1) := by decide +kernel
theorem dX5_lettersMisread_30 : decode cX5_lettersMisread 30 = .ok (.iinc 2 1, 3) := by decide +kernel
theorem dX5_lettersMisread_33 : decode cX5_lettersMisread 33 = .ok (.goto (-29), 3) := by decide +kernel
theorem dX5_lettersMisread_36 : decode cX5_lettersMisread 36 = .ok (.iload_n 1, 1) := by decide +kernel
theorem dX5_lettersMisread_37 : decode cX5_lettersMisread 37 = .ok (.ireturn, 1) := by decide +kernel
theorem dX5_worthOf_0 : decode cX5_worthOf 0 = .ok (.aload_n 0, 1) := by decide +kernel
theorem dX5_worthOf_1 : decode cX5_worthOf 1 = .ok (.iload_n 1, 1) := by decide +kernel
theorem dX5_worthOf_2 : decode cX5_worthOf 2 = .ok (.aload_n 0, 1) := by decide +kernel
theorem dX5_worthOf_3 : decode cX5_worthOf 3 = .ok (.getfield 40, 3) := by decide +kernel
theorem dX5_worthOf_6 : decode cX5_worthOf 6 = .ok (.invokevirtual 66, 3) := by decide +kernel
theorem dX5_worthOf_9 : decode cX5_worthOf 9 = .ok (.istore_n 2, 1) := by decide +kernel
theorem dX5_worthOf_10 : decode cX5_worthOf 10 = .ok (.aload_n 0, 1) := by decide +kernel
theorem dX5_worthOf_11 : decode cX5_worthOf 11 = .ok (.getfield 10, 3) := by decide +kernel
theorem dX5_worthOf_14 : decode cX5_worthOf 14 = .ok (.iload_n 2, 1) := by decide +kernel
theorem dX5_worthOf_15 : decode cX5_worthOf 15 = .ok (.invokevirtual 69, 3) := by decide +kernel
theorem dX5_worthOf_18 : decode cX5_worthOf 18 = .ok (.istore_n 3, 1) := by decide +kernel
theorem dX5_worthOf_19 : decode cX5_worthOf 19 = .ok (.iload_n 3, 1) := by decide +kernel
theorem dX5_worthOf_20 : decode cX5_worthOf 20 = .ok (.ifCond .lt 24, 3) := by decide +kernel
theorem dX5_worthOf_23 : decode cX5_worthOf 23 = .ok (.iload_n 3, 1) := by decide +kernel
theorem dX5_worthOf_24 : decode cX5_worthOf 24 = .ok (.aload_n 0, 1) := by decide +kernel
theorem dX5_worthOf_25 : decode cX5_worthOf 25 = .ok (.getfield 10, 3) := by decide +kernel
theorem dX5_worthOf_28 : decode cX5_worthOf 28 = .ok (.aload_n 0, 1) := by decide +kernel
theorem dX5_worthOf_29 : decode cX5_worthOf 29 = .ok (.getfield 20, 3) := by decide +kernel
theorem dX5_worthOf_32 : decode cX5_worthOf 32 = .ok (.iload_n 1, 1) := by decide +kernel
theorem dX5_worthOf_33 : decode cX5_worthOf 33 = .ok (.iaload, 1) := by decide +kernel
theorem dX5_worthOf_34 : decode cX5_worthOf 34 = .ok (.invokevirtual 69, 3) := by decide +kernel
theorem dX5_worthOf_37 : decode cX5_worthOf 37 = .ok (.if_icmp .ne 7, 3) := by decide +kernel
theorem dX5_worthOf_40 : decode cX5_worthOf 40 = .ok (.iconst 1, 1) := by decide +kernel
theorem dX5_worthOf_41 : decode cX5_worthOf 41 = .ok (.goto 4, 3) := by decide +kernel
theorem dX5_worthOf_44 : decode cX5_worthOf 44 = .ok (.iconst 0, 1) := by decide +kernel
theorem dX5_worthOf_45 : decode cX5_worthOf 45 = .ok (.istore 4, 2) := by decide +kernel
theorem dX5_worthOf_47 : decode cX5_worthOf 47 = .ok (.iload_n 2, 1) := by decide +kernel
theorem dX5_worthOf_48 : decode cX5_worthOf 48 = .ok (.invokestatic 75, 3) := by decide +kernel
theorem dX5_worthOf_51 : decode cX5_worthOf 51 = .ok (.iload 4, 2) := by decide +kernel
theorem dX5_worthOf_53 : decode cX5_worthOf 53 = .ok (.ifCond .eq 8, 3) := by decide +kernel
theorem dX5_worthOf_56 : decode cX5_worthOf 56 = .ok (.bipush 10, 2) := by decide +kernel
theorem dX5_worthOf_58 : decode cX5_worthOf 58 = .ok (.goto 4, 3) := by decide +kernel
theorem dX5_worthOf_61 : decode cX5_worthOf 61 = .ok (.iconst 0, 1) := by decide +kernel
theorem dX5_worthOf_62 : decode cX5_worthOf 62 = .ok (.iadd, 1) := by decide +kernel
theorem dX5_worthOf_63 : decode cX5_worthOf 63 = .ok (.ireturn, 1) := by decide +kernel
theorem dX6_init_0 : decode cX6_init 0 = .ok (.aload_n 0, 1) := by decide +kernel
theorem dX6_init_1 : decode cX6_init 1 = .ok (.invokespecial 1, 3) := by decide +kernel
theorem dX6_init_4 : decode cX6_init 4 = .ok (.aload_n 0, 1) := by decide +kernel
theorem dX6_init_5 : decode cX6_init 5 = .ok (.iconst 4, 1) := by decide +kernel
theorem dX6_init_6 : decode cX6_init 6 = .ok (.newarray .int, 2) := by decide +kernel
theorem dX6_init_8 : decode cX6_init 8 = .ok (.putfield 9, 3) := by decide +kernel
theorem dX6_init_11 : decode cX6_init 11 = .ok (.aload_n 0, 1) := by decide +kernel
theorem dX6_init_12 : decode cX6_init 12 = .ok (.iconst 4, 1) := by decide +kernel
theorem dX6_init_13 : decode cX6_init 13 = .ok (.newarray .int, 2) := by decide +kernel
theorem dX6_init_15 : decode cX6_init 15 = .ok (.putfield 13, 3) := by decide +kernel
theorem dX6_init_18 : decode cX6_init 18 = .ok (.aload_n 0, 1) := by decide +kernel
theorem dX6_init_19 : decode cX6_init 19 = .ok (.sipush 160, 3) := by decide +kernel
theorem dX6_init_22 : decode cX6_init 22 = .ok (.newarray .long, 2) := by decide +kernel
theorem dX6_init_24 : decode cX6_init 24 = .ok (.putfield 16, 3) := by decide +kernel
theorem dX6_init_27 : decode cX6_init 27 = .ok (.return_, 1) := by decide +kernel
theorem dX6_isSheet_0 : decode cX6_isSheet 0 = .ok (.iload_n 0, 1) := by decide +kernel
theorem dX6_isSheet_1 : decode cX6_isSheet 1 = .ok (.ifCond .lt 12, 3) := by decide +kernel
theorem dX6_isSheet_4 : decode cX6_isSheet 4 = .ok (.iload_n 0, 1) := by decide +kernel
theorem dX6_isSheet_5 : decode cX6_isSheet 5 = .ok (.iconst 4, 1) := by decide +kernel
theorem dX6_isSheet_6 : decode cX6_isSheet 6 = .ok (.if_icmp .ge 7, 3) := by decide +kernel
theorem dX6_isSheet_9 : decode cX6_isSheet 9 = .ok (.iconst 1, 1) := by decide +kernel
theorem dX6_isSheet_10 : decode cX6_isSheet 10 = .ok (.goto 4, 3) := by decide +kernel
theorem dX6_isSheet_13 : decode cX6_isSheet 13 = .ok (.iconst 0, 1) := by decide +kernel
theorem dX6_isSheet_14 : decode cX6_isSheet 14 = .ok (.ireturn, 1) := by decide +kernel
theorem dX6_isWidth_0 : decode cX6_isWidth 0 = .ok (.iload_n 0, 1) := by decide +kernel
theorem dX6_isWidth_1 : decode cX6_isWidth 1 = .ok (.ifCond .eq 21, 3) := by decide +kernel
theorem dX6_isWidth_4 : decode cX6_isWidth 4 = .ok (.iload_n 0, 1) := by decide +kernel
theorem dX6_isWidth_5 : decode cX6_isWidth 5 = .ok (.bipush 8, 2) := by decide +kernel
theorem dX6_isWidth_7 : decode cX6_isWidth 7 = .ok (.if_icmp .eq 15, 3) := by decide +kernel
theorem dX6_isWidth_10 : decode cX6_isWidth 10 = .ok (.iload_n 0, 1) := by decide +kernel
theorem dX6_isWidth_11 : decode cX6_isWidth 11 = .ok (.bipush 16, 2) := by decide +kernel
theorem dX6_isWidth_13 : decode cX6_isWidth 13 = .ok (.if_icmp .eq 9, 3) := by decide +kernel
theorem dX6_isWidth_16 : decode cX6_isWidth 16 = .ok (.iload_n 0, 1) := by decide +kernel
theorem dX6_isWidth_17 : decode cX6_isWidth 17 = .ok (.bipush 64, 2) := by decide +kernel
theorem dX6_isWidth_19 : decode cX6_isWidth 19 = .ok (.if_icmp .ne 7, 3) := by decide +kernel
theorem dX6_isWidth_22 : decode cX6_isWidth 22 = .ok (.iconst 1, 1) := by decide +kernel
theorem dX6_isWidth_23 : decode cX6_isWidth 23 = .ok (.goto 4, 3) := by decide +kernel
theorem dX6_isWidth_26 : decode cX6_isWidth 26 = .ok (.iconst 0, 1) := by decide +kernel
theorem dX6_isWidth_27 : decode cX6_isWidth 27 = .ok (.ireturn, 1) := by decide +kernel
theorem dX6_isMissing_0 : decode cX6_isMissing 0 = .ok (.iload_n 1, 1) := by decide +kernel
theorem dX6_isMissing_1 : decode cX6_isMissing 1 = .ok (.invokestatic 20, 3) := by decide +kernel
theorem dX6_isMissing_4 : decode cX6_isMissing 4 = .ok (.ifCond .eq 12, 3) := by decide +kernel
theorem dX6_isMissing_7 : decode cX6_isMissing 7 = .ok (.aload_n 0, 1) := by decide +kernel
theorem dX6_isMissing_8 : decode cX6_isMissing 8 = .ok (.getfield 9, 3) := by decide +kernel
theorem dX6_isMissing_11 : decode cX6_isMissing 11 = .ok (.iload_n 1, 1) := by decide +kernel
theorem dX6_isMissing_12 : decode cX6_isMissing 12 = .ok (.iaload, 1) := by decide +kernel
theorem dX6_isMissing_13 : decode cX6_isMissing 13 = .ok (.ifCond .ne 7, 3) := by decide +kernel
theorem dX6_isMissing_16 : decode cX6_isMissing 16 = .ok (.iconst 1, 1) := by decide +kernel
theorem dX6_isMissing_17 : decode cX6_isMissing 17 = .ok (.goto 4, 3) := by decide +kernel
theorem dX6_isMissing_20 : decode cX6_isMissing 20 = .ok (.iconst 0, 1) := by decide +kernel
theorem dX6_isMissing_21 : decode cX6_isMissing 21 = .ok (.ireturn, 1) := by decide +kernel
theorem dX6_areAlike_0 : decode cX6_areAlike 0 = .ok (.iload_n 1, 1) := by decide +kernel
theorem dX6_areAlike_1 : decode cX6_areAlike 1 = .ok (.invokestatic 20, 3) := by decide +kernel
theorem dX6_areAlike_4 : decode cX6_areAlike 4 = .ok (.ifCond .eq 29, 3) := by decide +kernel
theorem dX6_areAlike_7 : decode cX6_areAlike 7 = .ok (.iload_n 2, 1) := by decide +kernel
theorem dX6_areAlike_8 : decode cX6_areAlike 8 = .ok (.invokestatic 20, 3) := by decide +kernel
theorem dX6_areAlike_11 : decode cX6_areAlike 11 = .ok (.ifCond .eq 22, 3) := by decide +kernel
theorem dX6_areAlike_14 : decode cX6_areAlike 14 = .ok (.aload_n 0, 1) := by decide +kernel
theorem dX6_areAlike_15 : decode cX6_areAlike 15 = .ok (.getfield 9, 3) := by decide +kernel
theorem dX6_areAlike_18 : decode cX6_areAlike 18 = .ok (.iload_n 1, 1) := by decide +kernel
theorem dX6_areAlike_19 : decode cX6_areAlike 19 = .ok (.iaload, 1) := by decide +kernel
theorem dX6_areAlike_20 : decode cX6_areAlike 20 = .ok (.aload_n 0, 1) := by decide +kernel
theorem dX6_areAlike_21 : decode cX6_areAlike 21 = .ok (.getfield 9, 3) := by decide +kernel
theorem dX6_areAlike_24 : decode cX6_areAlike 24 = .ok (.iload_n 2, 1) := by decide +kernel
theorem dX6_areAlike_25 : decode cX6_areAlike 25 = .ok (.iaload, 1) := by decide +kernel
theorem dX6_areAlike_26 : decode cX6_areAlike 26 = .ok (.if_icmp .ne 7, 3) := by decide +kernel
theorem dX6_areAlike_29 : decode cX6_areAlike 29 = .ok (.iconst 1, 1) := by decide +kernel
theorem dX6_areAlike_30 : decode cX6_areAlike 30 = .ok (.goto 4, 3) := by decide +kernel
theorem dX6_areAlike_33 : decode cX6_areAlike 33 = .ok (.iconst 0, 1) := by decide +kernel
theorem dX6_areAlike_34 : decode cX6_areAlike 34 = .ok (.ireturn, 1) := by decide +kernel
theorem dX6_sizeOf_0 : decode cX6_sizeOf 0 = .ok (.iload_n 1, 1) := by decide +kernel
theorem dX6_sizeOf_1 : decode cX6_sizeOf 1 = .ok (.invokestatic 20, 3) := by decide +kernel
theorem dX6_sizeOf_4 : decode cX6_sizeOf 4 = .ok (.ifCond .eq 12, 3) := by decide +kernel
theorem dX6_sizeOf_7 : decode cX6_sizeOf 7 = .ok (.aload_n 0, 1) := by decide +kernel
theorem dX6_sizeOf_8 : decode cX6_sizeOf 8 = .ok (.getfield 13, 3) := by decide +kernel
theorem dX6_sizeOf_11 : decode cX6_sizeOf 11 = .ok (.iload_n 1, 1) := by decide +kernel
theorem dX6_sizeOf_12 : decode cX6_sizeOf 12 = .ok (.iaload, 1) := by decide +kernel
theorem dX6_sizeOf_13 : decode cX6_sizeOf 13 = .ok (.goto 4, 3) := by decide +kernel
theorem dX6_sizeOf_16 : decode cX6_sizeOf 16 = .ok (.iconst 0, 1) := by decide +kernel
theorem dX6_sizeOf_17 : decode cX6_sizeOf 17 = .ok (.ireturn, 1) := by decide +kernel
theorem dX6_holds_0 : decode cX6_holds 0 = .ok (.aload_n 0, 1) := by decide +kernel
theorem dX6_holds_1 : decode cX6_holds 1 = .ok (.iload_n 1, 1) := by decide +kernel
theorem dX6_holds_2 : decode cX6_holds 2 = .ok (.invokevirtual 24, 3) := by decide +kernel
theorem dX6_holds_5 : decode cX6_holds 5 = .ok (.istore 4, 2) := by decide +kernel
theorem dX6_holds_7 : decode cX6_holds 7 = .ok (.iload_n 2, 1) := by decide +kernel
theorem dX6_holds_8 : decode cX6_holds 8 = .ok (.ifCond .lt 25, 3) := by decide +kernel
theorem dX6_holds_11 : decode cX6_holds 11 = .ok (.iload_n 3, 1) := by decide +kernel
theorem dX6_holds_12 : decode cX6_holds 12 = .ok (.ifCond .lt 21, 3) := by decide +kernel
theorem dX6_holds_15 : decode cX6_holds 15 = .ok (.iload_n 2, 1) := by decide +kernel
theorem dX6_holds_16 : decode cX6_holds 16 = .ok (.iload 4, 2) := by decide +kernel
theorem dX6_holds_18 : decode cX6_holds 18 = .ok (.if_icmp .gt 15, 3) := by decide +kernel
theorem dX6_holds_21 : decode cX6_holds 21 = .ok (.iload_n 3, 1) := by decide +kernel
theorem dX6_holds_22 : decode cX6_holds 22 = .ok (.iload 4, 2) := by decide +kernel
theorem dX6_holds_24 : decode cX6_holds 24 = .ok (.iload_n 2, 1) := by decide +kernel
theorem dX6_holds_25 : decode cX6_holds 25 = .ok (.isub, 1) := by decide +kernel
theorem dX6_holds_26 : decode cX6_holds 26 = .ok (.if_icmp .gt 7, 3) := by decide +kernel
theorem dX6_holds_29 : decode cX6_holds 29 = .ok (.iconst 1, 1) := by decide +kernel
theorem dX6_holds_30 : decode cX6_holds 30 = .ok (.goto 4, 3) := by decide +kernel
theorem dX6_holds_33 : decode cX6_holds 33 = .ok (.iconst 0, 1) := by decide +kernel
theorem dX6_holds_34 : decode cX6_holds 34 = .ok (.ireturn, 1) := by decide +kernel
theorem dX6_lay_0 : decode cX6_lay 0 = .ok (.iload_n 1, 1) := by decide +kernel
theorem dX6_lay_1 : decode cX6_lay 1 = .ok (.invokestatic 20, 3) := by decide +kernel
theorem dX6_lay_4 : decode cX6_lay 4 = .ok (.ifCond .eq 13, 3) := by decide +kernel
theorem dX6_lay_7 : decode cX6_lay 7 = .ok (.iload_n 3, 1) := by decide +kernel
theorem dX6_lay_8 : decode cX6_lay 8 = .ok (.ifCond .lt 9, 3) := by decide +kernel
theorem dX6_lay_11 : decode cX6_lay 11 = .ok (.iload_n 3, 1) := by decide +kernel
theorem dX6_lay_12 : decode cX6_lay 12 = .ok (.bipush 40, 2) := by decide +kernel
theorem dX6_lay_14 : decode cX6_lay 14 = .ok (.if_icmp .le 5, 3) := by decide +kernel
theorem dX6_lay_17 : decode cX6_lay 17 = .ok (.iconst 0, 1) := by decide +kernel
theorem dX6_lay_18 : decode cX6_lay 18 = .ok (.ireturn, 1) := by decide +kernel
theorem dX6_lay_19 : decode cX6_lay 19 = .ok (.aload_n 0, 1) := by decide +kernel
theorem dX6_lay_20 : decode cX6_lay 20 = .ok (.getfield 9, 3) := by decide +kernel
theorem dX6_lay_23 : decode cX6_lay 23 = .ok (.iload_n 1, 1) := by decide +kernel
theorem dX6_lay_24 : decode cX6_lay 24 = .ok (.iload_n 2, 1) := by decide +kernel
theorem dX6_lay_25 : decode cX6_lay 25 = .ok (.iastore, 1) := by decide +kernel
theorem dX6_lay_26 : decode cX6_lay 26 = .ok (.aload_n 0, 1) := by decide +kernel
theorem dX6_lay_27 : decode cX6_lay 27 = .ok (.getfield 13, 3) := by decide +kernel
theorem dX6_lay_30 : decode cX6_lay 30 = .ok (.iload_n 1, 1) := by decide +kernel
theorem dX6_lay_31 : decode cX6_lay 31 = .ok (.iload_n 2, 1) := by decide +kernel
theorem dX6_lay_32 : decode cX6_lay 32 = .ok (.ifCond .ne 7, 3) := by decide +kernel
theorem dX6_lay_35 : decode cX6_lay 35 = .ok (.iconst 0, 1) := by decide +kernel
theorem dX6_lay_36 : decode cX6_lay 36 = .ok (.goto 4, 3) := by decide +kernel
theorem dX6_lay_39 : decode cX6_lay 39 = .ok (.iload_n 3, 1) := by decide +kernel
theorem dX6_lay_40 : decode cX6_lay 40 = .ok (.iastore, 1) := by decide +kernel
theorem dX6_lay_41 : decode cX6_lay 41 = .ok (.iconst 0, 1) := by decide +kernel
theorem dX6_lay_42 : decode cX6_lay 42 = .ok (.istore 4, 2) := by decide +kernel
theorem dX6_lay_44 : decode cX6_lay 44 = .ok (.iload 4, 2) := by decide +kernel
theorem dX6_lay_46 : decode cX6_lay 46 = .ok (.bipush 40, 2) := by decide +kernel
theorem dX6_lay_48 : decode cX6_lay 48 = .ok (.if_icmp .ge 22, 3) := by decide +kernel
theorem dX6_lay_51 : decode cX6_lay 51 = .ok (.aload_n 0, 1) := by decide +kernel
theorem dX6_lay_52 : decode cX6_lay 52 = .ok (.getfield 16, 3) := by decide +kernel
theorem dX6_lay_55 : decode cX6_lay 55 = .ok (.iload_n 1, 1) := by decide +kernel
theorem dX6_lay_56 : decode cX6_lay 56 = .ok (.bipush 40, 2) := by decide +kernel
theorem dX6_lay_58 : decode cX6_lay 58 = .ok (.imul, 1) := by decide +kernel
theorem dX6_lay_59 : decode cX6_lay 59 = .ok (.iload 4, 2) := by decide +kernel
theorem dX6_lay_61 : decode cX6_lay 61 = .ok (.iadd, 1) := by decide +kernel
theorem dX6_lay_62 : decode cX6_lay 62 = .ok (.lconst 0, 1) := by decide +kernel
theorem dX6_lay_63 : decode cX6_lay 63 = .ok (.lastore, 1) := by decide +kernel
theorem dX6_lay_64 : decode cX6_lay 64 = .ok (.iinc 4 1, 3) := by decide +kernel
theorem dX6_lay_67 : decode cX6_lay 67 = .ok (.goto (-23), 3) := by decide +kernel
theorem dX6_lay_70 : decode cX6_lay 70 = .ok (.aload_n 0, 1) := by decide +kernel
theorem dX6_lay_71 : decode cX6_lay 71 = .ok (.getfield 13, 3) := by decide +kernel
theorem dX6_lay_74 : decode cX6_lay 74 = .ok (.iload_n 1, 1) := by decide +kernel
theorem dX6_lay_75 : decode cX6_lay 75 = .ok (.iaload, 1) := by decide +kernel
theorem dX6_lay_76 : decode cX6_lay 76 = .ok (.ireturn, 1) := by decide +kernel
theorem dX6_at_0 : decode cX6_at 0 = .ok (.iload_n 2, 1) := by decide +kernel
theorem dX6_at_1 : decode cX6_at 1 = .ok (.ifCond .lt 26, 3) := by decide +kernel
theorem dX6_at_4 : decode cX6_at 4 = .ok (.iload_n 2, 1) := by decide +kernel
theorem dX6_at_5 : decode cX6_at 5 = .ok (.aload_n 0, 1) := by decide +kernel
theorem dX6_at_6 : decode cX6_at 6 = .ok (.iload_n 1, 1) := by decide +kernel
theorem dX6_at_7 : decode cX6_at 7 = .ok (.invokevirtual 24, 3) := by decide +kernel
theorem dX6_at_10 : decode cX6_at 10 = .ok (.if_icmp .ge 17, 3) := by decide +kernel
theorem dX6_at_13 : decode cX6_at 13 = .ok (.aload_n 0, 1) := by decide +kernel
theorem dX6_at_14 : decode cX6_at 14 = .ok (.getfield 16, 3) := by decide +kernel
theorem dX6_at_17 : decode cX6_at 17 = .ok (.iload_n 1, 1) := by decide +kernel
theorem dX6_at_18 : decode cX6_at 18 = .ok (.bipush 40, 2) := by decide +kernel
theorem dX6_at_20 : decode cX6_at 20 = .ok (.imul, 1) := by decide +kernel
theorem dX6_at_21 : decode cX6_at 21 = .ok (.iload_n 2, 1) := by decide +kernel
theorem dX6_at_22 : decode cX6_at 22 = .ok (.iadd, 1) := by decide +kernel
theorem dX6_at_23 : decode cX6_at 23 = .ok (.laload, 1) := by decide +kernel
theorem dX6_at_24 : decode cX6_at 24 = .ok (.goto 4, 3) := by decide +kernel
theorem dX6_at_27 : decode cX6_at 27 = .ok (.lconst 0, 1) := by decide +kernel
theorem dX6_at_28 : decode cX6_at 28 = .ok (.lreturn, 1) := by decide +kernel
theorem dX6_put_0 : decode cX6_put 0 = .ok (.iload_n 2, 1) := by decide +kernel
theorem dX6_put_1 : decode cX6_put 1 = .ok (.ifCond .lt 33, 3) := by decide +kernel
theorem dX6_put_4 : decode cX6_put 4 = .ok (.iload_n 2, 1) := by decide +kernel
theorem dX6_put_5 : decode cX6_put 5 = .ok (.aload_n 0, 1) := by decide +kernel
theorem dX6_put_6 : decode cX6_put 6 = .ok (.iload_n 1, 1) := by decide +kernel
theorem dX6_put_7 : decode cX6_put 7 = .ok (.invokevirtual 24, 3) := by decide +kernel
theorem dX6_put_10 : decode cX6_put 10 = .ok (.if_icmp .ge 24, 3) := by decide +kernel
theorem dX6_put_13 : decode cX6_put 13 = .ok (.aload_n 0, 1) := by decide +kernel
theorem dX6_put_14 : decode cX6_put 14 = .ok (.getfield 16, 3) := by decide +kernel
theorem dX6_put_17 : decode cX6_put 17 = .ok (.iload_n 1, 1) := by decide +kernel
theorem dX6_put_18 : decode cX6_put 18 = .ok (.bipush 40, 2) := by decide +kernel
theorem dX6_put_20 : decode cX6_put 20 = .ok (.imul, 1) := by decide +kernel
theorem dX6_put_21 : decode cX6_put 21 = .ok (.iload_n 2, 1) := by decide +kernel
theorem dX6_put_22 : decode cX6_put 22 = .ok (.iadd, 1) := by decide +kernel
theorem dX6_put_23 : decode cX6_put 23 = .ok (.aload_n 0, 1) := by decide +kernel
theorem dX6_put_24 : decode cX6_put 24 = .ok (.getfield 9, 3) := by decide +kernel
theorem dX6_put_27 : decode cX6_put 27 = .ok (.iload_n 1, 1) := by decide +kernel
theorem dX6_put_28 : decode cX6_put 28 = .ok (.iaload, 1) := by decide +kernel
theorem dX6_put_29 : decode cX6_put 29 = .ok (.lload_n 3, 1) := by decide +kernel
theorem dX6_put_30 : decode cX6_put 30 = .ok (.invokestatic 28, 3) := by decide +kernel
theorem dX6_put_33 : decode cX6_put 33 = .ok (.lastore, 1) := by decide +kernel
theorem dX6_put_34 : decode cX6_put 34 = .ok (.return_, 1) := by decide +kernel
theorem dX6_lowest_0 : decode cX6_lowest 0 = .ok (.iload_n 0, 1) := by decide +kernel
theorem dX6_lowest_1 : decode cX6_lowest 1 = .ok (.lookupswitch 37 #[(8, 27), (16, 32)], 27) := by decide +kernel
theorem dX6_lowest_28 : decode cX6_lowest 28 = .ok (.lload_n 1, 1) := by decide +kernel
theorem dX6_lowest_29 : decode cX6_lowest 29 = .ok (.l2i, 1) := by decide +kernel
theorem dX6_lowest_30 : decode cX6_lowest 30 = .ok (.i2b, 1) := by decide +kernel
theorem dX6_lowest_31 : decode cX6_lowest 31 = .ok (.i2l, 1) := by decide +kernel
theorem dX6_lowest_32 : decode cX6_lowest 32 = .ok (.lreturn, 1) := by decide +kernel
theorem dX6_lowest_33 : decode cX6_lowest 33 = .ok (.lload_n 1, 1) := by decide +kernel
theorem dX6_lowest_34 : decode cX6_lowest 34 = .ok (.l2i, 1) := by decide +kernel
theorem dX6_lowest_35 : decode cX6_lowest 35 = .ok (.i2s, 1) := by decide +kernel
theorem dX6_lowest_36 : decode cX6_lowest 36 = .ok (.i2l, 1) := by decide +kernel
theorem dX6_lowest_37 : decode cX6_lowest 37 = .ok (.lreturn, 1) := by decide +kernel
theorem dX6_lowest_38 : decode cX6_lowest 38 = .ok (.lload_n 1, 1) := by decide +kernel
theorem dX6_lowest_39 : decode cX6_lowest 39 = .ok (.lreturn, 1) := by decide +kernel
theorem dX6_move_0 : decode cX6_move 0 = .ok (.aload_n 0, 1) := by decide +kernel
theorem dX6_move_1 : decode cX6_move 1 = .ok (.iload_n 1, 1) := by decide +kernel
theorem dX6_move_2 : decode cX6_move 2 = .ok (.iload_n 2, 1) := by decide +kernel
theorem dX6_move_3 : decode cX6_move 3 = .ok (.iload 5, 2) := by decide +kernel
theorem dX6_move_5 : decode cX6_move 5 = .ok (.invokevirtual 32, 3) := by decide +kernel
theorem dX6_move_8 : decode cX6_move 8 = .ok (.ifCond .eq 41, 3) := by decide +kernel
theorem dX6_move_11 : decode cX6_move 11 = .ok (.aload_n 0, 1) := by decide +kernel
theorem dX6_move_12 : decode cX6_move 12 = .ok (.iload_n 3, 1) := by decide +kernel
theorem dX6_move_13 : decode cX6_move 13 = .ok (.iload 4, 2) := by decide +kernel
theorem dX6_move_15 : decode cX6_move 15 = .ok (.iload 5, 2) := by decide +kernel
theorem dX6_move_17 : decode cX6_move 17 = .ok (.invokevirtual 32, 3) := by decide +kernel
theorem dX6_move_20 : decode cX6_move 20 = .ok (.ifCond .eq 29, 3) := by decide +kernel
theorem dX6_move_23 : decode cX6_move 23 = .ok (.aload_n 0, 1) := by decide +kernel
theorem dX6_move_24 : decode cX6_move 24 = .ok (.getfield 16, 3) := by decide +kernel
theorem dX6_move_27 : decode cX6_move 27 = .ok (.iload_n 1, 1) := by decide +kernel
theorem dX6_move_28 : decode cX6_move 28 = .ok (.bipush 40, 2) := by decide +kernel
theorem dX6_move_30 : decode cX6_move 30 = .ok (.imul, 1) := by decide +kernel
theorem dX6_move_31 : decode cX6_move 31 = .ok (.iload_n 2, 1) := by decide +kernel
theorem dX6_move_32 : decode cX6_move 32 = .ok (.iadd, 1) := by decide +kernel
theorem dX6_move_33 : decode cX6_move 33 = .ok (.aload_n 0, 1) := by decide +kernel
theorem dX6_move_34 : decode cX6_move 34 = .ok (.getfield 16, 3) := by decide +kernel
theorem dX6_move_37 : decode cX6_move 37 = .ok (.iload_n 3, 1) := by decide +kernel
theorem dX6_move_38 : decode cX6_move 38 = .ok (.bipush 40, 2) := by decide +kernel
theorem dX6_move_40 : decode cX6_move 40 = .ok (.imul, 1) := by decide +kernel
theorem dX6_move_41 : decode cX6_move 41 = .ok (.iload 4, 2) := by decide +kernel
theorem dX6_move_43 : decode cX6_move 43 = .ok (.iadd, 1) := by decide +kernel
theorem dX6_move_44 : decode cX6_move 44 = .ok (.iload 5, 2) := by decide +kernel
theorem dX6_move_46 : decode cX6_move 46 = .ok (.invokestatic 36, 3) := by decide +kernel
theorem dX6_move_49 : decode cX6_move 49 = .ok (.return_, 1) := by decide +kernel
theorem dX6_toBook_0 : decode cX6_toBook 0 = .ok (.iconst 0, 1) := by decide +kernel
theorem dX6_toBook_1 : decode cX6_toBook 1 = .ok (.istore_n 3, 1) := by decide +kernel
theorem dX6_toBook_2 : decode cX6_toBook 2 = .ok (.aload_n 0, 1) := by decide +kernel
theorem dX6_toBook_3 : decode cX6_toBook 3 = .ok (.iload_n 1, 1) := by decide +kernel
theorem dX6_toBook_4 : decode cX6_toBook 4 = .ok (.invokevirtual 24, 3) := by decide +kernel
theorem dX6_toBook_7 : decode cX6_toBook 7 = .ok (.bipush 26, 2) := by decide +kernel
theorem dX6_toBook_9 : decode cX6_toBook 9 = .ok (.invokestatic 44, 3) := by decide +kernel
theorem dX6_toBook_12 : decode cX6_toBook 12 = .ok (.istore 4, 2) := by decide +kernel
theorem dX6_toBook_14 : decode cX6_toBook 14 = .ok (.iconst 0, 1) := by decide +kernel
theorem dX6_toBook_15 : decode cX6_toBook 15 = .ok (.istore 5, 2) := by decide +kernel
theorem dX6_toBook_17 : decode cX6_toBook 17 = .ok (.iload 5, 2) := by decide +kernel
theorem dX6_toBook_19 : decode cX6_toBook 19 = .ok (.iload 4, 2) := by decide +kernel
theorem dX6_toBook_21 : decode cX6_toBook 21 = .ok (.if_icmp .ge 46, 3) := by decide +kernel
theorem dX6_toBook_24 : decode cX6_toBook 24 = .ok (.aload_n 0, 1) := by decide +kernel
theorem dX6_toBook_25 : decode cX6_toBook 25 = .ok (.iload_n 1, 1) := by decide +kernel
theorem dX6_toBook_26 : decode cX6_toBook 26 = .ok (.iload 5, 2) := by decide +kernel
theorem dX6_toBook_28 : decode cX6_toBook 28 = .ok (.invokevirtual 50, 3) := by decide +kernel
theorem dX6_toBook_31 : decode cX6_toBook 31 = .ok (.lstore 6, 2) := by decide +kernel
theorem dX6_toBook_33 : decode cX6_toBook 33 = .ok (.lload 6, 2) := by decide +kernel
theorem dX6_toBook_35 : decode cX6_toBook 35 = .ok (.lconst 0, 1) := by decide +kernel
theorem dX6_toBook_36 : decode cX6_toBook 36 = .ok (.lcmp, 1) := by decide +kernel
theorem dX6_toBook_37 : decode cX6_toBook 37 = .ok (.ifCond .lt 24, 3) := by decide +kernel
theorem dX6_toBook_40 : decode cX6_toBook 40 = .ok (.lload 6, 2) := by decide +kernel
theorem dX6_toBook_42 : decode cX6_toBook 42 = .ok (.ldc2_w 56, 3) := by decide +kernel
theorem dX6_toBook_45 : decode cX6_toBook 45 = .ok (.lcmp, 1) := by decide +kernel
theorem dX6_toBook_46 : decode cX6_toBook 46 = .ok (.ifCond .gt 15, 3) := by decide +kernel
theorem dX6_toBook_49 : decode cX6_toBook 49 = .ok (.aload_n 2, 1) := by decide +kernel
theorem dX6_toBook_50 : decode cX6_toBook 50 = .ok (.iload 5, 2) := by decide +kernel
theorem dX6_toBook_52 : decode cX6_toBook 52 = .ok (.lload 6, 2) := by decide +kernel
theorem dX6_toBook_54 : decode cX6_toBook 54 = .ok (.l2i, 1) := by decide +kernel
theorem dX6_toBook_55 : decode cX6_toBook 55 = .ok (.invokevirtual 58, 3) := by decide +kernel
theorem dX6_toBook_58 : decode cX6_toBook 58 = .ok (.iinc 3 1, 3) := by decide +kernel
theorem dX6_toBook_61 : decode cX6_toBook 61 = .ok (.iinc 5 1, 3) := by decide +kernel
theorem dX6_toBook_64 : decode cX6_toBook 64 = .ok (.goto (-47), 3) := by decide +kernel
theorem dX6_toBook_67 : decode cX6_toBook 67 = .ok (.iload_n 3, 1) := by decide +kernel
theorem dX6_toBook_68 : decode cX6_toBook 68 = .ok (.ireturn, 1) := by decide +kernel
theorem dX6_walkOver_0 : decode cX6_walkOver 0 = .ok (.aload_n 0, 1) := by decide +kernel
theorem dX6_walkOver_1 : decode cX6_walkOver 1 = .ok (.iload_n 1, 1) := by decide +kernel
theorem dX6_walkOver_2 : decode cX6_walkOver 2 = .ok (.invokevirtual 24, 3) := by decide +kernel
theorem dX6_walkOver_5 : decode cX6_walkOver 5 = .ok (.istore_n 3, 1) := by decide +kernel
theorem dX6_walkOver_6 : decode cX6_walkOver 6 = .ok (.iload_n 2, 1) := by decide +kernel
theorem dX6_walkOver_7 : decode cX6_walkOver 7 = .ok (.istore 4, 2) := by decide +kernel
theorem dX6_walkOver_9 : decode cX6_walkOver 9 = .ok (.iconst 0, 1) := by decide +kernel
theorem dX6_walkOver_10 : decode cX6_walkOver 10 = .ok (.istore 5, 2) := by decide +kernel
theorem dX6_walkOver_12 : decode cX6_walkOver 12 = .ok (.iload 5, 2) := by decide +kernel
theorem dX6_walkOver_14 : decode cX6_walkOver 14 = .ok (.iload_n 3, 1) := by decide +kernel
theorem dX6_walkOver_15 : decode cX6_walkOver 15 = .ok (.if_icmp .ge 86, 3) := by decide +kernel
theorem dX6_walkOver_18 : decode cX6_walkOver 18 = .ok (.aload_n 0, 1) := by decide +kernel
theorem dX6_walkOver_19 : decode cX6_walkOver 19 = .ok (.iload_n 1, 1) := by decide +kernel
theorem dX6_walkOver_20 : decode cX6_walkOver 20 = .ok (.iload 5, 2) := by decide +kernel
theorem dX6_walkOver_22 : decode cX6_walkOver 22 = .ok (.invokevirtual 50, 3) := by decide +kernel
theorem dX6_walkOver_25 : decode cX6_walkOver 25 = .ok (.invokestatic 62, 3) := by decide +kernel
theorem dX6_walkOver_28 : decode cX6_walkOver 28 = .ok (.ifCond .ne 8, 3) := by decide +kernel
theorem dX6_walkOver_31 : decode cX6_walkOver 31 = .ok (.iconst 1, 1) := by decide +kernel
theorem dX6_walkOver_32 : decode cX6_walkOver 32 = .ok (.iload 5, 2) := by decide +kernel
theorem dX6_walkOver_34 : decode cX6_walkOver 34 = .ok (.iadd, 1) := by decide +kernel
theorem dX6_walkOver_35 : decode cX6_walkOver 35 = .ok (.ireturn, 1) := by decide +kernel
theorem dX6_walkOver_36 : decode cX6_walkOver 36 = .ok (.iload 5, 2) := by decide +kernel
theorem dX6_walkOver_38 : decode cX6_walkOver 38 = .ok (.ifCond .le 57, 3) := by decide +kernel
theorem dX6_walkOver_41 : decode cX6_walkOver 41 = .ok (.aload_n 0, 1) := by decide +kernel
theorem dX6_walkOver_42 : decode cX6_walkOver 42 = .ok (.iload_n 1, 1) := by decide +kernel
theorem dX6_walkOver_43 : decode cX6_walkOver 43 = .ok (.iload 5, 2) := by decide +kernel
theorem dX6_walkOver_45 : decode cX6_walkOver 45 = .ok (.iconst 1, 1) := by decide +kernel
theorem dX6_walkOver_46 : decode cX6_walkOver 46 = .ok (.isub, 1) := by decide +kernel
theorem dX6_walkOver_47 : decode cX6_walkOver 47 = .ok (.invokevirtual 50, 3) := by decide +kernel
theorem dX6_walkOver_50 : decode cX6_walkOver 50 = .ok (.l2i, 1) := by decide +kernel
theorem dX6_walkOver_51 : decode cX6_walkOver 51 = .ok (.aload_n 0, 1) := by decide +kernel
theorem dX6_walkOver_52 : decode cX6_walkOver 52 = .ok (.iload_n 1, 1) := by decide +kernel
theorem dX6_walkOver_53 : decode cX6_walkOver 53 = .ok (.iload 5, 2) := by decide +kernel
theorem dX6_walkOver_55 : decode cX6_walkOver 55 = .ok (.invokevirtual 50, 3) := by decide +kernel
theorem dX6_walkOver_58 : decode cX6_walkOver 58 = .ok (.l2i, 1) := by decide +kernel
theorem dX6_walkOver_59 : decode cX6_walkOver 59 = .ok (.invokestatic 66, 3) := by decide +kernel
theorem dX6_walkOver_62 : decode cX6_walkOver 62 = .ok (.istore 6, 2) := by decide +kernel
theorem dX6_walkOver_64 : decode cX6_walkOver 64 = .ok (.iload 6, 2) := by decide +kernel
theorem dX6_walkOver_66 : decode cX6_walkOver 66 = .ok (.ifCond .lt 13, 3) := by decide +kernel
theorem dX6_walkOver_69 : decode cX6_walkOver 69 = .ok (.iload 4, 2) := by decide +kernel
theorem dX6_walkOver_71 : decode cX6_walkOver 71 = .ok (.iload 6, 2) := by decide +kernel
theorem dX6_walkOver_73 : decode cX6_walkOver 73 = .ok (.invokestatic 69, 3) := by decide +kernel
theorem dX6_walkOver_76 : decode cX6_walkOver 76 = .ok (.ifCond .ne 8, 3) := by decide +kernel
theorem dX6_walkOver_79 : decode cX6_walkOver 79 = .ok (.iconst 1, 1) := by decide +kernel
theorem dX6_walkOver_80 : decode cX6_walkOver 80 = .ok (.iload 5, 2) := by decide +kernel
theorem dX6_walkOver_82 : decode cX6_walkOver 82 = .ok (.iadd, 1) := by decide +kernel
theorem dX6_walkOver_83 : decode cX6_walkOver 83 = .ok (.ireturn, 1) := by decide +kernel
theorem dX6_walkOver_84 : decode cX6_walkOver 84 = .ok (.iload 4, 2) := by decide +kernel
theorem dX6_walkOver_86 : decode cX6_walkOver 86 = .ok (.iconst 1, 1) := by decide +kernel
theorem dX6_walkOver_87 : decode cX6_walkOver 87 = .ok (.iload 6, 2) := by decide +kernel
theorem dX6_walkOver_89 : decode cX6_walkOver 89 = .ok (.ishl, 1) := by decide +kernel
theorem dX6_walkOver_90 : decode cX6_walkOver 90 = .ok (.iconst (-1), 1) := by decide +kernel
theorem dX6_walkOver_91 : decode cX6_walkOver 91 = .ok (.ixor, 1) := by decide +kernel
theorem dX6_walkOver_92 : decode cX6_walkOver 92 = .ok (.iand, 1) := by decide +kernel
theorem dX6_walkOver_93 : decode cX6_walkOver 93 = .ok (.istore 4, 2) := by decide +kernel
theorem dX6_walkOver_95 : decode cX6_walkOver 95 = .ok (.iinc 5 1, 3) := by decide +kernel
theorem dX6_walkOver_98 : decode cX6_walkOver 98 = .ok (.goto (-86), 3) := by decide +kernel
theorem dX6_walkOver_101 : decode cX6_walkOver 101 = .ok (.iload 4, 2) := by decide +kernel
theorem dX6_walkOver_103 : decode cX6_walkOver 103 = .ok (.ifCond .ne 7, 3) := by decide +kernel
theorem dX6_walkOver_106 : decode cX6_walkOver 106 = .ok (.iconst 0, 1) := by decide +kernel
theorem dX6_walkOver_107 : decode cX6_walkOver 107 = .ok (.goto 6, 3) := by decide +kernel
theorem dX6_walkOver_110 : decode cX6_walkOver 110 = .ok (.iconst 1, 1) := by decide +kernel
theorem dX6_walkOver_111 : decode cX6_walkOver 111 = .ok (.iload_n 3, 1) := by decide +kernel
theorem dX6_walkOver_112 : decode cX6_walkOver 112 = .ok (.iadd, 1) := by decide +kernel
theorem dX6_walkOver_113 : decode cX6_walkOver 113 = .ok (.ireturn, 1) := by decide +kernel
theorem dX7_init_0 : decode cX7_init 0 = .ok (.aload_n 0, 1) := by decide +kernel
theorem dX7_init_1 : decode cX7_init 1 = .ok (.invokespecial 1, 3) := by decide +kernel
theorem dX7_init_4 : decode cX7_init 4 = .ok (.aload_n 0, 1) := by decide +kernel
theorem dX7_init_5 : decode cX7_init 5 = .ok (.bipush 120, 2) := by decide +kernel
theorem dX7_init_7 : decode cX7_init 7 = .ok (.newarray .byte, 2) := by decide +kernel
theorem dX7_init_9 : decode cX7_init 9 = .ok (.putfield 9, 3) := by decide +kernel
theorem dX7_init_12 : decode cX7_init 12 = .ok (.return_, 1) := by decide +kernel
theorem dX7_hasRoomFor_0 : decode cX7_hasRoomFor 0 = .ok (.iload_n 1, 1) := by decide +kernel
theorem dX7_hasRoomFor_1 : decode cX7_hasRoomFor 1 = .ok (.bipush 120, 2) := by decide +kernel
theorem dX7_hasRoomFor_3 : decode cX7_hasRoomFor 3 = .ok (.aload_n 0, 1) := by decide +kernel
theorem dX7_hasRoomFor_4 : decode cX7_hasRoomFor 4 = .ok (.getfield 13, 3) := by decide +kernel
theorem dX7_hasRoomFor_7 : decode cX7_hasRoomFor 7 = .ok (.isub, 1) := by decide +kernel
theorem dX7_hasRoomFor_8 : decode cX7_hasRoomFor 8 = .ok (.if_icmp .gt 7, 3) := by decide +kernel
theorem dX7_hasRoomFor_11 : decode cX7_hasRoomFor 11 = .ok (.iconst 1, 1) := by decide +kernel
theorem dX7_hasRoomFor_12 : decode cX7_hasRoomFor 12 = .ok (.goto 4, 3) := by decide +kernel
theorem dX7_hasRoomFor_15 : decode cX7_hasRoomFor 15 = .ok (.iconst 0, 1) := by decide +kernel
theorem dX7_hasRoomFor_16 : decode cX7_hasRoomFor 16 = .ok (.ireturn, 1) := by decide +kernel
theorem dX7_append_0 : decode cX7_append 0 = .ok (.iload_n 2, 1) := by decide +kernel
theorem dX7_append_1 : decode cX7_append 1 = .ok (.iconst 1, 1) := by decide +kernel
theorem dX7_append_2 : decode cX7_append 2 = .ok (.isub, 1) := by decide +kernel
theorem dX7_append_3 : decode cX7_append 3 = .ok (.istore_n 3, 1) := by decide +kernel
theorem dX7_append_4 : decode cX7_append 4 = .ok (.iload_n 3, 1) := by decide +kernel
theorem dX7_append_5 : decode cX7_append 5 = .ok (.ifCond .lt 44, 3) := by decide +kernel
theorem dX7_append_8 : decode cX7_append 8 = .ok (.aload_n 0, 1) := by decide +kernel
theorem dX7_append_9 : decode cX7_append 9 = .ok (.getfield 13, 3) := by decide +kernel
theorem dX7_append_12 : decode cX7_append 12 = .ok (.bipush 120, 2) := by decide +kernel
theorem dX7_append_14 : decode cX7_append 14 = .ok (.if_icmp .ge 35, 3) := by decide +kernel
theorem dX7_append_17 : decode cX7_append 17 = .ok (.aload_n 0, 1) := by decide +kernel
theorem dX7_append_18 : decode cX7_append 18 = .ok (.getfield 9, 3) := by decide +kernel
theorem dX7_append_21 : decode cX7_append 21 = .ok (.aload_n 0, 1) := by decide +kernel
theorem dX7_append_22 : decode cX7_append 22 = .ok (.getfield 13, 3) := by decide +kernel
theorem dX7_append_25 : decode cX7_append 25 = .ok (.iload_n 1, 1) := by decide +kernel
theorem dX7_append_26 : decode cX7_append 26 = .ok (.bipush 8, 2) := by decide +kernel
theorem dX7_append_28 : decode cX7_append 28 = .ok (.iload_n 3, 1) := by decide +kernel
theorem dX7_append_29 : decode cX7_append 29 = .ok (.imul, 1) := by decide +kernel
theorem dX7_append_30 : decode cX7_append 30 = .ok (.ishr, 1) := by decide +kernel
theorem dX7_append_31 : decode cX7_append 31 = .ok (.i2b, 1) := by decide +kernel
theorem dX7_append_32 : decode cX7_append 32 = .ok (.bastore, 1) := by decide +kernel
theorem dX7_append_33 : decode cX7_append 33 = .ok (.aload_n 0, 1) := by decide +kernel
theorem dX7_append_34 : decode cX7_append 34 = .ok (.dup, 1) := by decide +kernel
theorem dX7_append_35 : decode cX7_append 35 = .ok (.getfield 13, 3) := by decide +kernel
theorem dX7_append_38 : decode cX7_append 38 = .ok (.iconst 1, 1) := by decide +kernel
theorem dX7_append_39 : decode cX7_append 39 = .ok (.iadd, 1) := by decide +kernel
theorem dX7_append_40 : decode cX7_append 40 = .ok (.putfield 13, 3) := by decide +kernel
theorem dX7_append_43 : decode cX7_append 43 = .ok (.iinc 3 (-1), 3) := by decide +kernel
theorem dX7_append_46 : decode cX7_append 46 = .ok (.goto (-42), 3) := by decide +kernel
theorem dX7_append_49 : decode cX7_append 49 = .ok (.return_, 1) := by decide +kernel
theorem dX7_empty_0 : decode cX7_empty 0 = .ok (.aload_n 0, 1) := by decide +kernel
theorem dX7_empty_1 : decode cX7_empty 1 = .ok (.getfield 13, 3) := by decide +kernel
theorem dX7_empty_4 : decode cX7_empty 4 = .ok (.istore_n 1, 1) := by decide +kernel
theorem dX7_empty_5 : decode cX7_empty 5 = .ok (.aload_n 0, 1) := by decide +kernel
theorem dX7_empty_6 : decode cX7_empty 6 = .ok (.iconst 0, 1) := by decide +kernel
theorem dX7_empty_7 : decode cX7_empty 7 = .ok (.putfield 13, 3) := by decide +kernel
theorem dX7_empty_10 : decode cX7_empty 10 = .ok (.iload_n 1, 1) := by decide +kernel
theorem dX7_empty_11 : decode cX7_empty 11 = .ok (.ireturn, 1) := by decide +kernel
theorem dX7_byteAt_0 : decode cX7_byteAt 0 = .ok (.iload_n 1, 1) := by decide +kernel
theorem dX7_byteAt_1 : decode cX7_byteAt 1 = .ok (.ifCond .lt 24, 3) := by decide +kernel
theorem dX7_byteAt_4 : decode cX7_byteAt 4 = .ok (.iload_n 1, 1) := by decide +kernel
theorem dX7_byteAt_5 : decode cX7_byteAt 5 = .ok (.aload_n 0, 1) := by decide +kernel
theorem dX7_byteAt_6 : decode cX7_byteAt 6 = .ok (.getfield 13, 3) := by decide +kernel
theorem dX7_byteAt_9 : decode cX7_byteAt 9 = .ok (.if_icmp .ge 16, 3) := by decide +kernel
theorem dX7_byteAt_12 : decode cX7_byteAt 12 = .ok (.aload_n 0, 1) := by decide +kernel
theorem dX7_byteAt_13 : decode cX7_byteAt 13 = .ok (.getfield 9, 3) := by decide +kernel
theorem dX7_byteAt_16 : decode cX7_byteAt 16 = .ok (.iload_n 1, 1) := by decide +kernel
theorem dX7_byteAt_17 : decode cX7_byteAt 17 = .ok (.baload, 1) := by decide +kernel
theorem dX7_byteAt_18 : decode cX7_byteAt 18 = .ok (.sipush 255, 3) := by decide +kernel
theorem dX7_byteAt_21 : decode cX7_byteAt 21 = .ok (.iand, 1) := by decide +kernel
theorem dX7_byteAt_22 : decode cX7_byteAt 22 = .ok (.goto 4, 3) := by decide +kernel
theorem dX7_byteAt_25 : decode cX7_byteAt 25 = .ok (.iconst 0, 1) := by decide +kernel
theorem dX7_byteAt_26 : decode cX7_byteAt 26 = .ok (.ireturn, 1) := by decide +kernel
theorem dX8_init_0 : decode cX8_init 0 = .ok (.aload_n 0, 1) := by decide +kernel
theorem dX8_init_1 : decode cX8_init 1 = .ok (.invokespecial 1, 3) := by decide +kernel
theorem dX8_init_4 : decode cX8_init 4 = .ok (.aload_n 0, 1) := by decide +kernel
theorem dX8_init_5 : decode cX8_init 5 = .ok (.bipush 120, 2) := by decide +kernel
theorem dX8_init_7 : decode cX8_init 7 = .ok (.newarray .int, 2) := by decide +kernel
theorem dX8_init_9 : decode cX8_init 9 = .ok (.putfield 9, 3) := by decide +kernel
theorem dX8_init_12 : decode cX8_init 12 = .ok (.aload_n 0, 1) := by decide +kernel
theorem dX8_init_13 : decode cX8_init 13 = .ok (.bipush 120, 2) := by decide +kernel
theorem dX8_init_15 : decode cX8_init 15 = .ok (.newarray .int, 2) := by decide +kernel
theorem dX8_init_17 : decode cX8_init 17 = .ok (.putfield 15, 3) := by decide +kernel
theorem dX8_init_20 : decode cX8_init 20 = .ok (.aload_n 0, 1) := by decide +kernel
theorem dX8_init_21 : decode cX8_init 21 = .ok (.bipush 120, 2) := by decide +kernel
theorem dX8_init_23 : decode cX8_init 23 = .ok (.newarray .int, 2) := by decide +kernel
theorem dX8_init_25 : decode cX8_init 25 = .ok (.putfield 18, 3) := by decide +kernel
theorem dX8_init_28 : decode cX8_init 28 = .ok (.return_, 1) := by decide +kernel
theorem dX8_cut_0 : decode cX8_cut 0 = .ok (.aload_n 0, 1) := by decide +kernel
theorem dX8_cut_1 : decode cX8_cut 1 = .ok (.iconst 0, 1) := by decide +kernel
theorem dX8_cut_2 : decode cX8_cut 2 = .ok (.putfield 21, 3) := by decide +kernel
theorem dX8_cut_5 : decode cX8_cut 5 = .ok (.aload_n 0, 1) := by decide +kernel
theorem dX8_cut_6 : decode cX8_cut 6 = .ok (.aload_n 1, 1) := by decide +kernel
theorem dX8_cut_7 : decode cX8_cut 7 = .ok (.getfield 25, 3) := by decide +kernel
theorem dX8_cut_10 : decode cX8_cut 10 = .ok (.putfield 28, 3) := by decide +kernel
theorem dX8_cut_13 : decode cX8_cut 13 = .ok (.iconst 0, 1) := by decide +kernel
theorem dX8_cut_14 : decode cX8_cut 14 = .ok (.istore_n 2, 1) := by decide +kernel
theorem dX8_cut_15 : decode cX8_cut 15 = .ok (.iconst 0, 1) := by decide +kernel
theorem dX8_cut_16 : decode cX8_cut 16 = .ok (.istore_n 3, 1) := by decide +kernel
theorem dX8_cut_17 : decode cX8_cut 17 = .ok (.iload_n 3, 1) := by decide +kernel
theorem dX8_cut_18 : decode cX8_cut 18 = .ok (.bipush 120, 2) := by decide +kernel
theorem dX8_cut_20 : decode cX8_cut 20 = .ok (.if_icmp .ge 107, 3) := by decide +kernel
theorem dX8_cut_23 : decode cX8_cut 23 = .ok (.iload_n 2, 1) := by decide +kernel
theorem dX8_cut_24 : decode cX8_cut 24 = .ok (.aload_n 0, 1) := by decide +kernel
theorem dX8_cut_25 : decode cX8_cut 25 = .ok (.getfield 28, 3) := by decide +kernel
theorem dX8_cut_28 : decode cX8_cut 28 = .ok (.if_icmp .ge 99, 3) := by decide +kernel
theorem dX8_cut_31 : decode cX8_cut 31 = .ok (.aload_n 1, 1) := by decide +kernel
theorem dX8_cut_32 : decode cX8_cut 32 = .ok (.iload_n 2, 1) := by decide +kernel
theorem dX8_cut_33 : decode cX8_cut 33 = .ok (.invokevirtual 29, 3) := by decide +kernel
theorem dX8_cut_36 : decode cX8_cut 36 = .ok (.invokestatic 33, 3) := by decide +kernel
theorem dX8_cut_39 : decode cX8_cut 39 = .ok (.istore 4, 2) := by decide +kernel
theorem dX8_cut_41 : decode cX8_cut 41 = .ok (.aload_n 1, 1) := by decide +kernel
theorem dX8_cut_42 : decode cX8_cut 42 = .ok (.iload_n 2, 1) := by decide +kernel
theorem dX8_cut_43 : decode cX8_cut 43 = .ok (.iload 4, 2) := by decide +kernel
theorem dX8_cut_45 : decode cX8_cut 45 = .ok (.invokestatic 36, 3) := by decide +kernel
theorem dX8_cut_48 : decode cX8_cut 48 = .ok (.istore 5, 2) := by decide +kernel
theorem dX8_cut_50 : decode cX8_cut 50 = .ok (.iload 4, 2) := by decide +kernel
theorem dX8_cut_52 : decode cX8_cut 52 = .ok (.ifCond .eq 66, 3) := by decide +kernel
theorem dX8_cut_55 : decode cX8_cut 55 = .ok (.aload_n 0, 1) := by decide +kernel
theorem dX8_cut_56 : decode cX8_cut 56 = .ok (.getfield 9, 3) := by decide +kernel
theorem dX8_cut_59 : decode cX8_cut 59 = .ok (.aload_n 0, 1) := by decide +kernel
theorem dX8_cut_60 : decode cX8_cut 60 = .ok (.getfield 21, 3) := by decide +kernel
theorem dX8_cut_63 : decode cX8_cut 63 = .ok (.iload 4, 2) := by decide +kernel
theorem dX8_cut_65 : decode cX8_cut 65 = .ok (.iastore, 1) := by decide +kernel
theorem dX8_cut_66 : decode cX8_cut 66 = .ok (.aload_n 0, 1) := by decide +kernel
theorem dX8_cut_67 : decode cX8_cut 67 = .ok (.getfield 15, 3) := by decide +kernel
theorem dX8_cut_70 : decode cX8_cut 70 = .ok (.aload_n 0, 1) := by decide +kernel
theorem dX8_cut_71 : decode cX8_cut 71 = .ok (.getfield 21, 3) := by decide +kernel
theorem dX8_cut_74 : decode cX8_cut 74 = .ok (.iload_n 2, 1) := by decide +kernel
theorem dX8_cut_75 : decode cX8_cut 75 = .ok (.iastore, 1) := by decide +kernel
theorem dX8_cut_76 : decode cX8_cut 76 = .ok (.aload_n 0, 1) := by decide +kernel
theorem dX8_cut_77 : decode cX8_cut 77 = .ok (.getfield 18, 3) := by decide +kernel
theorem dX8_cut_80 : decode cX8_cut 80 = .ok (.aload_n 0, 1) := by decide +kernel
theorem dX8_cut_81 : decode cX8_cut 81 = .ok (.getfield 21, 3) := by decide +kernel
theorem dX8_cut_84 : decode cX8_cut 84 = .ok (.iload 4, 2) := by decide +kernel
theorem dX8_cut_86 : decode cX8_cut 86 = .ok (.iconst 1, 1) := by decide +kernel
theorem dX8_cut_87 : decode cX8_cut 87 = .ok (.if_icmp .ne 13, 3) := by decide +kernel
theorem dX8_cut_90 : decode cX8_cut 90 = .ok (.aload_n 1, 1) := by decide +kernel
theorem dX8_cut_91 : decode cX8_cut 91 = .ok (.iload_n 2, 1) := by decide +kernel
theorem dX8_cut_92 : decode cX8_cut 92 = .ok (.iload 5, 2) := by decide +kernel
theorem dX8_cut_94 : decode cX8_cut 94 = .ok (.invokestatic 40, 3) := by decide +kernel
theorem dX8_cut_97 : decode cX8_cut 97 = .ok (.goto 10, 3) := by decide +kernel
theorem dX8_cut_100 : decode cX8_cut 100 = .ok (.aload_n 1, 1) := by decide +kernel
theorem dX8_cut_101 : decode cX8_cut 101 = .ok (.iload_n 2, 1) := by decide +kernel
theorem dX8_cut_102 : decode cX8_cut 102 = .ok (.iload 5, 2) := by decide +kernel
theorem dX8_cut_104 : decode cX8_cut 104 = .ok (.invokestatic 43, 3) := by decide +kernel
theorem dX8_cut_107 : decode cX8_cut 107 = .ok (.iastore, 1) := by decide +kernel
theorem dX8_cut_108 : decode cX8_cut 108 = .ok (.aload_n 0, 1) := by decide +kernel
theorem dX8_cut_109 : decode cX8_cut 109 = .ok (.dup, 1) := by decide +kernel
theorem dX8_cut_110 : decode cX8_cut 110 = .ok (.getfield 21, 3) := by decide +kernel
theorem dX8_cut_113 : decode cX8_cut 113 = .ok (.iconst 1, 1) := by decide +kernel
theorem dX8_cut_114 : decode cX8_cut 114 = .ok (.iadd, 1) := by decide +kernel
theorem dX8_cut_115 : decode cX8_cut 115 = .ok (.putfield 21, 3) := by decide +kernel
theorem dX8_cut_118 : decode cX8_cut 118 = .ok (.iload 5, 2) := by decide +kernel
theorem dX8_cut_120 : decode cX8_cut 120 = .ok (.istore_n 2, 1) := by decide +kernel
theorem dX8_cut_121 : decode cX8_cut 121 = .ok (.iinc 3 1, 3) := by decide +kernel
theorem dX8_cut_124 : decode cX8_cut 124 = .ok (.goto (-107), 3) := by decide +kernel
theorem dX8_cut_127 : decode cX8_cut 127 = .ok (.return_, 1) := by decide +kernel
theorem dX8_typeOf_0 : decode cX8_typeOf 0 = .ok (.iload_n 0, 1) := by decide +kernel
theorem dX8_typeOf_1 : decode cX8_typeOf 1 = .ok (.bipush 97, 2) := by decide +kernel
theorem dX8_typeOf_3 : decode cX8_typeOf 3 = .ok (.if_icmp .lt 11, 3) := by decide +kernel
theorem dX8_typeOf_6 : decode cX8_typeOf 6 = .ok (.iload_n 0, 1) := by decide +kernel
theorem dX8_typeOf_7 : decode cX8_typeOf 7 = .ok (.bipush 122, 2) := by decide +kernel
theorem dX8_typeOf_9 : decode cX8_typeOf 9 = .ok (.if_icmp .gt 5, 3) := by decide +kernel
theorem dX8_typeOf_12 : decode cX8_typeOf 12 = .ok (.iconst 1, 1) := by decide +kernel
theorem dX8_typeOf_13 : decode cX8_typeOf 13 = .ok (.ireturn, 1) := by decide +kernel
theorem dX8_typeOf_14 : decode cX8_typeOf 14 = .ok (.iload_n 0, 1) := by decide +kernel
theorem dX8_typeOf_15 : decode cX8_typeOf 15 = .ok (.bipush 48, 2) := by decide +kernel
theorem dX8_typeOf_17 : decode cX8_typeOf 17 = .ok (.if_icmp .lt 11, 3) := by decide +kernel
theorem dX8_typeOf_20 : decode cX8_typeOf 20 = .ok (.iload_n 0, 1) := by decide +kernel
theorem dX8_typeOf_21 : decode cX8_typeOf 21 = .ok (.bipush 57, 2) := by decide +kernel
theorem dX8_typeOf_23 : decode cX8_typeOf 23 = .ok (.if_icmp .gt 5, 3) := by decide +kernel
theorem dX8_typeOf_26 : decode cX8_typeOf 26 = .ok (.iconst 2, 1) := by decide +kernel
theorem dX8_typeOf_27 : decode cX8_typeOf 27 = .ok (.ireturn, 1) := by decide +kernel
theorem dX8_typeOf_28 : decode cX8_typeOf 28 = .ok (.iload_n 0, 1) := by decide +kernel
theorem dX8_typeOf_29 : decode cX8_typeOf 29 = .ok (.bipush 59, 2) := by decide +kernel
theorem dX8_typeOf_31 : decode cX8_typeOf 31 = .ok (.if_icmp .ne 5, 3) := by decide +kernel
theorem dX8_typeOf_34 : decode cX8_typeOf 34 = .ok (.iconst 3, 1) := by decide +kernel
theorem dX8_typeOf_35 : decode cX8_typeOf 35 = .ok (.ireturn, 1) := by decide +kernel
theorem dX8_typeOf_36 : decode cX8_typeOf 36 = .ok (.iload_n 0, 1) := by decide +kernel
theorem dX8_typeOf_37 : decode cX8_typeOf 37 = .ok (.bipush 32, 2) := by decide +kernel
theorem dX8_typeOf_39 : decode cX8_typeOf 39 = .ok (.if_icmp .ne 7, 3) := by decide +kernel
theorem dX8_typeOf_42 : decode cX8_typeOf 42 = .ok (.iconst 0, 1) := by decide +kernel
theorem dX8_typeOf_43 : decode cX8_typeOf 43 = .ok (.goto 4, 3) := by decide +kernel
theorem dX8_typeOf_46 : decode cX8_typeOf 46 = .ok (.iconst 4, 1) := by decide +kernel
theorem dX8_typeOf_47 : decode cX8_typeOf 47 = .ok (.ireturn, 1) := by decide +kernel
theorem dX8_endOf_0 : decode cX8_endOf 0 = .ok (.iload_n 1, 1) := by decide +kernel
theorem dX8_endOf_1 : decode cX8_endOf 1 = .ok (.iconst 1, 1) := by decide +kernel
theorem dX8_endOf_2 : decode cX8_endOf 2 = .ok (.iadd, 1) := by decide +kernel
theorem dX8_endOf_3 : decode cX8_endOf 3 = .ok (.istore_n 3, 1) := by decide +kernel
theorem dX8_endOf_4 : decode cX8_endOf 4 = .ok (.iload_n 2, 1) := by decide +kernel
theorem dX8_endOf_5 : decode cX8_endOf 5 = .ok (.iconst 1, 1) := by decide +kernel
theorem dX8_endOf_6 : decode cX8_endOf 6 = .ok (.if_icmp .eq 8, 3) := by decide +kernel
theorem dX8_endOf_9 : decode cX8_endOf 9 = .ok (.iload_n 2, 1) := by decide +kernel
theorem dX8_endOf_10 : decode cX8_endOf 10 = .ok (.iconst 2, 1) := by decide +kernel
theorem dX8_endOf_11 : decode cX8_endOf 11 = .ok (.if_icmp .ne 7, 3) := by decide +kernel
theorem dX8_endOf_14 : decode cX8_endOf 14 = .ok (.iconst 1, 1) := by decide +kernel
theorem dX8_endOf_15 : decode cX8_endOf 15 = .ok (.goto 4, 3) := by decide +kernel
theorem dX8_endOf_18 : decode cX8_endOf 18 = .ok (.iconst 0, 1) := by decide +kernel
theorem dX8_endOf_19 : decode cX8_endOf 19 = .ok (.istore 4, 2) := by decide +kernel
theorem dX8_endOf_21 : decode cX8_endOf 21 = .ok (.iload 4, 2) := by decide +kernel
theorem dX8_endOf_23 : decode cX8_endOf 23 = .ok (.ifCond .eq 29, 3) := by decide +kernel
theorem dX8_endOf_26 : decode cX8_endOf 26 = .ok (.iload_n 3, 1) := by decide +kernel
theorem dX8_endOf_27 : decode cX8_endOf 27 = .ok (.aload_n 0, 1) := by decide +kernel
theorem dX8_endOf_28 : decode cX8_endOf 28 = .ok (.getfield 25, 3) := by decide +kernel
theorem dX8_endOf_31 : decode cX8_endOf 31 = .ok (.if_icmp .ge 21, 3) := by decide +kernel
theorem dX8_endOf_34 : decode cX8_endOf 34 = .ok (.aload_n 0, 1) := by decide +kernel
theorem dX8_endOf_35 : decode cX8_endOf 35 = .ok (.iload_n 3, 1) := by decide +kernel
theorem dX8_endOf_36 : decode cX8_endOf 36 = .ok (.invokevirtual 29, 3) := by decide +kernel
theorem dX8_endOf_39 : decode cX8_endOf 39 = .ok (.invokestatic 33, 3) := by decide +kernel
theorem dX8_endOf_42 : decode cX8_endOf 42 = .ok (.iload_n 2, 1) := by decide +kernel
theorem dX8_endOf_43 : decode cX8_endOf 43 = .ok (.if_icmp .ne 9, 3) := by decide +kernel
theorem dX8_endOf_46 : decode cX8_endOf 46 = .ok (.iinc 3 1, 3) := by decide +kernel
theorem dX8_endOf_49 : decode cX8_endOf 49 = .ok (.goto (-28), 3) := by decide +kernel
theorem dX8_endOf_52 : decode cX8_endOf 52 = .ok (.iload_n 3, 1) := by decide +kernel
theorem dX8_endOf_53 : decode cX8_endOf 53 = .ok (.ireturn, 1) := by decide +kernel
theorem dX8_wordIn_0 : decode cX8_wordIn 0 = .ok (.iconst 0, 1) := by decide +kernel
theorem dX8_wordIn_1 : decode cX8_wordIn 1 = .ok (.istore_n 3, 1) := by decide +kernel
theorem dX8_wordIn_2 : decode cX8_wordIn 2 = .ok (.iload_n 3, 1) := by decide +kernel
theorem dX8_wordIn_3 : decode cX8_wordIn 3 = .ok (.bipush 11, 2) := by decide +kernel
theorem dX8_wordIn_5 : decode cX8_wordIn 5 = .ok (.if_icmp .ge 24, 3) := by decide +kernel
theorem dX8_wordIn_8 : decode cX8_wordIn 8 = .ok (.aload_n 0, 1) := by decide +kernel
theorem dX8_wordIn_9 : decode cX8_wordIn 9 = .ok (.iload_n 1, 1) := by decide +kernel
theorem dX8_wordIn_10 : decode cX8_wordIn 10 = .ok (.iload_n 2, 1) := by decide +kernel
theorem dX8_wordIn_11 : decode cX8_wordIn 11 = .ok (.iload_n 3, 1) := by decide +kernel
theorem dX8_wordIn_12 : decode cX8_wordIn 12 = .ok (.invokestatic 46, 3) := by decide +kernel
theorem dX8_wordIn_15 : decode cX8_wordIn 15 = .ok (.invokestatic 50, 3) := by decide +kernel
theorem dX8_wordIn_18 : decode cX8_wordIn 18 = .ok (.ifCond .eq 5, 3) := by decide +kernel
theorem dX8_wordIn_21 : decode cX8_wordIn 21 = .ok (.iload_n 3, 1) := by decide +kernel
theorem dX8_wordIn_22 : decode cX8_wordIn 22 = .ok (.ireturn, 1) := by decide +kernel
theorem dX8_wordIn_23 : decode cX8_wordIn 23 = .ok (.iinc 3 1, 3) := by decide +kernel
theorem dX8_wordIn_26 : decode cX8_wordIn 26 = .ok (.goto (-24), 3) := by decide +kernel
theorem dX8_wordIn_29 : decode cX8_wordIn 29 = .ok (.iconst (-1), 1) := by decide +kernel
theorem dX8_wordIn_30 : decode cX8_wordIn 30 = .ok (.ireturn, 1) := by decide +kernel
theorem dX8_isSpelt_0 : decode cX8_isSpelt 0 = .ok (.iload_n 2, 1) := by decide +kernel
theorem dX8_isSpelt_1 : decode cX8_isSpelt 1 = .ok (.iload_n 1, 1) := by decide +kernel
theorem dX8_isSpelt_2 : decode cX8_isSpelt 2 = .ok (.isub, 1) := by decide +kernel
theorem dX8_isSpelt_3 : decode cX8_isSpelt 3 = .ok (.aload_n 3, 1) := by decide +kernel
theorem dX8_isSpelt_4 : decode cX8_isSpelt 4 = .ok (.invokevirtual 54, 3) := by decide +kernel
theorem dX8_isSpelt_7 : decode cX8_isSpelt 7 = .ok (.if_icmp .eq 5, 3) := by decide +kernel
theorem dX8_isSpelt_10 : decode cX8_isSpelt 10 = .ok (.iconst 0, 1) := by decide +kernel
theorem dX8_isSpelt_11 : decode cX8_isSpelt 11 = .ok (.ireturn, 1) := by decide +kernel
theorem dX8_isSpelt_12 : decode cX8_isSpelt 12 = .ok (.iconst 0, 1) := by decide +kernel
theorem dX8_isSpelt_13 : decode cX8_isSpelt 13 = .ok (.istore 4, 2) := by decide +kernel
theorem dX8_isSpelt_15 : decode cX8_isSpelt 15 = .ok (.iload 4, 2) := by decide +kernel
theorem dX8_isSpelt_17 : decode cX8_isSpelt 17 = .ok (.aload_n 3, 1) := by decide +kernel
theorem dX8_isSpelt_18 : decode cX8_isSpelt 18 = .ok (.invokevirtual 54, 3) := by decide +kernel
theorem dX8_isSpelt_21 : decode cX8_isSpelt 21 = .ok (.if_icmp .ge 28, 3) := by decide +kernel
theorem dX8_isSpelt_24 : decode cX8_isSpelt 24 = .ok (.aload_n 0, 1) := by decide +kernel
theorem dX8_isSpelt_25 : decode cX8_isSpelt 25 = .ok (.iload_n 1, 1) := by decide +kernel
theorem dX8_isSpelt_26 : decode cX8_isSpelt 26 = .ok (.iload 4, 2) := by decide +kernel
theorem dX8_isSpelt_28 : decode cX8_isSpelt 28 = .ok (.iadd, 1) := by decide +kernel
theorem dX8_isSpelt_29 : decode cX8_isSpelt 29 = .ok (.invokevirtual 29, 3) := by decide +kernel
theorem dX8_isSpelt_32 : decode cX8_isSpelt 32 = .ok (.aload_n 3, 1) := by decide +kernel
theorem dX8_isSpelt_33 : decode cX8_isSpelt 33 = .ok (.iload 4, 2) := by decide +kernel
theorem dX8_isSpelt_35 : decode cX8_isSpelt 35 = .ok (.invokevirtual 59, 3) := by decide +kernel
theorem dX8_isSpelt_38 : decode cX8_isSpelt 38 = .ok (.if_icmp .eq 5, 3) := by decide +kernel
theorem dX8_isSpelt_41 : decode cX8_isSpelt 41 = .ok (.iconst 0, 1) := by decide +kernel
theorem dX8_isSpelt_42 : decode cX8_isSpelt 42 = .ok (.ireturn, 1) := by decide +kernel
theorem dX8_isSpelt_43 : decode cX8_isSpelt 43 = .ok (.iinc 4 1, 3) := by decide +kernel
theorem dX8_isSpelt_46 : decode cX8_isSpelt 46 = .ok (.goto (-31), 3) := by decide +kernel
theorem dX8_isSpelt_49 : decode cX8_isSpelt 49 = .ok (.iconst 1, 1) := by decide +kernel
theorem dX8_isSpelt_50 : decode cX8_isSpelt 50 = .ok (.ireturn, 1) := by decide +kernel
theorem dX8_spellingOf_0 : decode cX8_spellingOf 0 = .ok (.iload_n 0, 1) := by decide +kernel
theorem dX8_spellingOf_1 : decode cX8_spellingOf 1 = .ok (.tableswitch 92 0 10 #[59, 62, 65, 68, 71, 74, 77, 80, 83, 86, 89], 59) := by decide +kernel
theorem dX8_spellingOf_60 : decode cX8_spellingOf 60 = .ok (.ldc 63, 2) := by decide +kernel
theorem dX8_spellingOf_62 : decode cX8_spellingOf 62 = .ok (.areturn, 1) := by decide +kernel
theorem dX8_spellingOf_63 : decode cX8_spellingOf 63 = .ok (.ldc 65, 2) := by decide +kernel
theorem dX8_spellingOf_65 : decode cX8_spellingOf 65 = .ok (.areturn, 1) := by decide +kernel
theorem dX8_spellingOf_66 : decode cX8_spellingOf 66 = .ok (.ldc 67, 2) := by decide +kernel
theorem dX8_spellingOf_68 : decode cX8_spellingOf 68 = .ok (.areturn, 1) := by decide +kernel
theorem dX8_spellingOf_69 : decode cX8_spellingOf 69 = .ok (.ldc 69, 2) := by decide +kernel
theorem dX8_spellingOf_71 : decode cX8_spellingOf 71 = .ok (.areturn, 1) := by decide +kernel
theorem dX8_spellingOf_72 : decode cX8_spellingOf 72 = .ok (.ldc 71, 2) := by decide +kernel
theorem dX8_spellingOf_74 : decode cX8_spellingOf 74 = .ok (.areturn, 1) := by decide +kernel
theorem dX8_spellingOf_75 : decode cX8_spellingOf 75 = .ok (.ldc 73, 2) := by decide +kernel
theorem dX8_spellingOf_77 : decode cX8_spellingOf 77 = .ok (.areturn, 1) := by decide +kernel
theorem dX8_spellingOf_78 : decode cX8_spellingOf 78 = .ok (.ldc 75, 2) := by decide +kernel
theorem dX8_spellingOf_80 : decode cX8_spellingOf 80 = .ok (.areturn, 1) := by decide +kernel
theorem dX8_spellingOf_81 : decode cX8_spellingOf 81 = .ok (.ldc 77, 2) := by decide +kernel
theorem dX8_spellingOf_83 : decode cX8_spellingOf 83 = .ok (.areturn, 1) := by decide +kernel
theorem dX8_spellingOf_84 : decode cX8_spellingOf 84 = .ok (.ldc 79, 2) := by decide +kernel
theorem dX8_spellingOf_86 : decode cX8_spellingOf 86 = .ok (.areturn, 1) := by decide +kernel
theorem dX8_spellingOf_87 : decode cX8_spellingOf 87 = .ok (.ldc 81, 2) := by decide +kernel
theorem dX8_spellingOf_89 : decode cX8_spellingOf 89 = .ok (.areturn, 1) := by decide +kernel
theorem dX8_spellingOf_90 : decode cX8_spellingOf 90 = .ok (.ldc 83, 2) := by decide +kernel
theorem dX8_spellingOf_92 : decode cX8_spellingOf 92 = .ok (.areturn, 1) := by decide +kernel
theorem dX8_spellingOf_93 : decode cX8_spellingOf 93 = .ok (.ldc 85, 2) := by decide +kernel
theorem dX8_spellingOf_95 : decode cX8_spellingOf 95 = .ok (.areturn, 1) := by decide +kernel
theorem dX8_numberIn_0 : decode cX8_numberIn 0 = .ok (.iconst 0, 1) := by decide +kernel
theorem dX8_numberIn_1 : decode cX8_numberIn 1 = .ok (.istore_n 3, 1) := by decide +kernel
theorem dX8_numberIn_2 : decode cX8_numberIn 2 = .ok (.iload_n 1, 1) := by decide +kernel
theorem dX8_numberIn_3 : decode cX8_numberIn 3 = .ok (.istore 4, 2) := by decide +kernel
theorem dX8_numberIn_5 : decode cX8_numberIn 5 = .ok (.iload 4, 2) := by decide +kernel
theorem dX8_numberIn_7 : decode cX8_numberIn 7 = .ok (.iload_n 2, 1) := by decide +kernel
theorem dX8_numberIn_8 : decode cX8_numberIn 8 = .ok (.if_icmp .ge 30, 3) := by decide +kernel
theorem dX8_numberIn_11 : decode cX8_numberIn 11 = .ok (.sipush 4096, 3) := by decide +kernel
theorem dX8_numberIn_14 : decode cX8_numberIn 14 = .ok (.iload_n 3, 1) := by decide +kernel
theorem dX8_numberIn_15 : decode cX8_numberIn 15 = .ok (.bipush 10, 2) := by decide +kernel
theorem dX8_numberIn_17 : decode cX8_numberIn 17 = .ok (.imul, 1) := by decide +kernel
theorem dX8_numberIn_18 : decode cX8_numberIn 18 = .ok (.aload_n 0, 1) := by decide +kernel
theorem dX8_numberIn_19 : decode cX8_numberIn 19 = .ok (.iload 4, 2) := by decide +kernel
theorem dX8_numberIn_21 : decode cX8_numberIn 21 = .ok (.invokevirtual 29, 3) := by decide +kernel
theorem dX8_numberIn_24 : decode cX8_numberIn 24 = .ok (.iadd, 1) := by decide +kernel
theorem dX8_numberIn_25 : decode cX8_numberIn 25 = .ok (.bipush 48, 2) := by decide +kernel
theorem dX8_numberIn_27 : decode cX8_numberIn 27 = .ok (.isub, 1) := by decide +kernel
