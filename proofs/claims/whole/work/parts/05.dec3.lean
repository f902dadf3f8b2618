theorem dX10_adds_34 : decode cX10_adds 34 = .ok (.aload_n 0, 1) := by decide +kernel
theorem dX10_adds_35 : decode cX10_adds 35 = .ok (.getfield 9, 3) := by decide +kernel
theorem dX10_adds_38 : decode cX10_adds 38 = .ok (.aload_n 0, 1) := by decide +kernel
theorem dX10_adds_39 : decode cX10_adds 39 = .ok (.iload 4, 2) := by decide +kernel
theorem dX10_adds_41 : decode cX10_adds 41 = .ok (.iconst 2, 1) := by decide +kernel
theorem dX10_adds_42 : decode cX10_adds 42 = .ok (.invokevirtual 126, 3) := by decide +kernel
theorem dX10_adds_45 : decode cX10_adds 45 = .ok (.iload_n 3, 1) := by decide +kernel
theorem dX10_adds_46 : decode cX10_adds 46 = .ok (.iastore, 1) := by decide +kernel
theorem dX10_adds_47 : decode cX10_adds 47 = .ok (.aload_n 0, 1) := by decide +kernel
theorem dX10_adds_48 : decode cX10_adds 48 = .ok (.getfield 9, 3) := by decide +kernel
theorem dX10_adds_51 : decode cX10_adds 51 = .ok (.iconst 2, 1) := by decide +kernel
theorem dX10_adds_52 : decode cX10_adds 52 = .ok (.dup2, 1) := by decide +kernel
theorem dX10_adds_53 : decode cX10_adds 53 = .ok (.iaload, 1) := by decide +kernel
theorem dX10_adds_54 : decode cX10_adds 54 = .ok (.iconst 1, 1) := by decide +kernel
theorem dX10_adds_55 : decode cX10_adds 55 = .ok (.iadd, 1) := by decide +kernel
theorem dX10_adds_56 : decode cX10_adds 56 = .ok (.iastore, 1) := by decide +kernel
theorem dX10_adds_57 : decode cX10_adds 57 = .ok (.return_, 1) := by decide +kernel
theorem dX10_letter_0 : decode cX10_letter 0 = .ok (.iload_n 1, 1) := by decide +kernel
theorem dX10_letter_1 : decode cX10_letter 1 = .ok (.invokestatic 129, 3) := by decide +kernel
theorem dX10_letter_4 : decode cX10_letter 4 = .ok (.ifCond .eq 10, 3) := by decide +kernel
theorem dX10_letter_7 : decode cX10_letter 7 = .ok (.iload_n 2, 1) := by decide +kernel
theorem dX10_letter_8 : decode cX10_letter 8 = .ok (.invokestatic 85, 3) := by decide +kernel
theorem dX10_letter_11 : decode cX10_letter 11 = .ok (.ifCond .ne 9, 3) := by decide +kernel
theorem dX10_letter_14 : decode cX10_letter 14 = .ok (.aload_n 0, 1) := by decide +kernel
theorem dX10_letter_15 : decode cX10_letter 15 = .ok (.iconst 0, 1) := by decide +kernel
theorem dX10_letter_16 : decode cX10_letter 16 = .ok (.invokevirtual 89, 3) := by decide +kernel
theorem dX10_letter_19 : decode cX10_letter 19 = .ok (.ireturn, 1) := by decide +kernel
theorem dX10_letter_20 : decode cX10_letter 20 = .ok (.aload_n 0, 1) := by decide +kernel
theorem dX10_letter_21 : decode cX10_letter 21 = .ok (.getfield 9, 3) := by decide +kernel
theorem dX10_letter_24 : decode cX10_letter 24 = .ok (.iconst 2, 1) := by decide +kernel
theorem dX10_letter_25 : decode cX10_letter 25 = .ok (.iaload, 1) := by decide +kernel
theorem dX10_letter_26 : decode cX10_letter 26 = .ok (.bipush 12, 2) := by decide +kernel
theorem dX10_letter_28 : decode cX10_letter 28 = .ok (.if_icmp .ne 9, 3) := by decide +kernel
theorem dX10_letter_31 : decode cX10_letter 31 = .ok (.aload_n 0, 1) := by decide +kernel
theorem dX10_letter_32 : decode cX10_letter 32 = .ok (.iconst 1, 1) := by decide +kernel
theorem dX10_letter_33 : decode cX10_letter 33 = .ok (.invokevirtual 89, 3) := by decide +kernel
theorem dX10_letter_36 : decode cX10_letter 36 = .ok (.ireturn, 1) := by decide +kernel
theorem dX10_letter_37 : decode cX10_letter 37 = .ok (.aload_n 0, 1) := by decide +kernel
theorem dX10_letter_38 : decode cX10_letter 38 = .ok (.iload_n 1, 1) := by decide +kernel
theorem dX10_letter_39 : decode cX10_letter 39 = .ok (.iload_n 2, 1) := by decide +kernel
theorem dX10_letter_40 : decode cX10_letter 40 = .ok (.bipush 6, 2) := by decide +kernel
theorem dX10_letter_42 : decode cX10_letter 42 = .ok (.invokevirtual 132, 3) := by decide +kernel
theorem dX10_letter_45 : decode cX10_letter 45 = .ok (.aload_n 0, 1) := by decide +kernel
theorem dX10_letter_46 : decode cX10_letter 46 = .ok (.getfield 9, 3) := by decide +kernel
theorem dX10_letter_49 : decode cX10_letter 49 = .ok (.iconst 2, 1) := by decide +kernel
theorem dX10_letter_50 : decode cX10_letter 50 = .ok (.iaload, 1) := by decide +kernel
theorem dX10_letter_51 : decode cX10_letter 51 = .ok (.iconst 1, 1) := by decide +kernel
theorem dX10_letter_52 : decode cX10_letter 52 = .ok (.isub, 1) := by decide +kernel
theorem dX10_letter_53 : decode cX10_letter 53 = .ok (.ireturn, 1) := by decide +kernel
theorem dX10_lastsBy_0 : decode cX10_lastsBy 0 = .ok (.iload_n 0, 1) := by decide +kernel
theorem dX10_lastsBy_1 : decode cX10_lastsBy 1 = .ok (.tableswitch 49 1 5 #[35, 39, 49, 35, 43], 35) := by decide +kernel
theorem dX10_lastsBy_36 : decode cX10_lastsBy 36 = .ok (.iconst 2, 1) := by decide +kernel
theorem dX10_lastsBy_37 : decode cX10_lastsBy 37 = .ok (.iload_n 1, 1) := by decide +kernel
theorem dX10_lastsBy_38 : decode cX10_lastsBy 38 = .ok (.imul, 1) := by decide +kernel
theorem dX10_lastsBy_39 : decode cX10_lastsBy 39 = .ok (.ireturn, 1) := by decide +kernel
theorem dX10_lastsBy_40 : decode cX10_lastsBy 40 = .ok (.iload_n 1, 1) := by decide +kernel
theorem dX10_lastsBy_41 : decode cX10_lastsBy 41 = .ok (.iconst 2, 1) := by decide +kernel
theorem dX10_lastsBy_42 : decode cX10_lastsBy 42 = .ok (.idiv, 1) := by decide +kernel
theorem dX10_lastsBy_43 : decode cX10_lastsBy 43 = .ok (.ireturn, 1) := by decide +kernel
theorem dX10_lastsBy_44 : decode cX10_lastsBy 44 = .ok (.iload_n 1, 1) := by decide +kernel
theorem dX10_lastsBy_45 : decode cX10_lastsBy 45 = .ok (.iconst 2, 1) := by decide +kernel
theorem dX10_lastsBy_46 : decode cX10_lastsBy 46 = .ok (.idiv, 1) := by decide +kernel
theorem dX10_lastsBy_47 : decode cX10_lastsBy 47 = .ok (.iconst 4, 1) := by decide +kernel
theorem dX10_lastsBy_48 : decode cX10_lastsBy 48 = .ok (.iadd, 1) := by decide +kernel
theorem dX10_lastsBy_49 : decode cX10_lastsBy 49 = .ok (.ireturn, 1) := by decide +kernel
theorem dX10_lastsBy_50 : decode cX10_lastsBy 50 = .ok (.iload_n 1, 1) := by decide +kernel
theorem dX10_lastsBy_51 : decode cX10_lastsBy 51 = .ok (.ireturn, 1) := by decide +kernel
theorem dX10_lasts_0 : decode cX10_lasts 0 = .ok (.aload_n 0, 1) := by decide +kernel
theorem dX10_lasts_1 : decode cX10_lasts 1 = .ok (.getfield 9, 3) := by decide +kernel
theorem dX10_lasts_4 : decode cX10_lasts 4 = .ok (.aload_n 0, 1) := by decide +kernel
theorem dX10_lasts_5 : decode cX10_lasts 5 = .ok (.iload_n 1, 1) := by decide +kernel
theorem dX10_lasts_6 : decode cX10_lasts 6 = .ok (.iconst 0, 1) := by decide +kernel
theorem dX10_lasts_7 : decode cX10_lasts 7 = .ok (.invokevirtual 126, 3) := by decide +kernel
theorem dX10_lasts_10 : decode cX10_lasts 10 = .ok (.iaload, 1) := by decide +kernel
theorem dX10_lasts_11 : decode cX10_lasts 11 = .ok (.aload_n 0, 1) := by decide +kernel
theorem dX10_lasts_12 : decode cX10_lasts 12 = .ok (.getfield 9, 3) := by decide +kernel
theorem dX10_lasts_15 : decode cX10_lasts 15 = .ok (.aload_n 0, 1) := by decide +kernel
theorem dX10_lasts_16 : decode cX10_lasts 16 = .ok (.iload_n 1, 1) := by decide +kernel
theorem dX10_lasts_17 : decode cX10_lasts 17 = .ok (.iconst 2, 1) := by decide +kernel
theorem dX10_lasts_18 : decode cX10_lasts 18 = .ok (.invokevirtual 126, 3) := by decide +kernel
theorem dX10_lasts_21 : decode cX10_lasts 21 = .ok (.iaload, 1) := by decide +kernel
theorem dX10_lasts_22 : decode cX10_lasts 22 = .ok (.invokestatic 136, 3) := by decide +kernel
theorem dX10_lasts_25 : decode cX10_lasts 25 = .ok (.ireturn, 1) := by decide +kernel
theorem dX10_shows_0 : decode cX10_shows 0 = .ok (.aload_n 0, 1) := by decide +kernel
theorem dX10_shows_1 : decode cX10_shows 1 = .ok (.getfield 9, 3) := by decide +kernel
theorem dX10_shows_4 : decode cX10_shows 4 = .ok (.iconst 0, 1) := by decide +kernel
theorem dX10_shows_5 : decode cX10_shows 5 = .ok (.iaload, 1) := by decide +kernel
theorem dX10_shows_6 : decode cX10_shows 6 = .ok (.aload_n 0, 1) := by decide +kernel
theorem dX10_shows_7 : decode cX10_shows 7 = .ok (.iload_n 1, 1) := by decide +kernel
theorem dX10_shows_8 : decode cX10_shows 8 = .ok (.invokevirtual 139, 3) := by decide +kernel
theorem dX10_shows_11 : decode cX10_shows 11 = .ok (.if_icmp .ge 17, 3) := by decide +kernel
theorem dX10_shows_14 : decode cX10_shows 14 = .ok (.aload_n 0, 1) := by decide +kernel
theorem dX10_shows_15 : decode cX10_shows 15 = .ok (.getfield 9, 3) := by decide +kernel
theorem dX10_shows_18 : decode cX10_shows 18 = .ok (.aload_n 0, 1) := by decide +kernel
theorem dX10_shows_19 : decode cX10_shows 19 = .ok (.iload_n 1, 1) := by decide +kernel
theorem dX10_shows_20 : decode cX10_shows 20 = .ok (.iconst 1, 1) := by decide +kernel
theorem dX10_shows_21 : decode cX10_shows 21 = .ok (.invokevirtual 126, 3) := by decide +kernel
theorem dX10_shows_24 : decode cX10_shows 24 = .ok (.iaload, 1) := by decide +kernel
theorem dX10_shows_25 : decode cX10_shows 25 = .ok (.goto 23, 3) := by decide +kernel
theorem dX10_shows_28 : decode cX10_shows 28 = .ok (.aload_n 0, 1) := by decide +kernel
theorem dX10_shows_29 : decode cX10_shows 29 = .ok (.getfield 9, 3) := by decide +kernel
theorem dX10_shows_32 : decode cX10_shows 32 = .ok (.aload_n 0, 1) := by decide +kernel
theorem dX10_shows_33 : decode cX10_shows 33 = .ok (.iload_n 1, 1) := by decide +kernel
theorem dX10_shows_34 : decode cX10_shows 34 = .ok (.iconst 1, 1) := by decide +kernel
theorem dX10_shows_35 : decode cX10_shows 35 = .ok (.invokevirtual 126, 3) := by decide +kernel
theorem dX10_shows_38 : decode cX10_shows 38 = .ok (.iaload, 1) := by decide +kernel
theorem dX10_shows_39 : decode cX10_shows 39 = .ok (.aload_n 0, 1) := by decide +kernel
theorem dX10_shows_40 : decode cX10_shows 40 = .ok (.getfield 9, 3) := by decide +kernel
theorem dX10_shows_43 : decode cX10_shows 43 = .ok (.iconst 1, 1) := by decide +kernel
theorem dX10_shows_44 : decode cX10_shows 44 = .ok (.iaload, 1) := by decide +kernel
theorem dX10_shows_45 : decode cX10_shows 45 = .ok (.iconst (-1), 1) := by decide +kernel
theorem dX10_shows_46 : decode cX10_shows 46 = .ok (.ixor, 1) := by decide +kernel
theorem dX10_shows_47 : decode cX10_shows 47 = .ok (.iand, 1) := by decide +kernel
theorem dX10_shows_48 : decode cX10_shows 48 = .ok (.istore_n 2, 1) := by decide +kernel
theorem dX10_shows_49 : decode cX10_shows 49 = .ok (.aload_n 0, 1) := by decide +kernel
theorem dX10_shows_50 : decode cX10_shows 50 = .ok (.getfield 9, 3) := by decide +kernel
theorem dX10_shows_53 : decode cX10_shows 53 = .ok (.aload_n 0, 1) := by decide +kernel
theorem dX10_shows_54 : decode cX10_shows 54 = .ok (.iload_n 1, 1) := by decide +kernel
theorem dX10_shows_55 : decode cX10_shows 55 = .ok (.iconst 0, 1) := by decide +kernel
theorem dX10_shows_56 : decode cX10_shows 56 = .ok (.invokevirtual 126, 3) := by decide +kernel
theorem dX10_shows_59 : decode cX10_shows 59 = .ok (.iaload, 1) := by decide +kernel
theorem dX10_shows_60 : decode cX10_shows 60 = .ok (.istore_n 3, 1) := by decide +kernel
theorem dX10_shows_61 : decode cX10_shows 61 = .ok (.iload_n 3, 1) := by decide +kernel
theorem dX10_shows_62 : decode cX10_shows 62 = .ok (.iconst 3, 1) := by decide +kernel
theorem dX10_shows_63 : decode cX10_shows 63 = .ok (.if_icmp .ne 10, 3) := by decide +kernel
theorem dX10_shows_66 : decode cX10_shows 66 = .ok (.iload_n 2, 1) := by decide +kernel
theorem dX10_shows_67 : decode cX10_shows 67 = .ok (.bipush 12, 2) := by decide +kernel
theorem dX10_shows_69 : decode cX10_shows 69 = .ok (.ior, 1) := by decide +kernel
theorem dX10_shows_70 : decode cX10_shows 70 = .ok (.goto 16, 3) := by decide +kernel
theorem dX10_shows_73 : decode cX10_shows 73 = .ok (.iload_n 3, 1) := by decide +kernel
theorem dX10_shows_74 : decode cX10_shows 74 = .ok (.iconst 4, 1) := by decide +kernel
theorem dX10_shows_75 : decode cX10_shows 75 = .ok (.if_icmp .ne 10, 3) := by decide +kernel
theorem dX10_shows_78 : decode cX10_shows 78 = .ok (.iload_n 2, 1) := by decide +kernel
theorem dX10_shows_79 : decode cX10_shows 79 = .ok (.bipush 48, 2) := by decide +kernel
theorem dX10_shows_81 : decode cX10_shows 81 = .ok (.ior, 1) := by decide +kernel
theorem dX10_shows_82 : decode cX10_shows 82 = .ok (.goto 4, 3) := by decide +kernel
theorem dX10_shows_85 : decode cX10_shows 85 = .ok (.iload_n 2, 1) := by decide +kernel
theorem dX10_shows_86 : decode cX10_shows 86 = .ok (.ireturn, 1) := by decide +kernel
theorem dX10_feetBy_0 : decode cX10_feetBy 0 = .ok (.iload_n 1, 1) := by decide +kernel
theorem dX10_feetBy_1 : decode cX10_feetBy 1 = .ok (.invokestatic 79, 3) := by decide +kernel
theorem dX10_feetBy_4 : decode cX10_feetBy 4 = .ok (.iload_n 1, 1) := by decide +kernel
theorem dX10_feetBy_5 : decode cX10_feetBy 5 = .ok (.invokestatic 95, 3) := by decide +kernel
theorem dX10_feetBy_8 : decode cX10_feetBy 8 = .ok (.iadd, 1) := by decide +kernel
theorem dX10_feetBy_9 : decode cX10_feetBy 9 = .ok (.istore_n 2, 1) := by decide +kernel
theorem dX10_feetBy_10 : decode cX10_feetBy 10 = .ok (.iload_n 0, 1) := by decide +kernel
theorem dX10_feetBy_11 : decode cX10_feetBy 11 = .ok (.tableswitch 43 1 4 #[29, 43, 39, 33], 29) := by decide +kernel
theorem dX10_feetBy_40 : decode cX10_feetBy 40 = .ok (.iconst 2, 1) := by decide +kernel
theorem dX10_feetBy_41 : decode cX10_feetBy 41 = .ok (.iload_n 2, 1) := by decide +kernel
theorem dX10_feetBy_42 : decode cX10_feetBy 42 = .ok (.imul, 1) := by decide +kernel
theorem dX10_feetBy_43 : decode cX10_feetBy 43 = .ok (.ireturn, 1) := by decide +kernel
theorem dX10_feetBy_44 : decode cX10_feetBy 44 = .ok (.iconst 2, 1) := by decide +kernel
theorem dX10_feetBy_45 : decode cX10_feetBy 45 = .ok (.iload_n 2, 1) := by decide +kernel
theorem dX10_feetBy_46 : decode cX10_feetBy 46 = .ok (.imul, 1) := by decide +kernel
theorem dX10_feetBy_47 : decode cX10_feetBy 47 = .ok (.iconst 2, 1) := by decide +kernel
theorem dX10_feetBy_48 : decode cX10_feetBy 48 = .ok (.iadd, 1) := by decide +kernel
theorem dX10_feetBy_49 : decode cX10_feetBy 49 = .ok (.ireturn, 1) := by decide +kernel
theorem dX10_feetBy_50 : decode cX10_feetBy 50 = .ok (.iload_n 2, 1) := by decide +kernel
theorem dX10_feetBy_51 : decode cX10_feetBy 51 = .ok (.iconst 2, 1) := by decide +kernel
theorem dX10_feetBy_52 : decode cX10_feetBy 52 = .ok (.iadd, 1) := by decide +kernel
theorem dX10_feetBy_53 : decode cX10_feetBy 53 = .ok (.ireturn, 1) := by decide +kernel
theorem dX10_feetBy_54 : decode cX10_feetBy 54 = .ok (.iload_n 2, 1) := by decide +kernel
theorem dX10_feetBy_55 : decode cX10_feetBy 55 = .ok (.ireturn, 1) := by decide +kernel
theorem dX10_feet_0 : decode cX10_feet 0 = .ok (.aload_n 0, 1) := by decide +kernel
theorem dX10_feet_1 : decode cX10_feet 1 = .ok (.getfield 9, 3) := by decide +kernel
theorem dX10_feet_4 : decode cX10_feet 4 = .ok (.aload_n 0, 1) := by decide +kernel
theorem dX10_feet_5 : decode cX10_feet 5 = .ok (.iload_n 1, 1) := by decide +kernel
theorem dX10_feet_6 : decode cX10_feet 6 = .ok (.iconst 0, 1) := by decide +kernel
theorem dX10_feet_7 : decode cX10_feet 7 = .ok (.invokevirtual 126, 3) := by decide +kernel
theorem dX10_feet_10 : decode cX10_feet 10 = .ok (.iaload, 1) := by decide +kernel
theorem dX10_feet_11 : decode cX10_feet 11 = .ok (.aload_n 0, 1) := by decide +kernel
theorem dX10_feet_12 : decode cX10_feet 12 = .ok (.getfield 9, 3) := by decide +kernel
theorem dX10_feet_15 : decode cX10_feet 15 = .ok (.aload_n 0, 1) := by decide +kernel
theorem dX10_feet_16 : decode cX10_feet 16 = .ok (.iload_n 1, 1) := by decide +kernel
theorem dX10_feet_17 : decode cX10_feet 17 = .ok (.iconst 1, 1) := by decide +kernel
theorem dX10_feet_18 : decode cX10_feet 18 = .ok (.invokevirtual 126, 3) := by decide +kernel
theorem dX10_feet_21 : decode cX10_feet 21 = .ok (.iaload, 1) := by decide +kernel
theorem dX10_feet_22 : decode cX10_feet 22 = .ok (.invokestatic 142, 3) := by decide +kernel
theorem dX10_feet_25 : decode cX10_feet 25 = .ok (.ireturn, 1) := by decide +kernel
theorem dX10_of_0 : decode cX10_of 0 = .ok (.aload_n 0, 1) := by decide +kernel
theorem dX10_of_1 : decode cX10_of 1 = .ok (.iload_n 1, 1) := by decide +kernel
theorem dX10_of_2 : decode cX10_of 2 = .ok (.invokevirtual 145, 3) := by decide +kernel
theorem dX10_of_5 : decode cX10_of 5 = .ok (.ifCond .eq 13, 3) := by decide +kernel
theorem dX10_of_8 : decode cX10_of 8 = .ok (.iload_n 2, 1) := by decide +kernel
theorem dX10_of_9 : decode cX10_of 9 = .ok (.iconst 0, 1) := by decide +kernel
theorem dX10_of_10 : decode cX10_of 10 = .ok (.bipush 7, 2) := by decide +kernel
theorem dX10_of_12 : decode cX10_of 12 = .ok (.invokestatic 48, 3) := by decide +kernel
theorem dX10_of_15 : decode cX10_of 15 = .ok (.ifCond .ne 9, 3) := by decide +kernel
theorem dX10_of_18 : decode cX10_of 18 = .ok (.aload_n 0, 1) := by decide +kernel
theorem dX10_of_19 : decode cX10_of 19 = .ok (.iconst 0, 1) := by decide +kernel
theorem dX10_of_20 : decode cX10_of 20 = .ok (.invokevirtual 89, 3) := by decide +kernel
theorem dX10_of_23 : decode cX10_of 23 = .ok (.ireturn, 1) := by decide +kernel
theorem dX10_of_24 : decode cX10_of 24 = .ok (.iload_n 2, 1) := by decide +kernel
theorem dX10_of_25 : decode cX10_of 25 = .ok (.tableswitch 79 3 7 #[35, 41, 47, 53, 69], 35) := by decide +kernel
theorem dX10_of_60 : decode cX10_of 60 = .ok (.aload_n 0, 1) := by decide +kernel
theorem dX10_of_61 : decode cX10_of 61 = .ok (.iload_n 1, 1) := by decide +kernel
theorem dX10_of_62 : decode cX10_of 62 = .ok (.invokevirtual 139, 3) := by decide +kernel
theorem dX10_of_65 : decode cX10_of 65 = .ok (.ireturn, 1) := by decide +kernel
theorem dX10_of_66 : decode cX10_of 66 = .ok (.aload_n 0, 1) := by decide +kernel
theorem dX10_of_67 : decode cX10_of 67 = .ok (.iload_n 1, 1) := by decide +kernel
theorem dX10_of_68 : decode cX10_of 68 = .ok (.invokevirtual 148, 3) := by decide +kernel
theorem dX10_of_71 : decode cX10_of 71 = .ok (.ireturn, 1) := by decide +kernel
theorem dX10_of_72 : decode cX10_of 72 = .ok (.aload_n 0, 1) := by decide +kernel
theorem dX10_of_73 : decode cX10_of 73 = .ok (.iload_n 1, 1) := by decide +kernel
theorem dX10_of_74 : decode cX10_of 74 = .ok (.invokevirtual 151, 3) := by decide +kernel
theorem dX10_of_77 : decode cX10_of 77 = .ok (.ireturn, 1) := by decide +kernel
theorem dX10_of_78 : decode cX10_of 78 = .ok (.aload_n 0, 1) := by decide +kernel
theorem dX10_of_79 : decode cX10_of 79 = .ok (.aload_n 0, 1) := by decide +kernel
theorem dX10_of_80 : decode cX10_of 80 = .ok (.getfield 9, 3) := by decide +kernel
theorem dX10_of_83 : decode cX10_of 83 = .ok (.aload_n 0, 1) := by decide +kernel
theorem dX10_of_84 : decode cX10_of 84 = .ok (.iload_n 1, 1) := by decide +kernel
theorem dX10_of_85 : decode cX10_of 85 = .ok (.iconst 1, 1) := by decide +kernel
theorem dX10_of_86 : decode cX10_of 86 = .ok (.invokevirtual 126, 3) := by decide +kernel
theorem dX10_of_89 : decode cX10_of 89 = .ok (.iaload, 1) := by decide +kernel
theorem dX10_of_90 : decode cX10_of 90 = .ok (.invokevirtual 123, 3) := by decide +kernel
theorem dX10_of_93 : decode cX10_of 93 = .ok (.ireturn, 1) := by decide +kernel
theorem dX10_of_94 : decode cX10_of 94 = .ok (.aload_n 0, 1) := by decide +kernel
theorem dX10_of_95 : decode cX10_of 95 = .ok (.aload_n 0, 1) := by decide +kernel
theorem dX10_of_96 : decode cX10_of 96 = .ok (.iload_n 1, 1) := by decide +kernel
theorem dX10_of_97 : decode cX10_of 97 = .ok (.invokevirtual 148, 3) := by decide +kernel
theorem dX10_of_100 : decode cX10_of 100 = .ok (.invokevirtual 123, 3) := by decide +kernel
theorem dX10_of_103 : decode cX10_of 103 = .ok (.ireturn, 1) := by decide +kernel
theorem dX10_of_104 : decode cX10_of 104 = .ok (.aload_n 0, 1) := by decide +kernel
theorem dX10_of_105 : decode cX10_of 105 = .ok (.getfield 9, 3) := by decide +kernel
theorem dX10_of_108 : decode cX10_of 108 = .ok (.aload_n 0, 1) := by decide +kernel
theorem dX10_of_109 : decode cX10_of 109 = .ok (.iload_n 1, 1) := by decide +kernel
theorem dX10_of_110 : decode cX10_of 110 = .ok (.iload_n 2, 1) := by decide +kernel
theorem dX10_of_111 : decode cX10_of 111 = .ok (.invokevirtual 126, 3) := by decide +kernel
theorem dX10_of_114 : decode cX10_of 114 = .ok (.iaload, 1) := by decide +kernel
theorem dX10_of_115 : decode cX10_of 115 = .ok (.ireturn, 1) := by decide +kernel
theorem dX10_set_0 : decode cX10_set 0 = .ok (.iload_n 2, 1) := by decide +kernel
theorem dX10_set_1 : decode cX10_set 1 = .ok (.iconst 1, 1) := by decide +kernel
theorem dX10_set_2 : decode cX10_set 2 = .ok (.if_icmp .ne 10, 3) := by decide +kernel
theorem dX10_set_5 : decode cX10_set 5 = .ok (.iload_n 3, 1) := by decide +kernel
theorem dX10_set_6 : decode cX10_set 6 = .ok (.invokestatic 85, 3) := by decide +kernel
theorem dX10_set_9 : decode cX10_set 9 = .ok (.goto 23, 3) := by decide +kernel
theorem dX10_set_12 : decode cX10_set 12 = .ok (.iload_n 2, 1) := by decide +kernel
theorem dX10_set_13 : decode cX10_set 13 = .ok (.iconst 2, 1) := by decide +kernel
theorem dX10_set_14 : decode cX10_set 14 = .ok (.if_icmp .ne 17, 3) := by decide +kernel
theorem dX10_set_17 : decode cX10_set 17 = .ok (.iload_n 3, 1) := by decide +kernel
theorem dX10_set_18 : decode cX10_set 18 = .ok (.iconst 0, 1) := by decide +kernel
theorem dX10_set_19 : decode cX10_set 19 = .ok (.bipush 99, 2) := by decide +kernel
theorem dX10_set_21 : decode cX10_set 21 = .ok (.invokestatic 48, 3) := by decide +kernel
theorem dX10_set_24 : decode cX10_set 24 = .ok (.ifCond .eq 7, 3) := by decide +kernel
theorem dX10_set_27 : decode cX10_set 27 = .ok (.iconst 1, 1) := by decide +kernel
theorem dX10_set_28 : decode cX10_set 28 = .ok (.goto 4, 3) := by decide +kernel
theorem dX10_set_31 : decode cX10_set 31 = .ok (.iconst 0, 1) := by decide +kernel
theorem dX10_set_32 : decode cX10_set 32 = .ok (.istore 4, 2) := by decide +kernel
theorem dX10_set_34 : decode cX10_set 34 = .ok (.aload_n 0, 1) := by decide +kernel
theorem dX10_set_35 : decode cX10_set 35 = .ok (.iload_n 1, 1) := by decide +kernel
theorem dX10_set_36 : decode cX10_set 36 = .ok (.invokevirtual 145, 3) := by decide +kernel
theorem dX10_set_39 : decode cX10_set 39 = .ok (.ifCond .eq 22, 3) := by decide +kernel
theorem dX10_set_42 : decode cX10_set 42 = .ok (.iload 4, 2) := by decide +kernel
theorem dX10_set_44 : decode cX10_set 44 = .ok (.ifCond .eq 17, 3) := by decide +kernel
theorem dX10_set_47 : decode cX10_set 47 = .ok (.aload_n 0, 1) := by decide +kernel
theorem dX10_set_48 : decode cX10_set 48 = .ok (.aload_n 0, 1) := by decide +kernel
theorem dX10_set_49 : decode cX10_set 49 = .ok (.iload_n 1, 1) := by decide +kernel
theorem dX10_set_50 : decode cX10_set 50 = .ok (.iload_n 2, 1) := by decide +kernel
theorem dX10_set_51 : decode cX10_set 51 = .ok (.invokevirtual 126, 3) := by decide +kernel
theorem dX10_set_54 : decode cX10_set 54 = .ok (.iload_n 3, 1) := by decide +kernel
theorem dX10_set_55 : decode cX10_set 55 = .ok (.invokevirtual 117, 3) := by decide +kernel
theorem dX10_set_58 : decode cX10_set 58 = .ok (.goto 8, 3) := by decide +kernel
theorem dX10_set_61 : decode cX10_set 61 = .ok (.aload_n 0, 1) := by decide +kernel
theorem dX10_set_62 : decode cX10_set 62 = .ok (.iconst 0, 1) := by decide +kernel
theorem dX10_set_63 : decode cX10_set 63 = .ok (.invokevirtual 89, 3) := by decide +kernel
theorem dX10_set_66 : decode cX10_set 66 = .ok (.ireturn, 1) := by decide +kernel
theorem dX10_turn_0 : decode cX10_turn 0 = .ok (.aload_n 0, 1) := by decide +kernel
theorem dX10_turn_1 : decode cX10_turn 1 = .ok (.iload_n 1, 1) := by decide +kernel
theorem dX10_turn_2 : decode cX10_turn 2 = .ok (.invokevirtual 145, 3) := by decide +kernel
theorem dX10_turn_5 : decode cX10_turn 5 = .ok (.ifCond .eq 24, 3) := by decide +kernel
theorem dX10_turn_8 : decode cX10_turn 8 = .ok (.iload_n 2, 1) := by decide +kernel
theorem dX10_turn_9 : decode cX10_turn 9 = .ok (.invokestatic 129, 3) := by decide +kernel
theorem dX10_turn_12 : decode cX10_turn 12 = .ok (.ifCond .eq 17, 3) := by decide +kernel
theorem dX10_turn_15 : decode cX10_turn 15 = .ok (.aload_n 0, 1) := by decide +kernel
theorem dX10_turn_16 : decode cX10_turn 16 = .ok (.aload_n 0, 1) := by decide +kernel
theorem dX10_turn_17 : decode cX10_turn 17 = .ok (.iload_n 1, 1) := by decide +kernel
theorem dX10_turn_18 : decode cX10_turn 18 = .ok (.iconst 0, 1) := by decide +kernel
theorem dX10_turn_19 : decode cX10_turn 19 = .ok (.invokevirtual 126, 3) := by decide +kernel
theorem dX10_turn_22 : decode cX10_turn 22 = .ok (.iload_n 2, 1) := by decide +kernel
theorem dX10_turn_23 : decode cX10_turn 23 = .ok (.invokevirtual 117, 3) := by decide +kernel
theorem dX10_turn_26 : decode cX10_turn 26 = .ok (.goto 8, 3) := by decide +kernel
theorem dX10_turn_29 : decode cX10_turn 29 = .ok (.aload_n 0, 1) := by decide +kernel
theorem dX10_turn_30 : decode cX10_turn 30 = .ok (.iconst 0, 1) := by decide +kernel
theorem dX10_turn_31 : decode cX10_turn 31 = .ok (.invokevirtual 89, 3) := by decide +kernel
theorem dX10_turn_34 : decode cX10_turn 34 = .ok (.ireturn, 1) := by decide +kernel
theorem dX10_isUnder_0 : decode cX10_isUnder 0 = .ok (.iload_n 1, 1) := by decide +kernel
theorem dX10_isUnder_1 : decode cX10_isUnder 1 = .ok (.ifCond .eq 28, 3) := by decide +kernel
theorem dX10_isUnder_4 : decode cX10_isUnder 4 = .ok (.iload_n 0, 1) := by decide +kernel
theorem dX10_isUnder_5 : decode cX10_isUnder 5 = .ok (.iload_n 1, 1) := by decide +kernel
theorem dX10_isUnder_6 : decode cX10_isUnder 6 = .ok (.if_icmp .eq 23, 3) := by decide +kernel
theorem dX10_isUnder_9 : decode cX10_isUnder 9 = .ok (.iload_n 0, 1) := by decide +kernel
theorem dX10_isUnder_10 : decode cX10_isUnder 10 = .ok (.iconst 4, 1) := by decide +kernel
theorem dX10_isUnder_11 : decode cX10_isUnder 11 = .ok (.if_icmp .ne 8, 3) := by decide +kernel
theorem dX10_isUnder_14 : decode cX10_isUnder 14 = .ok (.iload_n 1, 1) := by decide +kernel
theorem dX10_isUnder_15 : decode cX10_isUnder 15 = .ok (.iconst 1, 1) := by decide +kernel
theorem dX10_isUnder_16 : decode cX10_isUnder 16 = .ok (.if_icmp .eq 13, 3) := by decide +kernel
theorem dX10_isUnder_19 : decode cX10_isUnder 19 = .ok (.iload_n 0, 1) := by decide +kernel
theorem dX10_isUnder_20 : decode cX10_isUnder 20 = .ok (.iconst 5, 1) := by decide +kernel
theorem dX10_isUnder_21 : decode cX10_isUnder 21 = .ok (.if_icmp .ne 12, 3) := by decide +kernel
theorem dX10_isUnder_24 : decode cX10_isUnder 24 = .ok (.iload_n 1, 1) := by decide +kernel
theorem dX10_isUnder_25 : decode cX10_isUnder 25 = .ok (.iconst 2, 1) := by decide +kernel
theorem dX10_isUnder_26 : decode cX10_isUnder 26 = .ok (.if_icmp .ne 7, 3) := by decide +kernel
theorem dX10_isUnder_29 : decode cX10_isUnder 29 = .ok (.iconst 1, 1) := by decide +kernel
theorem dX10_isUnder_30 : decode cX10_isUnder 30 = .ok (.goto 4, 3) := by decide +kernel
theorem dX10_isUnder_33 : decode cX10_isUnder 33 = .ok (.iconst 0, 1) := by decide +kernel
theorem dX10_isUnder_34 : decode cX10_isUnder 34 = .ok (.ireturn, 1) := by decide +kernel
theorem dX10_as_0 : decode cX10_as 0 = .ok (.aload_n 0, 1) := by decide +kernel
theorem dX10_as_1 : decode cX10_as 1 = .ok (.iload_n 1, 1) := by decide +kernel
theorem dX10_as_2 : decode cX10_as 2 = .ok (.invokevirtual 145, 3) := by decide +kernel
theorem dX10_as_5 : decode cX10_as 5 = .ok (.ifCond .eq 10, 3) := by decide +kernel
theorem dX10_as_8 : decode cX10_as 8 = .ok (.iload_n 2, 1) := by decide +kernel
theorem dX10_as_9 : decode cX10_as 9 = .ok (.invokestatic 129, 3) := by decide +kernel
theorem dX10_as_12 : decode cX10_as 12 = .ok (.ifCond .ne 9, 3) := by decide +kernel
theorem dX10_as_15 : decode cX10_as 15 = .ok (.aload_n 0, 1) := by decide +kernel
theorem dX10_as_16 : decode cX10_as 16 = .ok (.iconst 0, 1) := by decide +kernel
theorem dX10_as_17 : decode cX10_as 17 = .ok (.invokevirtual 89, 3) := by decide +kernel
theorem dX10_as_20 : decode cX10_as 20 = .ok (.ireturn, 1) := by decide +kernel
theorem dX10_as_21 : decode cX10_as 21 = .ok (.aload_n 0, 1) := by decide +kernel
theorem dX10_as_22 : decode cX10_as 22 = .ok (.getfield 9, 3) := by decide +kernel
theorem dX10_as_25 : decode cX10_as 25 = .ok (.aload_n 0, 1) := by decide +kernel
theorem dX10_as_26 : decode cX10_as 26 = .ok (.iload_n 1, 1) := by decide +kernel
theorem dX10_as_27 : decode cX10_as 27 = .ok (.iconst 0, 1) := by decide +kernel
theorem dX10_as_28 : decode cX10_as 28 = .ok (.invokevirtual 126, 3) := by decide +kernel
theorem dX10_as_31 : decode cX10_as 31 = .ok (.iaload, 1) := by decide +kernel
theorem dX10_as_32 : decode cX10_as 32 = .ok (.iload_n 2, 1) := by decide +kernel
theorem dX10_as_33 : decode cX10_as 33 = .ok (.invokestatic 154, 3) := by decide +kernel
theorem dX10_as_36 : decode cX10_as 36 = .ok (.ifCond .eq 17, 3) := by decide +kernel
theorem dX10_as_39 : decode cX10_as 39 = .ok (.aload_n 0, 1) := by decide +kernel
theorem dX10_as_40 : decode cX10_as 40 = .ok (.getfield 9, 3) := by decide +kernel
theorem dX10_as_43 : decode cX10_as 43 = .ok (.aload_n 0, 1) := by decide +kernel
theorem dX10_as_44 : decode cX10_as 44 = .ok (.iload_n 1, 1) := by decide +kernel
theorem dX10_as_45 : decode cX10_as 45 = .ok (.iconst 2, 1) := by decide +kernel
theorem dX10_as_46 : decode cX10_as 46 = .ok (.invokevirtual 126, 3) := by decide +kernel
theorem dX10_as_49 : decode cX10_as 49 = .ok (.iaload, 1) := by decide +kernel
theorem dX10_as_50 : decode cX10_as 50 = .ok (.goto 8, 3) := by decide +kernel
theorem dX10_as_53 : decode cX10_as 53 = .ok (.aload_n 0, 1) := by decide +kernel
theorem dX10_as_54 : decode cX10_as 54 = .ok (.iconst 2, 1) := by decide +kernel
theorem dX10_as_55 : decode cX10_as 55 = .ok (.invokevirtual 89, 3) := by decide +kernel
theorem dX10_as_58 : decode cX10_as 58 = .ok (.ireturn, 1) := by decide +kernel
theorem dX10_sun_0 : decode cX10_sun 0 = .ok (.iload_n 1, 1) := by decide +kernel
theorem dX10_sun_1 : decode cX10_sun 1 = .ok (.invokestatic 85, 3) := by decide +kernel
theorem dX10_sun_4 : decode cX10_sun 4 = .ok (.ifCond .eq 12, 3) := by decide +kernel
theorem dX10_sun_7 : decode cX10_sun 7 = .ok (.aload_n 0, 1) := by decide +kernel
theorem dX10_sun_8 : decode cX10_sun 8 = .ok (.iconst 1, 1) := by decide +kernel
theorem dX10_sun_9 : decode cX10_sun 9 = .ok (.iload_n 1, 1) := by decide +kernel
theorem dX10_sun_10 : decode cX10_sun 10 = .ok (.invokevirtual 117, 3) := by decide +kernel
theorem dX10_sun_13 : decode cX10_sun 13 = .ok (.goto 8, 3) := by decide +kernel
theorem dX10_sun_16 : decode cX10_sun 16 = .ok (.aload_n 0, 1) := by decide +kernel
theorem dX10_sun_17 : decode cX10_sun 17 = .ok (.iconst 0, 1) := by decide +kernel
theorem dX10_sun_18 : decode cX10_sun 18 = .ok (.invokevirtual 89, 3) := by decide +kernel
theorem dX10_sun_21 : decode cX10_sun 21 = .ok (.ireturn, 1) := by decide +kernel
theorem dX10_hours_0 : decode cX10_hours 0 = .ok (.iload_n 1, 1) := by decide +kernel
theorem dX10_hours_1 : decode cX10_hours 1 = .ok (.iconst 1, 1) := by decide +kernel
theorem dX10_hours_2 : decode cX10_hours 2 = .ok (.bipush 99, 2) := by decide +kernel
theorem dX10_hours_4 : decode cX10_hours 4 = .ok (.invokestatic 48, 3) := by decide +kernel
theorem dX10_hours_7 : decode cX10_hours 7 = .ok (.ifCond .ne 9, 3) := by decide +kernel
theorem dX10_hours_10 : decode cX10_hours 10 = .ok (.aload_n 0, 1) := by decide +kernel
theorem dX10_hours_11 : decode cX10_hours 11 = .ok (.iconst 0, 1) := by decide +kernel
theorem dX10_hours_12 : decode cX10_hours 12 = .ok (.invokevirtual 89, 3) := by decide +kernel
theorem dX10_hours_15 : decode cX10_hours 15 = .ok (.ireturn, 1) := by decide +kernel
theorem dX10_hours_16 : decode cX10_hours 16 = .ok (.aload_n 0, 1) := by decide +kernel
theorem dX10_hours_17 : decode cX10_hours 17 = .ok (.getfield 9, 3) := by decide +kernel
theorem dX10_hours_20 : decode cX10_hours 20 = .ok (.iconst 0, 1) := by decide +kernel
theorem dX10_hours_21 : decode cX10_hours 21 = .ok (.iaload, 1) := by decide +kernel
theorem dX10_hours_22 : decode cX10_hours 22 = .ok (.iload_n 1, 1) := by decide +kernel
theorem dX10_hours_23 : decode cX10_hours 23 = .ok (.iadd, 1) := by decide +kernel
theorem dX10_hours_24 : decode cX10_hours 24 = .ok (.sipush 999, 3) := by decide +kernel
theorem dX10_hours_27 : decode cX10_hours 27 = .ok (.if_icmp .le 9, 3) := by decide +kernel
theorem dX10_hours_30 : decode cX10_hours 30 = .ok (.aload_n 0, 1) := by decide +kernel
theorem dX10_hours_31 : decode cX10_hours 31 = .ok (.iconst 4, 1) := by decide +kernel
theorem dX10_hours_32 : decode cX10_hours 32 = .ok (.invokevirtual 89, 3) := by decide +kernel
theorem dX10_hours_35 : decode cX10_hours 35 = .ok (.ireturn, 1) := by decide +kernel
theorem dX10_hours_36 : decode cX10_hours 36 = .ok (.iconst 0, 1) := by decide +kernel
theorem dX10_hours_37 : decode cX10_hours 37 = .ok (.istore_n 2, 1) := by decide +kernel
theorem dX10_hours_38 : decode cX10_hours 38 = .ok (.iload_n 2, 1) := by decide +kernel
theorem dX10_hours_39 : decode cX10_hours 39 = .ok (.aload_n 0, 1) := by decide +kernel
theorem dX10_hours_40 : decode cX10_hours 40 = .ok (.getfield 9, 3) := by decide +kernel
theorem dX10_hours_43 : decode cX10_hours 43 = .ok (.iconst 2, 1) := by decide +kernel
theorem dX10_hours_44 : decode cX10_hours 44 = .ok (.iaload, 1) := by decide +kernel
theorem dX10_hours_45 : decode cX10_hours 45 = .ok (.if_icmp .ge 20, 3) := by decide +kernel
theorem dX10_hours_48 : decode cX10_hours 48 = .ok (.aload_n 0, 1) := by decide +kernel
theorem dX10_hours_49 : decode cX10_hours 49 = .ok (.getfield 22, 3) := by decide +kernel
theorem dX10_hours_52 : decode cX10_hours 52 = .ok (.iload_n 2, 1) := by decide +kernel
theorem dX10_hours_53 : decode cX10_hours 53 = .ok (.aload_n 0, 1) := by decide +kernel
theorem dX10_hours_54 : decode cX10_hours 54 = .ok (.iload_n 2, 1) := by decide +kernel
theorem dX10_hours_55 : decode cX10_hours 55 = .ok (.invokevirtual 148, 3) := by decide +kernel
theorem dX10_hours_58 : decode cX10_hours 58 = .ok (.iastore, 1) := by decide +kernel
theorem dX10_hours_59 : decode cX10_hours 59 = .ok (.iinc 2 1, 3) := by decide +kernel
theorem dX10_hours_62 : decode cX10_hours 62 = .ok (.goto (-24), 3) := by decide +kernel
theorem dX10_hours_65 : decode cX10_hours 65 = .ok (.aload_n 0, 1) := by decide +kernel
theorem dX10_hours_66 : decode cX10_hours 66 = .ok (.getfield 9, 3) := by decide +kernel
theorem dX10_hours_69 : decode cX10_hours 69 = .ok (.iconst 0, 1) := by decide +kernel
theorem dX10_hours_70 : decode cX10_hours 70 = .ok (.dup2, 1) := by decide +kernel
theorem dX10_hours_71 : decode cX10_hours 71 = .ok (.iaload, 1) := by decide +kernel
theorem dX10_hours_72 : decode cX10_hours 72 = .ok (.iload_n 1, 1) := by decide +kernel
theorem dX10_hours_73 : decode cX10_hours 73 = .ok (.iadd, 1) := by decide +kernel
theorem dX10_hours_74 : decode cX10_hours 74 = .ok (.iastore, 1) := by decide +kernel
theorem dX10_hours_75 : decode cX10_hours 75 = .ok (.iconst 0, 1) := by decide +kernel
theorem dX10_hours_76 : decode cX10_hours 76 = .ok (.istore_n 2, 1) := by decide +kernel
theorem dX10_hours_77 : decode cX10_hours 77 = .ok (.iconst 0, 1) := by decide +kernel
theorem dX10_hours_78 : decode cX10_hours 78 = .ok (.istore_n 3, 1) := by decide +kernel
theorem dX10_hours_79 : decode cX10_hours 79 = .ok (.iload_n 3, 1) := by decide +kernel
theorem dX10_hours_80 : decode cX10_hours 80 = .ok (.aload_n 0, 1) := by decide +kernel
theorem dX10_hours_81 : decode cX10_hours 81 = .ok (.getfield 9, 3) := by decide +kernel
theorem dX10_hours_84 : decode cX10_hours 84 = .ok (.iconst 2, 1) := by decide +kernel
theorem dX10_hours_85 : decode cX10_hours 85 = .ok (.iaload, 1) := by decide +kernel
theorem dX10_hours_86 : decode cX10_hours 86 = .ok (.if_icmp .ge 31, 3) := by decide +kernel
theorem dX10_hours_89 : decode cX10_hours 89 = .ok (.iload_n 2, 1) := by decide +kernel
theorem dX10_hours_90 : decode cX10_hours 90 = .ok (.aload_n 0, 1) := by decide +kernel
theorem dX10_hours_91 : decode cX10_hours 91 = .ok (.iload_n 3, 1) := by decide +kernel
theorem dX10_hours_92 : decode cX10_hours 92 = .ok (.invokevirtual 148, 3) := by decide +kernel
theorem dX10_hours_95 : decode cX10_hours 95 = .ok (.aload_n 0, 1) := by decide +kernel
theorem dX10_hours_96 : decode cX10_hours 96 = .ok (.getfield 22, 3) := by decide +kernel
theorem dX10_hours_99 : decode cX10_hours 99 = .ok (.iload_n 3, 1) := by decide +kernel
theorem dX10_hours_100 : decode cX10_hours 100 = .ok (.iaload, 1) := by decide +kernel
theorem dX10_hours_101 : decode cX10_hours 101 = .ok (.if_icmp .eq 7, 3) := by decide +kernel
theorem dX10_hours_104 : decode cX10_hours 104 = .ok (.iconst 1, 1) := by decide +kernel
theorem dX10_hours_105 : decode cX10_hours 105 = .ok (.goto 4, 3) := by decide +kernel
theorem dX10_hours_108 : decode cX10_hours 108 = .ok (.iconst 0, 1) := by decide +kernel
theorem dX10_hours_109 : decode cX10_hours 109 = .ok (.iadd, 1) := by decide +kernel
theorem dX10_hours_110 : decode cX10_hours 110 = .ok (.istore_n 2, 1) := by decide +kernel
theorem dX10_hours_111 : decode cX10_hours 111 = .ok (.iinc 3 1, 3) := by decide +kernel
theorem dX10_hours_114 : decode cX10_hours 114 = .ok (.goto (-35), 3) := by decide +kernel
theorem dX10_hours_117 : decode cX10_hours 117 = .ok (.iload_n 2, 1) := by decide +kernel
theorem dX10_hours_118 : decode cX10_hours 118 = .ok (.ireturn, 1) := by decide +kernel
theorem dX10_isOther_0 : decode cX10_isOther 0 = .ok (.aload_n 0, 1) := by decide +kernel
theorem dX10_isOther_1 : decode cX10_isOther 1 = .ok (.aload_n 0, 1) := by decide +kernel
theorem dX10_isOther_2 : decode cX10_isOther 2 = .ok (.iload_n 1, 1) := by decide +kernel
theorem dX10_isOther_3 : decode cX10_isOther 3 = .ok (.invokevirtual 148, 3) := by decide +kernel
theorem dX10_isOther_6 : decode cX10_isOther 6 = .ok (.invokevirtual 123, 3) := by decide +kernel
theorem dX10_isOther_9 : decode cX10_isOther 9 = .ok (.aload_n 0, 1) := by decide +kernel
theorem dX10_isOther_10 : decode cX10_isOther 10 = .ok (.aload_n 0, 1) := by decide +kernel
theorem dX10_isOther_11 : decode cX10_isOther 11 = .ok (.getfield 9, 3) := by decide +kernel
theorem dX10_isOther_14 : decode cX10_isOther 14 = .ok (.aload_n 0, 1) := by decide +kernel
theorem dX10_isOther_15 : decode cX10_isOther 15 = .ok (.iload_n 1, 1) := by decide +kernel
theorem dX10_isOther_16 : decode cX10_isOther 16 = .ok (.iconst 1, 1) := by decide +kernel
theorem dX10_isOther_17 : decode cX10_isOther 17 = .ok (.invokevirtual 126, 3) := by decide +kernel
theorem dX10_isOther_20 : decode cX10_isOther 20 = .ok (.iaload, 1) := by decide +kernel
theorem dX10_isOther_21 : decode cX10_isOther 21 = .ok (.invokevirtual 123, 3) := by decide +kernel
theorem dX10_isOther_24 : decode cX10_isOther 24 = .ok (.if_icmp .eq 7, 3) := by decide +kernel
theorem dX10_isOther_27 : decode cX10_isOther 27 = .ok (.iconst 1, 1) := by decide +kernel
theorem dX10_isOther_28 : decode cX10_isOther 28 = .ok (.goto 4, 3) := by decide +kernel
theorem dX10_isOther_31 : decode cX10_isOther 31 = .ok (.iconst 0, 1) := by decide +kernel
theorem dX10_isOther_32 : decode cX10_isOther 32 = .ok (.ireturn, 1) := by decide +kernel
theorem dX10_now_0 : decode cX10_now 0 = .ok (.iload_n 1, 1) := by decide +kernel
theorem dX10_now_1 : decode cX10_now 1 = .ok (.iconst 0, 1) := by decide +kernel
theorem dX10_now_2 : decode cX10_now 2 = .ok (.iconst 3, 1) := by decide +kernel
theorem dX10_now_3 : decode cX10_now 3 = .ok (.invokestatic 48, 3) := by decide +kernel
theorem dX10_now_6 : decode cX10_now 6 = .ok (.ifCond .ne 9, 3) := by decide +kernel
theorem dX10_now_9 : decode cX10_now 9 = .ok (.aload_n 0, 1) := by decide +kernel
theorem dX10_now_10 : decode cX10_now 10 = .ok (.iconst 0, 1) := by decide +kernel
theorem dX10_now_11 : decode cX10_now 11 = .ok (.invokevirtual 89, 3) := by decide +kernel
theorem dX10_now_14 : decode cX10_now 14 = .ok (.ireturn, 1) := by decide +kernel
theorem dX10_now_15 : decode cX10_now 15 = .ok (.iconst 0, 1) := by decide +kernel
theorem dX10_now_16 : decode cX10_now 16 = .ok (.istore_n 2, 1) := by decide +kernel
theorem dX10_now_17 : decode cX10_now 17 = .ok (.iconst 0, 1) := by decide +kernel
theorem dX10_now_18 : decode cX10_now 18 = .ok (.istore_n 3, 1) := by decide +kernel
theorem dX10_now_19 : decode cX10_now 19 = .ok (.iconst 0, 1) := by decide +kernel
theorem dX10_now_20 : decode cX10_now 20 = .ok (.istore 4, 2) := by decide +kernel
theorem dX10_now_22 : decode cX10_now 22 = .ok (.iload 4, 2) := by decide +kernel
theorem dX10_now_24 : decode cX10_now 24 = .ok (.aload_n 0, 1) := by decide +kernel
theorem dX10_now_25 : decode cX10_now 25 = .ok (.getfield 9, 3) := by decide +kernel
theorem dX10_now_28 : decode cX10_now 28 = .ok (.iconst 2, 1) := by decide +kernel
theorem dX10_now_29 : decode cX10_now 29 = .ok (.iaload, 1) := by decide +kernel
theorem dX10_now_30 : decode cX10_now 30 = .ok (.if_icmp .ge 38, 3) := by decide +kernel
theorem dX10_now_33 : decode cX10_now 33 = .ok (.iload_n 2, 1) := by decide +kernel
theorem dX10_now_34 : decode cX10_now 34 = .ok (.aload_n 0, 1) := by decide +kernel
theorem dX10_now_35 : decode cX10_now 35 = .ok (.iload 4, 2) := by decide +kernel
theorem dX10_now_37 : decode cX10_now 37 = .ok (.invokevirtual 151, 3) := by decide +kernel
theorem dX10_now_40 : decode cX10_now 40 = .ok (.iadd, 1) := by decide +kernel
theorem dX10_now_41 : decode cX10_now 41 = .ok (.istore_n 2, 1) := by decide +kernel
theorem dX10_now_42 : decode cX10_now 42 = .ok (.iload_n 3, 1) := by decide +kernel
theorem dX10_now_43 : decode cX10_now 43 = .ok (.aload_n 0, 1) := by decide +kernel
theorem dX10_now_44 : decode cX10_now 44 = .ok (.iload 4, 2) := by decide +kernel
theorem dX10_now_46 : decode cX10_now 46 = .ok (.invokevirtual 157, 3) := by decide +kernel
theorem dX10_now_49 : decode cX10_now 49 = .ok (.ifCond .eq 10, 3) := by decide +kernel
theorem dX10_now_52 : decode cX10_now 52 = .ok (.iconst 1, 1) := by decide +kernel
theorem dX10_now_53 : decode cX10_now 53 = .ok (.iload 4, 2) := by decide +kernel
theorem dX10_now_55 : decode cX10_now 55 = .ok (.ishl, 1) := by decide +kernel
theorem dX10_now_56 : decode cX10_now 56 = .ok (.goto 4, 3) := by decide +kernel
theorem dX10_now_59 : decode cX10_now 59 = .ok (.iconst 0, 1) := by decide +kernel
theorem dX10_now_60 : decode cX10_now 60 = .ok (.ior, 1) := by decide +kernel
theorem dX10_now_61 : decode cX10_now 61 = .ok (.istore_n 3, 1) := by decide +kernel
theorem dX10_now_62 : decode cX10_now 62 = .ok (.iinc 4 1, 3) := by decide +kernel
theorem dX10_now_65 : decode cX10_now 65 = .ok (.goto (-43), 3) := by decide +kernel
theorem dX10_now_68 : decode cX10_now 68 = .ok (.iload_n 1, 1) := by decide +kernel
theorem dX10_now_69 : decode cX10_now 69 = .ok (.iconst 2, 1) := by decide +kernel
theorem dX10_now_70 : decode cX10_now 70 = .ok (.if_icmp .ge 12, 3) := by decide +kernel
theorem dX10_now_73 : decode cX10_now 73 = .ok (.aload_n 0, 1) := by decide +kernel
theorem dX10_now_74 : decode cX10_now 74 = .ok (.getfield 9, 3) := by decide +kernel
theorem dX10_now_77 : decode cX10_now 77 = .ok (.iload_n 1, 1) := by decide +kernel
theorem dX10_now_78 : decode cX10_now 78 = .ok (.iaload, 1) := by decide +kernel
theorem dX10_now_79 : decode cX10_now 79 = .ok (.goto 13, 3) := by decide +kernel
theorem dX10_now_82 : decode cX10_now 82 = .ok (.iload_n 1, 1) := by decide +kernel
theorem dX10_now_83 : decode cX10_now 83 = .ok (.iconst 2, 1) := by decide +kernel
theorem dX10_now_84 : decode cX10_now 84 = .ok (.if_icmp .ne 7, 3) := by decide +kernel
theorem dX10_now_87 : decode cX10_now 87 = .ok (.iload_n 2, 1) := by decide +kernel
theorem dX10_now_88 : decode cX10_now 88 = .ok (.goto 4, 3) := by decide +kernel
theorem dX10_now_91 : decode cX10_now 91 = .ok (.iload_n 3, 1) := by decide +kernel
theorem dX10_now_92 : decode cX10_now 92 = .ok (.ireturn, 1) := by decide +kernel
theorem dX10_on_0 : decode cX10_on 0 = .ok (.aload_n 0, 1) := by decide +kernel
theorem dX10_on_1 : decode cX10_on 1 = .ok (.iload_n 1, 1) := by decide +kernel
theorem dX10_on_2 : decode cX10_on 2 = .ok (.invokevirtual 145, 3) := by decide +kernel
theorem dX10_on_5 : decode cX10_on 5 = .ok (.ifCond .eq 13, 3) := by decide +kernel
theorem dX10_on_8 : decode cX10_on 8 = .ok (.iload_n 2, 1) := by decide +kernel
theorem dX10_on_9 : decode cX10_on 9 = .ok (.iconst 0, 1) := by decide +kernel
theorem dX10_on_10 : decode cX10_on 10 = .ok (.bipush 99, 2) := by decide +kernel
theorem dX10_on_12 : decode cX10_on 12 = .ok (.invokestatic 48, 3) := by decide +kernel
theorem dX10_on_15 : decode cX10_on 15 = .ok (.ifCond .ne 9, 3) := by decide +kernel
theorem dX10_on_18 : decode cX10_on 18 = .ok (.aload_n 0, 1) := by decide +kernel
theorem dX10_on_19 : decode cX10_on 19 = .ok (.iconst 0, 1) := by decide +kernel
theorem dX10_on_20 : decode cX10_on 20 = .ok (.invokevirtual 89, 3) := by decide +kernel
theorem dX10_on_23 : decode cX10_on 23 = .ok (.ireturn, 1) := by decide +kernel
theorem dX10_on_24 : decode cX10_on 24 = .ok (.aload_n 0, 1) := by decide +kernel
theorem dX10_on_25 : decode cX10_on 25 = .ok (.getfield 9, 3) := by decide +kernel
theorem dX10_on_28 : decode cX10_on 28 = .ok (.iconst 0, 1) := by decide +kernel
theorem dX10_on_29 : decode cX10_on 29 = .ok (.iaload, 1) := by decide +kernel
theorem dX10_on_30 : decode cX10_on 30 = .ok (.iload_n 2, 1) := by decide +kernel
theorem dX10_on_31 : decode cX10_on 31 = .ok (.iadd, 1) := by decide +kernel
theorem dX10_on_32 : decode cX10_on 32 = .ok (.sipush 999, 3) := by decide +kernel
theorem dX10_on_35 : decode cX10_on 35 = .ok (.if_icmp .le 9, 3) := by decide +kernel
theorem dX10_on_38 : decode cX10_on 38 = .ok (.aload_n 0, 1) := by decide +kernel
theorem dX10_on_39 : decode cX10_on 39 = .ok (.iconst 4, 1) := by decide +kernel
theorem dX10_on_40 : decode cX10_on 40 = .ok (.invokevirtual 89, 3) := by decide +kernel
theorem dX10_on_43 : decode cX10_on 43 = .ok (.ireturn, 1) := by decide +kernel
theorem dX10_on_44 : decode cX10_on 44 = .ok (.aload_n 0, 1) := by decide +kernel
theorem dX10_on_45 : decode cX10_on 45 = .ok (.getfield 9, 3) := by decide +kernel
theorem dX10_on_48 : decode cX10_on 48 = .ok (.iconst 0, 1) := by decide +kernel
theorem dX10_on_49 : decode cX10_on 49 = .ok (.dup2, 1) := by decide +kernel
theorem dX10_on_50 : decode cX10_on 50 = .ok (.iaload, 1) := by decide +kernel
theorem dX10_on_51 : decode cX10_on 51 = .ok (.iload_n 2, 1) := by decide +kernel
theorem dX10_on_52 : decode cX10_on 52 = .ok (.iadd, 1) := by decide +kernel
theorem dX10_on_53 : decode cX10_on 53 = .ok (.iastore, 1) := by decide +kernel
theorem dX10_on_54 : decode cX10_on 54 = .ok (.aload_n 0, 1) := by decide +kernel
theorem dX10_on_55 : decode cX10_on 55 = .ok (.iload_n 1, 1) := by decide +kernel
theorem dX10_on_56 : decode cX10_on 56 = .ok (.invokevirtual 148, 3) := by decide +kernel
theorem dX10_on_59 : decode cX10_on 59 = .ok (.istore_n 3, 1) := by decide +kernel
theorem dX10_on_60 : decode cX10_on 60 = .ok (.aload_n 0, 1) := by decide +kernel
theorem dX10_on_61 : decode cX10_on 61 = .ok (.getfield 9, 3) := by decide +kernel
theorem dX10_on_64 : decode cX10_on 64 = .ok (.iconst 0, 1) := by decide +kernel
theorem dX10_on_65 : decode cX10_on 65 = .ok (.dup2, 1) := by decide +kernel
theorem dX10_on_66 : decode cX10_on 66 = .ok (.iaload, 1) := by decide +kernel
theorem dX10_on_67 : decode cX10_on 67 = .ok (.iload_n 2, 1) := by decide +kernel
theorem dX10_on_68 : decode cX10_on 68 = .ok (.isub, 1) := by decide +kernel
theorem dX10_on_69 : decode cX10_on 69 = .ok (.iastore, 1) := by decide +kernel
theorem dX10_on_70 : decode cX10_on 70 = .ok (.iload_n 3, 1) := by decide +kernel
theorem dX10_on_71 : decode cX10_on 71 = .ok (.ireturn, 1) := by decide +kernel
theorem dX10_when_0 : decode cX10_when 0 = .ok (.aload_n 0, 1) := by decide +kernel
theorem dX10_when_1 : decode cX10_when 1 = .ok (.iload_n 1, 1) := by decide +kernel
theorem dX10_when_2 : decode cX10_when 2 = .ok (.invokevirtual 145, 3) := by decide +kernel
theorem dX10_when_5 : decode cX10_when 5 = .ok (.ifCond .ne 9, 3) := by decide +kernel
theorem dX10_when_8 : decode cX10_when 8 = .ok (.aload_n 0, 1) := by decide +kernel
theorem dX10_when_9 : decode cX10_when 9 = .ok (.iconst 0, 1) := by decide +kernel
theorem dX10_when_10 : decode cX10_when 10 = .ok (.invokevirtual 89, 3) := by decide +kernel
theorem dX10_when_13 : decode cX10_when 13 = .ok (.ireturn, 1) := by decide +kernel
theorem dX10_when_14 : decode cX10_when 14 = .ok (.aload_n 0, 1) := by decide +kernel
theorem dX10_when_15 : decode cX10_when 15 = .ok (.getfield 9, 3) := by decide +kernel
theorem dX10_when_18 : decode cX10_when 18 = .ok (.iconst 0, 1) := by decide +kernel
theorem dX10_when_19 : decode cX10_when 19 = .ok (.iaload, 1) := by decide +kernel
theorem dX10_when_20 : decode cX10_when 20 = .ok (.sipush 900, 3) := by decide +kernel
theorem dX10_when_23 : decode cX10_when 23 = .ok (.if_icmp .le 9, 3) := by decide +kernel
theorem dX10_when_26 : decode cX10_when 26 = .ok (.aload_n 0, 1) := by decide +kernel
theorem dX10_when_27 : decode cX10_when 27 = .ok (.iconst 4, 1) := by decide +kernel
theorem dX10_when_28 : decode cX10_when 28 = .ok (.invokevirtual 89, 3) := by decide +kernel
theorem dX10_when_31 : decode cX10_when 31 = .ok (.ireturn, 1) := by decide +kernel
theorem dX10_when_32 : decode cX10_when 32 = .ok (.aload_n 0, 1) := by decide +kernel
theorem dX10_when_33 : decode cX10_when 33 = .ok (.getfield 9, 3) := by decide +kernel
theorem dX10_when_36 : decode cX10_when 36 = .ok (.iconst 0, 1) := by decide +kernel
theorem dX10_when_37 : decode cX10_when 37 = .ok (.iaload, 1) := by decide +kernel
theorem dX10_when_38 : decode cX10_when 38 = .ok (.istore_n 2, 1) := by decide +kernel
theorem dX10_when_39 : decode cX10_when 39 = .ok (.iconst (-1), 1) := by decide +kernel
theorem dX10_when_40 : decode cX10_when 40 = .ok (.istore_n 3, 1) := by decide +kernel
theorem dX10_when_41 : decode cX10_when 41 = .ok (.iconst 0, 1) := by decide +kernel
theorem dX10_when_42 : decode cX10_when 42 = .ok (.istore 4, 2) := by decide +kernel
theorem dX10_when_44 : decode cX10_when 44 = .ok (.iload 4, 2) := by decide +kernel
theorem dX10_when_46 : decode cX10_when 46 = .ok (.bipush 99, 2) := by decide +kernel
theorem dX10_when_48 : decode cX10_when 48 = .ok (.if_icmp .gt 38, 3) := by decide +kernel
theorem dX10_when_51 : decode cX10_when 51 = .ok (.iload_n 3, 1) := by decide +kernel
theorem dX10_when_52 : decode cX10_when 52 = .ok (.ifCond .ge 34, 3) := by decide +kernel
theorem dX10_when_55 : decode cX10_when 55 = .ok (.aload_n 0, 1) := by decide +kernel
theorem dX10_when_56 : decode cX10_when 56 = .ok (.getfield 9, 3) := by decide +kernel
theorem dX10_when_59 : decode cX10_when 59 = .ok (.iconst 0, 1) := by decide +kernel
theorem dX10_when_60 : decode cX10_when 60 = .ok (.iload_n 2, 1) := by decide +kernel
theorem dX10_when_61 : decode cX10_when 61 = .ok (.iload 4, 2) := by decide +kernel
theorem dX10_when_63 : decode cX10_when 63 = .ok (.iadd, 1) := by decide +kernel
theorem dX10_when_64 : decode cX10_when 64 = .ok (.iastore, 1) := by decide +kernel
theorem dX10_when_65 : decode cX10_when 65 = .ok (.aload_n 0, 1) := by decide +kernel
theorem dX10_when_66 : decode cX10_when 66 = .ok (.iload_n 1, 1) := by decide +kernel
theorem dX10_when_67 : decode cX10_when 67 = .ok (.invokevirtual 157, 3) := by decide +kernel
theorem dX10_when_70 : decode cX10_when 70 = .ok (.ifCond .eq 8, 3) := by decide +kernel
theorem dX10_when_73 : decode cX10_when 73 = .ok (.iload 4, 2) := by decide +kernel
theorem dX10_when_75 : decode cX10_when 75 = .ok (.goto 4, 3) := by decide +kernel
theorem dX10_when_78 : decode cX10_when 78 = .ok (.iconst (-1), 1) := by decide +kernel
theorem dX10_when_79 : decode cX10_when 79 = .ok (.istore_n 3, 1) := by decide +kernel
theorem dX10_when_80 : decode cX10_when 80 = .ok (.iinc 4 1, 3) := by decide +kernel
theorem dX10_when_83 : decode cX10_when 83 = .ok (.goto (-39), 3) := by decide +kernel
theorem dX10_when_86 : decode cX10_when 86 = .ok (.aload_n 0, 1) := by decide +kernel
theorem dX10_when_87 : decode cX10_when 87 = .ok (.getfield 9, 3) := by decide +kernel
theorem dX10_when_90 : decode cX10_when 90 = .ok (.iconst 0, 1) := by decide +kernel
theorem dX10_when_91 : decode cX10_when 91 = .ok (.iload_n 2, 1) := by decide +kernel
theorem dX10_when_92 : decode cX10_when 92 = .ok (.iastore, 1) := by decide +kernel
theorem dX10_when_93 : decode cX10_when 93 = .ok (.iload_n 3, 1) := by decide +kernel
theorem dX10_when_94 : decode cX10_when 94 = .ok (.ifCond .ge 11, 3) := by decide +kernel
theorem dX10_when_97 : decode cX10_when 97 = .ok (.aload_n 0, 1) := by decide +kernel
theorem dX10_when_98 : decode cX10_when 98 = .ok (.iconst 3, 1) := by decide +kernel
theorem dX10_when_99 : decode cX10_when 99 = .ok (.invokevirtual 89, 3) := by decide +kernel
theorem dX10_when_102 : decode cX10_when 102 = .ok (.goto 4, 3) := by decide +kernel
theorem dX10_when_105 : decode cX10_when 105 = .ok (.iload_n 3, 1) := by decide +kernel
theorem dX10_when_106 : decode cX10_when 106 = .ok (.ireturn, 1) := by decide +kernel
theorem dX10_longest_0 : decode cX10_longest 0 = .ok (.iconst 0, 1) := by decide +kernel
theorem dX10_longest_1 : decode cX10_longest 1 = .ok (.istore_n 2, 1) := by decide +kernel
theorem dX10_longest_2 : decode cX10_longest 2 = .ok (.iconst (-1), 1) := by decide +kernel
theorem dX10_longest_3 : decode cX10_longest 3 = .ok (.istore_n 3, 1) := by decide +kernel
theorem dX10_longest_4 : decode cX10_longest 4 = .ok (.iconst 0, 1) := by decide +kernel
theorem dX10_longest_5 : decode cX10_longest 5 = .ok (.istore 4, 2) := by decide +kernel
theorem dX10_longest_7 : decode cX10_longest 7 = .ok (.iload 4, 2) := by decide +kernel
theorem dX10_longest_9 : decode cX10_longest 9 = .ok (.iconst 5, 1) := by decide +kernel
theorem dX10_longest_10 : decode cX10_longest 10 = .ok (.if_icmp .gt 66, 3) := by decide +kernel
theorem dX10_longest_13 : decode cX10_longest 13 = .ok (.iload 4, 2) := by decide +kernel
theorem dX10_longest_15 : decode cX10_longest 15 = .ok (.iload_n 0, 1) := by decide +kernel
theorem dX10_longest_16 : decode cX10_longest 16 = .ok (.invokestatic 142, 3) := by decide +kernel
theorem dX10_longest_19 : decode cX10_longest 19 = .ok (.istore 5, 2) := by decide +kernel
theorem dX10_longest_21 : decode cX10_longest 21 = .ok (.iload 5, 2) := by decide +kernel
theorem dX10_longest_23 : decode cX10_longest 23 = .ok (.ifCond .ne 7, 3) := by decide +kernel
theorem dX10_longest_26 : decode cX10_longest 26 = .ok (.iconst 0, 1) := by decide +kernel
theorem dX10_longest_27 : decode cX10_longest 27 = .ok (.goto 15, 3) := by decide +kernel
theorem dX10_longest_30 : decode cX10_longest 30 = .ok (.bipush 100, 2) := by decide +kernel
theorem dX10_longest_32 : decode cX10_longest 32 = .ok (.iload 4, 2) := by decide +kernel
theorem dX10_longest_34 : decode cX10_longest 34 = .ok (.iload_n 1, 1) := by decide +kernel
theorem dX10_longest_35 : decode cX10_longest 35 = .ok (.invokestatic 136, 3) := by decide +kernel
theorem dX10_longest_38 : decode cX10_longest 38 = .ok (.imul, 1) := by decide +kernel
theorem dX10_longest_39 : decode cX10_longest 39 = .ok (.iload 5, 2) := by decide +kernel
theorem dX10_longest_41 : decode cX10_longest 41 = .ok (.idiv, 1) := by decide +kernel
theorem dX10_longest_42 : decode cX10_longest 42 = .ok (.istore 6, 2) := by decide +kernel
theorem dX10_longest_44 : decode cX10_longest 44 = .ok (.iload 6, 2) := by decide +kernel
theorem dX10_longest_46 : decode cX10_longest 46 = .ok (.iload_n 3, 1) := by decide +kernel
theorem dX10_longest_47 : decode cX10_longest 47 = .ok (.if_icmp .le 8, 3) := by decide +kernel
theorem dX10_longest_50 : decode cX10_longest 50 = .ok (.iload 4, 2) := by decide +kernel
theorem dX10_longest_52 : decode cX10_longest 52 = .ok (.goto 4, 3) := by decide +kernel
theorem dX10_longest_55 : decode cX10_longest 55 = .ok (.iload_n 2, 1) := by decide +kernel
theorem dX10_longest_56 : decode cX10_longest 56 = .ok (.istore_n 2, 1) := by decide +kernel
theorem dX10_longest_57 : decode cX10_longest 57 = .ok (.iload 6, 2) := by decide +kernel
theorem dX10_longest_59 : decode cX10_longest 59 = .ok (.iload_n 3, 1) := by decide +kernel
theorem dX10_longest_60 : decode cX10_longest 60 = .ok (.if_icmp .le 8, 3) := by decide +kernel
theorem dX10_longest_63 : decode cX10_longest 63 = .ok (.iload 6, 2) := by decide +kernel
theorem dX10_longest_65 : decode cX10_longest 65 = .ok (.goto 4, 3) := by decide +kernel
theorem dX10_longest_68 : decode cX10_longest 68 = .ok (.iload_n 3, 1) := by decide +kernel
theorem dX10_longest_69 : decode cX10_longest 69 = .ok (.istore_n 3, 1) := by decide +kernel
theorem dX10_longest_70 : decode cX10_longest 70 = .ok (.iinc 4 1, 3) := by decide +kernel
theorem dX10_longest_73 : decode cX10_longest 73 = .ok (.goto (-66), 3) := by decide +kernel
theorem dX10_longest_76 : decode cX10_longest 76 = .ok (.iload_n 2, 1) := by decide +kernel
theorem dX10_longest_77 : decode cX10_longest 77 = .ok (.ireturn, 1) := by decide +kernel
theorem dX10_kind_0 : decode cX10_kind 0 = .ok (.aload_n 0, 1) := by decide +kernel
theorem dX10_kind_1 : decode cX10_kind 1 = .ok (.iload_n 1, 1) := by decide +kernel
theorem dX10_kind_2 : decode cX10_kind 2 = .ok (.invokevirtual 145, 3) := by decide +kernel
theorem dX10_kind_5 : decode cX10_kind 5 = .ok (.ifCond .eq 31, 3) := by decide +kernel
theorem dX10_kind_8 : decode cX10_kind 8 = .ok (.aload_n 0, 1) := by decide +kernel
theorem dX10_kind_9 : decode cX10_kind 9 = .ok (.getfield 9, 3) := by decide +kernel
theorem dX10_kind_12 : decode cX10_kind 12 = .ok (.aload_n 0, 1) := by decide +kernel
theorem dX10_kind_13 : decode cX10_kind 13 = .ok (.iload_n 1, 1) := by decide +kernel
theorem dX10_kind_14 : decode cX10_kind 14 = .ok (.iconst 1, 1) := by decide +kernel
theorem dX10_kind_15 : decode cX10_kind 15 = .ok (.invokevirtual 126, 3) := by decide +kernel
theorem dX10_kind_18 : decode cX10_kind 18 = .ok (.iaload, 1) := by decide +kernel
theorem dX10_kind_19 : decode cX10_kind 19 = .ok (.aload_n 0, 1) := by decide +kernel
theorem dX10_kind_20 : decode cX10_kind 20 = .ok (.getfield 9, 3) := by decide +kernel
theorem dX10_kind_23 : decode cX10_kind 23 = .ok (.aload_n 0, 1) := by decide +kernel
theorem dX10_kind_24 : decode cX10_kind 24 = .ok (.iload_n 1, 1) := by decide +kernel
theorem dX10_kind_25 : decode cX10_kind 25 = .ok (.iconst 2, 1) := by decide +kernel
theorem dX10_kind_26 : decode cX10_kind 26 = .ok (.invokevirtual 126, 3) := by decide +kernel
theorem dX10_kind_29 : decode cX10_kind 29 = .ok (.iaload, 1) := by decide +kernel
theorem dX10_kind_30 : decode cX10_kind 30 = .ok (.invokestatic 160, 3) := by decide +kernel
theorem dX10_kind_33 : decode cX10_kind 33 = .ok (.goto 8, 3) := by decide +kernel
theorem dX10_kind_36 : decode cX10_kind 36 = .ok (.aload_n 0, 1) := by decide +kernel
theorem dX10_kind_37 : decode cX10_kind 37 = .ok (.iconst 0, 1) := by decide +kernel
theorem dX10_kind_38 : decode cX10_kind 38 = .ok (.invokevirtual 89, 3) := by decide +kernel
theorem dX10_kind_41 : decode cX10_kind 41 = .ok (.ireturn, 1) := by decide +kernel
theorem dX10_worthOf_0 : decode cX10_worthOf 0 = .ok (.aload_n 0, 1) := by decide +kernel
theorem dX10_worthOf_1 : decode cX10_worthOf 1 = .ok (.iload_n 1, 1) := by decide +kernel
theorem dX10_worthOf_2 : decode cX10_worthOf 2 = .ok (.invokevirtual 148, 3) := by decide +kernel
theorem dX10_worthOf_5 : decode cX10_worthOf 5 = .ok (.istore_n 2, 1) := by decide +kernel
theorem dX10_worthOf_6 : decode cX10_worthOf 6 = .ok (.iload_n 2, 1) := by decide +kernel
theorem dX10_worthOf_7 : decode cX10_worthOf 7 = .ok (.invokestatic 79, 3) := by decide +kernel
theorem dX10_worthOf_10 : decode cX10_worthOf 10 = .ok (.aload_n 0, 1) := by decide +kernel
theorem dX10_worthOf_11 : decode cX10_worthOf 11 = .ok (.iload_n 2, 1) := by decide +kernel
theorem dX10_worthOf_12 : decode cX10_worthOf 12 = .ok (.invokevirtual 123, 3) := by decide +kernel
theorem dX10_worthOf_15 : decode cX10_worthOf 15 = .ok (.ifCond .lt 16, 3) := by decide +kernel
theorem dX10_worthOf_18 : decode cX10_worthOf 18 = .ok (.aload_n 0, 1) := by decide +kernel
theorem dX10_worthOf_19 : decode cX10_worthOf 19 = .ok (.iload_n 1, 1) := by decide +kernel
theorem dX10_worthOf_20 : decode cX10_worthOf 20 = .ok (.invokevirtual 157, 3) := by decide +kernel
theorem dX10_worthOf_23 : decode cX10_worthOf 23 = .ok (.ifCond .ne 8, 3) := by decide +kernel
theorem dX10_worthOf_26 : decode cX10_worthOf 26 = .ok (.bipush 10, 2) := by decide +kernel
theorem dX10_worthOf_28 : decode cX10_worthOf 28 = .ok (.goto 4, 3) := by decide +kernel
theorem dX10_worthOf_31 : decode cX10_worthOf 31 = .ok (.iconst 0, 1) := by decide +kernel
theorem dX10_worthOf_32 : decode cX10_worthOf 32 = .ok (.iadd, 1) := by decide +kernel
theorem dX10_worthOf_33 : decode cX10_worthOf 33 = .ok (.ireturn, 1) := by decide +kernel
theorem dX10_bestSet_0 : decode cX10_bestSet 0 = .ok (.iconst 0, 1) := by decide +kernel
theorem dX10_bestSet_1 : decode cX10_bestSet 1 = .ok (.istore_n 2, 1) := by decide +kernel
theorem dX10_bestSet_2 : decode cX10_bestSet 2 = .ok (.iload_n 2, 1) := by decide +kernel
theorem dX10_bestSet_3 : decode cX10_bestSet 3 = .ok (.aload_n 0, 1) := by decide +kernel
theorem dX10_bestSet_4 : decode cX10_bestSet 4 = .ok (.getfield 9, 3) := by decide +kernel
theorem dX10_bestSet_7 : decode cX10_bestSet 7 = .ok (.iconst 2, 1) := by decide +kernel
theorem dX10_bestSet_8 : decode cX10_bestSet 8 = .ok (.iaload, 1) := by decide +kernel
theorem dX10_bestSet_9 : decode cX10_bestSet 9 = .ok (.if_icmp .ge 31, 3) := by decide +kernel
theorem dX10_bestSet_12 : decode cX10_bestSet 12 = .ok (.aload_n 0, 1) := by decide +kernel
theorem dX10_bestSet_13 : decode cX10_bestSet 13 = .ok (.getfield 25, 3) := by decide +kernel
theorem dX10_bestSet_16 : decode cX10_bestSet 16 = .ok (.iload_n 2, 1) := by decide +kernel
theorem dX10_bestSet_17 : decode cX10_bestSet 17 = .ok (.aload_n 0, 1) := by decide +kernel
theorem dX10_bestSet_18 : decode cX10_bestSet 18 = .ok (.iload_n 2, 1) := by decide +kernel
theorem dX10_bestSet_19 : decode cX10_bestSet 19 = .ok (.invokevirtual 163, 3) := by decide +kernel
theorem dX10_bestSet_22 : decode cX10_bestSet 22 = .ok (.iastore, 1) := by decide +kernel
theorem dX10_bestSet_23 : decode cX10_bestSet 23 = .ok (.aload_n 0, 1) := by decide +kernel
theorem dX10_bestSet_24 : decode cX10_bestSet 24 = .ok (.getfield 28, 3) := by decide +kernel
theorem dX10_bestSet_27 : decode cX10_bestSet 27 = .ok (.iload_n 2, 1) := by decide +kernel
theorem dX10_bestSet_28 : decode cX10_bestSet 28 = .ok (.aload_n 0, 1) := by decide +kernel
theorem dX10_bestSet_29 : decode cX10_bestSet 29 = .ok (.iload_n 2, 1) := by decide +kernel
theorem dX10_bestSet_30 : decode cX10_bestSet 30 = .ok (.invokevirtual 151, 3) := by decide +kernel
theorem dX10_bestSet_33 : decode cX10_bestSet 33 = .ok (.iastore, 1) := by decide +kernel
theorem dX10_bestSet_34 : decode cX10_bestSet 34 = .ok (.iinc 2 1, 3) := by decide +kernel
theorem dX10_bestSet_37 : decode cX10_bestSet 37 = .ok (.goto (-35), 3) := by decide +kernel
theorem dX10_bestSet_40 : decode cX10_bestSet 40 = .ok (.iconst 0, 1) := by decide +kernel
theorem dX10_bestSet_41 : decode cX10_bestSet 41 = .ok (.istore_n 2, 1) := by decide +kernel
theorem dX10_bestSet_42 : decode cX10_bestSet 42 = .ok (.aload_n 0, 1) := by decide +kernel
theorem dX10_bestSet_43 : decode cX10_bestSet 43 = .ok (.iconst 0, 1) := by decide +kernel
theorem dX10_bestSet_44 : decode cX10_bestSet 44 = .ok (.putfield 166, 3) := by decide +kernel
theorem dX10_bestSet_47 : decode cX10_bestSet 47 = .ok (.iconst 1, 1) := by decide +kernel
theorem dX10_bestSet_48 : decode cX10_bestSet 48 = .ok (.istore_n 3, 1) := by decide +kernel
theorem dX10_bestSet_49 : decode cX10_bestSet 49 = .ok (.iload_n 3, 1) := by decide +kernel
theorem dX10_bestSet_50 : decode cX10_bestSet 50 = .ok (.iconst 1, 1) := by decide +kernel
theorem dX10_bestSet_51 : decode cX10_bestSet 51 = .ok (.aload_n 0, 1) := by decide +kernel
theorem dX10_bestSet_52 : decode cX10_bestSet 52 = .ok (.getfield 9, 3) := by decide +kernel
theorem dX10_bestSet_55 : decode cX10_bestSet 55 = .ok (.iconst 2, 1) := by decide +kernel
theorem dX10_bestSet_56 : decode cX10_bestSet 56 = .ok (.iaload, 1) := by decide +kernel
theorem dX10_bestSet_57 : decode cX10_bestSet 57 = .ok (.ishl, 1) := by decide +kernel
theorem dX10_bestSet_58 : decode cX10_bestSet 58 = .ok (.if_icmp .ge 108, 3) := by decide +kernel
theorem dX10_bestSet_61 : decode cX10_bestSet 61 = .ok (.iconst 0, 1) := by decide +kernel
theorem dX10_bestSet_62 : decode cX10_bestSet 62 = .ok (.istore 4, 2) := by decide +kernel
theorem dX10_bestSet_64 : decode cX10_bestSet 64 = .ok (.iconst 0, 1) := by decide +kernel
theorem dX10_bestSet_65 : decode cX10_bestSet 65 = .ok (.istore 5, 2) := by decide +kernel
theorem dX10_bestSet_67 : decode cX10_bestSet 67 = .ok (.iconst 0, 1) := by decide +kernel
theorem dX10_bestSet_68 : decode cX10_bestSet 68 = .ok (.istore 6, 2) := by decide +kernel
theorem dX10_bestSet_70 : decode cX10_bestSet 70 = .ok (.iload 6, 2) := by decide +kernel
theorem dX10_bestSet_72 : decode cX10_bestSet 72 = .ok (.aload_n 0, 1) := by decide +kernel
theorem dX10_bestSet_73 : decode cX10_bestSet 73 = .ok (.getfield 9, 3) := by decide +kernel
theorem dX10_bestSet_76 : decode cX10_bestSet 76 = .ok (.iconst 2, 1) := by decide +kernel
theorem dX10_bestSet_77 : decode cX10_bestSet 77 = .ok (.iaload, 1) := by decide +kernel
theorem dX10_bestSet_78 : decode cX10_bestSet 78 = .ok (.if_icmp .ge 59, 3) := by decide +kernel
theorem dX10_bestSet_81 : decode cX10_bestSet 81 = .ok (.iload 4, 2) := by decide +kernel
theorem dX10_bestSet_83 : decode cX10_bestSet 83 = .ok (.iload_n 3, 1) := by decide +kernel
theorem dX10_bestSet_84 : decode cX10_bestSet 84 = .ok (.iload 6, 2) := by decide +kernel
theorem dX10_bestSet_86 : decode cX10_bestSet 86 = .ok (.invokestatic 59, 3) := by decide +kernel
theorem dX10_bestSet_89 : decode cX10_bestSet 89 = .ok (.ifCond .eq 13, 3) := by decide +kernel
theorem dX10_bestSet_92 : decode cX10_bestSet 92 = .ok (.aload_n 0, 1) := by decide +kernel
theorem dX10_bestSet_93 : decode cX10_bestSet 93 = .ok (.getfield 25, 3) := by decide +kernel
theorem dX10_bestSet_96 : decode cX10_bestSet 96 = .ok (.iload 6, 2) := by decide +kernel
theorem dX10_bestSet_98 : decode cX10_bestSet 98 = .ok (.iaload, 1) := by decide +kernel
theorem dX10_bestSet_99 : decode cX10_bestSet 99 = .ok (.goto 4, 3) := by decide +kernel
theorem dX10_bestSet_102 : decode cX10_bestSet 102 = .ok (.iconst 0, 1) := by decide +kernel
theorem dX10_bestSet_103 : decode cX10_bestSet 103 = .ok (.iadd, 1) := by decide +kernel
theorem dX10_bestSet_104 : decode cX10_bestSet 104 = .ok (.istore 4, 2) := by decide +kernel
theorem dX10_bestSet_106 : decode cX10_bestSet 106 = .ok (.iload 5, 2) := by decide +kernel
theorem dX10_bestSet_108 : decode cX10_bestSet 108 = .ok (.iload_n 3, 1) := by decide +kernel
theorem dX10_bestSet_109 : decode cX10_bestSet 109 = .ok (.iload 6, 2) := by decide +kernel
theorem dX10_bestSet_111 : decode cX10_bestSet 111 = .ok (.invokestatic 59, 3) := by decide +kernel
theorem dX10_bestSet_114 : decode cX10_bestSet 114 = .ok (.ifCond .eq 13, 3) := by decide +kernel
theorem dX10_bestSet_117 : decode cX10_bestSet 117 = .ok (.aload_n 0, 1) := by decide +kernel
theorem dX10_bestSet_118 : decode cX10_bestSet 118 = .ok (.getfield 28, 3) := by decide +kernel
theorem dX10_bestSet_121 : decode cX10_bestSet 121 = .ok (.iload 6, 2) := by decide +kernel
theorem dX10_bestSet_123 : decode cX10_bestSet 123 = .ok (.iaload, 1) := by decide +kernel
theorem dX10_bestSet_124 : decode cX10_bestSet 124 = .ok (.goto 4, 3) := by decide +kernel
theorem dX10_bestSet_127 : decode cX10_bestSet 127 = .ok (.iconst 0, 1) := by decide +kernel
theorem dX10_bestSet_128 : decode cX10_bestSet 128 = .ok (.iadd, 1) := by decide +kernel
theorem dX10_bestSet_129 : decode cX10_bestSet 129 = .ok (.istore 5, 2) := by decide +kernel
theorem dX10_bestSet_131 : decode cX10_bestSet 131 = .ok (.iinc 6 1, 3) := by decide +kernel
theorem dX10_bestSet_134 : decode cX10_bestSet 134 = .ok (.goto (-64), 3) := by decide +kernel
theorem dX10_bestSet_137 : decode cX10_bestSet 137 = .ok (.iload 5, 2) := by decide +kernel
theorem dX10_bestSet_139 : decode cX10_bestSet 139 = .ok (.iload_n 1, 1) := by decide +kernel
theorem dX10_bestSet_140 : decode cX10_bestSet 140 = .ok (.if_icmp .gt 20, 3) := by decide +kernel
theorem dX10_bestSet_143 : decode cX10_bestSet 143 = .ok (.iload 4, 2) := by decide +kernel
theorem dX10_bestSet_145 : decode cX10_bestSet 145 = .ok (.aload_n 0, 1) := by decide +kernel
theorem dX10_bestSet_146 : decode cX10_bestSet 146 = .ok (.getfield 166, 3) := by decide +kernel
theorem dX10_bestSet_149 : decode cX10_bestSet 149 = .ok (.if_icmp .le 11, 3) := by decide +kernel
theorem dX10_bestSet_152 : decode cX10_bestSet 152 = .ok (.aload_n 0, 1) := by decide +kernel
theorem dX10_bestSet_153 : decode cX10_bestSet 153 = .ok (.iload 4, 2) := by decide +kernel
theorem dX10_bestSet_155 : decode cX10_bestSet 155 = .ok (.putfield 166, 3) := by decide +kernel
theorem dX10_bestSet_158 : decode cX10_bestSet 158 = .ok (.iload_n 3, 1) := by decide +kernel
theorem dX10_bestSet_159 : decode cX10_bestSet 159 = .ok (.istore_n 2, 1) := by decide +kernel
theorem dX10_bestSet_160 : decode cX10_bestSet 160 = .ok (.iinc 3 1, 3) := by decide +kernel
theorem dX10_bestSet_163 : decode cX10_bestSet 163 = .ok (.goto (-114), 3) := by decide +kernel
theorem dX10_bestSet_166 : decode cX10_bestSet 166 = .ok (.iload_n 2, 1) := by decide +kernel
theorem dX10_bestSet_167 : decode cX10_bestSet 167 = .ok (.ireturn, 1) := by decide +kernel
theorem dX10_best_0 : decode cX10_best 0 = .ok (.iload_n 1, 1) := by decide +kernel
theorem dX10_best_1 : decode cX10_best 1 = .ok (.iconst 0, 1) := by decide +kernel
theorem dX10_best_2 : decode cX10_best 2 = .ok (.sipush 9999, 3) := by decide +kernel
theorem dX10_best_5 : decode cX10_best 5 = .ok (.invokestatic 48, 3) := by decide +kernel
theorem dX10_best_8 : decode cX10_best 8 = .ok (.ifCond .eq 11, 3) := by decide +kernel
theorem dX10_best_11 : decode cX10_best 11 = .ok (.aload_n 0, 1) := by decide +kernel
theorem dX10_best_12 : decode cX10_best 12 = .ok (.iload_n 1, 1) := by decide +kernel
theorem dX10_best_13 : decode cX10_best 13 = .ok (.invokevirtual 170, 3) := by decide +kernel
theorem dX10_best_16 : decode cX10_best 16 = .ok (.goto 8, 3) := by decide +kernel
theorem dX10_best_19 : decode cX10_best 19 = .ok (.aload_n 0, 1) := by decide +kernel
theorem dX10_best_20 : decode cX10_best 20 = .ok (.iconst 0, 1) := by decide +kernel
theorem dX10_best_21 : decode cX10_best 21 = .ok (.invokevirtual 89, 3) := by decide +kernel
theorem dX10_best_24 : decode cX10_best 24 = .ok (.ireturn, 1) := by decide +kernel
theorem dX10_worth_0 : decode cX10_worth 0 = .ok (.iload_n 1, 1) := by decide +kernel
theorem dX10_worth_1 : decode cX10_worth 1 = .ok (.iconst 0, 1) := by decide +kernel
theorem dX10_worth_2 : decode cX10_worth 2 = .ok (.sipush 9999, 3) := by decide +kernel
theorem dX10_worth_5 : decode cX10_worth 5 = .ok (.invokestatic 48, 3) := by decide +kernel
theorem dX10_worth_8 : decode cX10_worth 8 = .ok (.ifCond .ne 9, 3) := by decide +kernel
theorem dX10_worth_11 : decode cX10_worth 11 = .ok (.aload_n 0, 1) := by decide +kernel
theorem dX10_worth_12 : decode cX10_worth 12 = .ok (.iconst 0, 1) := by decide +kernel
theorem dX10_worth_13 : decode cX10_worth 13 = .ok (.invokevirtual 89, 3) := by decide +kernel
theorem dX10_worth_16 : decode cX10_worth 16 = .ok (.ireturn, 1) := by decide +kernel
theorem dX10_worth_17 : decode cX10_worth 17 = .ok (.aload_n 0, 1) := by decide +kernel
theorem dX10_worth_18 : decode cX10_worth 18 = .ok (.iload_n 1, 1) := by decide +kernel
theorem dX10_worth_19 : decode cX10_worth 19 = .ok (.invokevirtual 170, 3) := by decide +kernel
theorem dX10_worth_22 : decode cX10_worth 22 = .ok (.pop, 1) := by decide +kernel
theorem dX10_worth_23 : decode cX10_worth 23 = .ok (.aload_n 0, 1) := by decide +kernel
theorem dX10_worth_24 : decode cX10_worth 24 = .ok (.getfield 166, 3) := by decide +kernel
theorem dX10_worth_27 : decode cX10_worth 27 = .ok (.ireturn, 1) := by decide +kernel
theorem dX10_meant_0 : decode cX10_meant 0 = .ok (.aload_n 0, 1) := by decide +kernel
theorem dX10_meant_1 : decode cX10_meant 1 = .ok (.iload_n 1, 1) := by decide +kernel
theorem dX10_meant_2 : decode cX10_meant 2 = .ok (.invokevirtual 145, 3) := by decide +kernel
theorem dX10_meant_5 : decode cX10_meant 5 = .ok (.ifCond .ne 9, 3) := by decide +kernel
theorem dX10_meant_8 : decode cX10_meant 8 = .ok (.aload_n 0, 1) := by decide +kernel
theorem dX10_meant_9 : decode cX10_meant 9 = .ok (.iconst 0, 1) := by decide +kernel
theorem dX10_meant_10 : decode cX10_meant 10 = .ok (.invokevirtual 89, 3) := by decide +kernel
theorem dX10_meant_13 : decode cX10_meant 13 = .ok (.ireturn, 1) := by decide +kernel
theorem dX10_meant_14 : decode cX10_meant 14 = .ok (.aload_n 0, 1) := by decide +kernel
theorem dX10_meant_15 : decode cX10_meant 15 = .ok (.iload_n 1, 1) := by decide +kernel
theorem dX10_meant_16 : decode cX10_meant 16 = .ok (.invokevirtual 148, 3) := by decide +kernel
theorem dX10_meant_19 : decode cX10_meant 19 = .ok (.istore_n 2, 1) := by decide +kernel
theorem dX10_meant_20 : decode cX10_meant 20 = .ok (.iconst 0, 1) := by decide +kernel
theorem dX10_meant_21 : decode cX10_meant 21 = .ok (.istore_n 3, 1) := by decide +kernel
theorem dX10_meant_22 : decode cX10_meant 22 = .ok (.iconst 0, 1) := by decide +kernel
theorem dX10_meant_23 : decode cX10_meant 23 = .ok (.istore 4, 2) := by decide +kernel
theorem dX10_meant_25 : decode cX10_meant 25 = .ok (.iload 4, 2) := by decide +kernel
theorem dX10_meant_27 : decode cX10_meant 27 = .ok (.bipush 26, 2) := by decide +kernel
theorem dX10_meant_29 : decode cX10_meant 29 = .ok (.if_icmp .ge 63, 3) := by decide +kernel
theorem dX10_meant_32 : decode cX10_meant 32 = .ok (.aload_n 0, 1) := by decide +kernel
theorem dX10_meant_33 : decode cX10_meant 33 = .ok (.getfield 9, 3) := by decide +kernel
theorem dX10_meant_36 : decode cX10_meant 36 = .ok (.iconst 3, 1) := by decide +kernel
theorem dX10_meant_37 : decode cX10_meant 37 = .ok (.iload 4, 2) := by decide +kernel
theorem dX10_meant_39 : decode cX10_meant 39 = .ok (.iadd, 1) := by decide +kernel
theorem dX10_meant_40 : decode cX10_meant 40 = .ok (.iaload, 1) := by decide +kernel
theorem dX10_meant_41 : decode cX10_meant 41 = .ok (.istore 5, 2) := by decide +kernel
theorem dX10_meant_43 : decode cX10_meant 43 = .ok (.iload_n 3, 1) := by decide +kernel
theorem dX10_meant_44 : decode cX10_meant 44 = .ok (.iload 5, 2) := by decide +kernel
theorem dX10_meant_46 : decode cX10_meant 46 = .ok (.ifCond .eq 37, 3) := by decide +kernel
theorem dX10_meant_49 : decode cX10_meant 49 = .ok (.iload_n 2, 1) := by decide +kernel
theorem dX10_meant_50 : decode cX10_meant 50 = .ok (.iload 5, 2) := by decide +kernel
theorem dX10_meant_52 : decode cX10_meant 52 = .ok (.iconst (-1), 1) := by decide +kernel
theorem dX10_meant_53 : decode cX10_meant 53 = .ok (.ixor, 1) := by decide +kernel
theorem dX10_meant_54 : decode cX10_meant 54 = .ok (.iand, 1) := by decide +kernel
theorem dX10_meant_55 : decode cX10_meant 55 = .ok (.ifCond .ne 28, 3) := by decide +kernel
theorem dX10_meant_58 : decode cX10_meant 58 = .ok (.iload 5, 2) := by decide +kernel
theorem dX10_meant_60 : decode cX10_meant 60 = .ok (.iload_n 2, 1) := by decide +kernel
theorem dX10_meant_61 : decode cX10_meant 61 = .ok (.iconst (-1), 1) := by decide +kernel
theorem dX10_meant_62 : decode cX10_meant 62 = .ok (.ixor, 1) := by decide +kernel
theorem dX10_meant_63 : decode cX10_meant 63 = .ok (.iand, 1) := by decide +kernel
theorem dX10_meant_64 : decode cX10_meant 64 = .ok (.aload_n 0, 1) := by decide +kernel
theorem dX10_meant_65 : decode cX10_meant 65 = .ok (.getfield 9, 3) := by decide +kernel
theorem dX10_meant_68 : decode cX10_meant 68 = .ok (.iconst 1, 1) := by decide +kernel
theorem dX10_meant_69 : decode cX10_meant 69 = .ok (.iaload, 1) := by decide +kernel
theorem dX10_meant_70 : decode cX10_meant 70 = .ok (.iconst (-1), 1) := by decide +kernel
theorem dX10_meant_71 : decode cX10_meant 71 = .ok (.ixor, 1) := by decide +kernel
theorem dX10_meant_72 : decode cX10_meant 72 = .ok (.iand, 1) := by decide +kernel
theorem dX10_meant_73 : decode cX10_meant 73 = .ok (.ifCond .ne 10, 3) := by decide +kernel
theorem dX10_meant_76 : decode cX10_meant 76 = .ok (.iconst 1, 1) := by decide +kernel
theorem dX10_meant_77 : decode cX10_meant 77 = .ok (.iload 4, 2) := by decide +kernel
theorem dX10_meant_79 : decode cX10_meant 79 = .ok (.ishl, 1) := by decide +kernel
theorem dX10_meant_80 : decode cX10_meant 80 = .ok (.goto 4, 3) := by decide +kernel
theorem dX10_meant_83 : decode cX10_meant 83 = .ok (.iconst 0, 1) := by decide +kernel
theorem dX10_meant_84 : decode cX10_meant 84 = .ok (.ior, 1) := by decide +kernel
theorem dX10_meant_85 : decode cX10_meant 85 = .ok (.istore_n 3, 1) := by decide +kernel
theorem dX10_meant_86 : decode cX10_meant 86 = .ok (.iinc 4 1, 3) := by decide +kernel
theorem dX10_meant_89 : decode cX10_meant 89 = .ok (.goto (-64), 3) := by decide +kernel
theorem dX10_meant_92 : decode cX10_meant 92 = .ok (.iload_n 3, 1) := by decide +kernel
theorem dX10_meant_93 : decode cX10_meant 93 = .ok (.ireturn, 1) := by decide +kernel
theorem dX10_cheap_0 : decode cX10_cheap 0 = .ok (.iload_n 1, 1) := by decide +kernel
theorem dX10_cheap_1 : decode cX10_cheap 1 = .ok (.invokestatic 129, 3) := by decide +kernel
theorem dX10_cheap_4 : decode cX10_cheap 4 = .ok (.ifCond .ne 9, 3) := by decide +kernel
theorem dX10_cheap_7 : decode cX10_cheap 7 = .ok (.aload_n 0, 1) := by decide +kernel
theorem dX10_cheap_8 : decode cX10_cheap 8 = .ok (.iconst 0, 1) := by decide +kernel
theorem dX10_cheap_9 : decode cX10_cheap 9 = .ok (.invokevirtual 89, 3) := by decide +kernel
theorem dX10_cheap_12 : decode cX10_cheap 12 = .ok (.ireturn, 1) := by decide +kernel
theorem dX10_cheap_13 : decode cX10_cheap 13 = .ok (.iconst (-1), 1) := by decide +kernel
theorem dX10_cheap_14 : decode cX10_cheap 14 = .ok (.istore_n 2, 1) := by decide +kernel
theorem dX10_cheap_15 : decode cX10_cheap 15 = .ok (.bipush 25, 2) := by decide +kernel
theorem dX10_cheap_17 : decode cX10_cheap 17 = .ok (.istore_n 3, 1) := by decide +kernel
theorem dX10_cheap_18 : decode cX10_cheap 18 = .ok (.iload_n 3, 1) := by decide +kernel
theorem dX10_cheap_19 : decode cX10_cheap 19 = .ok (.ifCond .lt 51, 3) := by decide +kernel
theorem dX10_cheap_22 : decode cX10_cheap 22 = .ok (.aload_n 0, 1) := by decide +kernel
theorem dX10_cheap_23 : decode cX10_cheap 23 = .ok (.getfield 9, 3) := by decide +kernel
theorem dX10_cheap_26 : decode cX10_cheap 26 = .ok (.iconst 3, 1) := by decide +kernel
theorem dX10_cheap_27 : decode cX10_cheap 27 = .ok (.iload_n 3, 1) := by decide +kernel
theorem dX10_cheap_28 : decode cX10_cheap 28 = .ok (.iadd, 1) := by decide +kernel
theorem dX10_cheap_29 : decode cX10_cheap 29 = .ok (.iaload, 1) := by decide +kernel
theorem dX10_cheap_30 : decode cX10_cheap 30 = .ok (.istore 4, 2) := by decide +kernel
theorem dX10_cheap_32 : decode cX10_cheap 32 = .ok (.iload 4, 2) := by decide +kernel
theorem dX10_cheap_34 : decode cX10_cheap 34 = .ok (.ifCond .eq 30, 3) := by decide +kernel
theorem dX10_cheap_37 : decode cX10_cheap 37 = .ok (.iload_n 2, 1) := by decide +kernel
theorem dX10_cheap_38 : decode cX10_cheap 38 = .ok (.ifCond .lt 24, 3) := by decide +kernel
theorem dX10_cheap_41 : decode cX10_cheap 41 = .ok (.iload_n 1, 1) := by decide +kernel
theorem dX10_cheap_42 : decode cX10_cheap 42 = .ok (.iload 4, 2) := by decide +kernel
theorem dX10_cheap_44 : decode cX10_cheap 44 = .ok (.invokestatic 142, 3) := by decide +kernel
theorem dX10_cheap_47 : decode cX10_cheap 47 = .ok (.iload_n 1, 1) := by decide +kernel
theorem dX10_cheap_48 : decode cX10_cheap 48 = .ok (.aload_n 0, 1) := by decide +kernel
theorem dX10_cheap_49 : decode cX10_cheap 49 = .ok (.getfield 9, 3) := by decide +kernel
theorem dX10_cheap_52 : decode cX10_cheap 52 = .ok (.iconst 3, 1) := by decide +kernel
theorem dX10_cheap_53 : decode cX10_cheap 53 = .ok (.iload_n 2, 1) := by decide +kernel
theorem dX10_cheap_54 : decode cX10_cheap 54 = .ok (.iadd, 1) := by decide +kernel
theorem dX10_cheap_55 : decode cX10_cheap 55 = .ok (.iaload, 1) := by decide +kernel
theorem dX10_cheap_56 : decode cX10_cheap 56 = .ok (.invokestatic 142, 3) := by decide +kernel
theorem dX10_cheap_59 : decode cX10_cheap 59 = .ok (.if_icmp .gt 5, 3) := by decide +kernel
theorem dX10_cheap_62 : decode cX10_cheap 62 = .ok (.iload_n 3, 1) := by decide +kernel
theorem dX10_cheap_63 : decode cX10_cheap 63 = .ok (.istore_n 2, 1) := by decide +kernel
theorem dX10_cheap_64 : decode cX10_cheap 64 = .ok (.iinc 3 (-1), 3) := by decide +kernel
theorem dX10_cheap_67 : decode cX10_cheap 67 = .ok (.goto (-49), 3) := by decide +kernel
theorem dX10_cheap_70 : decode cX10_cheap 70 = .ok (.iload_n 2, 1) := by decide +kernel
theorem dX10_cheap_71 : decode cX10_cheap 71 = .ok (.ifCond .ge 11, 3) := by decide +kernel
theorem dX10_cheap_74 : decode cX10_cheap 74 = .ok (.aload_n 0, 1) := by decide +kernel
theorem dX10_cheap_75 : decode cX10_cheap 75 = .ok (.iconst 3, 1) := by decide +kernel
theorem dX10_cheap_76 : decode cX10_cheap 76 = .ok (.invokevirtual 89, 3) := by decide +kernel
theorem dX10_cheap_79 : decode cX10_cheap 79 = .ok (.goto 4, 3) := by decide +kernel
theorem dX10_cheap_82 : decode cX10_cheap 82 = .ok (.iload_n 2, 1) := by decide +kernel
theorem dX10_cheap_83 : decode cX10_cheap 83 = .ok (.ireturn, 1) := by decide +kernel
theorem dX10_feed_0 : decode cX10_feed 0 = .ok (.iload_n 2, 1) := by decide +kernel
theorem dX10_feed_1 : decode cX10_feed 1 = .ok (.iconst 1, 1) := by decide +kernel
theorem dX10_feed_2 : decode cX10_feed 2 = .ok (.iconst 4, 1) := by decide +kernel
theorem dX10_feed_3 : decode cX10_feed 3 = .ok (.invokestatic 48, 3) := by decide +kernel
theorem dX10_feed_6 : decode cX10_feed 6 = .ok (.ifCond .ne 9, 3) := by decide +kernel
theorem dX10_feed_9 : decode cX10_feed 9 = .ok (.aload_n 0, 1) := by decide +kernel
theorem dX10_feed_10 : decode cX10_feed 10 = .ok (.iconst 0, 1) := by decide +kernel
theorem dX10_feed_11 : decode cX10_feed 11 = .ok (.invokevirtual 89, 3) := by decide +kernel
theorem dX10_feed_14 : decode cX10_feed 14 = .ok (.ireturn, 1) := by decide +kernel
theorem dX10_feed_15 : decode cX10_feed 15 = .ok (.aload_n 0, 1) := by decide +kernel
theorem dX10_feed_16 : decode cX10_feed 16 = .ok (.getfield 173, 3) := by decide +kernel
theorem dX10_feed_19 : decode cX10_feed 19 = .ok (.iload_n 2, 1) := by decide +kernel
theorem dX10_feed_20 : decode cX10_feed 20 = .ok (.iadd, 1) := by decide +kernel
theorem dX10_feed_21 : decode cX10_feed 21 = .ok (.bipush 120, 2) := by decide +kernel
theorem dX10_feed_23 : decode cX10_feed 23 = .ok (.if_icmp .le 9, 3) := by decide +kernel
theorem dX10_feed_26 : decode cX10_feed 26 = .ok (.aload_n 0, 1) := by decide +kernel
theorem dX10_feed_27 : decode cX10_feed 27 = .ok (.iconst 1, 1) := by decide +kernel
theorem dX10_feed_28 : decode cX10_feed 28 = .ok (.invokevirtual 89, 3) := by decide +kernel
theorem dX10_feed_31 : decode cX10_feed 31 = .ok (.ireturn, 1) := by decide +kernel
theorem dX10_feed_32 : decode cX10_feed 32 = .ok (.iload_n 2, 1) := by decide +kernel
theorem dX10_feed_33 : decode cX10_feed 33 = .ok (.iconst 1, 1) := by decide +kernel
theorem dX10_feed_34 : decode cX10_feed 34 = .ok (.isub, 1) := by decide +kernel
theorem dX10_feed_35 : decode cX10_feed 35 = .ok (.istore_n 3, 1) := by decide +kernel
theorem dX10_feed_36 : decode cX10_feed 36 = .ok (.iload_n 3, 1) := by decide +kernel
theorem dX10_feed_37 : decode cX10_feed 37 = .ok (.ifCond .lt 38, 3) := by decide +kernel
theorem dX10_feed_40 : decode cX10_feed 40 = .ok (.aload_n 0, 1) := by decide +kernel
theorem dX10_feed_41 : decode cX10_feed 41 = .ok (.getfield 31, 3) := by decide +kernel
theorem dX10_feed_44 : decode cX10_feed 44 = .ok (.aload_n 0, 1) := by decide +kernel
theorem dX10_feed_45 : decode cX10_feed 45 = .ok (.getfield 173, 3) := by decide +kernel
theorem dX10_feed_48 : decode cX10_feed 48 = .ok (.iload_n 1, 1) := by decide +kernel
theorem dX10_feed_49 : decode cX10_feed 49 = .ok (.bipush 8, 2) := by decide +kernel
theorem dX10_feed_51 : decode cX10_feed 51 = .ok (.iload_n 3, 1) := by decide +kernel
theorem dX10_feed_52 : decode cX10_feed 52 = .ok (.imul, 1) := by decide +kernel
theorem dX10_feed_53 : decode cX10_feed 53 = .ok (.ishr, 1) := by decide +kernel
theorem dX10_feed_54 : decode cX10_feed 54 = .ok (.sipush 255, 3) := by decide +kernel
theorem dX10_feed_57 : decode cX10_feed 57 = .ok (.iand, 1) := by decide +kernel
theorem dX10_feed_58 : decode cX10_feed 58 = .ok (.iastore, 1) := by decide +kernel
theorem dX10_feed_59 : decode cX10_feed 59 = .ok (.aload_n 0, 1) := by decide +kernel
theorem dX10_feed_60 : decode cX10_feed 60 = .ok (.dup, 1) := by decide +kernel
theorem dX10_feed_61 : decode cX10_feed 61 = .ok (.getfield 173, 3) := by decide +kernel
theorem dX10_feed_64 : decode cX10_feed 64 = .ok (.iconst 1, 1) := by decide +kernel
theorem dX10_feed_65 : decode cX10_feed 65 = .ok (.iadd, 1) := by decide +kernel
theorem dX10_feed_66 : decode cX10_feed 66 = .ok (.putfield 173, 3) := by decide +kernel
theorem dX10_feed_69 : decode cX10_feed 69 = .ok (.iinc 3 (-1), 3) := by decide +kernel
theorem dX10_feed_72 : decode cX10_feed 72 = .ok (.goto (-36), 3) := by decide +kernel
theorem dX10_feed_75 : decode cX10_feed 75 = .ok (.aload_n 0, 1) := by decide +kernel
theorem dX10_feed_76 : decode cX10_feed 76 = .ok (.getfield 173, 3) := by decide +kernel
theorem dX10_feed_79 : decode cX10_feed 79 = .ok (.ireturn, 1) := by decide +kernel
theorem dX10_wipe_0 : decode cX10_wipe 0 = .ok (.aload_n 0, 1) := by decide +kernel
theorem dX10_wipe_1 : decode cX10_wipe 1 = .ok (.getfield 173, 3) := by decide +kernel
theorem dX10_wipe_4 : decode cX10_wipe 4 = .ok (.istore_n 1, 1) := by decide +kernel
theorem dX10_wipe_5 : decode cX10_wipe 5 = .ok (.aload_n 0, 1) := by decide +kernel
theorem dX10_wipe_6 : decode cX10_wipe 6 = .ok (.iconst 0, 1) := by decide +kernel
theorem dX10_wipe_7 : decode cX10_wipe 7 = .ok (.putfield 173, 3) := by decide +kernel
theorem dX10_wipe_10 : decode cX10_wipe 10 = .ok (.iload_n 1, 1) := by decide +kernel
theorem dX10_wipe_11 : decode cX10_wipe 11 = .ok (.ireturn, 1) := by decide +kernel
theorem dX10_byteAt_0 : decode cX10_byteAt 0 = .ok (.iload_n 1, 1) := by decide +kernel
theorem dX10_byteAt_1 : decode cX10_byteAt 1 = .ok (.aload_n 0, 1) := by decide +kernel
theorem dX10_byteAt_2 : decode cX10_byteAt 2 = .ok (.getfield 173, 3) := by decide +kernel
theorem dX10_byteAt_5 : decode cX10_byteAt 5 = .ok (.if_icmp .ge 12, 3) := by decide +kernel
theorem dX10_byteAt_8 : decode cX10_byteAt 8 = .ok (.aload_n 0, 1) := by decide +kernel
theorem dX10_byteAt_9 : decode cX10_byteAt 9 = .ok (.getfield 31, 3) := by decide +kernel
theorem dX10_byteAt_12 : decode cX10_byteAt 12 = .ok (.iload_n 1, 1) := by decide +kernel
theorem dX10_byteAt_13 : decode cX10_byteAt 13 = .ok (.iaload, 1) := by decide +kernel
theorem dX10_byteAt_14 : decode cX10_byteAt 14 = .ok (.goto 4, 3) := by decide +kernel
theorem dX10_byteAt_17 : decode cX10_byteAt 17 = .ok (.iconst (-1), 1) := by decide +kernel
theorem dX10_byteAt_18 : decode cX10_byteAt 18 = .ok (.ireturn, 1) := by decide +kernel
theorem dX10_blanks_0 : decode cX10_blanks 0 = .ok (.aload_n 0, 1) := by decide +kernel
theorem dX10_blanks_1 : decode cX10_blanks 1 = .ok (.aload_n 0, 1) := by decide +kernel
theorem dX10_blanks_2 : decode cX10_blanks 2 = .ok (.getfield 176, 3) := by decide +kernel
theorem dX10_blanks_5 : decode cX10_blanks 5 = .ok (.invokevirtual 179, 3) := by decide +kernel
theorem dX10_blanks_8 : decode cX10_blanks 8 = .ok (.bipush 32, 2) := by decide +kernel
theorem dX10_blanks_10 : decode cX10_blanks 10 = .ok (.if_icmp .ne 16, 3) := by decide +kernel
theorem dX10_blanks_13 : decode cX10_blanks 13 = .ok (.aload_n 0, 1) := by decide +kernel
theorem dX10_blanks_14 : decode cX10_blanks 14 = .ok (.dup, 1) := by decide +kernel
theorem dX10_blanks_15 : decode cX10_blanks 15 = .ok (.getfield 176, 3) := by decide +kernel
theorem dX10_blanks_18 : decode cX10_blanks 18 = .ok (.iconst 1, 1) := by decide +kernel
theorem dX10_blanks_19 : decode cX10_blanks 19 = .ok (.iadd, 1) := by decide +kernel
theorem dX10_blanks_20 : decode cX10_blanks 20 = .ok (.putfield 176, 3) := by decide +kernel
theorem dX10_blanks_23 : decode cX10_blanks 23 = .ok (.goto (-23), 3) := by decide +kernel
theorem dX10_blanks_26 : decode cX10_blanks 26 = .ok (.return_, 1) := by decide +kernel
theorem dX10_fails_0 : decode cX10_fails 0 = .ok (.aload_n 0, 1) := by decide +kernel
theorem dX10_fails_1 : decode cX10_fails 1 = .ok (.aload_n 0, 1) := by decide +kernel
theorem dX10_fails_2 : decode cX10_fails 2 = .ok (.getfield 182, 3) := by decide +kernel
theorem dX10_fails_5 : decode cX10_fails 5 = .ok (.ifCond .ge 10, 3) := by decide +kernel
theorem dX10_fails_8 : decode cX10_fails 8 = .ok (.aload_n 0, 1) := by decide +kernel
theorem dX10_fails_9 : decode cX10_fails 9 = .ok (.getfield 176, 3) := by decide +kernel
theorem dX10_fails_12 : decode cX10_fails 12 = .ok (.goto 7, 3) := by decide +kernel
theorem dX10_fails_15 : decode cX10_fails 15 = .ok (.aload_n 0, 1) := by decide +kernel
theorem dX10_fails_16 : decode cX10_fails 16 = .ok (.getfield 182, 3) := by decide +kernel
theorem dX10_fails_19 : decode cX10_fails 19 = .ok (.putfield 182, 3) := by decide +kernel
theorem dX10_fails_22 : decode cX10_fails 22 = .ok (.iconst 0, 1) := by decide +kernel
theorem dX10_fails_23 : decode cX10_fails 23 = .ok (.ireturn, 1) := by decide +kernel
theorem dX10_isLow_0 : decode cX10_isLow 0 = .ok (.iload_n 0, 1) := by decide +kernel
theorem dX10_isLow_1 : decode cX10_isLow 1 = .ok (.bipush 97, 2) := by decide +kernel
theorem dX10_isLow_3 : decode cX10_isLow 3 = .ok (.bipush 122, 2) := by decide +kernel
theorem dX10_isLow_5 : decode cX10_isLow 5 = .ok (.invokestatic 48, 3) := by decide +kernel
theorem dX10_isLow_8 : decode cX10_isLow 8 = .ok (.ireturn, 1) := by decide +kernel
theorem dX10_isDigit_0 : decode cX10_isDigit 0 = .ok (.iload_n 0, 1) := by decide +kernel
theorem dX10_isDigit_1 : decode cX10_isDigit 1 = .ok (.bipush 48, 2) := by decide +kernel
theorem dX10_isDigit_3 : decode cX10_isDigit 3 = .ok (.bipush 57, 2) := by decide +kernel
theorem dX10_isDigit_5 : decode cX10_isDigit 5 = .ok (.invokestatic 48, 3) := by decide +kernel
theorem dX10_isDigit_8 : decode cX10_isDigit 8 = .ok (.ireturn, 1) := by decide +kernel
theorem dX10_wordEnd_0 : decode cX10_wordEnd 0 = .ok (.aload_n 0, 1) := by decide +kernel
theorem dX10_wordEnd_1 : decode cX10_wordEnd 1 = .ok (.getfield 176, 3) := by decide +kernel
theorem dX10_wordEnd_4 : decode cX10_wordEnd 4 = .ok (.istore_n 1, 1) := by decide +kernel
theorem dX10_wordEnd_5 : decode cX10_wordEnd 5 = .ok (.aload_n 0, 1) := by decide +kernel
theorem dX10_wordEnd_6 : decode cX10_wordEnd 6 = .ok (.iload_n 1, 1) := by decide +kernel
theorem dX10_wordEnd_7 : decode cX10_wordEnd 7 = .ok (.invokevirtual 179, 3) := by decide +kernel
theorem dX10_wordEnd_10 : decode cX10_wordEnd 10 = .ok (.invokestatic 185, 3) := by decide +kernel
theorem dX10_wordEnd_13 : decode cX10_wordEnd 13 = .ok (.ifCond .eq 9, 3) := by decide +kernel
theorem dX10_wordEnd_16 : decode cX10_wordEnd 16 = .ok (.iinc 1 1, 3) := by decide +kernel
theorem dX10_wordEnd_19 : decode cX10_wordEnd 19 = .ok (.goto (-14), 3) := by decide +kernel
theorem dX10_wordEnd_22 : decode cX10_wordEnd 22 = .ok (.iload_n 1, 1) := by decide +kernel
theorem dX10_wordEnd_23 : decode cX10_wordEnd 23 = .ok (.ireturn, 1) := by decide +kernel
theorem dX10_isWord_0 : decode cX10_isWord 0 = .ok (.aload_n 0, 1) := by decide +kernel
theorem dX10_isWord_1 : decode cX10_isWord 1 = .ok (.invokevirtual 188, 3) := by decide +kernel
theorem dX10_isWord_4 : decode cX10_isWord 4 = .ok (.aload_n 0, 1) := by decide +kernel
theorem dX10_isWord_5 : decode cX10_isWord 5 = .ok (.invokevirtual 191, 3) := by decide +kernel
theorem dX10_isWord_8 : decode cX10_isWord 8 = .ok (.aload_n 0, 1) := by decide +kernel
theorem dX10_isWord_9 : decode cX10_isWord 9 = .ok (.getfield 176, 3) := by decide +kernel
theorem dX10_isWord_12 : decode cX10_isWord 12 = .ok (.isub, 1) := by decide +kernel
theorem dX10_isWord_13 : decode cX10_isWord 13 = .ok (.aload_n 1, 1) := by decide +kernel
theorem dX10_isWord_14 : decode cX10_isWord 14 = .ok (.invokevirtual 195, 3) := by decide +kernel
theorem dX10_isWord_17 : decode cX10_isWord 17 = .ok (.if_icmp .ne 7, 3) := by decide +kernel
theorem dX10_isWord_20 : decode cX10_isWord 20 = .ok (.iconst 1, 1) := by decide +kernel
theorem dX10_isWord_21 : decode cX10_isWord 21 = .ok (.goto 4, 3) := by decide +kernel
theorem dX10_isWord_24 : decode cX10_isWord 24 = .ok (.iconst 0, 1) := by decide +kernel
theorem dX10_isWord_25 : decode cX10_isWord 25 = .ok (.istore_n 2, 1) := by decide +kernel
theorem dX10_isWord_26 : decode cX10_isWord 26 = .ok (.iconst 0, 1) := by decide +kernel
theorem dX10_isWord_27 : decode cX10_isWord 27 = .ok (.istore_n 3, 1) := by decide +kernel
theorem dX10_isWord_28 : decode cX10_isWord 28 = .ok (.iload_n 3, 1) := by decide +kernel
theorem dX10_isWord_29 : decode cX10_isWord 29 = .ok (.aload_n 1, 1) := by decide +kernel
theorem dX10_isWord_30 : decode cX10_isWord 30 = .ok (.invokevirtual 195, 3) := by decide +kernel
theorem dX10_isWord_33 : decode cX10_isWord 33 = .ok (.if_icmp .ge 37, 3) := by decide +kernel
theorem dX10_isWord_36 : decode cX10_isWord 36 = .ok (.iload_n 2, 1) := by decide +kernel
theorem dX10_isWord_37 : decode cX10_isWord 37 = .ok (.ifCond .eq 33, 3) := by decide +kernel
theorem dX10_isWord_40 : decode cX10_isWord 40 = .ok (.aload_n 0, 1) := by decide +kernel
theorem dX10_isWord_41 : decode cX10_isWord 41 = .ok (.aload_n 0, 1) := by decide +kernel
theorem dX10_isWord_42 : decode cX10_isWord 42 = .ok (.getfield 176, 3) := by decide +kernel
theorem dX10_isWord_45 : decode cX10_isWord 45 = .ok (.iload_n 3, 1) := by decide +kernel
theorem dX10_isWord_46 : decode cX10_isWord 46 = .ok (.iadd, 1) := by decide +kernel
theorem dX10_isWord_47 : decode cX10_isWord 47 = .ok (.invokevirtual 179, 3) := by decide +kernel
theorem dX10_isWord_50 : decode cX10_isWord 50 = .ok (.aload_n 1, 1) := by decide +kernel
theorem dX10_isWord_51 : decode cX10_isWord 51 = .ok (.iload_n 3, 1) := by decide +kernel
theorem dX10_isWord_52 : decode cX10_isWord 52 = .ok (.invokevirtual 200, 3) := by decide +kernel
theorem dX10_isWord_55 : decode cX10_isWord 55 = .ok (.if_icmp .ne 7, 3) := by decide +kernel
theorem dX10_isWord_58 : decode cX10_isWord 58 = .ok (.iconst 1, 1) := by decide +kernel
theorem dX10_isWord_59 : decode cX10_isWord 59 = .ok (.goto 4, 3) := by decide +kernel
theorem dX10_isWord_62 : decode cX10_isWord 62 = .ok (.iconst 0, 1) := by decide +kernel
theorem dX10_isWord_63 : decode cX10_isWord 63 = .ok (.istore_n 2, 1) := by decide +kernel
theorem dX10_isWord_64 : decode cX10_isWord 64 = .ok (.iinc 3 1, 3) := by decide +kernel
theorem dX10_isWord_67 : decode cX10_isWord 67 = .ok (.goto (-39), 3) := by decide +kernel
theorem dX10_isWord_70 : decode cX10_isWord 70 = .ok (.iload_n 2, 1) := by decide +kernel
theorem dX10_isWord_71 : decode cX10_isWord 71 = .ok (.ireturn, 1) := by decide +kernel
theorem dX10_may_0 : decode cX10_may 0 = .ok (.aload_n 0, 1) := by decide +kernel
theorem dX10_may_1 : decode cX10_may 1 = .ok (.getfield 182, 3) := by decide +kernel
theorem dX10_may_4 : decode cX10_may 4 = .ok (.ifCond .ge 15, 3) := by decide +kernel
theorem dX10_may_7 : decode cX10_may 7 = .ok (.aload_n 0, 1) := by decide +kernel
theorem dX10_may_8 : decode cX10_may 8 = .ok (.aload_n 1, 1) := by decide +kernel
theorem dX10_may_9 : decode cX10_may 9 = .ok (.invokevirtual 204, 3) := by decide +kernel
theorem dX10_may_12 : decode cX10_may 12 = .ok (.ifCond .eq 7, 3) := by decide +kernel
theorem dX10_may_15 : decode cX10_may 15 = .ok (.iconst 1, 1) := by decide +kernel
theorem dX10_may_16 : decode cX10_may 16 = .ok (.goto 4, 3) := by decide +kernel
theorem dX10_may_19 : decode cX10_may 19 = .ok (.iconst 0, 1) := by decide +kernel
theorem dX10_may_20 : decode cX10_may 20 = .ok (.istore_n 2, 1) := by decide +kernel
theorem dX10_may_21 : decode cX10_may 21 = .ok (.aload_n 0, 1) := by decide +kernel
theorem dX10_may_22 : decode cX10_may 22 = .ok (.dup, 1) := by decide +kernel
theorem dX10_may_23 : decode cX10_may 23 = .ok (.getfield 176, 3) := by decide +kernel
theorem dX10_may_26 : decode cX10_may 26 = .ok (.iload_n 2, 1) := by decide +kernel
theorem dX10_may_27 : decode cX10_may 27 = .ok (.ifCond .eq 10, 3) := by decide +kernel
theorem dX10_may_30 : decode cX10_may 30 = .ok (.aload_n 1, 1) := by decide +kernel
theorem dX10_may_31 : decode cX10_may 31 = .ok (.invokevirtual 195, 3) := by decide +kernel
theorem dX10_may_34 : decode cX10_may 34 = .ok (.goto 4, 3) := by decide +kernel
theorem dX10_may_37 : decode cX10_may 37 = .ok (.iconst 0, 1) := by decide +kernel
theorem dX10_may_38 : decode cX10_may 38 = .ok (.iadd, 1) := by decide +kernel
theorem dX10_may_39 : decode cX10_may 39 = .ok (.putfield 176, 3) := by decide +kernel
theorem dX10_may_42 : decode cX10_may 42 = .ok (.iload_n 2, 1) := by decide +kernel
theorem dX10_may_43 : decode cX10_may 43 = .ok (.ireturn, 1) := by decide +kernel
theorem dX10_must_0 : decode cX10_must 0 = .ok (.aload_n 0, 1) := by decide +kernel
theorem dX10_must_1 : decode cX10_must 1 = .ok (.aload_n 1, 1) := by decide +kernel
theorem dX10_must_2 : decode cX10_must 2 = .ok (.invokevirtual 208, 3) := by decide +kernel
theorem dX10_must_5 : decode cX10_must 5 = .ok (.ifCond .ne 10, 3) := by decide +kernel
theorem dX10_must_8 : decode cX10_must 8 = .ok (.aload_n 0, 1) := by decide +kernel
theorem dX10_must_9 : decode cX10_must 9 = .ok (.invokevirtual 211, 3) := by decide +kernel
theorem dX10_must_12 : decode cX10_must 12 = .ok (.ifCond .eq 7, 3) := by decide +kernel
theorem dX10_must_15 : decode cX10_must 15 = .ok (.iconst 1, 1) := by decide +kernel
theorem dX10_must_16 : decode cX10_must 16 = .ok (.goto 4, 3) := by decide +kernel
theorem dX10_must_19 : decode cX10_must 19 = .ok (.iconst 0, 1) := by decide +kernel
theorem dX10_must_20 : decode cX10_must 20 = .ok (.ireturn, 1) := by decide +kernel
theorem dX10_number_0 : decode cX10_number 0 = .ok (.aload_n 0, 1) := by decide +kernel
theorem dX10_number_1 : decode cX10_number 1 = .ok (.invokevirtual 188, 3) := by decide +kernel
theorem dX10_number_4 : decode cX10_number 4 = .ok (.aload_n 0, 1) := by decide +kernel
theorem dX10_number_5 : decode cX10_number 5 = .ok (.getfield 182, 3) := by decide +kernel
theorem dX10_number_8 : decode cX10_number 8 = .ok (.ifCond .ge 17, 3) := by decide +kernel
theorem dX10_number_11 : decode cX10_number 11 = .ok (.aload_n 0, 1) := by decide +kernel
theorem dX10_number_12 : decode cX10_number 12 = .ok (.aload_n 0, 1) := by decide +kernel
theorem dX10_number_13 : decode cX10_number 13 = .ok (.getfield 176, 3) := by decide +kernel
theorem dX10_number_16 : decode cX10_number 16 = .ok (.invokevirtual 179, 3) := by decide +kernel
theorem dX10_number_19 : decode cX10_number 19 = .ok (.invokestatic 215, 3) := by decide +kernel
theorem dX10_number_22 : decode cX10_number 22 = .ok (.ifCond .ne 8, 3) := by decide +kernel
theorem dX10_number_25 : decode cX10_number 25 = .ok (.aload_n 0, 1) := by decide +kernel
theorem dX10_number_26 : decode cX10_number 26 = .ok (.invokevirtual 211, 3) := by decide +kernel
theorem dX10_number_29 : decode cX10_number 29 = .ok (.ireturn, 1) := by decide +kernel
theorem dX10_number_30 : decode cX10_number 30 = .ok (.lconst 0, 1) := by decide +kernel
theorem dX10_number_31 : decode cX10_number 31 = .ok (.lstore_n 3, 1) := by decide +kernel
theorem dX10_number_32 : decode cX10_number 32 = .ok (.aload_n 0, 1) := by decide +kernel
theorem dX10_number_33 : decode cX10_number 33 = .ok (.getfield 176, 3) := by decide +kernel
theorem dX10_number_36 : decode cX10_number 36 = .ok (.istore 5, 2) := by decide +kernel
theorem dX10_number_38 : decode cX10_number 38 = .ok (.aload_n 0, 1) := by decide +kernel
theorem dX10_number_39 : decode cX10_number 39 = .ok (.iload 5, 2) := by decide +kernel
theorem dX10_number_41 : decode cX10_number 41 = .ok (.invokevirtual 179, 3) := by decide +kernel
theorem dX10_number_44 : decode cX10_number 44 = .ok (.invokestatic 215, 3) := by decide +kernel
theorem dX10_number_47 : decode cX10_number 47 = .ok (.ifCond .eq 33, 3) := by decide +kernel
theorem dX10_number_50 : decode cX10_number 50 = .ok (.ldc2_w 218, 3) := by decide +kernel
theorem dX10_number_53 : decode cX10_number 53 = .ok (.ldc2_w 220, 3) := by decide +kernel
theorem dX10_number_56 : decode cX10_number 56 = .ok (.lload_n 3, 1) := by decide +kernel
theorem dX10_number_57 : decode cX10_number 57 = .ok (.lmul, 1) := by decide +kernel
theorem dX10_number_58 : decode cX10_number 58 = .ok (.aload_n 0, 1) := by decide +kernel
theorem dX10_number_59 : decode cX10_number 59 = .ok (.iload 5, 2) := by decide +kernel
theorem dX10_number_61 : decode cX10_number 61 = .ok (.invokevirtual 179, 3) := by decide +kernel
theorem dX10_number_64 : decode cX10_number 64 = .ok (.i2l, 1) := by decide +kernel
theorem dX10_number_65 : decode cX10_number 65 = .ok (.ladd, 1) := by decide +kernel
theorem dX10_number_66 : decode cX10_number 66 = .ok (.ldc2_w 222, 3) := by decide +kernel
theorem dX10_number_69 : decode cX10_number 69 = .ok (.lsub, 1) := by decide +kernel
theorem dX10_number_70 : decode cX10_number 70 = .ok (.invokestatic 224, 3) := by decide +kernel
theorem dX10_number_73 : decode cX10_number 73 = .ok (.lstore_n 3, 1) := by decide +kernel
theorem dX10_number_74 : decode cX10_number 74 = .ok (.iinc 5 1, 3) := by decide +kernel
theorem dX10_number_77 : decode cX10_number 77 = .ok (.goto (-39), 3) := by decide +kernel
theorem dX10_number_80 : decode cX10_number 80 = .ok (.lload_n 3, 1) := by decide +kernel
theorem dX10_number_81 : decode cX10_number 81 = .ok (.iload_n 1, 1) := by decide +kernel
theorem dX10_number_82 : decode cX10_number 82 = .ok (.i2l, 1) := by decide +kernel
theorem dX10_number_83 : decode cX10_number 83 = .ok (.lcmp, 1) := by decide +kernel
theorem dX10_number_84 : decode cX10_number 84 = .ok (.ifCond .lt 10, 3) := by decide +kernel
theorem dX10_number_87 : decode cX10_number 87 = .ok (.lload_n 3, 1) := by decide +kernel
theorem dX10_number_88 : decode cX10_number 88 = .ok (.iload_n 2, 1) := by decide +kernel
theorem dX10_number_89 : decode cX10_number 89 = .ok (.i2l, 1) := by decide +kernel
theorem dX10_number_90 : decode cX10_number 90 = .ok (.lcmp, 1) := by decide +kernel
theorem dX10_number_91 : decode cX10_number 91 = .ok (.ifCond .le 8, 3) := by decide +kernel
theorem dX10_number_94 : decode cX10_number 94 = .ok (.aload_n 0, 1) := by decide +kernel
theorem dX10_number_95 : decode cX10_number 95 = .ok (.invokevirtual 211, 3) := by decide +kernel
theorem dX10_number_98 : decode cX10_number 98 = .ok (.ireturn, 1) := by decide +kernel
theorem dX10_number_99 : decode cX10_number 99 = .ok (.aload_n 0, 1) := by decide +kernel
theorem dX10_number_100 : decode cX10_number 100 = .ok (.iload 5, 2) := by decide +kernel
theorem dX10_number_102 : decode cX10_number 102 = .ok (.putfield 176, 3) := by decide +kernel
theorem dX10_number_105 : decode cX10_number 105 = .ok (.aload_n 0, 1) := by decide +kernel
theorem dX10_number_106 : decode cX10_number 106 = .ok (.lload_n 3, 1) := by decide +kernel
theorem dX10_number_107 : decode cX10_number 107 = .ok (.l2i, 1) := by decide +kernel
theorem dX10_number_108 : decode cX10_number 108 = .ok (.putfield 230, 3) := by decide +kernel
theorem dX10_number_111 : decode cX10_number 111 = .ok (.iconst 1, 1) := by decide +kernel
theorem dX10_number_112 : decode cX10_number 112 = .ok (.ireturn, 1) := by decide +kernel
theorem dX10_kindName_0 : decode cX10_kindName 0 = .ok (.iload_n 0, 1) := by decide +kernel
theorem dX10_kindName_1 : decode cX10_kindName 1 = .ok (.tableswitch 50 0 4 #[35, 38, 41, 44, 47], 35) := by decide +kernel
theorem dX10_kindName_36 : decode cX10_kindName 36 = .ok (.ldc 233, 2) := by decide +kernel
theorem dX10_kindName_38 : decode cX10_kindName 38 = .ok (.areturn, 1) := by decide +kernel
theorem dX10_kindName_39 : decode cX10_kindName 39 = .ok (.ldc 235, 2) := by decide +kernel
theorem dX10_kindName_41 : decode cX10_kindName 41 = .ok (.areturn, 1) := by decide +kernel
theorem dX10_kindName_42 : decode cX10_kindName 42 = .ok (.ldc 237, 2) := by decide +kernel
theorem dX10_kindName_44 : decode cX10_kindName 44 = .ok (.areturn, 1) := by decide +kernel
theorem dX10_kindName_45 : decode cX10_kindName 45 = .ok (.ldc 239, 2) := by decide +kernel
theorem dX10_kindName_47 : decode cX10_kindName 47 = .ok (.areturn, 1) := by decide +kernel
theorem dX10_kindName_48 : decode cX10_kindName 48 = .ok (.ldc 241, 2) := by decide +kernel
theorem dX10_kindName_50 : decode cX10_kindName 50 = .ok (.areturn, 1) := by decide +kernel
theorem dX10_kindName_51 : decode cX10_kindName 51 = .ok (.ldc 243, 2) := by decide +kernel
theorem dX10_kindName_53 : decode cX10_kindName 53 = .ok (.areturn, 1) := by decide +kernel
theorem dX10_letterTold_0 : decode cX10_letterTold 0 = .ok (.aload_n 0, 1) := by decide +kernel
theorem dX10_letterTold_1 : decode cX10_letterTold 1 = .ok (.ldc 245, 2) := by decide +kernel
theorem dX10_letterTold_3 : decode cX10_letterTold 3 = .ok (.invokevirtual 208, 3) := by decide +kernel
theorem dX10_letterTold_6 : decode cX10_letterTold 6 = .ok (.istore_n 2, 1) := by decide +kernel
theorem dX10_letterTold_7 : decode cX10_letterTold 7 = .ok (.iload_n 2, 1) := by decide +kernel
theorem dX10_letterTold_8 : decode cX10_letterTold 8 = .ok (.ifCond .ne 12, 3) := by decide +kernel
theorem dX10_letterTold_11 : decode cX10_letterTold 11 = .ok (.aload_n 0, 1) := by decide +kernel
theorem dX10_letterTold_12 : decode cX10_letterTold 12 = .ok (.ldc 247, 2) := by decide +kernel
theorem dX10_letterTold_14 : decode cX10_letterTold 14 = .ok (.invokevirtual 249, 3) := by decide +kernel
theorem dX10_letterTold_17 : decode cX10_letterTold 17 = .ok (.ifCond .eq 23, 3) := by decide +kernel
theorem dX10_letterTold_20 : decode cX10_letterTold 20 = .ok (.aload_n 0, 1) := by decide +kernel
theorem dX10_letterTold_21 : decode cX10_letterTold 21 = .ok (.iconst 0, 1) := by decide +kernel
theorem dX10_letterTold_22 : decode cX10_letterTold 22 = .ok (.iload_n 2, 1) := by decide +kernel
theorem dX10_letterTold_23 : decode cX10_letterTold 23 = .ok (.ifCond .eq 9, 3) := by decide +kernel
theorem dX10_letterTold_26 : decode cX10_letterTold 26 = .ok (.sipush 4095, 3) := by decide +kernel
theorem dX10_letterTold_29 : decode cX10_letterTold 29 = .ok (.goto 5, 3) := by decide +kernel
theorem dX10_letterTold_32 : decode cX10_letterTold 32 = .ok (.bipush 25, 2) := by decide +kernel
theorem dX10_letterTold_34 : decode cX10_letterTold 34 = .ok (.invokevirtual 252, 3) := by decide +kernel
theorem dX10_letterTold_37 : decode cX10_letterTold 37 = .ok (.ifCond .ne 5, 3) := by decide +kernel
theorem dX10_letterTold_40 : decode cX10_letterTold 40 = .ok (.iconst 0, 1) := by decide +kernel
theorem dX10_letterTold_41 : decode cX10_letterTold 41 = .ok (.ireturn, 1) := by decide +kernel
theorem dX10_letterTold_42 : decode cX10_letterTold 42 = .ok (.iload_n 2, 1) := by decide +kernel
theorem dX10_letterTold_43 : decode cX10_letterTold 43 = .ok (.ifCond .eq 10, 3) := by decide +kernel
theorem dX10_letterTold_46 : decode cX10_letterTold 46 = .ok (.aload_n 0, 1) := by decide +kernel
theorem dX10_letterTold_47 : decode cX10_letterTold 47 = .ok (.getfield 230, 3) := by decide +kernel
theorem dX10_letterTold_50 : decode cX10_letterTold 50 = .ok (.goto 14, 3) := by decide +kernel
theorem dX10_letterTold_53 : decode cX10_letterTold 53 = .ok (.aload_n 0, 1) := by decide +kernel
theorem dX10_letterTold_54 : decode cX10_letterTold 54 = .ok (.getfield 9, 3) := by decide +kernel
theorem dX10_letterTold_57 : decode cX10_letterTold 57 = .ok (.iconst 3, 1) := by decide +kernel
theorem dX10_letterTold_58 : decode cX10_letterTold 58 = .ok (.aload_n 0, 1) := by decide +kernel
theorem dX10_letterTold_59 : decode cX10_letterTold 59 = .ok (.getfield 230, 3) := by decide +kernel
theorem dX10_letterTold_62 : decode cX10_letterTold 62 = .ok (.iadd, 1) := by decide +kernel
theorem dX10_letterTold_63 : decode cX10_letterTold 63 = .ok (.iaload, 1) := by decide +kernel
theorem dX10_letterTold_64 : decode cX10_letterTold 64 = .ok (.istore_n 3, 1) := by decide +kernel
theorem dX10_letterTold_65 : decode cX10_letterTold 65 = .ok (.bipush 6, 2) := by decide +kernel
theorem dX10_letterTold_67 : decode cX10_letterTold 67 = .ok (.istore 4, 2) := by decide +kernel
theorem dX10_letterTold_69 : decode cX10_letterTold 69 = .ok (.aload_n 0, 1) := by decide +kernel
theorem dX10_letterTold_70 : decode cX10_letterTold 70 = .ok (.ldc 255, 2) := by decide +kernel
theorem dX10_letterTold_72 : decode cX10_letterTold 72 = .ok (.invokevirtual 208, 3) := by decide +kernel
theorem dX10_letterTold_75 : decode cX10_letterTold 75 = .ok (.ifCond .eq 21, 3) := by decide +kernel
theorem dX10_letterTold_78 : decode cX10_letterTold 78 = .ok (.aload_n 0, 1) := by decide +kernel
theorem dX10_letterTold_79 : decode cX10_letterTold 79 = .ok (.iconst 0, 1) := by decide +kernel
theorem dX10_letterTold_80 : decode cX10_letterTold 80 = .ok (.bipush 99, 2) := by decide +kernel
theorem dX10_letterTold_82 : decode cX10_letterTold 82 = .ok (.invokevirtual 252, 3) := by decide +kernel
theorem dX10_letterTold_85 : decode cX10_letterTold 85 = .ok (.ifCond .ne 5, 3) := by decide +kernel
theorem dX10_letterTold_88 : decode cX10_letterTold 88 = .ok (.iconst 0, 1) := by decide +kernel
theorem dX10_letterTold_89 : decode cX10_letterTold 89 = .ok (.ireturn, 1) := by decide +kernel
theorem dX10_letterTold_90 : decode cX10_letterTold 90 = .ok (.aload_n 0, 1) := by decide +kernel
theorem dX10_letterTold_91 : decode cX10_letterTold 91 = .ok (.getfield 230, 3) := by decide +kernel
theorem dX10_letterTold_94 : decode cX10_letterTold 94 = .ok (.istore 4, 2) := by decide +kernel
theorem dX10_letterTold_96 : decode cX10_letterTold 96 = .ok (.aload_n 0, 1) := by decide +kernel
theorem dX10_letterTold_97 : decode cX10_letterTold 97 = .ok (.iload_n 1, 1) := by decide +kernel
theorem dX10_letterTold_98 : decode cX10_letterTold 98 = .ok (.iload_n 3, 1) := by decide +kernel
theorem dX10_letterTold_99 : decode cX10_letterTold 99 = .ok (.iload 4, 2) := by decide +kernel
theorem dX10_letterTold_101 : decode cX10_letterTold 101 = .ok (.invokevirtual 132, 3) := by decide +kernel
theorem dX10_letterTold_104 : decode cX10_letterTold 104 = .ok (.iconst 1, 1) := by decide +kernel
theorem dX10_letterTold_105 : decode cX10_letterTold 105 = .ok (.ireturn, 1) := by decide +kernel
theorem dX10_signTold_0 : decode cX10_signTold 0 = .ok (.aload_n 0, 1) := by decide +kernel
theorem dX10_signTold_1 : decode cX10_signTold 1 = .ok (.iconst 0, 1) := by decide +kernel
theorem dX10_signTold_2 : decode cX10_signTold 2 = .ok (.bipush 25, 2) := by decide +kernel
theorem dX10_signTold_4 : decode cX10_signTold 4 = .ok (.invokevirtual 252, 3) := by decide +kernel
theorem dX10_signTold_7 : decode cX10_signTold 7 = .ok (.ifCond .ne 5, 3) := by decide +kernel
theorem dX10_signTold_10 : decode cX10_signTold 10 = .ok (.iconst 0, 1) := by decide +kernel
theorem dX10_signTold_11 : decode cX10_signTold 11 = .ok (.ireturn, 1) := by decide +kernel
theorem dX10_signTold_12 : decode cX10_signTold 12 = .ok (.aload_n 0, 1) := by decide +kernel
theorem dX10_signTold_13 : decode cX10_signTold 13 = .ok (.getfield 230, 3) := by decide +kernel
theorem dX10_signTold_16 : decode cX10_signTold 16 = .ok (.istore_n 1, 1) := by decide +kernel
theorem dX10_signTold_17 : decode cX10_signTold 17 = .ok (.aload_n 0, 1) := by decide +kernel
theorem dX10_signTold_18 : decode cX10_signTold 18 = .ok (.iconst 0, 1) := by decide +kernel
theorem dX10_signTold_19 : decode cX10_signTold 19 = .ok (.sipush 4095, 3) := by decide +kernel
theorem dX10_signTold_22 : decode cX10_signTold 22 = .ok (.invokevirtual 252, 3) := by decide +kernel
theorem dX10_signTold_25 : decode cX10_signTold 25 = .ok (.ifCond .ne 5, 3) := by decide +kernel
theorem dX10_signTold_28 : decode cX10_signTold 28 = .ok (.iconst 0, 1) := by decide +kernel
theorem dX10_signTold_29 : decode cX10_signTold 29 = .ok (.ireturn, 1) := by decide +kernel
theorem dX10_signTold_30 : decode cX10_signTold 30 = .ok (.aload_n 0, 1) := by decide +kernel
theorem dX10_signTold_31 : decode cX10_signTold 31 = .ok (.getfield 9, 3) := by decide +kernel
theorem dX10_signTold_34 : decode cX10_signTold 34 = .ok (.iconst 3, 1) := by decide +kernel
theorem dX10_signTold_35 : decode cX10_signTold 35 = .ok (.iload_n 1, 1) := by decide +kernel
theorem dX10_signTold_36 : decode cX10_signTold 36 = .ok (.iadd, 1) := by decide +kernel
theorem dX10_signTold_37 : decode cX10_signTold 37 = .ok (.aload_n 0, 1) := by decide +kernel
theorem dX10_signTold_38 : decode cX10_signTold 38 = .ok (.getfield 230, 3) := by decide +kernel
theorem dX10_signTold_41 : decode cX10_signTold 41 = .ok (.iastore, 1) := by decide +kernel
theorem dX10_signTold_42 : decode cX10_signTold 42 = .ok (.iconst 1, 1) := by decide +kernel
theorem dX10_signTold_43 : decode cX10_signTold 43 = .ok (.ireturn, 1) := by decide +kernel
theorem dX10_item_0 : decode cX10_item 0 = .ok (.iconst 0, 1) := by decide +kernel
theorem dX10_item_1 : decode cX10_item 1 = .ok (.istore_n 1, 1) := by decide +kernel
theorem dX10_item_2 : decode cX10_item 2 = .ok (.iload_n 1, 1) := by decide +kernel
theorem dX10_item_3 : decode cX10_item 3 = .ok (.iconst 5, 1) := by decide +kernel
theorem dX10_item_4 : decode cX10_item 4 = .ok (.if_icmp .gt 53, 3) := by decide +kernel
theorem dX10_item_7 : decode cX10_item 7 = .ok (.aload_n 0, 1) := by decide +kernel
theorem dX10_item_8 : decode cX10_item 8 = .ok (.iload_n 1, 1) := by decide +kernel
theorem dX10_item_9 : decode cX10_item 9 = .ok (.invokestatic 257, 3) := by decide +kernel
theorem dX10_item_12 : decode cX10_item 12 = .ok (.invokevirtual 204, 3) := by decide +kernel
theorem dX10_item_15 : decode cX10_item 15 = .ok (.ifCond .eq 19, 3) := by decide +kernel
theorem dX10_item_18 : decode cX10_item 18 = .ok (.aload_n 0, 1) := by decide +kernel
theorem dX10_item_19 : decode cX10_item 19 = .ok (.getfield 9, 3) := by decide +kernel
theorem dX10_item_22 : decode cX10_item 22 = .ok (.iconst 2, 1) := by decide +kernel
theorem dX10_item_23 : decode cX10_item 23 = .ok (.iaload, 1) := by decide +kernel
theorem dX10_item_24 : decode cX10_item 24 = .ok (.bipush 12, 2) := by decide +kernel
theorem dX10_item_26 : decode cX10_item 26 = .ok (.if_icmp .ne 8, 3) := by decide +kernel
theorem dX10_item_29 : decode cX10_item 29 = .ok (.aload_n 0, 1) := by decide +kernel
theorem dX10_item_30 : decode cX10_item 30 = .ok (.invokevirtual 211, 3) := by decide +kernel
theorem dX10_item_33 : decode cX10_item 33 = .ok (.ireturn, 1) := by decide +kernel
theorem dX10_item_34 : decode cX10_item 34 = .ok (.aload_n 0, 1) := by decide +kernel
theorem dX10_item_35 : decode cX10_item 35 = .ok (.iload_n 1, 1) := by decide +kernel
theorem dX10_item_36 : decode cX10_item 36 = .ok (.invokestatic 257, 3) := by decide +kernel
theorem dX10_item_39 : decode cX10_item 39 = .ok (.invokevirtual 208, 3) := by decide +kernel
theorem dX10_item_42 : decode cX10_item 42 = .ok (.ifCond .eq 9, 3) := by decide +kernel
theorem dX10_item_45 : decode cX10_item 45 = .ok (.aload_n 0, 1) := by decide +kernel
theorem dX10_item_46 : decode cX10_item 46 = .ok (.iload_n 1, 1) := by decide +kernel
theorem dX10_item_47 : decode cX10_item 47 = .ok (.invokevirtual 261, 3) := by decide +kernel
theorem dX10_item_50 : decode cX10_item 50 = .ok (.ireturn, 1) := by decide +kernel
theorem dX10_item_51 : decode cX10_item 51 = .ok (.iinc 1 1, 3) := by decide +kernel
theorem dX10_item_54 : decode cX10_item 54 = .ok (.goto (-52), 3) := by decide +kernel
theorem dX10_item_57 : decode cX10_item 57 = .ok (.aload_n 0, 1) := by decide +kernel
theorem dX10_item_58 : decode cX10_item 58 = .ok (.ldc_w 264, 3) := by decide +kernel
theorem dX10_item_61 : decode cX10_item 61 = .ok (.invokevirtual 208, 3) := by decide +kernel
theorem dX10_item_64 : decode cX10_item 64 = .ok (.ifCond .eq 8, 3) := by decide +kernel
theorem dX10_item_67 : decode cX10_item 67 = .ok (.aload_n 0, 1) := by decide +kernel
theorem dX10_item_68 : decode cX10_item 68 = .ok (.invokevirtual 266, 3) := by decide +kernel
theorem dX10_item_71 : decode cX10_item 71 = .ok (.ireturn, 1) := by decide +kernel
theorem dX10_item_72 : decode cX10_item 72 = .ok (.aload_n 0, 1) := by decide +kernel
theorem dX10_item_73 : decode cX10_item 73 = .ok (.ldc_w 269, 3) := by decide +kernel
theorem dX10_item_76 : decode cX10_item 76 = .ok (.invokevirtual 249, 3) := by decide +kernel
theorem dX10_item_79 : decode cX10_item 79 = .ok (.ifCond .eq 14, 3) := by decide +kernel
theorem dX10_item_82 : decode cX10_item 82 = .ok (.aload_n 0, 1) := by decide +kernel
theorem dX10_item_83 : decode cX10_item 83 = .ok (.iconst 0, 1) := by decide +kernel
theorem dX10_item_84 : decode cX10_item 84 = .ok (.sipush 4095, 3) := by decide +kernel
theorem dX10_item_87 : decode cX10_item 87 = .ok (.invokevirtual 252, 3) := by decide +kernel
theorem dX10_item_90 : decode cX10_item 90 = .ok (.ifCond .ne 5, 3) := by decide +kernel
theorem dX10_item_93 : decode cX10_item 93 = .ok (.iconst 0, 1) := by decide +kernel
theorem dX10_item_94 : decode cX10_item 94 = .ok (.ireturn, 1) := by decide +kernel
theorem dX10_item_95 : decode cX10_item 95 = .ok (.aload_n 0, 1) := by decide +kernel
theorem dX10_item_96 : decode cX10_item 96 = .ok (.getfield 9, 3) := by decide +kernel
theorem dX10_item_99 : decode cX10_item 99 = .ok (.iconst 1, 1) := by decide +kernel
theorem dX10_item_100 : decode cX10_item 100 = .ok (.aload_n 0, 1) := by decide +kernel
theorem dX10_item_101 : decode cX10_item 101 = .ok (.getfield 230, 3) := by decide +kernel
theorem dX10_item_104 : decode cX10_item 104 = .ok (.iastore, 1) := by decide +kernel
theorem dX10_item_105 : decode cX10_item 105 = .ok (.iconst 1, 1) := by decide +kernel
theorem dX10_item_106 : decode cX10_item 106 = .ok (.ireturn, 1) := by decide +kernel
theorem dX10_field_0 : decode cX10_field 0 = .ok (.aload_n 0, 1) := by decide +kernel
theorem dX10_field_1 : decode cX10_field 1 = .ok (.iconst 0, 1) := by decide +kernel
theorem dX10_field_2 : decode cX10_field 2 = .ok (.putfield 176, 3) := by decide +kernel
theorem dX10_field_5 : decode cX10_field 5 = .ok (.aload_n 0, 1) := by decide +kernel
theorem dX10_field_6 : decode cX10_field 6 = .ok (.iconst (-1), 1) := by decide +kernel
theorem dX10_field_7 : decode cX10_field 7 = .ok (.putfield 182, 3) := by decide +kernel
theorem dX10_field_10 : decode cX10_field 10 = .ok (.aload_n 0, 1) := by decide +kernel
theorem dX10_field_11 : decode cX10_field 11 = .ok (.getfield 9, 3) := by decide +kernel
theorem dX10_field_14 : decode cX10_field 14 = .ok (.aload_n 0, 1) := by decide +kernel
theorem dX10_field_15 : decode cX10_field 15 = .ok (.getfield 16, 3) := by decide +kernel
theorem dX10_field_18 : decode cX10_field 18 = .ok (.invokestatic 271, 3) := by decide +kernel
theorem dX10_field_21 : decode cX10_field 21 = .ok (.iconst 0, 1) := by decide +kernel
theorem dX10_field_22 : decode cX10_field 22 = .ok (.istore_n 1, 1) := by decide +kernel
theorem dX10_field_23 : decode cX10_field 23 = .ok (.iconst 1, 1) := by decide +kernel
theorem dX10_field_24 : decode cX10_field 24 = .ok (.istore_n 2, 1) := by decide +kernel
theorem dX10_field_25 : decode cX10_field 25 = .ok (.iload_n 2, 1) := by decide +kernel
theorem dX10_field_26 : decode cX10_field 26 = .ok (.ifCond .eq 57, 3) := by decide +kernel
theorem dX10_field_29 : decode cX10_field 29 = .ok (.aload_n 0, 1) := by decide +kernel
theorem dX10_field_30 : decode cX10_field 30 = .ok (.invokevirtual 275, 3) := by decide +kernel
theorem dX10_field_33 : decode cX10_field 33 = .ok (.ifCond .eq 50, 3) := by decide +kernel
theorem dX10_field_36 : decode cX10_field 36 = .ok (.iinc 1 1, 3) := by decide +kernel
theorem dX10_field_39 : decode cX10_field 39 = .ok (.aload_n 0, 1) := by decide +kernel
theorem dX10_field_40 : decode cX10_field 40 = .ok (.invokevirtual 188, 3) := by decide +kernel
theorem dX10_field_43 : decode cX10_field 43 = .ok (.aload_n 0, 1) := by decide +kernel
theorem dX10_field_44 : decode cX10_field 44 = .ok (.aload_n 0, 1) := by decide +kernel
theorem dX10_field_45 : decode cX10_field 45 = .ok (.getfield 176, 3) := by decide +kernel
theorem dX10_field_48 : decode cX10_field 48 = .ok (.invokevirtual 179, 3) := by decide +kernel
theorem dX10_field_51 : decode cX10_field 51 = .ok (.bipush 59, 2) := by decide +kernel
theorem dX10_field_53 : decode cX10_field 53 = .ok (.if_icmp .ne 7, 3) := by decide +kernel
theorem dX10_field_56 : decode cX10_field 56 = .ok (.iconst 1, 1) := by decide +kernel
theorem dX10_field_57 : decode cX10_field 57 = .ok (.goto 4, 3) := by decide +kernel
theorem dX10_field_60 : decode cX10_field 60 = .ok (.iconst 0, 1) := by decide +kernel
theorem dX10_field_61 : decode cX10_field 61 = .ok (.istore_n 2, 1) := by decide +kernel
theorem dX10_field_62 : decode cX10_field 62 = .ok (.aload_n 0, 1) := by decide +kernel
theorem dX10_field_63 : decode cX10_field 63 = .ok (.dup, 1) := by decide +kernel
theorem dX10_field_64 : decode cX10_field 64 = .ok (.getfield 176, 3) := by decide +kernel
theorem dX10_field_67 : decode cX10_field 67 = .ok (.iload_n 2, 1) := by decide +kernel
theorem dX10_field_68 : decode cX10_field 68 = .ok (.ifCond .eq 7, 3) := by decide +kernel
theorem dX10_field_71 : decode cX10_field 71 = .ok (.iconst 1, 1) := by decide +kernel
theorem dX10_field_72 : decode cX10_field 72 = .ok (.goto 4, 3) := by decide +kernel
theorem dX10_field_75 : decode cX10_field 75 = .ok (.iconst 0, 1) := by decide +kernel
theorem dX10_field_76 : decode cX10_field 76 = .ok (.iadd, 1) := by decide +kernel
theorem dX10_field_77 : decode cX10_field 77 = .ok (.putfield 176, 3) := by decide +kernel
theorem dX10_field_80 : decode cX10_field 80 = .ok (.goto (-55), 3) := by decide +kernel
theorem dX10_field_83 : decode cX10_field 83 = .ok (.aload_n 0, 1) := by decide +kernel
theorem dX10_field_84 : decode cX10_field 84 = .ok (.getfield 182, 3) := by decide +kernel
theorem dX10_field_87 : decode cX10_field 87 = .ok (.ifCond .ge 19, 3) := by decide +kernel
theorem dX10_field_90 : decode cX10_field 90 = .ok (.aload_n 0, 1) := by decide +kernel
theorem dX10_field_91 : decode cX10_field 91 = .ok (.getfield 176, 3) := by decide +kernel
theorem dX10_field_94 : decode cX10_field 94 = .ok (.aload_n 0, 1) := by decide +kernel
theorem dX10_field_95 : decode cX10_field 95 = .ok (.getfield 173, 3) := by decide +kernel
theorem dX10_field_98 : decode cX10_field 98 = .ok (.if_icmp .ge 8, 3) := by decide +kernel
theorem dX10_field_101 : decode cX10_field 101 = .ok (.aload_n 0, 1) := by decide +kernel
theorem dX10_field_102 : decode cX10_field 102 = .ok (.invokevirtual 211, 3) := by decide +kernel
theorem dX10_field_105 : decode cX10_field 105 = .ok (.pop, 1) := by decide +kernel
theorem dX10_field_106 : decode cX10_field 106 = .ok (.aload_n 0, 1) := by decide +kernel
theorem dX10_field_107 : decode cX10_field 107 = .ok (.iconst 0, 1) := by decide +kernel
theorem dX10_field_108 : decode cX10_field 108 = .ok (.putfield 173, 3) := by decide +kernel
theorem dX10_field_111 : decode cX10_field 111 = .ok (.aload_n 0, 1) := by decide +kernel
theorem dX10_field_112 : decode cX10_field 112 = .ok (.getfield 182, 3) := by decide +kernel
theorem dX10_field_115 : decode cX10_field 115 = .ok (.ifCond .lt 21, 3) := by decide +kernel
theorem dX10_field_118 : decode cX10_field 118 = .ok (.aload_n 0, 1) := by decide +kernel
theorem dX10_field_119 : decode cX10_field 119 = .ok (.getfield 16, 3) := by decide +kernel
theorem dX10_field_122 : decode cX10_field 122 = .ok (.aload_n 0, 1) := by decide +kernel
theorem dX10_field_123 : decode cX10_field 123 = .ok (.getfield 9, 3) := by decide +kernel
theorem dX10_field_126 : decode cX10_field 126 = .ok (.invokestatic 271, 3) := by decide +kernel
theorem dX10_field_129 : decode cX10_field 129 = .ok (.iconst (-1), 1) := by decide +kernel
theorem dX10_field_130 : decode cX10_field 130 = .ok (.aload_n 0, 1) := by decide +kernel
theorem dX10_field_131 : decode cX10_field 131 = .ok (.getfield 182, 3) := by decide +kernel
theorem dX10_field_134 : decode cX10_field 134 = .ok (.isub, 1) := by decide +kernel
theorem dX10_field_135 : decode cX10_field 135 = .ok (.ireturn, 1) := by decide +kernel
theorem dX10_field_136 : decode cX10_field 136 = .ok (.iload_n 1, 1) := by decide +kernel
theorem dX10_field_137 : decode cX10_field 137 = .ok (.ireturn, 1) := by decide +kernel
theorem dX10_isSheet_0 : decode cX10_isSheet 0 = .ok (.iload_n 0, 1) := by decide +kernel
theorem dX10_isSheet_1 : decode cX10_isSheet 1 = .ok (.iconst 0, 1) := by decide +kernel
theorem dX10_isSheet_2 : decode cX10_isSheet 2 = .ok (.iconst 3, 1) := by decide +kernel
theorem dX10_isSheet_3 : decode cX10_isSheet 3 = .ok (.invokestatic 48, 3) := by decide +kernel
theorem dX10_isSheet_6 : decode cX10_isSheet 6 = .ok (.ireturn, 1) := by decide +kernel
theorem dX10_sheet_0 : decode cX10_sheet 0 = .ok (.iload_n 1, 1) := by decide +kernel
theorem dX10_sheet_1 : decode cX10_sheet 1 = .ok (.invokestatic 278, 3) := by decide +kernel
theorem dX10_sheet_4 : decode cX10_sheet 4 = .ok (.ifCond .eq 25, 3) := by decide +kernel
theorem dX10_sheet_7 : decode cX10_sheet 7 = .ok (.iload_n 2, 1) := by decide +kernel
theorem dX10_sheet_8 : decode cX10_sheet 8 = .ok (.ifCond .eq 27, 3) := by decide +kernel
theorem dX10_sheet_11 : decode cX10_sheet 11 = .ok (.iload_n 2, 1) := by decide +kernel
theorem dX10_sheet_12 : decode cX10_sheet 12 = .ok (.bipush 8, 2) := by decide +kernel
theorem dX10_sheet_14 : decode cX10_sheet 14 = .ok (.if_icmp .eq 21, 3) := by decide +kernel
theorem dX10_sheet_17 : decode cX10_sheet 17 = .ok (.iload_n 2, 1) := by decide +kernel
theorem dX10_sheet_18 : decode cX10_sheet 18 = .ok (.bipush 16, 2) := by decide +kernel
theorem dX10_sheet_20 : decode cX10_sheet 20 = .ok (.if_icmp .eq 15, 3) := by decide +kernel
theorem dX10_sheet_23 : decode cX10_sheet 23 = .ok (.iload_n 2, 1) := by decide +kernel
theorem dX10_sheet_24 : decode cX10_sheet 24 = .ok (.bipush 64, 2) := by decide +kernel
theorem dX10_sheet_26 : decode cX10_sheet 26 = .ok (.if_icmp .eq 9, 3) := by decide +kernel
theorem dX10_sheet_29 : decode cX10_sheet 29 = .ok (.aload_n 0, 1) := by decide +kernel
theorem dX10_sheet_30 : decode cX10_sheet 30 = .ok (.iconst 0, 1) := by decide +kernel
theorem dX10_sheet_31 : decode cX10_sheet 31 = .ok (.invokevirtual 89, 3) := by decide +kernel
theorem dX10_sheet_34 : decode cX10_sheet 34 = .ok (.ireturn, 1) := by decide +kernel
theorem dX10_sheet_35 : decode cX10_sheet 35 = .ok (.iload_n 3, 1) := by decide +kernel
theorem dX10_sheet_36 : decode cX10_sheet 36 = .ok (.ifCond .ge 10, 3) := by decide +kernel
theorem dX10_sheet_39 : decode cX10_sheet 39 = .ok (.aload_n 0, 1) := by decide +kernel
theorem dX10_sheet_40 : decode cX10_sheet 40 = .ok (.bipush 6, 2) := by decide +kernel
theorem dX10_sheet_42 : decode cX10_sheet 42 = .ok (.invokevirtual 89, 3) := by decide +kernel
theorem dX10_sheet_45 : decode cX10_sheet 45 = .ok (.ireturn, 1) := by decide +kernel
theorem dX10_sheet_46 : decode cX10_sheet 46 = .ok (.iload_n 3, 1) := by decide +kernel
theorem dX10_sheet_47 : decode cX10_sheet 47 = .ok (.bipush 40, 2) := by decide +kernel
theorem dX10_sheet_49 : decode cX10_sheet 49 = .ok (.if_icmp .le 9, 3) := by decide +kernel
theorem dX10_sheet_52 : decode cX10_sheet 52 = .ok (.aload_n 0, 1) := by decide +kernel
theorem dX10_sheet_53 : decode cX10_sheet 53 = .ok (.iconst 0, 1) := by decide +kernel
theorem dX10_sheet_54 : decode cX10_sheet 54 = .ok (.invokevirtual 89, 3) := by decide +kernel
theorem dX10_sheet_57 : decode cX10_sheet 57 = .ok (.ireturn, 1) := by decide +kernel
theorem dX10_sheet_58 : decode cX10_sheet 58 = .ok (.aload_n 0, 1) := by decide +kernel
theorem dX10_sheet_59 : decode cX10_sheet 59 = .ok (.getfield 34, 3) := by decide +kernel
theorem dX10_sheet_62 : decode cX10_sheet 62 = .ok (.iload_n 1, 1) := by decide +kernel
theorem dX10_sheet_63 : decode cX10_sheet 63 = .ok (.iload_n 2, 1) := by decide +kernel
theorem dX10_sheet_64 : decode cX10_sheet 64 = .ok (.iastore, 1) := by decide +kernel
theorem dX10_sheet_65 : decode cX10_sheet 65 = .ok (.aload_n 0, 1) := by decide +kernel
theorem dX10_sheet_66 : decode cX10_sheet 66 = .ok (.getfield 37, 3) := by decide +kernel
theorem dX10_sheet_69 : decode cX10_sheet 69 = .ok (.iload_n 1, 1) := by decide +kernel
theorem dX10_sheet_70 : decode cX10_sheet 70 = .ok (.iload_n 2, 1) := by decide +kernel
theorem dX10_sheet_71 : decode cX10_sheet 71 = .ok (.ifCond .ne 7, 3) := by decide +kernel
theorem dX10_sheet_74 : decode cX10_sheet 74 = .ok (.iconst 0, 1) := by decide +kernel
theorem dX10_sheet_75 : decode cX10_sheet 75 = .ok (.goto 4, 3) := by decide +kernel
theorem dX10_sheet_78 : decode cX10_sheet 78 = .ok (.iload_n 3, 1) := by decide +kernel
theorem dX10_sheet_79 : decode cX10_sheet 79 = .ok (.iastore, 1) := by decide +kernel
theorem dX10_sheet_80 : decode cX10_sheet 80 = .ok (.iconst 0, 1) := by decide +kernel
theorem dX10_sheet_81 : decode cX10_sheet 81 = .ok (.istore 4, 2) := by decide +kernel
theorem dX10_sheet_83 : decode cX10_sheet 83 = .ok (.iload 4, 2) := by decide +kernel
theorem dX10_sheet_85 : decode cX10_sheet 85 = .ok (.bipush 40, 2) := by decide +kernel
theorem dX10_sheet_87 : decode cX10_sheet 87 = .ok (.if_icmp .ge 22, 3) := by decide +kernel
theorem dX10_sheet_90 : decode cX10_sheet 90 = .ok (.aload_n 0, 1) := by decide +kernel
theorem dX10_sheet_91 : decode cX10_sheet 91 = .ok (.getfield 40, 3) := by decide +kernel
theorem dX10_sheet_94 : decode cX10_sheet 94 = .ok (.bipush 40, 2) := by decide +kernel
theorem dX10_sheet_96 : decode cX10_sheet 96 = .ok (.iload_n 1, 1) := by decide +kernel
theorem dX10_sheet_97 : decode cX10_sheet 97 = .ok (.imul, 1) := by decide +kernel
theorem dX10_sheet_98 : decode cX10_sheet 98 = .ok (.iload 4, 2) := by decide +kernel
theorem dX10_sheet_100 : decode cX10_sheet 100 = .ok (.iadd, 1) := by decide +kernel
theorem dX10_sheet_101 : decode cX10_sheet 101 = .ok (.lconst 0, 1) := by decide +kernel
theorem dX10_sheet_102 : decode cX10_sheet 102 = .ok (.lastore, 1) := by decide +kernel
theorem dX10_sheet_103 : decode cX10_sheet 103 = .ok (.iinc 4 1, 3) := by decide +kernel
theorem dX10_sheet_106 : decode cX10_sheet 106 = .ok (.goto (-23), 3) := by decide +kernel
theorem dX10_sheet_109 : decode cX10_sheet 109 = .ok (.aload_n 0, 1) := by decide +kernel
theorem dX10_sheet_110 : decode cX10_sheet 110 = .ok (.getfield 37, 3) := by decide +kernel
theorem dX10_sheet_113 : decode cX10_sheet 113 = .ok (.iload_n 1, 1) := by decide +kernel
theorem dX10_sheet_114 : decode cX10_sheet 114 = .ok (.iaload, 1) := by decide +kernel
theorem dX10_sheet_115 : decode cX10_sheet 115 = .ok (.ireturn, 1) := by decide +kernel
theorem dX10_writes_0 : decode cX10_writes 0 = .ok (.aload_n 0, 1) := by decide +kernel
theorem dX10_writes_1 : decode cX10_writes 1 = .ok (.getfield 40, 3) := by decide +kernel
theorem dX10_writes_4 : decode cX10_writes 4 = .ok (.bipush 40, 2) := by decide +kernel
theorem dX10_writes_6 : decode cX10_writes 6 = .ok (.iload_n 1, 1) := by decide +kernel
theorem dX10_writes_7 : decode cX10_writes 7 = .ok (.imul, 1) := by decide +kernel
theorem dX10_writes_8 : decode cX10_writes 8 = .ok (.iload_n 2, 1) := by decide +kernel
theorem dX10_writes_9 : decode cX10_writes 9 = .ok (.iadd, 1) := by decide +kernel
theorem dX10_writes_10 : decode cX10_writes 10 = .ok (.aload_n 0, 1) := by decide +kernel
theorem dX10_writes_11 : decode cX10_writes 11 = .ok (.getfield 34, 3) := by decide +kernel
theorem dX10_writes_14 : decode cX10_writes 14 = .ok (.iload_n 1, 1) := by decide +kernel
theorem dX10_writes_15 : decode cX10_writes 15 = .ok (.iaload, 1) := by decide +kernel
theorem dX10_writes_16 : decode cX10_writes 16 = .ok (.bipush 8, 2) := by decide +kernel
theorem dX10_writes_18 : decode cX10_writes 18 = .ok (.if_icmp .ne 10, 3) := by decide +kernel
theorem dX10_writes_21 : decode cX10_writes 21 = .ok (.lload_n 3, 1) := by decide +kernel
theorem dX10_writes_22 : decode cX10_writes 22 = .ok (.l2i, 1) := by decide +kernel
theorem dX10_writes_23 : decode cX10_writes 23 = .ok (.i2b, 1) := by decide +kernel
theorem dX10_writes_24 : decode cX10_writes 24 = .ok (.i2l, 1) := by decide +kernel
theorem dX10_writes_25 : decode cX10_writes 25 = .ok (.goto 22, 3) := by decide +kernel
theorem dX10_writes_28 : decode cX10_writes 28 = .ok (.aload_n 0, 1) := by decide +kernel
theorem dX10_writes_29 : decode cX10_writes 29 = .ok (.getfield 34, 3) := by decide +kernel
theorem dX10_writes_32 : decode cX10_writes 32 = .ok (.iload_n 1, 1) := by decide +kernel
theorem dX10_writes_33 : decode cX10_writes 33 = .ok (.iaload, 1) := by decide +kernel
theorem dX10_writes_34 : decode cX10_writes 34 = .ok (.bipush 16, 2) := by decide +kernel
theorem dX10_writes_36 : decode cX10_writes 36 = .ok (.if_icmp .ne 10, 3) := by decide +kernel
theorem dX10_writes_39 : decode cX10_writes 39 = .ok (.lload_n 3, 1) := by decide +kernel
theorem dX10_writes_40 : decode cX10_writes 40 = .ok (.l2i, 1) := by decide +kernel
theorem dX10_writes_41 : decode cX10_writes 41 = .ok (.i2s, 1) := by decide +kernel
theorem dX10_writes_42 : decode cX10_writes 42 = .ok (.i2l, 1) := by decide +kernel
theorem dX10_writes_43 : decode cX10_writes 43 = .ok (.goto 4, 3) := by decide +kernel
theorem dX10_writes_46 : decode cX10_writes 46 = .ok (.lload_n 3, 1) := by decide +kernel
theorem dX10_writes_47 : decode cX10_writes 47 = .ok (.lastore, 1) := by decide +kernel
theorem dX10_writes_48 : decode cX10_writes 48 = .ok (.return_, 1) := by decide +kernel
theorem dX10_write_0 : decode cX10_write 0 = .ok (.iload_n 1, 1) := by decide +kernel
theorem dX10_write_1 : decode cX10_write 1 = .ok (.invokestatic 278, 3) := by decide +kernel
theorem dX10_write_4 : decode cX10_write 4 = .ok (.ifCond .ne 10, 3) := by decide +kernel
theorem dX10_write_7 : decode cX10_write 7 = .ok (.aload_n 0, 1) := by decide +kernel
theorem dX10_write_8 : decode cX10_write 8 = .ok (.iconst 0, 1) := by decide +kernel
theorem dX10_write_9 : decode cX10_write 9 = .ok (.invokevirtual 89, 3) := by decide +kernel
theorem dX10_write_12 : decode cX10_write 12 = .ok (.i2l, 1) := by decide +kernel
theorem dX10_write_13 : decode cX10_write 13 = .ok (.lreturn, 1) := by decide +kernel
theorem dX10_write_14 : decode cX10_write 14 = .ok (.aload_n 0, 1) := by decide +kernel
theorem dX10_write_15 : decode cX10_write 15 = .ok (.getfield 34, 3) := by decide +kernel
theorem dX10_write_18 : decode cX10_write 18 = .ok (.iload_n 1, 1) := by decide +kernel
theorem dX10_write_19 : decode cX10_write 19 = .ok (.iaload, 1) := by decide +kernel
theorem dX10_write_20 : decode cX10_write 20 = .ok (.ifCond .ne 10, 3) := by decide +kernel
theorem dX10_write_23 : decode cX10_write 23 = .ok (.aload_n 0, 1) := by decide +kernel
theorem dX10_write_24 : decode cX10_write 24 = .ok (.iconst 5, 1) := by decide +kernel
theorem dX10_write_25 : decode cX10_write 25 = .ok (.invokevirtual 89, 3) := by decide +kernel
theorem dX10_write_28 : decode cX10_write 28 = .ok (.i2l, 1) := by decide +kernel
theorem dX10_write_29 : decode cX10_write 29 = .ok (.lreturn, 1) := by decide +kernel
theorem dX10_write_30 : decode cX10_write 30 = .ok (.iload_n 2, 1) := by decide +kernel
theorem dX10_write_31 : decode cX10_write 31 = .ok (.iconst 0, 1) := by decide +kernel
theorem dX10_write_32 : decode cX10_write 32 = .ok (.aload_n 0, 1) := by decide +kernel
theorem dX10_write_33 : decode cX10_write 33 = .ok (.getfield 37, 3) := by decide +kernel
theorem dX10_write_36 : decode cX10_write 36 = .ok (.iload_n 1, 1) := by decide +kernel
theorem dX10_write_37 : decode cX10_write 37 = .ok (.iaload, 1) := by decide +kernel
theorem dX10_write_38 : decode cX10_write 38 = .ok (.iconst 1, 1) := by decide +kernel
theorem dX10_write_39 : decode cX10_write 39 = .ok (.isub, 1) := by decide +kernel
theorem dX10_write_40 : decode cX10_write 40 = .ok (.invokestatic 48, 3) := by decide +kernel
theorem dX10_write_43 : decode cX10_write 43 = .ok (.ifCond .ne 10, 3) := by decide +kernel
theorem dX10_write_46 : decode cX10_write 46 = .ok (.aload_n 0, 1) := by decide +kernel
theorem dX10_write_47 : decode cX10_write 47 = .ok (.iconst 0, 1) := by decide +kernel
theorem dX10_write_48 : decode cX10_write 48 = .ok (.invokevirtual 89, 3) := by decide +kernel
theorem dX10_write_51 : decode cX10_write 51 = .ok (.i2l, 1) := by decide +kernel
theorem dX10_write_52 : decode cX10_write 52 = .ok (.lreturn, 1) := by decide +kernel
theorem dX10_write_53 : decode cX10_write 53 = .ok (.aload_n 0, 1) := by decide +kernel
theorem dX10_write_54 : decode cX10_write 54 = .ok (.getfield 40, 3) := by decide +kernel
theorem dX10_write_57 : decode cX10_write 57 = .ok (.bipush 40, 2) := by decide +kernel
theorem dX10_write_59 : decode cX10_write 59 = .ok (.iload_n 1, 1) := by decide +kernel
theorem dX10_write_60 : decode cX10_write 60 = .ok (.imul, 1) := by decide +kernel
theorem dX10_write_61 : decode cX10_write 61 = .ok (.iload_n 2, 1) := by decide +kernel
theorem dX10_write_62 : decode cX10_write 62 = .ok (.iadd, 1) := by decide +kernel
theorem dX10_write_63 : decode cX10_write 63 = .ok (.laload, 1) := by decide +kernel
theorem dX10_write_64 : decode cX10_write 64 = .ok (.lstore 5, 2) := by decide +kernel
theorem dX10_write_66 : decode cX10_write 66 = .ok (.aload_n 0, 1) := by decide +kernel
theorem dX10_write_67 : decode cX10_write 67 = .ok (.iload_n 1, 1) := by decide +kernel
theorem dX10_write_68 : decode cX10_write 68 = .ok (.iload_n 2, 1) := by decide +kernel
theorem dX10_write_69 : decode cX10_write 69 = .ok (.lload_n 3, 1) := by decide +kernel
theorem dX10_write_70 : decode cX10_write 70 = .ok (.invokevirtual 281, 3) := by decide +kernel
theorem dX10_write_73 : decode cX10_write 73 = .ok (.lload 5, 2) := by decide +kernel
theorem dX10_write_75 : decode cX10_write 75 = .ok (.lreturn, 1) := by decide +kernel
theorem dX10_copy_0 : decode cX10_copy 0 = .ok (.iload_n 1, 1) := by decide +kernel
theorem dX10_copy_1 : decode cX10_copy 1 = .ok (.invokestatic 278, 3) := by decide +kernel
theorem dX10_copy_4 : decode cX10_copy 4 = .ok (.ifCond .eq 10, 3) := by decide +kernel
theorem dX10_copy_7 : decode cX10_copy 7 = .ok (.iload_n 3, 1) := by decide +kernel
theorem dX10_copy_8 : decode cX10_copy 8 = .ok (.invokestatic 278, 3) := by decide +kernel
theorem dX10_copy_11 : decode cX10_copy 11 = .ok (.ifCond .ne 9, 3) := by decide +kernel
theorem dX10_copy_14 : decode cX10_copy 14 = .ok (.aload_n 0, 1) := by decide +kernel
theorem dX10_copy_15 : decode cX10_copy 15 = .ok (.iconst 0, 1) := by decide +kernel
theorem dX10_copy_16 : decode cX10_copy 16 = .ok (.invokevirtual 89, 3) := by decide +kernel
theorem dX10_copy_19 : decode cX10_copy 19 = .ok (.ireturn, 1) := by decide +kernel
theorem dX10_copy_20 : decode cX10_copy 20 = .ok (.aload_n 0, 1) := by decide +kernel
theorem dX10_copy_21 : decode cX10_copy 21 = .ok (.getfield 34, 3) := by decide +kernel
theorem dX10_copy_24 : decode cX10_copy 24 = .ok (.iload_n 1, 1) := by decide +kernel
theorem dX10_copy_25 : decode cX10_copy 25 = .ok (.iaload, 1) := by decide +kernel
theorem dX10_copy_26 : decode cX10_copy 26 = .ok (.ifCond .eq 12, 3) := by decide +kernel
theorem dX10_copy_29 : decode cX10_copy 29 = .ok (.aload_n 0, 1) := by decide +kernel
theorem dX10_copy_30 : decode cX10_copy 30 = .ok (.getfield 34, 3) := by decide +kernel
theorem dX10_copy_33 : decode cX10_copy 33 = .ok (.iload_n 3, 1) := by decide +kernel
theorem dX10_copy_34 : decode cX10_copy 34 = .ok (.iaload, 1) := by decide +kernel
theorem dX10_copy_35 : decode cX10_copy 35 = .ok (.ifCond .ne 9, 3) := by decide +kernel
theorem dX10_copy_38 : decode cX10_copy 38 = .ok (.aload_n 0, 1) := by decide +kernel
theorem dX10_copy_39 : decode cX10_copy 39 = .ok (.iconst 5, 1) := by decide +kernel
theorem dX10_copy_40 : decode cX10_copy 40 = .ok (.invokevirtual 89, 3) := by decide +kernel
theorem dX10_copy_43 : decode cX10_copy 43 = .ok (.ireturn, 1) := by decide +kernel
theorem dX10_copy_44 : decode cX10_copy 44 = .ok (.aload_n 0, 1) := by decide +kernel
theorem dX10_copy_45 : decode cX10_copy 45 = .ok (.getfield 34, 3) := by decide +kernel
theorem dX10_copy_48 : decode cX10_copy 48 = .ok (.iload_n 1, 1) := by decide +kernel
theorem dX10_copy_49 : decode cX10_copy 49 = .ok (.iaload, 1) := by decide +kernel
theorem dX10_copy_50 : decode cX10_copy 50 = .ok (.aload_n 0, 1) := by decide +kernel
theorem dX10_copy_51 : decode cX10_copy 51 = .ok (.getfield 34, 3) := by decide +kernel
theorem dX10_copy_54 : decode cX10_copy 54 = .ok (.iload_n 3, 1) := by decide +kernel
theorem dX10_copy_55 : decode cX10_copy 55 = .ok (.iaload, 1) := by decide +kernel
theorem dX10_copy_56 : decode cX10_copy 56 = .ok (.if_icmp .eq 9, 3) := by decide +kernel
theorem dX10_copy_59 : decode cX10_copy 59 = .ok (.aload_n 0, 1) := by decide +kernel
theorem dX10_copy_60 : decode cX10_copy 60 = .ok (.iconst 2, 1) := by decide +kernel
theorem dX10_copy_61 : decode cX10_copy 61 = .ok (.invokevirtual 89, 3) := by decide +kernel
theorem dX10_copy_64 : decode cX10_copy 64 = .ok (.ireturn, 1) := by decide +kernel
theorem dX10_copy_65 : decode cX10_copy 65 = .ok (.iload 5, 2) := by decide +kernel
theorem dX10_copy_67 : decode cX10_copy 67 = .ok (.ifCond .lt 39, 3) := by decide +kernel
theorem dX10_copy_70 : decode cX10_copy 70 = .ok (.iload_n 2, 1) := by decide +kernel
theorem dX10_copy_71 : decode cX10_copy 71 = .ok (.ifCond .lt 35, 3) := by decide +kernel
theorem dX10_copy_74 : decode cX10_copy 74 = .ok (.iload 4, 2) := by decide +kernel
theorem dX10_copy_76 : decode cX10_copy 76 = .ok (.ifCond .lt 30, 3) := by decide +kernel
theorem dX10_copy_79 : decode cX10_copy 79 = .ok (.iload_n 2, 1) := by decide +kernel
theorem dX10_copy_80 : decode cX10_copy 80 = .ok (.aload_n 0, 1) := by decide +kernel
theorem dX10_copy_81 : decode cX10_copy 81 = .ok (.getfield 37, 3) := by decide +kernel
theorem dX10_copy_84 : decode cX10_copy 84 = .ok (.iload_n 1, 1) := by decide +kernel
theorem dX10_copy_85 : decode cX10_copy 85 = .ok (.iaload, 1) := by decide +kernel
theorem dX10_copy_86 : decode cX10_copy 86 = .ok (.iload 5, 2) := by decide +kernel
theorem dX10_copy_88 : decode cX10_copy 88 = .ok (.isub, 1) := by decide +kernel
theorem dX10_copy_89 : decode cX10_copy 89 = .ok (.if_icmp .gt 17, 3) := by decide +kernel
theorem dX10_copy_92 : decode cX10_copy 92 = .ok (.iload 4, 2) := by decide +kernel
theorem dX10_copy_94 : decode cX10_copy 94 = .ok (.aload_n 0, 1) := by decide +kernel
theorem dX10_copy_95 : decode cX10_copy 95 = .ok (.getfield 37, 3) := by decide +kernel
theorem dX10_copy_98 : decode cX10_copy 98 = .ok (.iload_n 3, 1) := by decide +kernel
theorem dX10_copy_99 : decode cX10_copy 99 = .ok (.iaload, 1) := by decide +kernel
theorem dX10_copy_100 : decode cX10_copy 100 = .ok (.iload 5, 2) := by decide +kernel
theorem dX10_copy_102 : decode cX10_copy 102 = .ok (.isub, 1) := by decide +kernel
theorem dX10_copy_103 : decode cX10_copy 103 = .ok (.if_icmp .le 9, 3) := by decide +kernel
theorem dX10_copy_106 : decode cX10_copy 106 = .ok (.aload_n 0, 1) := by decide +kernel
theorem dX10_copy_107 : decode cX10_copy 107 = .ok (.iconst 0, 1) := by decide +kernel
theorem dX10_copy_108 : decode cX10_copy 108 = .ok (.invokevirtual 89, 3) := by decide +kernel
theorem dX10_copy_111 : decode cX10_copy 111 = .ok (.ireturn, 1) := by decide +kernel
theorem dX10_copy_112 : decode cX10_copy 112 = .ok (.iconst 0, 1) := by decide +kernel
theorem dX10_copy_113 : decode cX10_copy 113 = .ok (.istore 6, 2) := by decide +kernel
theorem dX10_copy_115 : decode cX10_copy 115 = .ok (.iload 6, 2) := by decide +kernel
theorem dX10_copy_117 : decode cX10_copy 117 = .ok (.iload 5, 2) := by decide +kernel
theorem dX10_copy_119 : decode cX10_copy 119 = .ok (.if_icmp .ge 30, 3) := by decide +kernel
theorem dX10_copy_122 : decode cX10_copy 122 = .ok (.aload_n 0, 1) := by decide +kernel
theorem dX10_copy_123 : decode cX10_copy 123 = .ok (.getfield 44, 3) := by decide +kernel
theorem dX10_copy_126 : decode cX10_copy 126 = .ok (.iload 6, 2) := by decide +kernel
theorem dX10_copy_128 : decode cX10_copy 128 = .ok (.aload_n 0, 1) := by decide +kernel
theorem dX10_copy_129 : decode cX10_copy 129 = .ok (.getfield 40, 3) := by decide +kernel
theorem dX10_copy_132 : decode cX10_copy 132 = .ok (.bipush 40, 2) := by decide +kernel
theorem dX10_copy_134 : decode cX10_copy 134 = .ok (.iload_n 1, 1) := by decide +kernel
theorem dX10_copy_135 : decode cX10_copy 135 = .ok (.imul, 1) := by decide +kernel
theorem dX10_copy_136 : decode cX10_copy 136 = .ok (.iload_n 2, 1) := by decide +kernel
theorem dX10_copy_137 : decode cX10_copy 137 = .ok (.iadd, 1) := by decide +kernel
theorem dX10_copy_138 : decode cX10_copy 138 = .ok (.iload 6, 2) := by decide +kernel
theorem dX10_copy_140 : decode cX10_copy 140 = .ok (.iadd, 1) := by decide +kernel
theorem dX10_copy_141 : decode cX10_copy 141 = .ok (.laload, 1) := by decide +kernel
theorem dX10_copy_142 : decode cX10_copy 142 = .ok (.lastore, 1) := by decide +kernel
theorem dX10_copy_143 : decode cX10_copy 143 = .ok (.iinc 6 1, 3) := by decide +kernel
theorem dX10_copy_146 : decode cX10_copy 146 = .ok (.goto (-31), 3) := by decide +kernel
theorem dX10_copy_149 : decode cX10_copy 149 = .ok (.iconst 0, 1) := by decide +kernel
theorem dX10_copy_150 : decode cX10_copy 150 = .ok (.istore 6, 2) := by decide +kernel
theorem dX10_copy_152 : decode cX10_copy 152 = .ok (.iload 6, 2) := by decide +kernel
theorem dX10_copy_154 : decode cX10_copy 154 = .ok (.iload 5, 2) := by decide +kernel
theorem dX10_copy_156 : decode cX10_copy 156 = .ok (.if_icmp .ge 31, 3) := by decide +kernel
theorem dX10_copy_159 : decode cX10_copy 159 = .ok (.aload_n 0, 1) := by decide +kernel
theorem dX10_copy_160 : decode cX10_copy 160 = .ok (.getfield 40, 3) := by decide +kernel
theorem dX10_copy_163 : decode cX10_copy 163 = .ok (.bipush 40, 2) := by decide +kernel
theorem dX10_copy_165 : decode cX10_copy 165 = .ok (.iload_n 3, 1) := by decide +kernel
theorem dX10_copy_166 : decode cX10_copy 166 = .ok (.imul, 1) := by decide +kernel
theorem dX10_copy_167 : decode cX10_copy 167 = .ok (.iload 4, 2) := by decide +kernel
theorem dX10_copy_169 : decode cX10_copy 169 = .ok (.iadd, 1) := by decide +kernel
theorem dX10_copy_170 : decode cX10_copy 170 = .ok (.iload 6, 2) := by decide +kernel
theorem dX10_copy_172 : decode cX10_copy 172 = .ok (.iadd, 1) := by decide +kernel
theorem dX10_copy_173 : decode cX10_copy 173 = .ok (.aload_n 0, 1) := by decide +kernel
theorem dX10_copy_174 : decode cX10_copy 174 = .ok (.getfield 44, 3) := by decide +kernel
theorem dX10_copy_177 : decode cX10_copy 177 = .ok (.iload 6, 2) := by decide +kernel
theorem dX10_copy_179 : decode cX10_copy 179 = .ok (.laload, 1) := by decide +kernel
theorem dX10_copy_180 : decode cX10_copy 180 = .ok (.lastore, 1) := by decide +kernel
theorem dX10_copy_181 : decode cX10_copy 181 = .ok (.iinc 6 1, 3) := by decide +kernel
theorem dX10_copy_184 : decode cX10_copy 184 = .ok (.goto (-32), 3) := by decide +kernel
theorem dX10_copy_187 : decode cX10_copy 187 = .ok (.iload 5, 2) := by decide +kernel
theorem dX10_copy_189 : decode cX10_copy 189 = .ok (.ireturn, 1) := by decide +kernel
theorem dX10_lays_0 : decode cX10_lays 0 = .ok (.iload_n 1, 1) := by decide +kernel
theorem dX10_lays_1 : decode cX10_lays 1 = .ok (.invokestatic 278, 3) := by decide +kernel
theorem dX10_lays_4 : decode cX10_lays 4 = .ok (.ifCond .ne 9, 3) := by decide +kernel
theorem dX10_lays_7 : decode cX10_lays 7 = .ok (.aload_n 0, 1) := by decide +kernel
theorem dX10_lays_8 : decode cX10_lays 8 = .ok (.iconst 0, 1) := by decide +kernel
theorem dX10_lays_9 : decode cX10_lays 9 = .ok (.invokevirtual 89, 3) := by decide +kernel
theorem dX10_lays_12 : decode cX10_lays 12 = .ok (.ireturn, 1) := by decide +kernel
theorem dX10_lays_13 : decode cX10_lays 13 = .ok (.aload_n 0, 1) := by decide +kernel
theorem dX10_lays_14 : decode cX10_lays 14 = .ok (.getfield 34, 3) := by decide +kernel
theorem dX10_lays_17 : decode cX10_lays 17 = .ok (.iload_n 1, 1) := by decide +kernel
theorem dX10_lays_18 : decode cX10_lays 18 = .ok (.iaload, 1) := by decide +kernel
theorem dX10_lays_19 : decode cX10_lays 19 = .ok (.ifCond .ne 9, 3) := by decide +kernel
theorem dX10_lays_22 : decode cX10_lays 22 = .ok (.aload_n 0, 1) := by decide +kernel
theorem dX10_lays_23 : decode cX10_lays 23 = .ok (.iconst 5, 1) := by decide +kernel
theorem dX10_lays_24 : decode cX10_lays 24 = .ok (.invokevirtual 89, 3) := by decide +kernel
theorem dX10_lays_27 : decode cX10_lays 27 = .ok (.ireturn, 1) := by decide +kernel
theorem dX10_lays_28 : decode cX10_lays 28 = .ok (.iconst 0, 1) := by decide +kernel
theorem dX10_lays_29 : decode cX10_lays 29 = .ok (.istore_n 2, 1) := by decide +kernel
theorem dX10_lays_30 : decode cX10_lays 30 = .ok (.iconst 0, 1) := by decide +kernel
theorem dX10_lays_31 : decode cX10_lays 31 = .ok (.istore_n 3, 1) := by decide +kernel
theorem dX10_lays_32 : decode cX10_lays 32 = .ok (.iload_n 3, 1) := by decide +kernel
theorem dX10_lays_33 : decode cX10_lays 33 = .ok (.aload_n 0, 1) := by decide +kernel
theorem dX10_lays_34 : decode cX10_lays 34 = .ok (.getfield 37, 3) := by decide +kernel
theorem dX10_lays_37 : decode cX10_lays 37 = .ok (.iload_n 1, 1) := by decide +kernel
theorem dX10_lays_38 : decode cX10_lays 38 = .ok (.iaload, 1) := by decide +kernel
theorem dX10_lays_39 : decode cX10_lays 39 = .ok (.if_icmp .ge 58, 3) := by decide +kernel
theorem dX10_lays_42 : decode cX10_lays 42 = .ok (.iload_n 3, 1) := by decide +kernel
theorem dX10_lays_43 : decode cX10_lays 43 = .ok (.bipush 26, 2) := by decide +kernel
theorem dX10_lays_45 : decode cX10_lays 45 = .ok (.if_icmp .ge 52, 3) := by decide +kernel
theorem dX10_lays_48 : decode cX10_lays 48 = .ok (.aload_n 0, 1) := by decide +kernel
theorem dX10_lays_49 : decode cX10_lays 49 = .ok (.getfield 40, 3) := by decide +kernel
theorem dX10_lays_52 : decode cX10_lays 52 = .ok (.bipush 40, 2) := by decide +kernel
theorem dX10_lays_54 : decode cX10_lays 54 = .ok (.iload_n 1, 1) := by decide +kernel
theorem dX10_lays_55 : decode cX10_lays 55 = .ok (.imul, 1) := by decide +kernel
theorem dX10_lays_56 : decode cX10_lays 56 = .ok (.iload_n 3, 1) := by decide +kernel
theorem dX10_lays_57 : decode cX10_lays 57 = .ok (.iadd, 1) := by decide +kernel
theorem dX10_lays_58 : decode cX10_lays 58 = .ok (.laload, 1) := by decide +kernel
theorem dX10_lays_59 : decode cX10_lays 59 = .ok (.lstore 4, 2) := by decide +kernel
theorem dX10_lays_61 : decode cX10_lays 61 = .ok (.lload 4, 2) := by decide +kernel
theorem dX10_lays_63 : decode cX10_lays 63 = .ok (.lconst 0, 1) := by decide +kernel
theorem dX10_lays_64 : decode cX10_lays 64 = .ok (.lcmp, 1) := by decide +kernel
theorem dX10_lays_65 : decode cX10_lays 65 = .ok (.ifCond .lt 26, 3) := by decide +kernel
theorem dX10_lays_68 : decode cX10_lays 68 = .ok (.lload 4, 2) := by decide +kernel
theorem dX10_lays_70 : decode cX10_lays 70 = .ok (.ldc2_w 285, 3) := by decide +kernel
theorem dX10_lays_73 : decode cX10_lays 73 = .ok (.lcmp, 1) := by decide +kernel
theorem dX10_lays_74 : decode cX10_lays 74 = .ok (.ifCond .ge 17, 3) := by decide +kernel
theorem dX10_lays_77 : decode cX10_lays 77 = .ok (.aload_n 0, 1) := by decide +kernel
theorem dX10_lays_78 : decode cX10_lays 78 = .ok (.getfield 9, 3) := by decide +kernel
theorem dX10_lays_81 : decode cX10_lays 81 = .ok (.iconst 3, 1) := by decide +kernel
theorem dX10_lays_82 : decode cX10_lays 82 = .ok (.iload_n 3, 1) := by decide +kernel
theorem dX10_lays_83 : decode cX10_lays 83 = .ok (.iadd, 1) := by decide +kernel
theorem dX10_lays_84 : decode cX10_lays 84 = .ok (.lload 4, 2) := by decide +kernel
theorem dX10_lays_86 : decode cX10_lays 86 = .ok (.l2i, 1) := by decide +kernel
theorem dX10_lays_87 : decode cX10_lays 87 = .ok (.iastore, 1) := by decide +kernel
theorem dX10_lays_88 : decode cX10_lays 88 = .ok (.iinc 2 1, 3) := by decide +kernel
theorem dX10_lays_91 : decode cX10_lays 91 = .ok (.iinc 3 1, 3) := by decide +kernel
theorem dX10_lays_94 : decode cX10_lays 94 = .ok (.goto (-62), 3) := by decide +kernel
theorem dX10_lays_97 : decode cX10_lays 97 = .ok (.iload_n 2, 1) := by decide +kernel
theorem dX10_lays_98 : decode cX10_lays 98 = .ok (.ireturn, 1) := by decide +kernel
theorem dX10_show_0 : decode cX10_show 0 = .ok (.iload_n 1, 1) := by decide +kernel
theorem dX10_show_1 : decode cX10_show 1 = .ok (.invokestatic 278, 3) := by decide +kernel
theorem dX10_show_4 : decode cX10_show 4 = .ok (.ifCond .ne 9, 3) := by decide +kernel
theorem dX10_show_7 : decode cX10_show 7 = .ok (.aload_n 0, 1) := by decide +kernel
theorem dX10_show_8 : decode cX10_show 8 = .ok (.iconst 0, 1) := by decide +kernel
theorem dX10_show_9 : decode cX10_show 9 = .ok (.invokevirtual 89, 3) := by decide +kernel
theorem dX10_show_12 : decode cX10_show 12 = .ok (.ireturn, 1) := by decide +kernel
theorem dX10_show_13 : decode cX10_show 13 = .ok (.aload_n 0, 1) := by decide +kernel
theorem dX10_show_14 : decode cX10_show 14 = .ok (.getfield 34, 3) := by decide +kernel
theorem dX10_show_17 : decode cX10_show 17 = .ok (.iload_n 1, 1) := by decide +kernel
theorem dX10_show_18 : decode cX10_show 18 = .ok (.iaload, 1) := by decide +kernel
theorem dX10_show_19 : decode cX10_show 19 = .ok (.ifCond .ne 9, 3) := by decide +kernel
theorem dX10_show_22 : decode cX10_show 22 = .ok (.aload_n 0, 1) := by decide +kernel
theorem dX10_show_23 : decode cX10_show 23 = .ok (.iconst 5, 1) := by decide +kernel
theorem dX10_show_24 : decode cX10_show 24 = .ok (.invokevirtual 89, 3) := by decide +kernel
theorem dX10_show_27 : decode cX10_show 27 = .ok (.ireturn, 1) := by decide +kernel
theorem dX10_show_28 : decode cX10_show 28 = .ok (.aload_n 0, 1) := by decide +kernel
theorem dX10_show_29 : decode cX10_show 29 = .ok (.getfield 37, 3) := by decide +kernel
theorem dX10_show_32 : decode cX10_show 32 = .ok (.iload_n 1, 1) := by decide +kernel
theorem dX10_show_33 : decode cX10_show 33 = .ok (.iaload, 1) := by decide +kernel
theorem dX10_show_34 : decode cX10_show 34 = .ok (.aload_n 0, 1) := by decide +kernel
theorem dX10_show_35 : decode cX10_show 35 = .ok (.getfield 9, 3) := by decide +kernel
theorem dX10_show_38 : decode cX10_show 38 = .ok (.iconst 2, 1) := by decide +kernel
theorem dX10_show_39 : decode cX10_show 39 = .ok (.iaload, 1) := by decide +kernel
theorem dX10_show_40 : decode cX10_show 40 = .ok (.if_icmp .ge 12, 3) := by decide +kernel
theorem dX10_show_43 : decode cX10_show 43 = .ok (.aload_n 0, 1) := by decide +kernel
theorem dX10_show_44 : decode cX10_show 44 = .ok (.getfield 37, 3) := by decide +kernel
theorem dX10_show_47 : decode cX10_show 47 = .ok (.iload_n 1, 1) := by decide +kernel
theorem dX10_show_48 : decode cX10_show 48 = .ok (.iaload, 1) := by decide +kernel
theorem dX10_show_49 : decode cX10_show 49 = .ok (.goto 9, 3) := by decide +kernel
theorem dX10_show_52 : decode cX10_show 52 = .ok (.aload_n 0, 1) := by decide +kernel
theorem dX10_show_53 : decode cX10_show 53 = .ok (.getfield 9, 3) := by decide +kernel
theorem dX10_show_56 : decode cX10_show 56 = .ok (.iconst 2, 1) := by decide +kernel
theorem dX10_show_57 : decode cX10_show 57 = .ok (.iaload, 1) := by decide +kernel
theorem dX10_show_58 : decode cX10_show 58 = .ok (.istore_n 2, 1) := by decide +kernel
theorem dX10_show_59 : decode cX10_show 59 = .ok (.iconst 0, 1) := by decide +kernel
theorem dX10_show_60 : decode cX10_show 60 = .ok (.istore_n 3, 1) := by decide +kernel
theorem dX10_show_61 : decode cX10_show 61 = .ok (.iload_n 3, 1) := by decide +kernel
theorem dX10_show_62 : decode cX10_show 62 = .ok (.iload_n 2, 1) := by decide +kernel
theorem dX10_show_63 : decode cX10_show 63 = .ok (.if_icmp .ge 25, 3) := by decide +kernel
theorem dX10_show_66 : decode cX10_show 66 = .ok (.aload_n 0, 1) := by decide +kernel
theorem dX10_show_67 : decode cX10_show 67 = .ok (.iload_n 1, 1) := by decide +kernel
theorem dX10_show_68 : decode cX10_show 68 = .ok (.iload_n 3, 1) := by decide +kernel
theorem dX10_show_69 : decode cX10_show 69 = .ok (.aload_n 0, 1) := by decide +kernel
theorem dX10_show_70 : decode cX10_show 70 = .ok (.aload_n 0, 1) := by decide +kernel
theorem dX10_show_71 : decode cX10_show 71 = .ok (.iload_n 3, 1) := by decide +kernel
theorem dX10_show_72 : decode cX10_show 72 = .ok (.invokevirtual 148, 3) := by decide +kernel
theorem dX10_show_75 : decode cX10_show 75 = .ok (.invokevirtual 123, 3) := by decide +kernel
theorem dX10_show_78 : decode cX10_show 78 = .ok (.i2l, 1) := by decide +kernel
theorem dX10_show_79 : decode cX10_show 79 = .ok (.invokevirtual 281, 3) := by decide +kernel
theorem dX10_show_82 : decode cX10_show 82 = .ok (.iinc 3 1, 3) := by decide +kernel
theorem dX10_show_85 : decode cX10_show 85 = .ok (.goto (-24), 3) := by decide +kernel
theorem dX10_show_88 : decode cX10_show 88 = .ok (.iload_n 2, 1) := by decide +kernel
theorem dX10_show_89 : decode cX10_show 89 = .ok (.ireturn, 1) := by decide +kernel
theorem dX10_leads_0 : decode cX10_leads 0 = .ok (.iconst (-1), 1) := by decide +kernel
theorem dX10_leads_1 : decode cX10_leads 1 = .ok (.istore_n 3, 1) := by decide +kernel
theorem dX10_leads_2 : decode cX10_leads 2 = .ok (.iconst 0, 1) := by decide +kernel
theorem dX10_leads_3 : decode cX10_leads 3 = .ok (.istore 4, 2) := by decide +kernel
theorem dX10_leads_5 : decode cX10_leads 5 = .ok (.iload 4, 2) := by decide +kernel
theorem dX10_leads_7 : decode cX10_leads 7 = .ok (.bipush 12, 2) := by decide +kernel
theorem dX10_leads_9 : decode cX10_leads 9 = .ok (.if_icmp .ge 48, 3) := by decide +kernel
theorem dX10_leads_12 : decode cX10_leads 12 = .ok (.iload_n 0, 1) := by decide +kernel
theorem dX10_leads_13 : decode cX10_leads 13 = .ok (.iload 4, 2) := by decide +kernel
theorem dX10_leads_15 : decode cX10_leads 15 = .ok (.invokestatic 59, 3) := by decide +kernel
theorem dX10_leads_18 : decode cX10_leads 18 = .ok (.ifCond .eq 31, 3) := by decide +kernel
theorem dX10_leads_21 : decode cX10_leads 21 = .ok (.iload_n 1, 1) := by decide +kernel
theorem dX10_leads_22 : decode cX10_leads 22 = .ok (.iload_n 2, 1) := by decide +kernel
theorem dX10_leads_23 : decode cX10_leads 23 = .ok (.if_icmp .eq 26, 3) := by decide +kernel
theorem dX10_leads_26 : decode cX10_leads 26 = .ok (.iload 4, 2) := by decide +kernel
theorem dX10_leads_28 : decode cX10_leads 28 = .ok (.iload_n 1, 1) := by decide +kernel
theorem dX10_leads_29 : decode cX10_leads 29 = .ok (.invokestatic 63, 3) := by decide +kernel
theorem dX10_leads_32 : decode cX10_leads 32 = .ok (.ifCond .eq 17, 3) := by decide +kernel
theorem dX10_leads_35 : decode cX10_leads 35 = .ok (.iload 4, 2) := by decide +kernel
theorem dX10_leads_37 : decode cX10_leads 37 = .ok (.iload_n 2, 1) := by decide +kernel
theorem dX10_leads_38 : decode cX10_leads 38 = .ok (.invokestatic 63, 3) := by decide +kernel
theorem dX10_leads_41 : decode cX10_leads 41 = .ok (.ifCond .eq 8, 3) := by decide +kernel
theorem dX10_leads_44 : decode cX10_leads 44 = .ok (.iload 4, 2) := by decide +kernel
theorem dX10_leads_46 : decode cX10_leads 46 = .ok (.goto 4, 3) := by decide +kernel
theorem dX10_leads_49 : decode cX10_leads 49 = .ok (.iload_n 3, 1) := by decide +kernel
theorem dX10_leads_50 : decode cX10_leads 50 = .ok (.istore_n 3, 1) := by decide +kernel
theorem dX10_leads_51 : decode cX10_leads 51 = .ok (.iinc 4 1, 3) := by decide +kernel
theorem dX10_leads_54 : decode cX10_leads 54 = .ok (.goto (-49), 3) := by decide +kernel
theorem dX10_leads_57 : decode cX10_leads 57 = .ok (.iload_n 3, 1) := by decide +kernel
theorem dX10_leads_58 : decode cX10_leads 58 = .ok (.ireturn, 1) := by decide +kernel
theorem dX10_walk_0 : decode cX10_walk 0 = .ok (.iload_n 1, 1) := by decide +kernel
theorem dX10_walk_1 : decode cX10_walk 1 = .ok (.invokestatic 278, 3) := by decide +kernel
theorem dX10_walk_4 : decode cX10_walk 4 = .ok (.ifCond .ne 9, 3) := by decide +kernel
theorem dX10_walk_7 : decode cX10_walk 7 = .ok (.aload_n 0, 1) := by decide +kernel
theorem dX10_walk_8 : decode cX10_walk 8 = .ok (.iconst 0, 1) := by decide +kernel
theorem dX10_walk_9 : decode cX10_walk 9 = .ok (.invokevirtual 89, 3) := by decide +kernel
theorem dX10_walk_12 : decode cX10_walk 12 = .ok (.ireturn, 1) := by decide +kernel
theorem dX10_walk_13 : decode cX10_walk 13 = .ok (.aload_n 0, 1) := by decide +kernel
theorem dX10_walk_14 : decode cX10_walk 14 = .ok (.getfield 34, 3) := by decide +kernel
theorem dX10_walk_17 : decode cX10_walk 17 = .ok (.iload_n 1, 1) := by decide +kernel
theorem dX10_walk_18 : decode cX10_walk 18 = .ok (.iaload, 1) := by decide +kernel
theorem dX10_walk_19 : decode cX10_walk 19 = .ok (.ifCond .ne 9, 3) := by decide +kernel
theorem dX10_walk_22 : decode cX10_walk 22 = .ok (.aload_n 0, 1) := by decide +kernel
theorem dX10_walk_23 : decode cX10_walk 23 = .ok (.iconst 5, 1) := by decide +kernel
theorem dX10_walk_24 : decode cX10_walk 24 = .ok (.invokevirtual 89, 3) := by decide +kernel
theorem dX10_walk_27 : decode cX10_walk 27 = .ok (.ireturn, 1) := by decide +kernel
theorem dX10_walk_28 : decode cX10_walk 28 = .ok (.iload_n 2, 1) := by decide +kernel
theorem dX10_walk_29 : decode cX10_walk 29 = .ok (.invokestatic 85, 3) := by decide +kernel
theorem dX10_walk_32 : decode cX10_walk 32 = .ok (.ifCond .ne 9, 3) := by decide +kernel
theorem dX10_walk_35 : decode cX10_walk 35 = .ok (.aload_n 0, 1) := by decide +kernel
theorem dX10_walk_36 : decode cX10_walk 36 = .ok (.iconst 0, 1) := by decide +kernel
theorem dX10_walk_37 : decode cX10_walk 37 = .ok (.invokevirtual 89, 3) := by decide +kernel
theorem dX10_walk_40 : decode cX10_walk 40 = .ok (.ireturn, 1) := by decide +kernel
theorem dX10_walk_41 : decode cX10_walk 41 = .ok (.iload_n 2, 1) := by decide +kernel
theorem dX10_walk_42 : decode cX10_walk 42 = .ok (.istore_n 3, 1) := by decide +kernel
theorem dX10_walk_43 : decode cX10_walk 43 = .ok (.iconst (-1), 1) := by decide +kernel
theorem dX10_walk_44 : decode cX10_walk 44 = .ok (.istore 4, 2) := by decide +kernel
theorem dX10_walk_46 : decode cX10_walk 46 = .ok (.iconst 0, 1) := by decide +kernel
theorem dX10_walk_47 : decode cX10_walk 47 = .ok (.istore 5, 2) := by decide +kernel
theorem dX10_walk_49 : decode cX10_walk 49 = .ok (.iload 5, 2) := by decide +kernel
theorem dX10_walk_51 : decode cX10_walk 51 = .ok (.aload_n 0, 1) := by decide +kernel
theorem dX10_walk_52 : decode cX10_walk 52 = .ok (.getfield 37, 3) := by decide +kernel
theorem dX10_walk_55 : decode cX10_walk 55 = .ok (.iload_n 1, 1) := by decide +kernel
theorem dX10_walk_56 : decode cX10_walk 56 = .ok (.iaload, 1) := by decide +kernel
theorem dX10_walk_57 : decode cX10_walk 57 = .ok (.if_icmp .ge 114, 3) := by decide +kernel
theorem dX10_walk_60 : decode cX10_walk 60 = .ok (.aload_n 0, 1) := by decide +kernel
theorem dX10_walk_61 : decode cX10_walk 61 = .ok (.getfield 40, 3) := by decide +kernel
theorem dX10_walk_64 : decode cX10_walk 64 = .ok (.bipush 40, 2) := by decide +kernel
theorem dX10_walk_66 : decode cX10_walk 66 = .ok (.iload_n 1, 1) := by decide +kernel
theorem dX10_walk_67 : decode cX10_walk 67 = .ok (.imul, 1) := by decide +kernel
theorem dX10_walk_68 : decode cX10_walk 68 = .ok (.iload 5, 2) := by decide +kernel
theorem dX10_walk_70 : decode cX10_walk 70 = .ok (.iadd, 1) := by decide +kernel
theorem dX10_walk_71 : decode cX10_walk 71 = .ok (.laload, 1) := by decide +kernel
theorem dX10_walk_72 : decode cX10_walk 72 = .ok (.lstore 6, 2) := by decide +kernel
theorem dX10_walk_74 : decode cX10_walk 74 = .ok (.lload 6, 2) := by decide +kernel
theorem dX10_walk_76 : decode cX10_walk 76 = .ok (.lconst 0, 1) := by decide +kernel
theorem dX10_walk_77 : decode cX10_walk 77 = .ok (.lcmp, 1) := by decide +kernel
theorem dX10_walk_78 : decode cX10_walk 78 = .ok (.ifCond .lt 18, 3) := by decide +kernel
theorem dX10_walk_81 : decode cX10_walk 81 = .ok (.lload 6, 2) := by decide +kernel
theorem dX10_walk_83 : decode cX10_walk 83 = .ok (.ldc2_w 287, 3) := by decide +kernel
theorem dX10_walk_86 : decode cX10_walk 86 = .ok (.lcmp, 1) := by decide +kernel
theorem dX10_walk_87 : decode cX10_walk 87 = .ok (.ifCond .ge 9, 3) := by decide +kernel
theorem dX10_walk_90 : decode cX10_walk 90 = .ok (.lload 6, 2) := by decide +kernel
theorem dX10_walk_92 : decode cX10_walk 92 = .ok (.l2i, 1) := by decide +kernel
theorem dX10_walk_93 : decode cX10_walk 93 = .ok (.goto 4, 3) := by decide +kernel
theorem dX10_walk_96 : decode cX10_walk 96 = .ok (.iconst (-1), 1) := by decide +kernel
theorem dX10_walk_97 : decode cX10_walk 97 = .ok (.istore 8, 2) := by decide +kernel
theorem dX10_walk_99 : decode cX10_walk 99 = .ok (.iload 8, 2) := by decide +kernel
theorem dX10_walk_101 : decode cX10_walk 101 = .ok (.ifCond .lt 19, 3) := by decide +kernel
theorem dX10_walk_104 : decode cX10_walk 104 = .ok (.iload 5, 2) := by decide +kernel
theorem dX10_walk_106 : decode cX10_walk 106 = .ok (.ifCond .le 14, 3) := by decide +kernel
theorem dX10_walk_109 : decode cX10_walk 109 = .ok (.iload_n 3, 1) := by decide +kernel
theorem dX10_walk_110 : decode cX10_walk 110 = .ok (.iload 4, 2) := by decide +kernel
theorem dX10_walk_112 : decode cX10_walk 112 = .ok (.iload 8, 2) := by decide +kernel
theorem dX10_walk_114 : decode cX10_walk 114 = .ok (.invokestatic 289, 3) := by decide +kernel
theorem dX10_walk_117 : decode cX10_walk 117 = .ok (.goto 4, 3) := by decide +kernel
theorem dX10_walk_120 : decode cX10_walk 120 = .ok (.iconst (-1), 1) := by decide +kernel
theorem dX10_walk_121 : decode cX10_walk 121 = .ok (.istore 9, 2) := by decide +kernel
theorem dX10_walk_123 : decode cX10_walk 123 = .ok (.iload 8, 2) := by decide +kernel
theorem dX10_walk_125 : decode cX10_walk 125 = .ok (.ifCond .lt 13, 3) := by decide +kernel
theorem dX10_walk_128 : decode cX10_walk 128 = .ok (.iload 5, 2) := by decide +kernel
theorem dX10_walk_130 : decode cX10_walk 130 = .ok (.ifCond .le 13, 3) := by decide +kernel
theorem dX10_walk_133 : decode cX10_walk 133 = .ok (.iload 9, 2) := by decide +kernel
theorem dX10_walk_135 : decode cX10_walk 135 = .ok (.ifCond .ge 8, 3) := by decide +kernel
theorem dX10_walk_138 : decode cX10_walk 138 = .ok (.iconst 1, 1) := by decide +kernel
theorem dX10_walk_139 : decode cX10_walk 139 = .ok (.iload 5, 2) := by decide +kernel
theorem dX10_walk_141 : decode cX10_walk 141 = .ok (.iadd, 1) := by decide +kernel
theorem dX10_walk_142 : decode cX10_walk 142 = .ok (.ireturn, 1) := by decide +kernel
theorem dX10_walk_143 : decode cX10_walk 143 = .ok (.iload_n 3, 1) := by decide +kernel
theorem dX10_walk_144 : decode cX10_walk 144 = .ok (.iload 5, 2) := by decide +kernel
theorem dX10_walk_146 : decode cX10_walk 146 = .ok (.ifCond .le 12, 3) := by decide +kernel
theorem dX10_walk_149 : decode cX10_walk 149 = .ok (.iconst 1, 1) := by decide +kernel
theorem dX10_walk_150 : decode cX10_walk 150 = .ok (.iload 9, 2) := by decide +kernel
theorem dX10_walk_152 : decode cX10_walk 152 = .ok (.ishl, 1) := by decide +kernel
theorem dX10_walk_153 : decode cX10_walk 153 = .ok (.iconst (-1), 1) := by decide +kernel
theorem dX10_walk_154 : decode cX10_walk 154 = .ok (.ixor, 1) := by decide +kernel
theorem dX10_walk_155 : decode cX10_walk 155 = .ok (.goto 4, 3) := by decide +kernel
theorem dX10_walk_158 : decode cX10_walk 158 = .ok (.iload_n 3, 1) := by decide +kernel
theorem dX10_walk_159 : decode cX10_walk 159 = .ok (.iand, 1) := by decide +kernel
theorem dX10_walk_160 : decode cX10_walk 160 = .ok (.istore_n 3, 1) := by decide +kernel
theorem dX10_walk_161 : decode cX10_walk 161 = .ok (.iload 8, 2) := by decide +kernel
theorem dX10_walk_163 : decode cX10_walk 163 = .ok (.istore 4, 2) := by decide +kernel
theorem dX10_walk_165 : decode cX10_walk 165 = .ok (.iinc 5 1, 3) := by decide +kernel
theorem dX10_walk_168 : decode cX10_walk 168 = .ok (.goto (-119), 3) := by decide +kernel
theorem dX10_walk_171 : decode cX10_walk 171 = .ok (.iload_n 3, 1) := by decide +kernel
theorem dX10_walk_172 : decode cX10_walk 172 = .ok (.ifCond .ne 7, 3) := by decide +kernel
theorem dX10_walk_175 : decode cX10_walk 175 = .ok (.iconst 0, 1) := by decide +kernel
theorem dX10_walk_176 : decode cX10_walk 176 = .ok (.goto 11, 3) := by decide +kernel
theorem dX10_walk_179 : decode cX10_walk 179 = .ok (.iconst 1, 1) := by decide +kernel
theorem dX10_walk_180 : decode cX10_walk 180 = .ok (.aload_n 0, 1) := by decide +kernel
theorem dX10_walk_181 : decode cX10_walk 181 = .ok (.getfield 37, 3) := by decide +kernel
theorem dX10_walk_184 : decode cX10_walk 184 = .ok (.iload_n 1, 1) := by decide +kernel
theorem dX10_walk_185 : decode cX10_walk 185 = .ok (.iaload, 1) := by decide +kernel
theorem dX10_walk_186 : decode cX10_walk 186 = .ok (.iadd, 1) := by decide +kernel
theorem dX10_walk_187 : decode cX10_walk 187 = .ok (.ireturn, 1) := by decide +kernel
theorem dX10_image_0 : decode cX10_image 0 = .ok (.aload_n 0, 1) := by decide +kernel
theorem dX10_image_1 : decode cX10_image 1 = .ok (.getfield 9, 3) := by decide +kernel
theorem dX10_image_4 : decode cX10_image 4 = .ok (.aload_n 0, 1) := by decide +kernel
theorem dX10_image_5 : decode cX10_image 5 = .ok (.getfield 13, 3) := by decide +kernel
theorem dX10_image_8 : decode cX10_image 8 = .ok (.invokestatic 271, 3) := by decide +kernel
theorem dX10_image_11 : decode cX10_image 11 = .ok (.aload_n 0, 1) := by decide +kernel
theorem dX10_image_12 : decode cX10_image 12 = .ok (.iconst 1, 1) := by decide +kernel
theorem dX10_image_13 : decode cX10_image 13 = .ok (.putfield 293, 3) := by decide +kernel
theorem dX10_image_16 : decode cX10_image 16 = .ok (.iconst 1, 1) := by decide +kernel
theorem dX10_image_17 : decode cX10_image 17 = .ok (.ireturn, 1) := by decide +kernel
theorem dX10_undo_0 : decode cX10_undo 0 = .ok (.aload_n 0, 1) := by decide +kernel
theorem dX10_undo_1 : decode cX10_undo 1 = .ok (.getfield 293, 3) := by decide +kernel
theorem dX10_undo_4 : decode cX10_undo 4 = .ok (.ifCond .ne 9, 3) := by decide +kernel
theorem dX10_undo_7 : decode cX10_undo 7 = .ok (.aload_n 0, 1) := by decide +kernel
theorem dX10_undo_8 : decode cX10_undo 8 = .ok (.iconst 3, 1) := by decide +kernel
theorem dX10_undo_9 : decode cX10_undo 9 = .ok (.invokevirtual 89, 3) := by decide +kernel
theorem dX10_undo_12 : decode cX10_undo 12 = .ok (.ireturn, 1) := by decide +kernel
theorem dX10_undo_13 : decode cX10_undo 13 = .ok (.aload_n 0, 1) := by decide +kernel
theorem dX10_undo_14 : decode cX10_undo 14 = .ok (.getfield 13, 3) := by decide +kernel
theorem dX10_undo_17 : decode cX10_undo 17 = .ok (.aload_n 0, 1) := by decide +kernel
theorem dX10_undo_18 : decode cX10_undo 18 = .ok (.getfield 9, 3) := by decide +kernel
theorem dX10_undo_21 : decode cX10_undo 21 = .ok (.invokestatic 271, 3) := by decide +kernel
theorem dX10_undo_24 : decode cX10_undo 24 = .ok (.aload_n 0, 1) := by decide +kernel
theorem dX10_undo_25 : decode cX10_undo 25 = .ok (.getfield 9, 3) := by decide +kernel
theorem dX10_undo_28 : decode cX10_undo 28 = .ok (.iconst 2, 1) := by decide +kernel
theorem dX10_undo_29 : decode cX10_undo 29 = .ok (.iaload, 1) := by decide +kernel
theorem dX10_undo_30 : decode cX10_undo 30 = .ok (.ireturn, 1) := by decide +kernel
theorem dX10_tear_0 : decode cX10_tear 0 = .ok (.aload_n 0, 1) := by decide +kernel
theorem dX10_tear_1 : decode cX10_tear 1 = .ok (.getfield 293, 3) := by decide +kernel
theorem dX10_tear_4 : decode cX10_tear 4 = .ok (.ifCond .eq 7, 3) := by decide +kernel
theorem dX10_tear_7 : decode cX10_tear 7 = .ok (.iconst 1, 1) := by decide +kernel
theorem dX10_tear_8 : decode cX10_tear 8 = .ok (.goto 4, 3) := by decide +kernel
theorem dX10_tear_11 : decode cX10_tear 11 = .ok (.iconst 0, 1) := by decide +kernel
theorem dX10_tear_12 : decode cX10_tear 12 = .ok (.istore_n 1, 1) := by decide +kernel
theorem dX10_tear_13 : decode cX10_tear 13 = .ok (.aload_n 0, 1) := by decide +kernel
theorem dX10_tear_14 : decode cX10_tear 14 = .ok (.iconst 0, 1) := by decide +kernel
theorem dX10_tear_15 : decode cX10_tear 15 = .ok (.putfield 293, 3) := by decide +kernel
theorem dX10_tear_18 : decode cX10_tear 18 = .ok (.iload_n 1, 1) := by decide +kernel
theorem dX10_tear_19 : decode cX10_tear 19 = .ok (.ireturn, 1) := by decide +kernel
theorem dX10_signsTold_0 : decode cX10_signsTold 0 = .ok (.iconst 0, 1) := by decide +kernel
theorem dX10_signsTold_1 : decode cX10_signsTold 1 = .ok (.istore_n 1, 1) := by decide +kernel
theorem dX10_signsTold_2 : decode cX10_signsTold 2 = .ok (.iconst 0, 1) := by decide +kernel
theorem dX10_signsTold_3 : decode cX10_signsTold 3 = .ok (.istore_n 2, 1) := by decide +kernel
theorem dX10_signsTold_4 : decode cX10_signsTold 4 = .ok (.iload_n 2, 1) := by decide +kernel
theorem dX10_signsTold_5 : decode cX10_signsTold 5 = .ok (.bipush 26, 2) := by decide +kernel
theorem dX10_signsTold_7 : decode cX10_signsTold 7 = .ok (.if_icmp .ge 28, 3) := by decide +kernel
theorem dX10_signsTold_10 : decode cX10_signsTold 10 = .ok (.iload_n 1, 1) := by decide +kernel
theorem dX10_signsTold_11 : decode cX10_signsTold 11 = .ok (.aload_n 0, 1) := by decide +kernel
theorem dX10_signsTold_12 : decode cX10_signsTold 12 = .ok (.getfield 9, 3) := by decide +kernel
theorem dX10_signsTold_15 : decode cX10_signsTold 15 = .ok (.iconst 3, 1) := by decide +kernel
theorem dX10_signsTold_16 : decode cX10_signsTold 16 = .ok (.iload_n 2, 1) := by decide +kernel
theorem dX10_signsTold_17 : decode cX10_signsTold 17 = .ok (.iadd, 1) := by decide +kernel
theorem dX10_signsTold_18 : decode cX10_signsTold 18 = .ok (.iaload, 1) := by decide +kernel
theorem dX10_signsTold_19 : decode cX10_signsTold 19 = .ok (.ifCond .eq 7, 3) := by decide +kernel
theorem dX10_signsTold_22 : decode cX10_signsTold 22 = .ok (.iconst 1, 1) := by decide +kernel
theorem dX10_signsTold_23 : decode cX10_signsTold 23 = .ok (.goto 4, 3) := by decide +kernel
theorem dX10_signsTold_26 : decode cX10_signsTold 26 = .ok (.iconst 0, 1) := by decide +kernel
theorem dX10_signsTold_27 : decode cX10_signsTold 27 = .ok (.iadd, 1) := by decide +kernel
theorem dX10_signsTold_28 : decode cX10_signsTold 28 = .ok (.istore_n 1, 1) := by decide +kernel
theorem dX10_signsTold_29 : decode cX10_signsTold 29 = .ok (.iinc 2 1, 3) := by decide +kernel
theorem dX10_signsTold_32 : decode cX10_signsTold 32 = .ok (.goto (-28), 3) := by decide +kernel
theorem dX10_signsTold_35 : decode cX10_signsTold 35 = .ok (.iload_n 1, 1) := by decide +kernel
theorem dX10_signsTold_36 : decode cX10_signsTold 36 = .ok (.ireturn, 1) := by decide +kernel
theorem dX10_strokesOfAll_0 : decode cX10_strokesOfAll 0 = .ok (.iconst 0, 1) := by decide +kernel
theorem dX10_strokesOfAll_1 : decode cX10_strokesOfAll 1 = .ok (.istore_n 1, 1) := by decide +kernel
theorem dX10_strokesOfAll_2 : decode cX10_strokesOfAll 2 = .ok (.iconst 0, 1) := by decide +kernel
theorem dX10_strokesOfAll_3 : decode cX10_strokesOfAll 3 = .ok (.istore_n 2, 1) := by decide +kernel
theorem dX10_strokesOfAll_4 : decode cX10_strokesOfAll 4 = .ok (.iload_n 2, 1) := by decide +kernel
theorem dX10_strokesOfAll_5 : decode cX10_strokesOfAll 5 = .ok (.aload_n 0, 1) := by decide +kernel
theorem dX10_strokesOfAll_6 : decode cX10_strokesOfAll 6 = .ok (.getfield 9, 3) := by decide +kernel
theorem dX10_strokesOfAll_9 : decode cX10_strokesOfAll 9 = .ok (.iconst 2, 1) := by decide +kernel
theorem dX10_strokesOfAll_10 : decode cX10_strokesOfAll 10 = .ok (.iaload, 1) := by decide +kernel
theorem dX10_strokesOfAll_11 : decode cX10_strokesOfAll 11 = .ok (.if_icmp .ge 26, 3) := by decide +kernel
theorem dX10_strokesOfAll_14 : decode cX10_strokesOfAll 14 = .ok (.iload_n 1, 1) := by decide +kernel
theorem dX10_strokesOfAll_15 : decode cX10_strokesOfAll 15 = .ok (.aload_n 0, 1) := by decide +kernel
theorem dX10_strokesOfAll_16 : decode cX10_strokesOfAll 16 = .ok (.getfield 9, 3) := by decide +kernel
theorem dX10_strokesOfAll_19 : decode cX10_strokesOfAll 19 = .ok (.aload_n 0, 1) := by decide +kernel
theorem dX10_strokesOfAll_20 : decode cX10_strokesOfAll 20 = .ok (.iload_n 2, 1) := by decide +kernel
theorem dX10_strokesOfAll_21 : decode cX10_strokesOfAll 21 = .ok (.iconst 1, 1) := by decide +kernel
theorem dX10_strokesOfAll_22 : decode cX10_strokesOfAll 22 = .ok (.invokevirtual 126, 3) := by decide +kernel
theorem dX10_strokesOfAll_25 : decode cX10_strokesOfAll 25 = .ok (.iaload, 1) := by decide +kernel
theorem dX10_strokesOfAll_26 : decode cX10_strokesOfAll 26 = .ok (.invokestatic 79, 3) := by decide +kernel
theorem dX10_strokesOfAll_29 : decode cX10_strokesOfAll 29 = .ok (.iadd, 1) := by decide +kernel
theorem dX10_strokesOfAll_30 : decode cX10_strokesOfAll 30 = .ok (.istore_n 1, 1) := by decide +kernel
theorem dX10_strokesOfAll_31 : decode cX10_strokesOfAll 31 = .ok (.iinc 2 1, 3) := by decide +kernel
theorem dX10_strokesOfAll_34 : decode cX10_strokesOfAll 34 = .ok (.goto (-30), 3) := by decide +kernel
theorem dX10_strokesOfAll_37 : decode cX10_strokesOfAll 37 = .ok (.iload_n 1, 1) := by decide +kernel
theorem dX10_strokesOfAll_38 : decode cX10_strokesOfAll 38 = .ok (.ireturn, 1) := by decide +kernel
theorem dX10_count_0 : decode cX10_count 0 = .ok (.iload_n 1, 1) := by decide +kernel
theorem dX10_count_1 : decode cX10_count 1 = .ok (.tableswitch 53 0 3 #[31, 38, 43, 48], 31) := by decide +kernel
theorem dX10_count_32 : decode cX10_count 32 = .ok (.aload_n 0, 1) := by decide +kernel
theorem dX10_count_33 : decode cX10_count 33 = .ok (.getfield 9, 3) := by decide +kernel
theorem dX10_count_36 : decode cX10_count 36 = .ok (.iconst 2, 1) := by decide +kernel
theorem dX10_count_37 : decode cX10_count 37 = .ok (.iaload, 1) := by decide +kernel
theorem dX10_count_38 : decode cX10_count 38 = .ok (.ireturn, 1) := by decide +kernel
theorem dX10_count_39 : decode cX10_count 39 = .ok (.aload_n 0, 1) := by decide +kernel
theorem dX10_count_40 : decode cX10_count 40 = .ok (.invokevirtual 297, 3) := by decide +kernel
theorem dX10_count_43 : decode cX10_count 43 = .ok (.ireturn, 1) := by decide +kernel
theorem dX10_count_44 : decode cX10_count 44 = .ok (.aload_n 0, 1) := by decide +kernel
theorem dX10_count_45 : decode cX10_count 45 = .ok (.getfield 173, 3) := by decide +kernel
theorem dX10_count_48 : decode cX10_count 48 = .ok (.ireturn, 1) := by decide +kernel
theorem dX10_count_49 : decode cX10_count 49 = .ok (.aload_n 0, 1) := by decide +kernel
theorem dX10_count_50 : decode cX10_count 50 = .ok (.invokevirtual 300, 3) := by decide +kernel
theorem dX10_count_53 : decode cX10_count 53 = .ok (.ireturn, 1) := by decide +kernel
theorem dX10_count_54 : decode cX10_count 54 = .ok (.aload_n 0, 1) := by decide +kernel
theorem dX10_count_55 : decode cX10_count 55 = .ok (.iconst 0, 1) := by decide +kernel
theorem dX10_count_56 : decode cX10_count 56 = .ok (.invokevirtual 89, 3) := by decide +kernel
theorem dX10_count_59 : decode cX10_count 59 = .ok (.ireturn, 1) := by decide +kernel
theorem dX10_status_0 : decode cX10_status 0 = .ok (.iload_n 1, 1) := by decide +kernel
theorem dX10_status_1 : decode cX10_status 1 = .ok (.iconst (-1), 1) := by decide +kernel
theorem dX10_status_2 : decode cX10_status 2 = .ok (.bipush 6, 2) := by decide +kernel
theorem dX10_status_4 : decode cX10_status 4 = .ok (.invokestatic 48, 3) := by decide +kernel
theorem dX10_status_7 : decode cX10_status 7 = .ok (.ifCond .ne 9, 3) := by decide +kernel
theorem dX10_status_10 : decode cX10_status 10 = .ok (.aload_n 0, 1) := by decide +kernel
theorem dX10_status_11 : decode cX10_status 11 = .ok (.iconst 0, 1) := by decide +kernel
theorem dX10_status_12 : decode cX10_status 12 = .ok (.invokevirtual 89, 3) := by decide +kernel
theorem dX10_status_15 : decode cX10_status 15 = .ok (.ireturn, 1) := by decide +kernel
theorem dX10_status_16 : decode cX10_status 16 = .ok (.iconst 0, 1) := by decide +kernel
theorem dX10_status_17 : decode cX10_status 17 = .ok (.istore_n 2, 1) := by decide +kernel
theorem dX10_status_18 : decode cX10_status 18 = .ok (.iconst 0, 1) := by decide +kernel
theorem dX10_status_19 : decode cX10_status 19 = .ok (.istore_n 3, 1) := by decide +kernel
theorem dX10_status_20 : decode cX10_status 20 = .ok (.iload_n 3, 1) := by decide +kernel
theorem dX10_status_21 : decode cX10_status 21 = .ok (.bipush 7, 2) := by decide +kernel
theorem dX10_status_23 : decode cX10_status 23 = .ok (.if_icmp .ge 32, 3) := by decide +kernel
theorem dX10_status_26 : decode cX10_status 26 = .ok (.iload_n 2, 1) := by decide +kernel
theorem dX10_status_27 : decode cX10_status 27 = .ok (.iload_n 1, 1) := by decide +kernel
theorem dX10_status_28 : decode cX10_status 28 = .ok (.iconst (-1), 1) := by decide +kernel
theorem dX10_status_29 : decode cX10_status 29 = .ok (.if_icmp .eq 8, 3) := by decide +kernel
theorem dX10_status_32 : decode cX10_status 32 = .ok (.iload_n 1, 1) := by decide +kernel
theorem dX10_status_33 : decode cX10_status 33 = .ok (.iload_n 3, 1) := by decide +kernel
theorem dX10_status_34 : decode cX10_status 34 = .ok (.if_icmp .ne 12, 3) := by decide +kernel
theorem dX10_status_37 : decode cX10_status 37 = .ok (.aload_n 0, 1) := by decide +kernel
theorem dX10_status_38 : decode cX10_status 38 = .ok (.getfield 19, 3) := by decide +kernel
theorem dX10_status_41 : decode cX10_status 41 = .ok (.iload_n 3, 1) := by decide +kernel
theorem dX10_status_42 : decode cX10_status 42 = .ok (.iaload, 1) := by decide +kernel
theorem dX10_status_43 : decode cX10_status 43 = .ok (.goto 4, 3) := by decide +kernel
theorem dX10_status_46 : decode cX10_status 46 = .ok (.iconst 0, 1) := by decide +kernel
theorem dX10_status_47 : decode cX10_status 47 = .ok (.iadd, 1) := by decide +kernel
theorem dX10_status_48 : decode cX10_status 48 = .ok (.istore_n 2, 1) := by decide +kernel
theorem dX10_status_49 : decode cX10_status 49 = .ok (.iinc 3 1, 3) := by decide +kernel
theorem dX10_status_52 : decode cX10_status 52 = .ok (.goto (-32), 3) := by decide +kernel
theorem dX10_status_55 : decode cX10_status 55 = .ok (.iload_n 2, 1) := by decide +kernel
theorem dX10_status_56 : decode cX10_status 56 = .ok (.ireturn, 1) := by decide +kernel
theorem dJ6_numberOfTrailingZeros_0f7a4_0 : decode cJ6_numberOfTrailingZeros_0f7a4 0 = .ok (.iload_n 0, 1) := by decide +kernel
theorem dJ6_numberOfTrailingZeros_0f7a4_1 : decode cJ6_numberOfTrailingZeros_0f7a4 1 = .ok (.iconst (-1), 1) := by decide +kernel
theorem dJ6_numberOfTrailingZeros_0f7a4_2 : decode cJ6_numberOfTrailingZeros_0f7a4 2 = .ok (.ixor, 1) := by decide +kernel
theorem dJ6_numberOfTrailingZeros_0f7a4_3 : decode cJ6_numberOfTrailingZeros_0f7a4 3 = .ok (.iload_n 0, 1) := by decide +kernel
theorem dJ6_numberOfTrailingZeros_0f7a4_4 : decode cJ6_numberOfTrailingZeros_0f7a4 4 = .ok (.iconst 1, 1) := by decide +kernel
theorem dJ6_numberOfTrailingZeros_0f7a4_5 : decode cJ6_numberOfTrailingZeros_0f7a4 5 = .ok (.isub, 1) := by decide +kernel
theorem dJ6_numberOfTrailingZeros_0f7a4_6 : decode cJ6_numberOfTrailingZeros_0f7a4 6 = .ok (.iand, 1) := by decide +kernel
theorem dJ6_numberOfTrailingZeros_0f7a4_7 : decode cJ6_numberOfTrailingZeros_0f7a4 7 = .ok (.istore_n 0, 1) := by decide +kernel
theorem dJ6_numberOfTrailingZeros_0f7a4_8 : decode cJ6_numberOfTrailingZeros_0f7a4 8 = .ok (.iload_n 0, 1) := by decide +kernel
theorem dJ6_numberOfTrailingZeros_0f7a4_9 : decode cJ6_numberOfTrailingZeros_0f7a4 9 = .ok (.ifCond .gt 8, 3) := by decide +kernel
theorem dJ6_numberOfTrailingZeros_0f7a4_12 : decode cJ6_numberOfTrailingZeros_0f7a4 12 = .ok (.iload_n 0, 1) := by decide +kernel
theorem dJ6_numberOfTrailingZeros_0f7a4_13 : decode cJ6_numberOfTrailingZeros_0f7a4 13 = .ok (.bipush 32, 2) := by decide +kernel
theorem dJ6_numberOfTrailingZeros_0f7a4_15 : decode cJ6_numberOfTrailingZeros_0f7a4 15 = .ok (.iand, 1) := by decide +kernel
theorem dJ6_numberOfTrailingZeros_0f7a4_16 : decode cJ6_numberOfTrailingZeros_0f7a4 16 = .ok (.ireturn, 1) := by decide +kernel
theorem dJ6_numberOfTrailingZeros_0f7a4_17 : decode cJ6_numberOfTrailingZeros_0f7a4 17 = .ok (.iconst 1, 1) := by decide +kernel
theorem dJ6_numberOfTrailingZeros_0f7a4_18 : decode cJ6_numberOfTrailingZeros_0f7a4 18 = .ok (.istore_n 1, 1) := by decide +kernel
theorem dJ6_numberOfTrailingZeros_0f7a4_19 : decode cJ6_numberOfTrailingZeros_0f7a4 19 = .ok (.iload_n 0, 1) := by decide +kernel
theorem dJ6_numberOfTrailingZeros_0f7a4_20 : decode cJ6_numberOfTrailingZeros_0f7a4 20 = .ok (.ldc_w 264, 3) := by decide +kernel
theorem dJ6_numberOfTrailingZeros_0f7a4_23 : decode cJ6_numberOfTrailingZeros_0f7a4 23 = .ok (.if_icmp .le 11, 3) := by decide +kernel
theorem dJ6_numberOfTrailingZeros_0f7a4_26 : decode cJ6_numberOfTrailingZeros_0f7a4 26 = .ok (.iinc 1 16, 3) := by decide +kernel
theorem dJ6_numberOfTrailingZeros_0f7a4_29 : decode cJ6_numberOfTrailingZeros_0f7a4 29 = .ok (.iload_n 0, 1) := by decide +kernel
theorem dJ6_numberOfTrailingZeros_0f7a4_30 : decode cJ6_numberOfTrailingZeros_0f7a4 30 = .ok (.bipush 16, 2) := by decide +kernel
theorem dJ6_numberOfTrailingZeros_0f7a4_32 : decode cJ6_numberOfTrailingZeros_0f7a4 32 = .ok (.iushr, 1) := by decide +kernel
theorem dJ6_numberOfTrailingZeros_0f7a4_33 : decode cJ6_numberOfTrailingZeros_0f7a4 33 = .ok (.istore_n 0, 1) := by decide +kernel
theorem dJ6_numberOfTrailingZeros_0f7a4_34 : decode cJ6_numberOfTrailingZeros_0f7a4 34 = .ok (.iload_n 0, 1) := by decide +kernel
theorem dJ6_numberOfTrailingZeros_0f7a4_35 : decode cJ6_numberOfTrailingZeros_0f7a4 35 = .ok (.sipush 256, 3) := by decide +kernel
theorem dJ6_numberOfTrailingZeros_0f7a4_38 : decode cJ6_numberOfTrailingZeros_0f7a4 38 = .ok (.if_icmp .le 11, 3) := by decide +kernel
theorem dJ6_numberOfTrailingZeros_0f7a4_41 : decode cJ6_numberOfTrailingZeros_0f7a4 41 = .ok (.iinc 1 8, 3) := by decide +kernel
theorem dJ6_numberOfTrailingZeros_0f7a4_44 : decode cJ6_numberOfTrailingZeros_0f7a4 44 = .ok (.iload_n 0, 1) := by decide +kernel
theorem dJ6_numberOfTrailingZeros_0f7a4_45 : decode cJ6_numberOfTrailingZeros_0f7a4 45 = .ok (.bipush 8, 2) := by decide +kernel
theorem dJ6_numberOfTrailingZeros_0f7a4_47 : decode cJ6_numberOfTrailingZeros_0f7a4 47 = .ok (.iushr, 1) := by decide +kernel
theorem dJ6_numberOfTrailingZeros_0f7a4_48 : decode cJ6_numberOfTrailingZeros_0f7a4 48 = .ok (.istore_n 0, 1) := by decide +kernel
theorem dJ6_numberOfTrailingZeros_0f7a4_49 : decode cJ6_numberOfTrailingZeros_0f7a4 49 = .ok (.iload_n 0, 1) := by decide +kernel
theorem dJ6_numberOfTrailingZeros_0f7a4_50 : decode cJ6_numberOfTrailingZeros_0f7a4 50 = .ok (.bipush 16, 2) := by decide +kernel
theorem dJ6_numberOfTrailingZeros_0f7a4_52 : decode cJ6_numberOfTrailingZeros_0f7a4 52 = .ok (.if_icmp .le 10, 3) := by decide +kernel
theorem dJ6_numberOfTrailingZeros_0f7a4_55 : decode cJ6_numberOfTrailingZeros_0f7a4 55 = .ok (.iinc 1 4, 3) := by decide +kernel
theorem dJ6_numberOfTrailingZeros_0f7a4_58 : decode cJ6_numberOfTrailingZeros_0f7a4 58 = .ok (.iload_n 0, 1) := by decide +kernel
theorem dJ6_numberOfTrailingZeros_0f7a4_59 : decode cJ6_numberOfTrailingZeros_0f7a4 59 = .ok (.iconst 4, 1) := by decide +kernel
theorem dJ6_numberOfTrailingZeros_0f7a4_60 : decode cJ6_numberOfTrailingZeros_0f7a4 60 = .ok (.iushr, 1) := by decide +kernel
theorem dJ6_numberOfTrailingZeros_0f7a4_61 : decode cJ6_numberOfTrailingZeros_0f7a4 61 = .ok (.istore_n 0, 1) := by decide +kernel
theorem dJ6_numberOfTrailingZeros_0f7a4_62 : decode cJ6_numberOfTrailingZeros_0f7a4 62 = .ok (.iload_n 0, 1) := by decide +kernel
theorem dJ6_numberOfTrailingZeros_0f7a4_63 : decode cJ6_numberOfTrailingZeros_0f7a4 63 = .ok (.iconst 4, 1) := by decide +kernel
theorem dJ6_numberOfTrailingZeros_0f7a4_64 : decode cJ6_numberOfTrailingZeros_0f7a4 64 = .ok (.if_icmp .le 10, 3) := by decide +kernel
theorem dJ6_numberOfTrailingZeros_0f7a4_67 : decode cJ6_numberOfTrailingZeros_0f7a4 67 = .ok (.iinc 1 2, 3) := by decide +kernel
theorem dJ6_numberOfTrailingZeros_0f7a4_70 : decode cJ6_numberOfTrailingZeros_0f7a4 70 = .ok (.iload_n 0, 1) := by decide +kernel
theorem dJ6_numberOfTrailingZeros_0f7a4_71 : decode cJ6_numberOfTrailingZeros_0f7a4 71 = .ok (.iconst 2, 1) := by decide +kernel
theorem dJ6_numberOfTrailingZeros_0f7a4_72 : decode cJ6_numberOfTrailingZeros_0f7a4 72 = .ok (.iushr, 1) := by decide +kernel
theorem dJ6_numberOfTrailingZeros_0f7a4_73 : decode cJ6_numberOfTrailingZeros_0f7a4 73 = .ok (.istore_n 0, 1) := by decide +kernel
theorem dJ6_numberOfTrailingZeros_0f7a4_74 : decode cJ6_numberOfTrailingZeros_0f7a4 74 = .ok (.iload_n 1, 1) := by decide +kernel
theorem dJ6_numberOfTrailingZeros_0f7a4_75 : decode cJ6_numberOfTrailingZeros_0f7a4 75 = .ok (.iload_n 0, 1) := by decide +kernel
theorem dJ6_numberOfTrailingZeros_0f7a4_76 : decode cJ6_numberOfTrailingZeros_0f7a4 76 = .ok (.iconst 1, 1) := by decide +kernel
theorem dJ6_numberOfTrailingZeros_0f7a4_77 : decode cJ6_numberOfTrailingZeros_0f7a4 77 = .ok (.iushr, 1) := by decide +kernel
theorem dJ6_numberOfTrailingZeros_0f7a4_78 : decode cJ6_numberOfTrailingZeros_0f7a4 78 = .ok (.iadd, 1) := by decide +kernel
theorem dJ6_numberOfTrailingZeros_0f7a4_79 : decode cJ6_numberOfTrailingZeros_0f7a4 79 = .ok (.ireturn, 1) := by decide +kernel
theorem dJ6_bitCount_0f7a4_0 : decode cJ6_bitCount_0f7a4 0 = .ok (.iload_n 0, 1) := by decide +kernel
theorem dJ6_bitCount_0f7a4_1 : decode cJ6_bitCount_0f7a4 1 = .ok (.iload_n 0, 1) := by decide +kernel
theorem dJ6_bitCount_0f7a4_2 : decode cJ6_bitCount_0f7a4 2 = .ok (.iconst 1, 1) := by decide +kernel
theorem dJ6_bitCount_0f7a4_3 : decode cJ6_bitCount_0f7a4 3 = .ok (.iushr, 1) := by decide +kernel
theorem dJ6_bitCount_0f7a4_4 : decode cJ6_bitCount_0f7a4 4 = .ok (.ldc_w 265, 3) := by decide +kernel
theorem dJ6_bitCount_0f7a4_7 : decode cJ6_bitCount_0f7a4 7 = .ok (.iand, 1) := by decide +kernel
theorem dJ6_bitCount_0f7a4_8 : decode cJ6_bitCount_0f7a4 8 = .ok (.isub, 1) := by decide +kernel
theorem dJ6_bitCount_0f7a4_9 : decode cJ6_bitCount_0f7a4 9 = .ok (.istore_n 0, 1) := by decide +kernel
theorem dJ6_bitCount_0f7a4_10 : decode cJ6_bitCount_0f7a4 10 = .ok (.iload_n 0, 1) := by decide +kernel
theorem dJ6_bitCount_0f7a4_11 : decode cJ6_bitCount_0f7a4 11 = .ok (.ldc_w 266, 3) := by decide +kernel
theorem dJ6_bitCount_0f7a4_14 : decode cJ6_bitCount_0f7a4 14 = .ok (.iand, 1) := by decide +kernel
theorem dJ6_bitCount_0f7a4_15 : decode cJ6_bitCount_0f7a4 15 = .ok (.iload_n 0, 1) := by decide +kernel
theorem dJ6_bitCount_0f7a4_16 : decode cJ6_bitCount_0f7a4 16 = .ok (.iconst 2, 1) := by decide +kernel
theorem dJ6_bitCount_0f7a4_17 : decode cJ6_bitCount_0f7a4 17 = .ok (.iushr, 1) := by decide +kernel
theorem dJ6_bitCount_0f7a4_18 : decode cJ6_bitCount_0f7a4 18 = .ok (.ldc_w 266, 3) := by decide +kernel
theorem dJ6_bitCount_0f7a4_21 : decode cJ6_bitCount_0f7a4 21 = .ok (.iand, 1) := by decide +kernel
theorem dJ6_bitCount_0f7a4_22 : decode cJ6_bitCount_0f7a4 22 = .ok (.iadd, 1) := by decide +kernel
theorem dJ6_bitCount_0f7a4_23 : decode cJ6_bitCount_0f7a4 23 = .ok (.istore_n 0, 1) := by decide +kernel
theorem dJ6_bitCount_0f7a4_24 : decode cJ6_bitCount_0f7a4 24 = .ok (.iload_n 0, 1) := by decide +kernel
theorem dJ6_bitCount_0f7a4_25 : decode cJ6_bitCount_0f7a4 25 = .ok (.iload_n 0, 1) := by decide +kernel
theorem dJ6_bitCount_0f7a4_26 : decode cJ6_bitCount_0f7a4 26 = .ok (.iconst 4, 1) := by decide +kernel
theorem dJ6_bitCount_0f7a4_27 : decode cJ6_bitCount_0f7a4 27 = .ok (.iushr, 1) := by decide +kernel
theorem dJ6_bitCount_0f7a4_28 : decode cJ6_bitCount_0f7a4 28 = .ok (.iadd, 1) := by decide +kernel
theorem dJ6_bitCount_0f7a4_29 : decode cJ6_bitCount_0f7a4 29 = .ok (.ldc_w 267, 3) := by decide +kernel
theorem dJ6_bitCount_0f7a4_32 : decode cJ6_bitCount_0f7a4 32 = .ok (.iand, 1) := by decide +kernel
theorem dJ6_bitCount_0f7a4_33 : decode cJ6_bitCount_0f7a4 33 = .ok (.istore_n 0, 1) := by decide +kernel
theorem dJ6_bitCount_0f7a4_34 : decode cJ6_bitCount_0f7a4 34 = .ok (.iload_n 0, 1) := by decide +kernel
theorem dJ6_bitCount_0f7a4_35 : decode cJ6_bitCount_0f7a4 35 = .ok (.iload_n 0, 1) := by decide +kernel
theorem dJ6_bitCount_0f7a4_36 : decode cJ6_bitCount_0f7a4 36 = .ok (.bipush 8, 2) := by decide +kernel
theorem dJ6_bitCount_0f7a4_38 : decode cJ6_bitCount_0f7a4 38 = .ok (.iushr, 1) := by decide +kernel
theorem dJ6_bitCount_0f7a4_39 : decode cJ6_bitCount_0f7a4 39 = .ok (.iadd, 1) := by decide +kernel
theorem dJ6_bitCount_0f7a4_40 : decode cJ6_bitCount_0f7a4 40 = .ok (.istore_n 0, 1) := by decide +kernel
theorem dJ6_bitCount_0f7a4_41 : decode cJ6_bitCount_0f7a4 41 = .ok (.iload_n 0, 1) := by decide +kernel
theorem dJ6_bitCount_0f7a4_42 : decode cJ6_bitCount_0f7a4 42 = .ok (.iload_n 0, 1) := by decide +kernel
theorem dJ6_bitCount_0f7a4_43 : decode cJ6_bitCount_0f7a4 43 = .ok (.bipush 16, 2) := by decide +kernel
theorem dJ6_bitCount_0f7a4_45 : decode cJ6_bitCount_0f7a4 45 = .ok (.iushr, 1) := by decide +kernel
theorem dJ6_bitCount_0f7a4_46 : decode cJ6_bitCount_0f7a4 46 = .ok (.iadd, 1) := by decide +kernel
theorem dJ6_bitCount_0f7a4_47 : decode cJ6_bitCount_0f7a4 47 = .ok (.istore_n 0, 1) := by decide +kernel
theorem dJ6_bitCount_0f7a4_48 : decode cJ6_bitCount_0f7a4 48 = .ok (.iload_n 0, 1) := by decide +kernel
theorem dJ6_bitCount_0f7a4_49 : decode cJ6_bitCount_0f7a4 49 = .ok (.bipush 63, 2) := by decide +kernel
theorem dJ6_bitCount_0f7a4_51 : decode cJ6_bitCount_0f7a4 51 = .ok (.iand, 1) := by decide +kernel
theorem dJ6_bitCount_0f7a4_52 : decode cJ6_bitCount_0f7a4 52 = .ok (.ireturn, 1) := by decide +kernel
theorem dJ9_max_7cf53_0 : decode cJ9_max_7cf53 0 = .ok (.iload_n 0, 1) := by decide +kernel
theorem dJ9_max_7cf53_1 : decode cJ9_max_7cf53 1 = .ok (.iload_n 1, 1) := by decide +kernel
theorem dJ9_max_7cf53_2 : decode cJ9_max_7cf53 2 = .ok (.if_icmp .lt 7, 3) := by decide +kernel
theorem dJ9_max_7cf53_5 : decode cJ9_max_7cf53 5 = .ok (.iload_n 0, 1) := by decide +kernel
theorem dJ9_max_7cf53_6 : decode cJ9_max_7cf53 6 = .ok (.goto 4, 3) := by decide +kernel
theorem dJ9_max_7cf53_9 : decode cJ9_max_7cf53 9 = .ok (.iload_n 1, 1) := by decide +kernel
theorem dJ9_max_7cf53_10 : decode cJ9_max_7cf53 10 = .ok (.ireturn, 1) := by decide +kernel
theorem dJ9_min_7cf53_0 : decode cJ9_min_7cf53 0 = .ok (.iload_n 0, 1) := by decide +kernel
theorem dJ9_min_7cf53_1 : decode cJ9_min_7cf53 1 = .ok (.iload_n 1, 1) := by decide +kernel
theorem dJ9_min_7cf53_2 : decode cJ9_min_7cf53 2 = .ok (.if_icmp .gt 7, 3) := by decide +kernel
theorem dJ9_min_7cf53_5 : decode cJ9_min_7cf53 5 = .ok (.iload_n 0, 1) := by decide +kernel
theorem dJ9_min_7cf53_6 : decode cJ9_min_7cf53 6 = .ok (.goto 4, 3) := by decide +kernel
theorem dJ9_min_7cf53_9 : decode cJ9_min_7cf53 9 = .ok (.iload_n 1, 1) := by decide +kernel
theorem dJ9_min_7cf53_10 : decode cJ9_min_7cf53 10 = .ok (.ireturn, 1) := by decide +kernel
theorem dJ9_min_f86c9_0 : decode cJ9_min_f86c9 0 = .ok (.lload_n 0, 1) := by decide +kernel
theorem dJ9_min_f86c9_1 : decode cJ9_min_f86c9 1 = .ok (.lload_n 2, 1) := by decide +kernel
theorem dJ9_min_f86c9_2 : decode cJ9_min_f86c9 2 = .ok (.lcmp, 1) := by decide +kernel
theorem dJ9_min_f86c9_3 : decode cJ9_min_f86c9 3 = .ok (.ifCond .gt 7, 3) := by decide +kernel
theorem dJ9_min_f86c9_6 : decode cJ9_min_f86c9 6 = .ok (.lload_n 0, 1) := by decide +kernel
theorem dJ9_min_f86c9_7 : decode cJ9_min_f86c9 7 = .ok (.goto 4, 3) := by decide +kernel
theorem dJ9_min_f86c9_10 : decode cJ9_min_f86c9 10 = .ok (.lload_n 2, 1) := by decide +kernel
theorem dJ9_min_f86c9_11 : decode cJ9_min_f86c9 11 = .ok (.lreturn, 1) := by decide +kernel
theorem dJ0_length_8abf5_0 : decode cJ0_length_8abf5 0 = .ok (.aload_n 0, 1) := by decide +kernel
theorem dJ0_length_8abf5_1 : decode cJ0_length_8abf5 1 = .ok (.getfield 9, 3) := by decide +kernel
theorem dJ0_length_8abf5_4 : decode cJ0_length_8abf5 4 = .ok (.arraylength, 1) := by decide +kernel
theorem dJ0_length_8abf5_5 : decode cJ0_length_8abf5 5 = .ok (.aload_n 0, 1) := by decide +kernel
theorem dJ0_length_8abf5_6 : decode cJ0_length_8abf5 6 = .ok (.invokevirtual 335, 3) := by decide +kernel
theorem dJ0_length_8abf5_9 : decode cJ0_length_8abf5 9 = .ok (.ishr, 1) := by decide +kernel
theorem dJ0_length_8abf5_10 : decode cJ0_length_8abf5 10 = .ok (.ireturn, 1) := by decide +kernel
theorem dJ0_charAt_5068e_0 : decode cJ0_charAt_5068e 0 = .ok (.aload_n 0, 1) := by decide +kernel
theorem dJ0_charAt_5068e_1 : decode cJ0_charAt_5068e 1 = .ok (.invokevirtual 492, 3) := by decide +kernel
theorem dJ0_charAt_5068e_4 : decode cJ0_charAt_5068e 4 = .ok (.ifCond .eq 12, 3) := by decide +kernel
theorem dJ0_charAt_5068e_7 : decode cJ0_charAt_5068e 7 = .ok (.aload_n 0, 1) := by decide +kernel
theorem dJ0_charAt_5068e_8 : decode cJ0_charAt_5068e 8 = .ok (.getfield 9, 3) := by decide +kernel
theorem dJ0_charAt_5068e_11 : decode cJ0_charAt_5068e 11 = .ok (.iload_n 1, 1) := by decide +kernel
theorem dJ0_charAt_5068e_12 : decode cJ0_charAt_5068e 12 = .ok (.invokestatic 495, 3) := by decide +kernel
theorem dJ0_charAt_5068e_15 : decode cJ0_charAt_5068e 15 = .ok (.ireturn, 1) := by decide +kernel
theorem dJ0_charAt_5068e_16 : decode cJ0_charAt_5068e 16 = .ok (.aload_n 0, 1) := by decide +kernel
theorem dJ0_charAt_5068e_17 : decode cJ0_charAt_5068e 17 = .ok (.getfield 9, 3) := by decide +kernel
theorem dJ0_charAt_5068e_20 : decode cJ0_charAt_5068e 20 = .ok (.iload_n 1, 1) := by decide +kernel
theorem dJ0_charAt_5068e_21 : decode cJ0_charAt_5068e 21 = .ok (.invokestatic 498, 3) := by decide +kernel
theorem dJ0_charAt_5068e_24 : decode cJ0_charAt_5068e 24 = .ok (.ireturn, 1) := by decide +kernel
theorem dJ0_coder_7d493_0 : decode cJ0_coder_7d493 0 = .ok (.getstatic 38, 3) := by decide +kernel
theorem dJ0_coder_7d493_3 : decode cJ0_coder_7d493 3 = .ok (.ifCond .eq 10, 3) := by decide +kernel
theorem dJ0_coder_7d493_6 : decode cJ0_coder_7d493 6 = .ok (.aload_n 0, 1) := by decide +kernel
theorem dJ0_coder_7d493_7 : decode cJ0_coder_7d493 7 = .ok (.getfield 15, 3) := by decide +kernel
theorem dJ0_coder_7d493_10 : decode cJ0_coder_7d493 10 = .ok (.goto 4, 3) := by decide +kernel
theorem dJ0_coder_7d493_13 : decode cJ0_coder_7d493 13 = .ok (.iconst 1, 1) := by decide +kernel
theorem dJ0_coder_7d493_14 : decode cJ0_coder_7d493 14 = .ok (.ireturn, 1) := by decide +kernel
theorem dJ0_isLatin1_aae02_0 : decode cJ0_isLatin1_aae02 0 = .ok (.getstatic 38, 3) := by decide +kernel
theorem dJ0_isLatin1_aae02_3 : decode cJ0_isLatin1_aae02 3 = .ok (.ifCond .eq 14, 3) := by decide +kernel
theorem dJ0_isLatin1_aae02_6 : decode cJ0_isLatin1_aae02 6 = .ok (.aload_n 0, 1) := by decide +kernel
theorem dJ0_isLatin1_aae02_7 : decode cJ0_isLatin1_aae02 7 = .ok (.getfield 15, 3) := by decide +kernel
theorem dJ0_isLatin1_aae02_10 : decode cJ0_isLatin1_aae02 10 = .ok (.ifCond .ne 7, 3) := by decide +kernel
theorem dJ0_isLatin1_aae02_13 : decode cJ0_isLatin1_aae02 13 = .ok (.iconst 1, 1) := by decide +kernel
theorem dJ0_isLatin1_aae02_14 : decode cJ0_isLatin1_aae02 14 = .ok (.goto 4, 3) := by decide +kernel
theorem dJ0_isLatin1_aae02_17 : decode cJ0_isLatin1_aae02 17 = .ok (.iconst 0, 1) := by decide +kernel
theorem dJ0_isLatin1_aae02_18 : decode cJ0_isLatin1_aae02 18 = .ok (.ireturn, 1) := by decide +kernel
theorem dJ0_checkIndex_df160_0 : decode cJ0_checkIndex_df160 0 = .ok (.iload_n 0, 1) := by decide +kernel
theorem dJ0_checkIndex_df160_1 : decode cJ0_checkIndex_df160 1 = .ok (.iload_n 1, 1) := by decide +kernel
theorem dJ0_checkIndex_df160_2 : decode cJ0_checkIndex_df160 2 = .ok (.getstatic 1053, 3) := by decide +kernel
theorem dJ0_checkIndex_df160_5 : decode cJ0_checkIndex_df160 5 = .ok (.invokestatic 1059, 3) := by decide +kernel
theorem dJ0_checkIndex_df160_8 : decode cJ0_checkIndex_df160 8 = .ok (.pop, 1) := by decide +kernel
theorem dJ0_checkIndex_df160_9 : decode cJ0_checkIndex_df160 9 = .ok (.return_, 1) := by decide +kernel
theorem dJ1_charAt_3b067_0 : decode cJ1_charAt_3b067 0 = .ok (.iload_n 1, 1) := by decide +kernel
theorem dJ1_charAt_3b067_1 : decode cJ1_charAt_3b067 1 = .ok (.aload_n 0, 1) := by decide +kernel
theorem dJ1_charAt_3b067_2 : decode cJ1_charAt_3b067 2 = .ok (.arraylength, 1) := by decide +kernel
theorem dJ1_charAt_3b067_3 : decode cJ1_charAt_3b067 3 = .ok (.invokestatic 9, 3) := by decide +kernel
theorem dJ1_charAt_3b067_6 : decode cJ1_charAt_3b067 6 = .ok (.aload_n 0, 1) := by decide +kernel
theorem dJ1_charAt_3b067_7 : decode cJ1_charAt_3b067 7 = .ok (.iload_n 1, 1) := by decide +kernel
theorem dJ1_charAt_3b067_8 : decode cJ1_charAt_3b067 8 = .ok (.baload, 1) := by decide +kernel
theorem dJ1_charAt_3b067_9 : decode cJ1_charAt_3b067 9 = .ok (.sipush 255, 3) := by decide +kernel
theorem dJ1_charAt_3b067_12 : decode cJ1_charAt_3b067 12 = .ok (.iand, 1) := by decide +kernel
theorem dJ1_charAt_3b067_13 : decode cJ1_charAt_3b067 13 = .ok (.i2c, 1) := by decide +kernel
theorem dJ1_charAt_3b067_14 : decode cJ1_charAt_3b067 14 = .ok (.ireturn, 1) := by decide +kernel
theorem dJ2_getChar_3b067_0 : decode cJ2_getChar_3b067 0 = .ok (.getstatic 44, 3) := by decide +kernel
theorem dJ2_getChar_3b067_3 : decode cJ2_getChar_3b067 3 = .ok (.ifCond .ne 25, 3) := by decide +kernel
theorem dJ2_getChar_3b067_6 : decode cJ2_getChar_3b067 6 = .ok (.iload_n 1, 1) := by decide +kernel
theorem dJ2_getChar_3b067_7 : decode cJ2_getChar_3b067 7 = .ok (.ifCond .lt 11, 3) := by decide +kernel
theorem dJ2_getChar_3b067_10 : decode cJ2_getChar_3b067 10 = .ok (.iload_n 1, 1) := by decide +kernel
theorem dJ2_getChar_3b067_11 : decode cJ2_getChar_3b067 11 = .ok (.aload_n 0, 1) := by decide +kernel
theorem dJ2_getChar_3b067_12 : decode cJ2_getChar_3b067 12 = .ok (.invokestatic 48, 3) := by decide +kernel
theorem dJ2_getChar_3b067_15 : decode cJ2_getChar_3b067 15 = .ok (.if_icmp .lt 13, 3) := by decide +kernel
theorem dJ2_getChar_3b067_18 : decode cJ2_getChar_3b067 18 = .ok (.new 52, 3) := by decide +kernel
theorem dJ2_getChar_3b067_21 : decode cJ2_getChar_3b067 21 = .ok (.dup, 1) := by decide +kernel
theorem dJ2_getChar_3b067_22 : decode cJ2_getChar_3b067 22 = .ok (.ldc 54, 2) := by decide +kernel
theorem dJ2_getChar_3b067_24 : decode cJ2_getChar_3b067 24 = .ok (.invokespecial 56, 3) := by decide +kernel
theorem dJ2_getChar_3b067_27 : decode cJ2_getChar_3b067 27 = .ok (.athrow, 1) := by decide +kernel
theorem dJ2_getChar_3b067_28 : decode cJ2_getChar_3b067 28 = .ok (.iload_n 1, 1) := by decide +kernel
theorem dJ2_getChar_3b067_29 : decode cJ2_getChar_3b067 29 = .ok (.iconst 1, 1) := by decide +kernel
theorem dJ2_getChar_3b067_30 : decode cJ2_getChar_3b067 30 = .ok (.ishl, 1) := by decide +kernel
theorem dJ2_getChar_3b067_31 : decode cJ2_getChar_3b067 31 = .ok (.istore_n 1, 1) := by decide +kernel
theorem dJ2_getChar_3b067_32 : decode cJ2_getChar_3b067 32 = .ok (.aload_n 0, 1) := by decide +kernel
theorem dJ2_getChar_3b067_33 : decode cJ2_getChar_3b067 33 = .ok (.iload_n 1, 1) := by decide +kernel
theorem dJ2_getChar_3b067_34 : decode cJ2_getChar_3b067 34 = .ok (.iinc 1 1, 3) := by decide +kernel
theorem dJ2_getChar_3b067_37 : decode cJ2_getChar_3b067 37 = .ok (.baload, 1) := by decide +kernel
theorem dJ2_getChar_3b067_38 : decode cJ2_getChar_3b067 38 = .ok (.sipush 255, 3) := by decide +kernel
theorem dJ2_getChar_3b067_41 : decode cJ2_getChar_3b067 41 = .ok (.iand, 1) := by decide +kernel
theorem dJ2_getChar_3b067_42 : decode cJ2_getChar_3b067 42 = .ok (.getstatic 59, 3) := by decide +kernel
theorem dJ2_getChar_3b067_45 : decode cJ2_getChar_3b067 45 = .ok (.ishl, 1) := by decide +kernel
theorem dJ2_getChar_3b067_46 : decode cJ2_getChar_3b067 46 = .ok (.aload_n 0, 1) := by decide +kernel
theorem dJ2_getChar_3b067_47 : decode cJ2_getChar_3b067 47 = .ok (.iload_n 1, 1) := by decide +kernel
theorem dJ2_getChar_3b067_48 : decode cJ2_getChar_3b067 48 = .ok (.baload, 1) := by decide +kernel
theorem dJ2_getChar_3b067_49 : decode cJ2_getChar_3b067 49 = .ok (.sipush 255, 3) := by decide +kernel
theorem dJ2_getChar_3b067_52 : decode cJ2_getChar_3b067 52 = .ok (.iand, 1) := by decide +kernel
theorem dJ2_getChar_3b067_53 : decode cJ2_getChar_3b067 53 = .ok (.getstatic 63, 3) := by decide +kernel
theorem dJ2_getChar_3b067_56 : decode cJ2_getChar_3b067 56 = .ok (.ishl, 1) := by decide +kernel
theorem dJ2_getChar_3b067_57 : decode cJ2_getChar_3b067 57 = .ok (.ior, 1) := by decide +kernel
theorem dJ2_getChar_3b067_58 : decode cJ2_getChar_3b067 58 = .ok (.i2c, 1) := by decide +kernel
theorem dJ2_getChar_3b067_59 : decode cJ2_getChar_3b067 59 = .ok (.ireturn, 1) := by decide +kernel
theorem dJ2_length_9d52b_0 : decode cJ2_length_9d52b 0 = .ok (.aload_n 0, 1) := by decide +kernel
theorem dJ2_length_9d52b_1 : decode cJ2_length_9d52b 1 = .ok (.arraylength, 1) := by decide +kernel
theorem dJ2_length_9d52b_2 : decode cJ2_length_9d52b 2 = .ok (.iconst 1, 1) := by decide +kernel
theorem dJ2_length_9d52b_3 : decode cJ2_length_9d52b 3 = .ok (.ishr, 1) := by decide +kernel
theorem dJ2_length_9d52b_4 : decode cJ2_length_9d52b 4 = .ok (.ireturn, 1) := by decide +kernel
theorem dJ2_charAt_3b067_0 : decode cJ2_charAt_3b067 0 = .ok (.iload_n 1, 1) := by decide +kernel
theorem dJ2_charAt_3b067_1 : decode cJ2_charAt_3b067 1 = .ok (.aload_n 0, 1) := by decide +kernel
theorem dJ2_charAt_3b067_2 : decode cJ2_charAt_3b067 2 = .ok (.invokestatic 67, 3) := by decide +kernel
theorem dJ2_charAt_3b067_5 : decode cJ2_charAt_3b067 5 = .ok (.aload_n 0, 1) := by decide +kernel
theorem dJ2_charAt_3b067_6 : decode cJ2_charAt_3b067 6 = .ok (.iload_n 1, 1) := by decide +kernel
theorem dJ2_charAt_3b067_7 : decode cJ2_charAt_3b067 7 = .ok (.invokestatic 71, 3) := by decide +kernel
theorem dJ2_charAt_3b067_10 : decode cJ2_charAt_3b067 10 = .ok (.ireturn, 1) := by decide +kernel
theorem dJ2_checkIndex_2214a_0 : decode cJ2_checkIndex_2214a 0 = .ok (.iload_n 0, 1) := by decide +kernel
theorem dJ2_checkIndex_2214a_1 : decode cJ2_checkIndex_2214a 1 = .ok (.aload_n 1, 1) := by decide +kernel
theorem dJ2_checkIndex_2214a_2 : decode cJ2_checkIndex_2214a 2 = .ok (.invokestatic 48, 3) := by decide +kernel
theorem dJ2_checkIndex_2214a_5 : decode cJ2_checkIndex_2214a 5 = .ok (.invokestatic 414, 3) := by decide +kernel
theorem dJ2_checkIndex_2214a_8 : decode cJ2_checkIndex_2214a 8 = .ok (.return_, 1) := by decide +kernel
theorem dJ3_checkIndex_8e157_0 : decode cJ3_checkIndex_8e157 0 = .ok (.iload_n 0, 1) := by decide +kernel
theorem dJ3_checkIndex_8e157_1 : decode cJ3_checkIndex_8e157 1 = .ok (.ifCond .lt 8, 3) := by decide +kernel
theorem dJ3_checkIndex_8e157_4 : decode cJ3_checkIndex_8e157 4 = .ok (.iload_n 0, 1) := by decide +kernel
theorem dJ3_checkIndex_8e157_5 : decode cJ3_checkIndex_8e157 5 = .ok (.iload_n 1, 1) := by decide +kernel
theorem dJ3_checkIndex_8e157_6 : decode cJ3_checkIndex_8e157 6 = .ok (.if_icmp .lt 10, 3) := by decide +kernel
theorem dJ3_checkIndex_8e157_9 : decode cJ3_checkIndex_8e157 9 = .ok (.aload_n 2, 1) := by decide +kernel
theorem dJ3_checkIndex_8e157_10 : decode cJ3_checkIndex_8e157 10 = .ok (.iload_n 0, 1) := by decide +kernel
theorem dJ3_checkIndex_8e157_11 : decode cJ3_checkIndex_8e157 11 = .ok (.iload_n 1, 1) := by decide +kernel
theorem dJ3_checkIndex_8e157_12 : decode cJ3_checkIndex_8e157 12 = .ok (.invokestatic 95, 3) := by decide +kernel
theorem dJ3_checkIndex_8e157_15 : decode cJ3_checkIndex_8e157 15 = .ok (.athrow, 1) := by decide +kernel
theorem dJ3_checkIndex_8e157_16 : decode cJ3_checkIndex_8e157 16 = .ok (.iload_n 0, 1) := by decide +kernel
theorem dJ3_checkIndex_8e157_17 : decode cJ3_checkIndex_8e157 17 = .ok (.ireturn, 1) := by decide +kernel
