theorem dX9_walk_0 : decode cX9_walk 0 = .ok (.iload_n 1, 1) := by decide +kernel
theorem dX9_walk_1 : decode cX9_walk 1 = .ok (.invokestatic 240, 3) := by decide +kernel
theorem dX9_walk_4 : decode cX9_walk 4 = .ok (.ifCond .ne 10, 3) := by decide +kernel
theorem dX9_walk_7 : decode cX9_walk 7 = .ok (.aload_n 0, 1) := by decide +kernel
theorem dX9_walk_8 : decode cX9_walk 8 = .ok (.ldc 64, 2) := by decide +kernel
theorem dX9_walk_10 : decode cX9_walk 10 = .ok (.invokevirtual 65, 3) := by decide +kernel
theorem dX9_walk_13 : decode cX9_walk 13 = .ok (.ireturn, 1) := by decide +kernel
theorem dX9_walk_14 : decode cX9_walk 14 = .ok (.aload_n 0, 1) := by decide +kernel
theorem dX9_walk_15 : decode cX9_walk 15 = .ok (.getfield 39, 3) := by decide +kernel
theorem dX9_walk_18 : decode cX9_walk 18 = .ok (.iload_n 1, 1) := by decide +kernel
theorem dX9_walk_19 : decode cX9_walk 19 = .ok (.invokevirtual 250, 3) := by decide +kernel
theorem dX9_walk_22 : decode cX9_walk 22 = .ok (.ifCond .eq 10, 3) := by decide +kernel
theorem dX9_walk_25 : decode cX9_walk 25 = .ok (.aload_n 0, 1) := by decide +kernel
theorem dX9_walk_26 : decode cX9_walk 26 = .ok (.ldc 253, 2) := by decide +kernel
theorem dX9_walk_28 : decode cX9_walk 28 = .ok (.invokevirtual 65, 3) := by decide +kernel
theorem dX9_walk_31 : decode cX9_walk 31 = .ok (.ireturn, 1) := by decide +kernel
theorem dX9_walk_32 : decode cX9_walk 32 = .ok (.iload_n 2, 1) := by decide +kernel
theorem dX9_walk_33 : decode cX9_walk 33 = .ok (.invokestatic 58, 3) := by decide +kernel
theorem dX9_walk_36 : decode cX9_walk 36 = .ok (.ifCond .ne 10, 3) := by decide +kernel
theorem dX9_walk_39 : decode cX9_walk 39 = .ok (.aload_n 0, 1) := by decide +kernel
theorem dX9_walk_40 : decode cX9_walk 40 = .ok (.ldc 64, 2) := by decide +kernel
theorem dX9_walk_42 : decode cX9_walk 42 = .ok (.invokevirtual 65, 3) := by decide +kernel
theorem dX9_walk_45 : decode cX9_walk 45 = .ok (.ireturn, 1) := by decide +kernel
theorem dX9_walk_46 : decode cX9_walk 46 = .ok (.aload_n 0, 1) := by decide +kernel
theorem dX9_walk_47 : decode cX9_walk 47 = .ok (.getfield 39, 3) := by decide +kernel
theorem dX9_walk_50 : decode cX9_walk 50 = .ok (.iload_n 1, 1) := by decide +kernel
theorem dX9_walk_51 : decode cX9_walk 51 = .ok (.iload_n 2, 1) := by decide +kernel
theorem dX9_walk_52 : decode cX9_walk 52 = .ok (.invokevirtual 287, 3) := by decide +kernel
theorem dX9_walk_55 : decode cX9_walk 55 = .ok (.ireturn, 1) := by decide +kernel
set_option maxRecDepth 20000 in
theorem ggX9_image_X5_become : GoodIn wsX9_image wsX5_become := goodIn_r _ [8, 9, 10, 11, 12, 13, 14, 15, 16, 17, 18, 19, 20, 21, 22, 23, 24, 25, 26, 36, 37, 38, 39, 40, 41, 42, 43] (by decide +kernel) (by decide +kernel)
set_option maxRecDepth 20000 in
theorem gX9_image_X5_become : GoodIn wsX9_image (wsV RX9 232 RX5 yX5_become wsX5_become) := goodIn_app (goodIn_of _ (by decide +kernel)) ggX9_image_X5_become
theorem dX9_image_0 : decode cX9_image 0 = .ok (.aload_n 0, 1) := by decide +kernel
theorem dX9_image_1 : decode cX9_image 1 = .ok (.getfield 16, 3) := by decide +kernel
theorem dX9_image_4 : decode cX9_image 4 = .ok (.aload_n 0, 1) := by decide +kernel
theorem dX9_image_5 : decode cX9_image 5 = .ok (.getfield 10, 3) := by decide +kernel
theorem dX9_image_8 : decode cX9_image 8 = .ok (.invokevirtual 232, 3) := by decide +kernel
theorem dX9_image_11 : decode cX9_image 11 = .ok (.aload_n 0, 1) := by decide +kernel
theorem dX9_image_12 : decode cX9_image 12 = .ok (.iconst 1, 1) := by decide +kernel
theorem dX9_image_13 : decode cX9_image 13 = .ok (.putfield 54, 3) := by decide +kernel
theorem dX9_image_16 : decode cX9_image 16 = .ok (.iconst 1, 1) := by decide +kernel
theorem dX9_image_17 : decode cX9_image 17 = .ok (.ireturn, 1) := by decide +kernel
set_option maxRecDepth 20000 in
theorem ggX9_undo_X9_finding : GoodIn wsX9_undo wsX9_finding := goodIn_r _ [9, 10, 11, 35, 36, 37, 38, 39, 40, 41, 42, 43] (by decide +kernel) (by decide +kernel)
set_option maxRecDepth 20000 in
theorem gX9_undo_X9_finding : GoodIn wsX9_undo (wsV RX9 65 RX9 yX9_finding wsX9_finding) := goodIn_app (goodIn_of _ (by decide +kernel)) ggX9_undo_X9_finding
set_option maxRecDepth 20000 in
theorem ggX9_undo_X5_become : GoodIn wsX9_undo wsX5_become := goodIn_r _ [16, 17, 18, 19, 20, 21, 22, 23, 24, 25, 26, 27, 28, 29, 30, 31, 32, 33, 34, 44, 45, 46, 47, 48, 49, 50, 51] (by decide +kernel) (by decide +kernel)
set_option maxRecDepth 20000 in
theorem gX9_undo_X5_become : GoodIn wsX9_undo (wsV RX9 232 RX5 yX5_become wsX5_become) := goodIn_app (goodIn_of _ (by decide +kernel)) ggX9_undo_X5_become
theorem dX9_undo_0 : decode cX9_undo 0 = .ok (.aload_n 0, 1) := by decide +kernel
theorem dX9_undo_1 : decode cX9_undo 1 = .ok (.getfield 54, 3) := by decide +kernel
theorem dX9_undo_4 : decode cX9_undo 4 = .ok (.ifCond .ne 10, 3) := by decide +kernel
theorem dX9_undo_7 : decode cX9_undo 7 = .ok (.aload_n 0, 1) := by decide +kernel
theorem dX9_undo_8 : decode cX9_undo 8 = .ok (.ldc 100, 2) := by decide +kernel
theorem dX9_undo_10 : decode cX9_undo 10 = .ok (.invokevirtual 65, 3) := by decide +kernel
theorem dX9_undo_13 : decode cX9_undo 13 = .ok (.ireturn, 1) := by decide +kernel
theorem dX9_undo_14 : decode cX9_undo 14 = .ok (.aload_n 0, 1) := by decide +kernel
theorem dX9_undo_15 : decode cX9_undo 15 = .ok (.getfield 10, 3) := by decide +kernel
theorem dX9_undo_18 : decode cX9_undo 18 = .ok (.aload_n 0, 1) := by decide +kernel
theorem dX9_undo_19 : decode cX9_undo 19 = .ok (.getfield 16, 3) := by decide +kernel
theorem dX9_undo_22 : decode cX9_undo 22 = .ok (.invokevirtual 232, 3) := by decide +kernel
theorem dX9_undo_25 : decode cX9_undo 25 = .ok (.aload_n 0, 1) := by decide +kernel
theorem dX9_undo_26 : decode cX9_undo 26 = .ok (.getfield 10, 3) := by decide +kernel
theorem dX9_undo_29 : decode cX9_undo 29 = .ok (.getfield 279, 3) := by decide +kernel
theorem dX9_undo_32 : decode cX9_undo 32 = .ok (.ireturn, 1) := by decide +kernel
theorem dX9_tear_0 : decode cX9_tear 0 = .ok (.aload_n 0, 1) := by decide +kernel
theorem dX9_tear_1 : decode cX9_tear 1 = .ok (.getfield 54, 3) := by decide +kernel
theorem dX9_tear_4 : decode cX9_tear 4 = .ok (.ifCond .eq 7, 3) := by decide +kernel
theorem dX9_tear_7 : decode cX9_tear 7 = .ok (.iconst 1, 1) := by decide +kernel
theorem dX9_tear_8 : decode cX9_tear 8 = .ok (.goto 4, 3) := by decide +kernel
theorem dX9_tear_11 : decode cX9_tear 11 = .ok (.iconst 0, 1) := by decide +kernel
theorem dX9_tear_12 : decode cX9_tear 12 = .ok (.istore_n 1, 1) := by decide +kernel
theorem dX9_tear_13 : decode cX9_tear 13 = .ok (.aload_n 0, 1) := by decide +kernel
theorem dX9_tear_14 : decode cX9_tear 14 = .ok (.iconst 0, 1) := by decide +kernel
theorem dX9_tear_15 : decode cX9_tear 15 = .ok (.putfield 54, 3) := by decide +kernel
theorem dX9_tear_18 : decode cX9_tear 18 = .ok (.iload_n 1, 1) := by decide +kernel
theorem dX9_tear_19 : decode cX9_tear 19 = .ok (.ireturn, 1) := by decide +kernel
set_option maxRecDepth 20000 in
theorem ggX9_count_X0_countSigns : GoodIn wsX9_count wsX0_countSigns := goodIn_r _ [8, 9, 48] (by decide +kernel) (by decide +kernel)
set_option maxRecDepth 20000 in
theorem gX9_count_X0_countSigns : GoodIn wsX9_count (wsV RX9 290 RX0 yX0_countSigns wsX0_countSigns) := goodIn_app (goodIn_of _ (by decide +kernel)) ggX9_count_X0_countSigns
set_option maxRecDepth 20000 in
theorem ggX9_count_X5_strokesOfAll : GoodIn wsX9_count wsX5_strokesOfAll := goodIn_r _ [14, 15, 16, 17, 18, 19, 20, 21, 22, 23, 39, 40, 41, 42, 43, 44, 45] (by decide +kernel) (by decide +kernel)
set_option maxRecDepth 20000 in
theorem gX9_count_X5_strokesOfAll : GoodIn wsX9_count (wsV RX9 293 RX5 yX5_strokesOfAll wsX5_strokesOfAll) := goodIn_app (goodIn_of _ (by decide +kernel)) ggX9_count_X5_strokesOfAll
set_option maxRecDepth 20000 in
theorem ggX9_count_X9_finding : GoodIn wsX9_count wsX9_finding := goodIn_r _ [28, 3, 29, 30, 31, 32, 33, 34, 35, 36, 37, 38] (by decide +kernel) (by decide +kernel)
set_option maxRecDepth 20000 in
theorem gX9_count_X9_finding : GoodIn wsX9_count (wsV RX9 65 RX9 yX9_finding wsX9_finding) := goodIn_app (goodIn_of _ (by decide +kernel)) ggX9_count_X9_finding
theorem dX9_count_0 : decode cX9_count 0 = .ok (.iload_n 1, 1) := by decide +kernel
theorem dX9_count_1 : decode cX9_count 1 = .ok (.tableswitch 66 0 3 #[31, 39, 50, 58], 31) := by decide +kernel
theorem dX9_count_32 : decode cX9_count 32 = .ok (.aload_n 0, 1) := by decide +kernel
theorem dX9_count_33 : decode cX9_count 33 = .ok (.getfield 10, 3) := by decide +kernel
theorem dX9_count_36 : decode cX9_count 36 = .ok (.getfield 279, 3) := by decide +kernel
theorem dX9_count_39 : decode cX9_count 39 = .ok (.ireturn, 1) := by decide +kernel
theorem dX9_count_40 : decode cX9_count 40 = .ok (.aload_n 0, 1) := by decide +kernel
theorem dX9_count_41 : decode cX9_count 41 = .ok (.getfield 10, 3) := by decide +kernel
theorem dX9_count_44 : decode cX9_count 44 = .ok (.getfield 112, 3) := by decide +kernel
theorem dX9_count_47 : decode cX9_count 47 = .ok (.invokevirtual 290, 3) := by decide +kernel
theorem dX9_count_50 : decode cX9_count 50 = .ok (.ireturn, 1) := by decide +kernel
theorem dX9_count_51 : decode cX9_count 51 = .ok (.aload_n 0, 1) := by decide +kernel
theorem dX9_count_52 : decode cX9_count 52 = .ok (.getfield 25, 3) := by decide +kernel
theorem dX9_count_55 : decode cX9_count 55 = .ok (.getfield 226, 3) := by decide +kernel
theorem dX9_count_58 : decode cX9_count 58 = .ok (.ireturn, 1) := by decide +kernel
theorem dX9_count_59 : decode cX9_count 59 = .ok (.aload_n 0, 1) := by decide +kernel
theorem dX9_count_60 : decode cX9_count 60 = .ok (.getfield 10, 3) := by decide +kernel
theorem dX9_count_63 : decode cX9_count 63 = .ok (.invokevirtual 293, 3) := by decide +kernel
theorem dX9_count_66 : decode cX9_count 66 = .ok (.ireturn, 1) := by decide +kernel
theorem dX9_count_67 : decode cX9_count 67 = .ok (.aload_n 0, 1) := by decide +kernel
theorem dX9_count_68 : decode cX9_count 68 = .ok (.ldc 64, 2) := by decide +kernel
theorem dX9_count_70 : decode cX9_count 70 = .ok (.invokevirtual 65, 3) := by decide +kernel
theorem dX9_count_73 : decode cX9_count 73 = .ok (.ireturn, 1) := by decide +kernel
set_option maxRecDepth 20000 in
theorem ggX9_status_X9_finding : GoodIn wsX9_status wsX9_finding := goodIn_r _ [7, 2, 1, 8, 9, 10, 11, 12, 13, 14, 15, 16] (by decide +kernel) (by decide +kernel)
set_option maxRecDepth 20000 in
theorem gX9_status_X9_finding : GoodIn wsX9_status (wsV RX9 65 RX9 yX9_finding wsX9_finding) := goodIn_app (goodIn_of _ (by decide +kernel)) ggX9_status_X9_finding
theorem dX9_status_0 : decode cX9_status 0 = .ok (.iload_n 1, 1) := by decide +kernel
theorem dX9_status_1 : decode cX9_status 1 = .ok (.iconst (-1), 1) := by decide +kernel
theorem dX9_status_2 : decode cX9_status 2 = .ok (.if_icmp .ne 33, 3) := by decide +kernel
theorem dX9_status_5 : decode cX9_status 5 = .ok (.iconst 0, 1) := by decide +kernel
theorem dX9_status_6 : decode cX9_status 6 = .ok (.istore_n 2, 1) := by decide +kernel
theorem dX9_status_7 : decode cX9_status 7 = .ok (.iconst 0, 1) := by decide +kernel
theorem dX9_status_8 : decode cX9_status 8 = .ok (.istore_n 3, 1) := by decide +kernel
theorem dX9_status_9 : decode cX9_status 9 = .ok (.iload_n 3, 1) := by decide +kernel
theorem dX9_status_10 : decode cX9_status 10 = .ok (.aload_n 0, 1) := by decide +kernel
theorem dX9_status_11 : decode cX9_status 11 = .ok (.getfield 50, 3) := by decide +kernel
theorem dX9_status_14 : decode cX9_status 14 = .ok (.arraylength, 1) := by decide +kernel
theorem dX9_status_15 : decode cX9_status 15 = .ok (.if_icmp .ge 18, 3) := by decide +kernel
theorem dX9_status_18 : decode cX9_status 18 = .ok (.iload_n 2, 1) := by decide +kernel
theorem dX9_status_19 : decode cX9_status 19 = .ok (.aload_n 0, 1) := by decide +kernel
theorem dX9_status_20 : decode cX9_status 20 = .ok (.getfield 50, 3) := by decide +kernel
theorem dX9_status_23 : decode cX9_status 23 = .ok (.iload_n 3, 1) := by decide +kernel
theorem dX9_status_24 : decode cX9_status 24 = .ok (.iaload, 1) := by decide +kernel
theorem dX9_status_25 : decode cX9_status 25 = .ok (.iadd, 1) := by decide +kernel
theorem dX9_status_26 : decode cX9_status 26 = .ok (.istore_n 2, 1) := by decide +kernel
theorem dX9_status_27 : decode cX9_status 27 = .ok (.iinc 3 1, 3) := by decide +kernel
theorem dX9_status_30 : decode cX9_status 30 = .ok (.goto (-21), 3) := by decide +kernel
theorem dX9_status_33 : decode cX9_status 33 = .ok (.iload_n 2, 1) := by decide +kernel
theorem dX9_status_34 : decode cX9_status 34 = .ok (.ireturn, 1) := by decide +kernel
theorem dX9_status_35 : decode cX9_status 35 = .ok (.iload_n 1, 1) := by decide +kernel
theorem dX9_status_36 : decode cX9_status 36 = .ok (.ifCond .lt 12, 3) := by decide +kernel
theorem dX9_status_39 : decode cX9_status 39 = .ok (.iload_n 1, 1) := by decide +kernel
theorem dX9_status_40 : decode cX9_status 40 = .ok (.aload_n 0, 1) := by decide +kernel
theorem dX9_status_41 : decode cX9_status 41 = .ok (.getfield 50, 3) := by decide +kernel
theorem dX9_status_44 : decode cX9_status 44 = .ok (.arraylength, 1) := by decide +kernel
theorem dX9_status_45 : decode cX9_status 45 = .ok (.if_icmp .lt 10, 3) := by decide +kernel
theorem dX9_status_48 : decode cX9_status 48 = .ok (.aload_n 0, 1) := by decide +kernel
theorem dX9_status_49 : decode cX9_status 49 = .ok (.ldc 64, 2) := by decide +kernel
theorem dX9_status_51 : decode cX9_status 51 = .ok (.invokevirtual 65, 3) := by decide +kernel
theorem dX9_status_54 : decode cX9_status 54 = .ok (.ireturn, 1) := by decide +kernel
theorem dX9_status_55 : decode cX9_status 55 = .ok (.aload_n 0, 1) := by decide +kernel
theorem dX9_status_56 : decode cX9_status 56 = .ok (.getfield 50, 3) := by decide +kernel
theorem dX9_status_59 : decode cX9_status 59 = .ok (.iload_n 1, 1) := by decide +kernel
theorem dX9_status_60 : decode cX9_status 60 = .ok (.iaload, 1) := by decide +kernel
theorem dX9_status_61 : decode cX9_status 61 = .ok (.ireturn, 1) := by decide +kernel
theorem dX9_finding_0 : decode cX9_finding 0 = .ok (.ldc 64, 2) := by decide +kernel
theorem dX9_finding_2 : decode cX9_finding 2 = .ok (.iload_n 1, 1) := by decide +kernel
theorem dX9_finding_3 : decode cX9_finding 3 = .ok (.isub, 1) := by decide +kernel
theorem dX9_finding_4 : decode cX9_finding 4 = .ok (.istore_n 2, 1) := by decide +kernel
theorem dX9_finding_5 : decode cX9_finding 5 = .ok (.iload_n 2, 1) := by decide +kernel
theorem dX9_finding_6 : decode cX9_finding 6 = .ok (.ifCond .lt 22, 3) := by decide +kernel
theorem dX9_finding_9 : decode cX9_finding 9 = .ok (.iload_n 2, 1) := by decide +kernel
theorem dX9_finding_10 : decode cX9_finding 10 = .ok (.aload_n 0, 1) := by decide +kernel
theorem dX9_finding_11 : decode cX9_finding 11 = .ok (.getfield 50, 3) := by decide +kernel
theorem dX9_finding_14 : decode cX9_finding 14 = .ok (.arraylength, 1) := by decide +kernel
theorem dX9_finding_15 : decode cX9_finding 15 = .ok (.if_icmp .ge 13, 3) := by decide +kernel
theorem dX9_finding_18 : decode cX9_finding 18 = .ok (.aload_n 0, 1) := by decide +kernel
theorem dX9_finding_19 : decode cX9_finding 19 = .ok (.getfield 50, 3) := by decide +kernel
theorem dX9_finding_22 : decode cX9_finding 22 = .ok (.iload_n 2, 1) := by decide +kernel
theorem dX9_finding_23 : decode cX9_finding 23 = .ok (.dup2, 1) := by decide +kernel
theorem dX9_finding_24 : decode cX9_finding 24 = .ok (.iaload, 1) := by decide +kernel
theorem dX9_finding_25 : decode cX9_finding 25 = .ok (.iconst 1, 1) := by decide +kernel
theorem dX9_finding_26 : decode cX9_finding 26 = .ok (.iadd, 1) := by decide +kernel
theorem dX9_finding_27 : decode cX9_finding 27 = .ok (.iastore, 1) := by decide +kernel
theorem dX9_finding_28 : decode cX9_finding 28 = .ok (.iload_n 1, 1) := by decide +kernel
theorem dX9_finding_29 : decode cX9_finding 29 = .ok (.ireturn, 1) := by decide +kernel
theorem dX9_isWithin_0 : decode cX9_isWithin 0 = .ok (.iload_n 0, 1) := by decide +kernel
theorem dX9_isWithin_1 : decode cX9_isWithin 1 = .ok (.ifCond .lt 12, 3) := by decide +kernel
theorem dX9_isWithin_4 : decode cX9_isWithin 4 = .ok (.iload_n 0, 1) := by decide +kernel
theorem dX9_isWithin_5 : decode cX9_isWithin 5 = .ok (.iload_n 1, 1) := by decide +kernel
theorem dX9_isWithin_6 : decode cX9_isWithin 6 = .ok (.if_icmp .gt 7, 3) := by decide +kernel
theorem dX9_isWithin_9 : decode cX9_isWithin 9 = .ok (.iconst 1, 1) := by decide +kernel
theorem dX9_isWithin_10 : decode cX9_isWithin 10 = .ok (.goto 4, 3) := by decide +kernel
theorem dX9_isWithin_13 : decode cX9_isWithin 13 = .ok (.iconst 0, 1) := by decide +kernel
theorem dX9_isWithin_14 : decode cX9_isWithin 14 = .ok (.ireturn, 1) := by decide +kernel
theorem dX10_init_0 : decode cX10_init 0 = .ok (.aload_n 0, 1) := by decide +kernel
theorem dX10_init_1 : decode cX10_init 1 = .ok (.invokespecial 1, 3) := by decide +kernel
theorem dX10_init_4 : decode cX10_init 4 = .ok (.aload_n 0, 1) := by decide +kernel
theorem dX10_init_5 : decode cX10_init 5 = .ok (.bipush 65, 2) := by decide +kernel
theorem dX10_init_7 : decode cX10_init 7 = .ok (.newarray .int, 2) := by decide +kernel
theorem dX10_init_9 : decode cX10_init 9 = .ok (.putfield 9, 3) := by decide +kernel
theorem dX10_init_12 : decode cX10_init 12 = .ok (.aload_n 0, 1) := by decide +kernel
theorem dX10_init_13 : decode cX10_init 13 = .ok (.bipush 65, 2) := by decide +kernel
theorem dX10_init_15 : decode cX10_init 15 = .ok (.newarray .int, 2) := by decide +kernel
theorem dX10_init_17 : decode cX10_init 17 = .ok (.putfield 13, 3) := by decide +kernel
theorem dX10_init_20 : decode cX10_init 20 = .ok (.aload_n 0, 1) := by decide +kernel
theorem dX10_init_21 : decode cX10_init 21 = .ok (.bipush 65, 2) := by decide +kernel
theorem dX10_init_23 : decode cX10_init 23 = .ok (.newarray .int, 2) := by decide +kernel
theorem dX10_init_25 : decode cX10_init 25 = .ok (.putfield 16, 3) := by decide +kernel
theorem dX10_init_28 : decode cX10_init 28 = .ok (.aload_n 0, 1) := by decide +kernel
theorem dX10_init_29 : decode cX10_init 29 = .ok (.bipush 7, 2) := by decide +kernel
theorem dX10_init_31 : decode cX10_init 31 = .ok (.newarray .int, 2) := by decide +kernel
theorem dX10_init_33 : decode cX10_init 33 = .ok (.putfield 19, 3) := by decide +kernel
theorem dX10_init_36 : decode cX10_init 36 = .ok (.aload_n 0, 1) := by decide +kernel
theorem dX10_init_37 : decode cX10_init 37 = .ok (.bipush 12, 2) := by decide +kernel
theorem dX10_init_39 : decode cX10_init 39 = .ok (.newarray .int, 2) := by decide +kernel
theorem dX10_init_41 : decode cX10_init 41 = .ok (.putfield 22, 3) := by decide +kernel
theorem dX10_init_44 : decode cX10_init 44 = .ok (.aload_n 0, 1) := by decide +kernel
theorem dX10_init_45 : decode cX10_init 45 = .ok (.bipush 12, 2) := by decide +kernel
theorem dX10_init_47 : decode cX10_init 47 = .ok (.newarray .int, 2) := by decide +kernel
theorem dX10_init_49 : decode cX10_init 49 = .ok (.putfield 25, 3) := by decide +kernel
theorem dX10_init_52 : decode cX10_init 52 = .ok (.aload_n 0, 1) := by decide +kernel
theorem dX10_init_53 : decode cX10_init 53 = .ok (.bipush 12, 2) := by decide +kernel
theorem dX10_init_55 : decode cX10_init 55 = .ok (.newarray .int, 2) := by decide +kernel
theorem dX10_init_57 : decode cX10_init 57 = .ok (.putfield 28, 3) := by decide +kernel
theorem dX10_init_60 : decode cX10_init 60 = .ok (.aload_n 0, 1) := by decide +kernel
theorem dX10_init_61 : decode cX10_init 61 = .ok (.bipush 120, 2) := by decide +kernel
theorem dX10_init_63 : decode cX10_init 63 = .ok (.newarray .int, 2) := by decide +kernel
theorem dX10_init_65 : decode cX10_init 65 = .ok (.putfield 31, 3) := by decide +kernel
theorem dX10_init_68 : decode cX10_init 68 = .ok (.aload_n 0, 1) := by decide +kernel
theorem dX10_init_69 : decode cX10_init 69 = .ok (.iconst 4, 1) := by decide +kernel
theorem dX10_init_70 : decode cX10_init 70 = .ok (.newarray .int, 2) := by decide +kernel
theorem dX10_init_72 : decode cX10_init 72 = .ok (.putfield 34, 3) := by decide +kernel
theorem dX10_init_75 : decode cX10_init 75 = .ok (.aload_n 0, 1) := by decide +kernel
theorem dX10_init_76 : decode cX10_init 76 = .ok (.iconst 4, 1) := by decide +kernel
theorem dX10_init_77 : decode cX10_init 77 = .ok (.newarray .int, 2) := by decide +kernel
theorem dX10_init_79 : decode cX10_init 79 = .ok (.putfield 37, 3) := by decide +kernel
theorem dX10_init_82 : decode cX10_init 82 = .ok (.aload_n 0, 1) := by decide +kernel
theorem dX10_init_83 : decode cX10_init 83 = .ok (.sipush 160, 3) := by decide +kernel
theorem dX10_init_86 : decode cX10_init 86 = .ok (.newarray .long, 2) := by decide +kernel
theorem dX10_init_88 : decode cX10_init 88 = .ok (.putfield 40, 3) := by decide +kernel
theorem dX10_init_91 : decode cX10_init 91 = .ok (.aload_n 0, 1) := by decide +kernel
theorem dX10_init_92 : decode cX10_init 92 = .ok (.bipush 40, 2) := by decide +kernel
theorem dX10_init_94 : decode cX10_init 94 = .ok (.newarray .long, 2) := by decide +kernel
theorem dX10_init_96 : decode cX10_init 96 = .ok (.putfield 44, 3) := by decide +kernel
theorem dX10_init_99 : decode cX10_init 99 = .ok (.return_, 1) := by decide +kernel
theorem dX10_in_0 : decode cX10_in 0 = .ok (.iload_n 0, 1) := by decide +kernel
theorem dX10_in_1 : decode cX10_in 1 = .ok (.iload_n 1, 1) := by decide +kernel
theorem dX10_in_2 : decode cX10_in 2 = .ok (.if_icmp .lt 12, 3) := by decide +kernel
theorem dX10_in_5 : decode cX10_in 5 = .ok (.iload_n 0, 1) := by decide +kernel
theorem dX10_in_6 : decode cX10_in 6 = .ok (.iload_n 2, 1) := by decide +kernel
theorem dX10_in_7 : decode cX10_in 7 = .ok (.if_icmp .gt 7, 3) := by decide +kernel
theorem dX10_in_10 : decode cX10_in 10 = .ok (.iconst 1, 1) := by decide +kernel
theorem dX10_in_11 : decode cX10_in 11 = .ok (.goto 4, 3) := by decide +kernel
theorem dX10_in_14 : decode cX10_in 14 = .ok (.iconst 0, 1) := by decide +kernel
theorem dX10_in_15 : decode cX10_in 15 = .ok (.ireturn, 1) := by decide +kernel
theorem dX10_no_0 : decode cX10_no 0 = .ok (.aload_n 0, 1) := by decide +kernel
theorem dX10_no_1 : decode cX10_no 1 = .ok (.getfield 19, 3) := by decide +kernel
theorem dX10_no_4 : decode cX10_no 4 = .ok (.iload_n 1, 1) := by decide +kernel
theorem dX10_no_5 : decode cX10_no 5 = .ok (.dup2, 1) := by decide +kernel
theorem dX10_no_6 : decode cX10_no 6 = .ok (.iaload, 1) := by decide +kernel
theorem dX10_no_7 : decode cX10_no 7 = .ok (.iconst 1, 1) := by decide +kernel
theorem dX10_no_8 : decode cX10_no 8 = .ok (.iadd, 1) := by decide +kernel
theorem dX10_no_9 : decode cX10_no 9 = .ok (.iastore, 1) := by decide +kernel
theorem dX10_no_10 : decode cX10_no 10 = .ok (.ldc 47, 2) := by decide +kernel
theorem dX10_no_12 : decode cX10_no 12 = .ok (.iload_n 1, 1) := by decide +kernel
theorem dX10_no_13 : decode cX10_no 13 = .ok (.isub, 1) := by decide +kernel
theorem dX10_no_14 : decode cX10_no 14 = .ok (.ireturn, 1) := by decide +kernel
theorem dX10_lay_0 : decode cX10_lay 0 = .ok (.iconst 0, 1) := by decide +kernel
theorem dX10_lay_1 : decode cX10_lay 1 = .ok (.istore_n 2, 1) := by decide +kernel
theorem dX10_lay_2 : decode cX10_lay 2 = .ok (.iload_n 2, 1) := by decide +kernel
theorem dX10_lay_3 : decode cX10_lay 3 = .ok (.bipush 65, 2) := by decide +kernel
theorem dX10_lay_5 : decode cX10_lay 5 = .ok (.if_icmp .ge 15, 3) := by decide +kernel
theorem dX10_lay_8 : decode cX10_lay 8 = .ok (.aload_n 1, 1) := by decide +kernel
theorem dX10_lay_9 : decode cX10_lay 9 = .ok (.iload_n 2, 1) := by decide +kernel
theorem dX10_lay_10 : decode cX10_lay 10 = .ok (.aload_n 0, 1) := by decide +kernel
theorem dX10_lay_11 : decode cX10_lay 11 = .ok (.iload_n 2, 1) := by decide +kernel
theorem dX10_lay_12 : decode cX10_lay 12 = .ok (.iaload, 1) := by decide +kernel
theorem dX10_lay_13 : decode cX10_lay 13 = .ok (.iastore, 1) := by decide +kernel
theorem dX10_lay_14 : decode cX10_lay 14 = .ok (.iinc 2 1, 3) := by decide +kernel
theorem dX10_lay_17 : decode cX10_lay 17 = .ok (.goto (-15), 3) := by decide +kernel
theorem dX10_lay_20 : decode cX10_lay 20 = .ok (.return_, 1) := by decide +kernel
theorem dX10_puts_0 : decode cX10_puts 0 = .ok (.aload_n 0, 1) := by decide +kernel
theorem dX10_puts_1 : decode cX10_puts 1 = .ok (.getfield 9, 3) := by decide +kernel
theorem dX10_puts_4 : decode cX10_puts 4 = .ok (.iload_n 1, 1) := by decide +kernel
theorem dX10_puts_5 : decode cX10_puts 5 = .ok (.iaload, 1) := by decide +kernel
theorem dX10_puts_6 : decode cX10_puts 6 = .ok (.istore_n 3, 1) := by decide +kernel
theorem dX10_puts_7 : decode cX10_puts 7 = .ok (.aload_n 0, 1) := by decide +kernel
theorem dX10_puts_8 : decode cX10_puts 8 = .ok (.getfield 9, 3) := by decide +kernel
theorem dX10_puts_11 : decode cX10_puts 11 = .ok (.iload_n 1, 1) := by decide +kernel
theorem dX10_puts_12 : decode cX10_puts 12 = .ok (.iload_n 2, 1) := by decide +kernel
theorem dX10_puts_13 : decode cX10_puts 13 = .ok (.iastore, 1) := by decide +kernel
theorem dX10_puts_14 : decode cX10_puts 14 = .ok (.iload_n 3, 1) := by decide +kernel
theorem dX10_puts_15 : decode cX10_puts 15 = .ok (.ireturn, 1) := by decide +kernel
set_option maxRecDepth 20000 in
theorem ggX10_isForm_X10_in : GoodIn wsX10_isForm wsX10_in := goodIn_r _ [4] (by decide +kernel) (by decide +kernel)
set_option maxRecDepth 20000 in
theorem gX10_isForm_X10_in : GoodIn wsX10_isForm (va_wsS RX10 48 yX10_in wsX10_in) := goodIn_app (goodIn_of _ (by decide +kernel)) ggX10_isForm_X10_in
theorem dX10_isForm_0 : decode cX10_isForm 0 = .ok (.iload_n 0, 1) := by decide +kernel
theorem dX10_isForm_1 : decode cX10_isForm 1 = .ok (.iconst 0, 1) := by decide +kernel
theorem dX10_isForm_2 : decode cX10_isForm 2 = .ok (.sipush 4095, 3) := by decide +kernel
theorem dX10_isForm_5 : decode cX10_isForm 5 = .ok (.invokestatic 48, 3) := by decide +kernel
theorem dX10_isForm_8 : decode cX10_isForm 8 = .ok (.ireturn, 1) := by decide +kernel
set_option maxRecDepth 20000 in
theorem ggX10_isPoint_X10_in : GoodIn wsX10_isPoint wsX10_in := goodIn_r _ [4] (by decide +kernel) (by decide +kernel)
set_option maxRecDepth 20000 in
theorem gX10_isPoint_X10_in : GoodIn wsX10_isPoint (va_wsS RX10 48 yX10_in wsX10_in) := goodIn_app (goodIn_of _ (by decide +kernel)) ggX10_isPoint_X10_in
theorem dX10_isPoint_0 : decode cX10_isPoint 0 = .ok (.iload_n 0, 1) := by decide +kernel
theorem dX10_isPoint_1 : decode cX10_isPoint 1 = .ok (.iconst 0, 1) := by decide +kernel
theorem dX10_isPoint_2 : decode cX10_isPoint 2 = .ok (.bipush 8, 2) := by decide +kernel
theorem dX10_isPoint_4 : decode cX10_isPoint 4 = .ok (.invokestatic 48, 3) := by decide +kernel
theorem dX10_isPoint_7 : decode cX10_isPoint 7 = .ok (.ireturn, 1) := by decide +kernel
set_option maxRecDepth 20000 in
theorem ggX10_isSign_X10_in : GoodIn wsX10_isSign wsX10_in := goodIn_r _ [4] (by decide +kernel) (by decide +kernel)
set_option maxRecDepth 20000 in
theorem gX10_isSign_X10_in : GoodIn wsX10_isSign (va_wsS RX10 48 yX10_in wsX10_in) := goodIn_app (goodIn_of _ (by decide +kernel)) ggX10_isSign_X10_in
theorem dX10_isSign_0 : decode cX10_isSign 0 = .ok (.iload_n 0, 1) := by decide +kernel
theorem dX10_isSign_1 : decode cX10_isSign 1 = .ok (.iconst 0, 1) := by decide +kernel
theorem dX10_isSign_2 : decode cX10_isSign 2 = .ok (.bipush 25, 2) := by decide +kernel
theorem dX10_isSign_4 : decode cX10_isSign 4 = .ok (.invokestatic 48, 3) := by decide +kernel
theorem dX10_isSign_7 : decode cX10_isSign 7 = .ok (.ireturn, 1) := by decide +kernel
set_option maxRecDepth 20000 in
theorem ggX10_isKind_X10_in : GoodIn wsX10_isKind wsX10_in := goodIn_r _ [4] (by decide +kernel) (by decide +kernel)
set_option maxRecDepth 20000 in
theorem gX10_isKind_X10_in : GoodIn wsX10_isKind (va_wsS RX10 48 yX10_in wsX10_in) := goodIn_app (goodIn_of _ (by decide +kernel)) ggX10_isKind_X10_in
theorem dX10_isKind_0 : decode cX10_isKind 0 = .ok (.iload_n 0, 1) := by decide +kernel
theorem dX10_isKind_1 : decode cX10_isKind 1 = .ok (.iconst 0, 1) := by decide +kernel
theorem dX10_isKind_2 : decode cX10_isKind 2 = .ok (.iconst 5, 1) := by decide +kernel
theorem dX10_isKind_3 : decode cX10_isKind 3 = .ok (.invokestatic 48, 3) := by decide +kernel
theorem dX10_isKind_6 : decode cX10_isKind 6 = .ok (.ireturn, 1) := by decide +kernel
set_option maxRecDepth 20000 in
theorem ggX10_isLetter_X10_in : GoodIn wsX10_isLetter wsX10_in := goodIn_r _ [5] (by decide +kernel) (by decide +kernel)
set_option maxRecDepth 20000 in
theorem gX10_isLetter_X10_in : GoodIn wsX10_isLetter (va_wsS RX10 48 yX10_in wsX10_in) := goodIn_app (goodIn_of _ (by decide +kernel)) ggX10_isLetter_X10_in
theorem dX10_isLetter_0 : decode cX10_isLetter 0 = .ok (.iload_n 1, 1) := by decide +kernel
theorem dX10_isLetter_1 : decode cX10_isLetter 1 = .ok (.iconst 0, 1) := by decide +kernel
theorem dX10_isLetter_2 : decode cX10_isLetter 2 = .ok (.aload_n 0, 1) := by decide +kernel
theorem dX10_isLetter_3 : decode cX10_isLetter 3 = .ok (.getfield 9, 3) := by decide +kernel
theorem dX10_isLetter_6 : decode cX10_isLetter 6 = .ok (.iconst 2, 1) := by decide +kernel
theorem dX10_isLetter_7 : decode cX10_isLetter 7 = .ok (.iaload, 1) := by decide +kernel
theorem dX10_isLetter_8 : decode cX10_isLetter 8 = .ok (.iconst 1, 1) := by decide +kernel
theorem dX10_isLetter_9 : decode cX10_isLetter 9 = .ok (.isub, 1) := by decide +kernel
theorem dX10_isLetter_10 : decode cX10_isLetter 10 = .ok (.invokestatic 48, 3) := by decide +kernel
theorem dX10_isLetter_13 : decode cX10_isLetter 13 = .ok (.ireturn, 1) := by decide +kernel
theorem dX10_at_0 : decode cX10_at 0 = .ok (.bipush 29, 2) := by decide +kernel
theorem dX10_at_2 : decode cX10_at 2 = .ok (.iconst 3, 1) := by decide +kernel
theorem dX10_at_3 : decode cX10_at 3 = .ok (.iload_n 1, 1) := by decide +kernel
theorem dX10_at_4 : decode cX10_at 4 = .ok (.imul, 1) := by decide +kernel
theorem dX10_at_5 : decode cX10_at 5 = .ok (.iadd, 1) := by decide +kernel
theorem dX10_at_6 : decode cX10_at 6 = .ok (.iload_n 2, 1) := by decide +kernel
theorem dX10_at_7 : decode cX10_at 7 = .ok (.iadd, 1) := by decide +kernel
theorem dX10_at_8 : decode cX10_at 8 = .ok (.ireturn, 1) := by decide +kernel
theorem dX10_oneEnd_0 : decode cX10_oneEnd 0 = .ok (.iload_n 0, 1) := by decide +kernel
theorem dX10_oneEnd_1 : decode cX10_oneEnd 1 = .ok (.bipush 6, 2) := by decide +kernel
theorem dX10_oneEnd_3 : decode cX10_oneEnd 3 = .ok (.if_icmp .ge 15, 3) := by decide +kernel
theorem dX10_oneEnd_6 : decode cX10_oneEnd 6 = .ok (.iconst 3, 1) := by decide +kernel
theorem dX10_oneEnd_7 : decode cX10_oneEnd 7 = .ok (.iload_n 0, 1) := by decide +kernel
theorem dX10_oneEnd_8 : decode cX10_oneEnd 8 = .ok (.iconst 2, 1) := by decide +kernel
theorem dX10_oneEnd_9 : decode cX10_oneEnd 9 = .ok (.idiv, 1) := by decide +kernel
theorem dX10_oneEnd_10 : decode cX10_oneEnd 10 = .ok (.imul, 1) := by decide +kernel
theorem dX10_oneEnd_11 : decode cX10_oneEnd 11 = .ok (.iload_n 0, 1) := by decide +kernel
theorem dX10_oneEnd_12 : decode cX10_oneEnd 12 = .ok (.iconst 2, 1) := by decide +kernel
theorem dX10_oneEnd_13 : decode cX10_oneEnd 13 = .ok (.irem, 1) := by decide +kernel
theorem dX10_oneEnd_14 : decode cX10_oneEnd 14 = .ok (.iadd, 1) := by decide +kernel
theorem dX10_oneEnd_15 : decode cX10_oneEnd 15 = .ok (.goto 7, 3) := by decide +kernel
theorem dX10_oneEnd_18 : decode cX10_oneEnd 18 = .ok (.iload_n 0, 1) := by decide +kernel
theorem dX10_oneEnd_19 : decode cX10_oneEnd 19 = .ok (.bipush 6, 2) := by decide +kernel
theorem dX10_oneEnd_21 : decode cX10_oneEnd 21 = .ok (.isub, 1) := by decide +kernel
theorem dX10_oneEnd_22 : decode cX10_oneEnd 22 = .ok (.ireturn, 1) := by decide +kernel
set_option maxRecDepth 20000 in
theorem ggX10_otherEnd_X10_oneEnd : GoodIn wsX10_otherEnd wsX10_oneEnd := goodIn_r _ [4] (by decide +kernel) (by decide +kernel)
set_option maxRecDepth 20000 in
theorem gX10_otherEnd_X10_oneEnd : GoodIn wsX10_otherEnd (va_wsS RX10 52 yX10_oneEnd wsX10_oneEnd) := goodIn_app (goodIn_of _ (by decide +kernel)) ggX10_otherEnd_X10_oneEnd
theorem dX10_otherEnd_0 : decode cX10_otherEnd 0 = .ok (.iload_n 0, 1) := by decide +kernel
theorem dX10_otherEnd_1 : decode cX10_otherEnd 1 = .ok (.bipush 6, 2) := by decide +kernel
theorem dX10_otherEnd_3 : decode cX10_otherEnd 3 = .ok (.if_icmp .ge 12, 3) := by decide +kernel
theorem dX10_otherEnd_6 : decode cX10_otherEnd 6 = .ok (.iload_n 0, 1) := by decide +kernel
theorem dX10_otherEnd_7 : decode cX10_otherEnd 7 = .ok (.invokestatic 52, 3) := by decide +kernel
theorem dX10_otherEnd_10 : decode cX10_otherEnd 10 = .ok (.iconst 1, 1) := by decide +kernel
theorem dX10_otherEnd_11 : decode cX10_otherEnd 11 = .ok (.iadd, 1) := by decide +kernel
theorem dX10_otherEnd_12 : decode cX10_otherEnd 12 = .ok (.goto 6, 3) := by decide +kernel
theorem dX10_otherEnd_15 : decode cX10_otherEnd 15 = .ok (.iload_n 0, 1) := by decide +kernel
theorem dX10_otherEnd_16 : decode cX10_otherEnd 16 = .ok (.iconst 3, 1) := by decide +kernel
theorem dX10_otherEnd_17 : decode cX10_otherEnd 17 = .ok (.isub, 1) := by decide +kernel
theorem dX10_otherEnd_18 : decode cX10_otherEnd 18 = .ok (.ireturn, 1) := by decide +kernel
theorem dX10_has_0 : decode cX10_has 0 = .ok (.iload_n 0, 1) := by decide +kernel
theorem dX10_has_1 : decode cX10_has 1 = .ok (.iconst 1, 1) := by decide +kernel
theorem dX10_has_2 : decode cX10_has 2 = .ok (.iload_n 1, 1) := by decide +kernel
theorem dX10_has_3 : decode cX10_has 3 = .ok (.ishl, 1) := by decide +kernel
theorem dX10_has_4 : decode cX10_has 4 = .ok (.iand, 1) := by decide +kernel
theorem dX10_has_5 : decode cX10_has 5 = .ok (.ifCond .eq 7, 3) := by decide +kernel
theorem dX10_has_8 : decode cX10_has 8 = .ok (.iconst 1, 1) := by decide +kernel
theorem dX10_has_9 : decode cX10_has 9 = .ok (.goto 4, 3) := by decide +kernel
theorem dX10_has_12 : decode cX10_has 12 = .ok (.iconst 0, 1) := by decide +kernel
theorem dX10_has_13 : decode cX10_has 13 = .ok (.ireturn, 1) := by decide +kernel
set_option maxRecDepth 20000 in
theorem ggX10_ends_X10_oneEnd : GoodIn wsX10_ends wsX10_oneEnd := goodIn_r _ [4] (by decide +kernel) (by decide +kernel)
set_option maxRecDepth 20000 in
theorem gX10_ends_X10_oneEnd : GoodIn wsX10_ends (va_wsS RX10 52 yX10_oneEnd wsX10_oneEnd) := goodIn_app (goodIn_of _ (by decide +kernel)) ggX10_ends_X10_oneEnd
set_option maxRecDepth 20000 in
theorem ggX10_ends_X10_otherEnd : GoodIn wsX10_ends wsX10_otherEnd := goodIn_r _ [7, 1, 2, 3, 4] (by decide +kernel) (by decide +kernel)
set_option maxRecDepth 20000 in
theorem gX10_ends_X10_otherEnd : GoodIn wsX10_ends (va_wsS RX10 56 yX10_otherEnd wsX10_otherEnd) := goodIn_app (goodIn_of _ (by decide +kernel)) ggX10_ends_X10_otherEnd
theorem dX10_ends_0 : decode cX10_ends 0 = .ok (.iload_n 0, 1) := by decide +kernel
theorem dX10_ends_1 : decode cX10_ends 1 = .ok (.invokestatic 52, 3) := by decide +kernel
theorem dX10_ends_4 : decode cX10_ends 4 = .ok (.iload_n 1, 1) := by decide +kernel
theorem dX10_ends_5 : decode cX10_ends 5 = .ok (.if_icmp .eq 11, 3) := by decide +kernel
theorem dX10_ends_8 : decode cX10_ends 8 = .ok (.iload_n 0, 1) := by decide +kernel
theorem dX10_ends_9 : decode cX10_ends 9 = .ok (.invokestatic 56, 3) := by decide +kernel
theorem dX10_ends_12 : decode cX10_ends 12 = .ok (.iload_n 1, 1) := by decide +kernel
theorem dX10_ends_13 : decode cX10_ends 13 = .ok (.if_icmp .ne 7, 3) := by decide +kernel
theorem dX10_ends_16 : decode cX10_ends 16 = .ok (.iconst 1, 1) := by decide +kernel
theorem dX10_ends_17 : decode cX10_ends 17 = .ok (.goto 4, 3) := by decide +kernel
theorem dX10_ends_20 : decode cX10_ends 20 = .ok (.iconst 0, 1) := by decide +kernel
theorem dX10_ends_21 : decode cX10_ends 21 = .ok (.ireturn, 1) := by decide +kernel
theorem dX10_ones_0 : decode cX10_ones 0 = .ok (.iconst 0, 1) := by decide +kernel
theorem dX10_ones_1 : decode cX10_ones 1 = .ok (.istore_n 1, 1) := by decide +kernel
theorem dX10_ones_2 : decode cX10_ones 2 = .ok (.iload_n 0, 1) := by decide +kernel
theorem dX10_ones_3 : decode cX10_ones 3 = .ok (.istore_n 2, 1) := by decide +kernel
theorem dX10_ones_4 : decode cX10_ones 4 = .ok (.iload_n 2, 1) := by decide +kernel
theorem dX10_ones_5 : decode cX10_ones 5 = .ok (.ifCond .eq 15, 3) := by decide +kernel
theorem dX10_ones_8 : decode cX10_ones 8 = .ok (.iinc 1 1, 3) := by decide +kernel
theorem dX10_ones_11 : decode cX10_ones 11 = .ok (.iload_n 2, 1) := by decide +kernel
theorem dX10_ones_12 : decode cX10_ones 12 = .ok (.iload_n 2, 1) := by decide +kernel
theorem dX10_ones_13 : decode cX10_ones 13 = .ok (.iconst 1, 1) := by decide +kernel
theorem dX10_ones_14 : decode cX10_ones 14 = .ok (.isub, 1) := by decide +kernel
theorem dX10_ones_15 : decode cX10_ones 15 = .ok (.iand, 1) := by decide +kernel
theorem dX10_ones_16 : decode cX10_ones 16 = .ok (.istore_n 2, 1) := by decide +kernel
theorem dX10_ones_17 : decode cX10_ones 17 = .ok (.goto (-13), 3) := by decide +kernel
theorem dX10_ones_20 : decode cX10_ones 20 = .ok (.iload_n 1, 1) := by decide +kernel
theorem dX10_ones_21 : decode cX10_ones 21 = .ok (.ireturn, 1) := by decide +kernel
set_option maxRecDepth 20000 in
theorem ggX10_degree_X10_has : GoodIn wsX10_degree wsX10_has := goodIn_r _ [4] (by decide +kernel) (by decide +kernel)
set_option maxRecDepth 20000 in
theorem gX10_degree_X10_has : GoodIn wsX10_degree (va_wsS RX10 59 yX10_has wsX10_has) := goodIn_app (goodIn_of _ (by decide +kernel)) ggX10_degree_X10_has
set_option maxRecDepth 20000 in
theorem ggX10_degree_X10_ends : GoodIn wsX10_degree wsX10_ends := goodIn_r _ [7, 8, 9, 3, 10, 11, 12, 13] (by decide +kernel) (by decide +kernel)
set_option maxRecDepth 20000 in
theorem gX10_degree_X10_ends : GoodIn wsX10_degree (va_wsS RX10 63 yX10_ends wsX10_ends) := goodIn_app (goodIn_of _ (by decide +kernel)) ggX10_degree_X10_ends
theorem dX10_degree_0 : decode cX10_degree 0 = .ok (.iconst 0, 1) := by decide +kernel
theorem dX10_degree_1 : decode cX10_degree 1 = .ok (.istore_n 2, 1) := by decide +kernel
theorem dX10_degree_2 : decode cX10_degree 2 = .ok (.iconst 0, 1) := by decide +kernel
theorem dX10_degree_3 : decode cX10_degree 3 = .ok (.istore_n 3, 1) := by decide +kernel
theorem dX10_degree_4 : decode cX10_degree 4 = .ok (.iload_n 3, 1) := by decide +kernel
theorem dX10_degree_5 : decode cX10_degree 5 = .ok (.bipush 12, 2) := by decide +kernel
theorem dX10_degree_7 : decode cX10_degree 7 = .ok (.if_icmp .ge 33, 3) := by decide +kernel
theorem dX10_degree_10 : decode cX10_degree 10 = .ok (.iload_n 2, 1) := by decide +kernel
theorem dX10_degree_11 : decode cX10_degree 11 = .ok (.iload_n 0, 1) := by decide +kernel
theorem dX10_degree_12 : decode cX10_degree 12 = .ok (.iload_n 3, 1) := by decide +kernel
theorem dX10_degree_13 : decode cX10_degree 13 = .ok (.invokestatic 59, 3) := by decide +kernel
theorem dX10_degree_16 : decode cX10_degree 16 = .ok (.ifCond .eq 15, 3) := by decide +kernel
theorem dX10_degree_19 : decode cX10_degree 19 = .ok (.iload_n 3, 1) := by decide +kernel
theorem dX10_degree_20 : decode cX10_degree 20 = .ok (.iload_n 1, 1) := by decide +kernel
theorem dX10_degree_21 : decode cX10_degree 21 = .ok (.invokestatic 63, 3) := by decide +kernel
theorem dX10_degree_24 : decode cX10_degree 24 = .ok (.ifCond .eq 7, 3) := by decide +kernel
theorem dX10_degree_27 : decode cX10_degree 27 = .ok (.iconst 1, 1) := by decide +kernel
theorem dX10_degree_28 : decode cX10_degree 28 = .ok (.goto 4, 3) := by decide +kernel
theorem dX10_degree_31 : decode cX10_degree 31 = .ok (.iconst 0, 1) := by decide +kernel
theorem dX10_degree_32 : decode cX10_degree 32 = .ok (.iadd, 1) := by decide +kernel
theorem dX10_degree_33 : decode cX10_degree 33 = .ok (.istore_n 2, 1) := by decide +kernel
theorem dX10_degree_34 : decode cX10_degree 34 = .ok (.iinc 3 1, 3) := by decide +kernel
theorem dX10_degree_37 : decode cX10_degree 37 = .ok (.goto (-33), 3) := by decide +kernel
theorem dX10_degree_40 : decode cX10_degree 40 = .ok (.iload_n 2, 1) := by decide +kernel
theorem dX10_degree_41 : decode cX10_degree 41 = .ok (.ireturn, 1) := by decide +kernel
set_option maxRecDepth 20000 in
theorem ggX10_odds_X10_degree : GoodIn wsX10_odds wsX10_degree := goodIn_r _ [4, 5, 6, 3, 7, 8, 9, 10, 11, 12, 13, 14, 15, 16] (by decide +kernel) (by decide +kernel)
set_option maxRecDepth 20000 in
theorem gX10_odds_X10_degree : GoodIn wsX10_odds (va_wsS RX10 66 yX10_degree wsX10_degree) := goodIn_app (goodIn_of _ (by decide +kernel)) ggX10_odds_X10_degree
theorem dX10_odds_0 : decode cX10_odds 0 = .ok (.iconst 0, 1) := by decide +kernel
theorem dX10_odds_1 : decode cX10_odds 1 = .ok (.istore_n 1, 1) := by decide +kernel
theorem dX10_odds_2 : decode cX10_odds 2 = .ok (.iconst 0, 1) := by decide +kernel
theorem dX10_odds_3 : decode cX10_odds 3 = .ok (.istore_n 2, 1) := by decide +kernel
theorem dX10_odds_4 : decode cX10_odds 4 = .ok (.iload_n 2, 1) := by decide +kernel
theorem dX10_odds_5 : decode cX10_odds 5 = .ok (.bipush 9, 2) := by decide +kernel
theorem dX10_odds_7 : decode cX10_odds 7 = .ok (.if_icmp .ge 21, 3) := by decide +kernel
theorem dX10_odds_10 : decode cX10_odds 10 = .ok (.iload_n 1, 1) := by decide +kernel
theorem dX10_odds_11 : decode cX10_odds 11 = .ok (.iload_n 0, 1) := by decide +kernel
theorem dX10_odds_12 : decode cX10_odds 12 = .ok (.iload_n 2, 1) := by decide +kernel
theorem dX10_odds_13 : decode cX10_odds 13 = .ok (.invokestatic 66, 3) := by decide +kernel
theorem dX10_odds_16 : decode cX10_odds 16 = .ok (.iconst 1, 1) := by decide +kernel
theorem dX10_odds_17 : decode cX10_odds 17 = .ok (.iand, 1) := by decide +kernel
theorem dX10_odds_18 : decode cX10_odds 18 = .ok (.iload_n 2, 1) := by decide +kernel
theorem dX10_odds_19 : decode cX10_odds 19 = .ok (.ishl, 1) := by decide +kernel
theorem dX10_odds_20 : decode cX10_odds 20 = .ok (.ior, 1) := by decide +kernel
theorem dX10_odds_21 : decode cX10_odds 21 = .ok (.istore_n 1, 1) := by decide +kernel
theorem dX10_odds_22 : decode cX10_odds 22 = .ok (.iinc 2 1, 3) := by decide +kernel
theorem dX10_odds_25 : decode cX10_odds 25 = .ok (.goto (-21), 3) := by decide +kernel
theorem dX10_odds_28 : decode cX10_odds 28 = .ok (.iload_n 1, 1) := by decide +kernel
theorem dX10_odds_29 : decode cX10_odds 29 = .ok (.ireturn, 1) := by decide +kernel
set_option maxRecDepth 20000 in
theorem ggX10_pieceOf_X10_has : GoodIn wsX10_pieceOf wsX10_has := goodIn_r _ [4] (by decide +kernel) (by decide +kernel)
set_option maxRecDepth 20000 in
theorem gX10_pieceOf_X10_has : GoodIn wsX10_pieceOf (va_wsS RX10 59 yX10_has wsX10_has) := goodIn_app (goodIn_of _ (by decide +kernel)) ggX10_pieceOf_X10_has
set_option maxRecDepth 20000 in
theorem ggX10_pieceOf_X10_oneEnd : GoodIn wsX10_pieceOf wsX10_oneEnd := goodIn_r _ [7] (by decide +kernel) (by decide +kernel)
set_option maxRecDepth 20000 in
theorem gX10_pieceOf_X10_oneEnd : GoodIn wsX10_pieceOf (va_wsS RX10 52 yX10_oneEnd wsX10_oneEnd) := goodIn_app (goodIn_of _ (by decide +kernel)) ggX10_pieceOf_X10_oneEnd
set_option maxRecDepth 20000 in
theorem ggX10_pieceOf_X10_degree : GoodIn wsX10_pieceOf wsX10_degree := goodIn_r _ [10, 1, 2, 3, 4, 11, 12, 13, 5, 6, 7, 14, 15, 16] (by decide +kernel) (by decide +kernel)
set_option maxRecDepth 20000 in
theorem gX10_pieceOf_X10_degree : GoodIn wsX10_pieceOf (va_wsS RX10 66 yX10_degree wsX10_degree) := goodIn_app (goodIn_of _ (by decide +kernel)) ggX10_pieceOf_X10_degree
set_option maxRecDepth 20000 in
theorem ggX10_pieceOf_X10_otherEnd : GoodIn wsX10_pieceOf wsX10_otherEnd := goodIn_r _ [16, 5, 6, 3, 7] (by decide +kernel) (by decide +kernel)
set_option maxRecDepth 20000 in
theorem gX10_pieceOf_X10_otherEnd : GoodIn wsX10_pieceOf (va_wsS RX10 56 yX10_otherEnd wsX10_otherEnd) := goodIn_app (goodIn_of _ (by decide +kernel)) ggX10_pieceOf_X10_otherEnd
theorem dX10_pieceOf_0 : decode cX10_pieceOf 0 = .ok (.iconst 1, 1) := by decide +kernel
theorem dX10_pieceOf_1 : decode cX10_pieceOf 1 = .ok (.iload_n 1, 1) := by decide +kernel
theorem dX10_pieceOf_2 : decode cX10_pieceOf 2 = .ok (.ishl, 1) := by decide +kernel
theorem dX10_pieceOf_3 : decode cX10_pieceOf 3 = .ok (.istore_n 2, 1) := by decide +kernel
theorem dX10_pieceOf_4 : decode cX10_pieceOf 4 = .ok (.iconst 1, 1) := by decide +kernel
theorem dX10_pieceOf_5 : decode cX10_pieceOf 5 = .ok (.istore_n 3, 1) := by decide +kernel
theorem dX10_pieceOf_6 : decode cX10_pieceOf 6 = .ok (.iload_n 3, 1) := by decide +kernel
theorem dX10_pieceOf_7 : decode cX10_pieceOf 7 = .ok (.ifCond .eq 92, 3) := by decide +kernel
theorem dX10_pieceOf_10 : decode cX10_pieceOf 10 = .ok (.iconst 0, 1) := by decide +kernel
theorem dX10_pieceOf_11 : decode cX10_pieceOf 11 = .ok (.istore_n 3, 1) := by decide +kernel
theorem dX10_pieceOf_12 : decode cX10_pieceOf 12 = .ok (.iconst 0, 1) := by decide +kernel
theorem dX10_pieceOf_13 : decode cX10_pieceOf 13 = .ok (.istore 4, 2) := by decide +kernel
theorem dX10_pieceOf_15 : decode cX10_pieceOf 15 = .ok (.iload 4, 2) := by decide +kernel
theorem dX10_pieceOf_17 : decode cX10_pieceOf 17 = .ok (.bipush 12, 2) := by decide +kernel
theorem dX10_pieceOf_19 : decode cX10_pieceOf 19 = .ok (.if_icmp .ge 77, 3) := by decide +kernel
theorem dX10_pieceOf_22 : decode cX10_pieceOf 22 = .ok (.iload_n 0, 1) := by decide +kernel
theorem dX10_pieceOf_23 : decode cX10_pieceOf 23 = .ok (.iload 4, 2) := by decide +kernel
theorem dX10_pieceOf_25 : decode cX10_pieceOf 25 = .ok (.invokestatic 59, 3) := by decide +kernel
theorem dX10_pieceOf_28 : decode cX10_pieceOf 28 = .ok (.ifCond .eq 38, 3) := by decide +kernel
theorem dX10_pieceOf_31 : decode cX10_pieceOf 31 = .ok (.iload_n 2, 1) := by decide +kernel
theorem dX10_pieceOf_32 : decode cX10_pieceOf 32 = .ok (.iload 4, 2) := by decide +kernel
theorem dX10_pieceOf_34 : decode cX10_pieceOf 34 = .ok (.invokestatic 59, 3) := by decide +kernel
theorem dX10_pieceOf_37 : decode cX10_pieceOf 37 = .ok (.ifCond .ne 29, 3) := by decide +kernel
theorem dX10_pieceOf_40 : decode cX10_pieceOf 40 = .ok (.iload_n 2, 1) := by decide +kernel
theorem dX10_pieceOf_41 : decode cX10_pieceOf 41 = .ok (.iload 4, 2) := by decide +kernel
theorem dX10_pieceOf_43 : decode cX10_pieceOf 43 = .ok (.invokestatic 52, 3) := by decide +kernel
theorem dX10_pieceOf_46 : decode cX10_pieceOf 46 = .ok (.invokestatic 66, 3) := by decide +kernel
theorem dX10_pieceOf_49 : decode cX10_pieceOf 49 = .ok (.iload_n 2, 1) := by decide +kernel
theorem dX10_pieceOf_50 : decode cX10_pieceOf 50 = .ok (.iload 4, 2) := by decide +kernel
theorem dX10_pieceOf_52 : decode cX10_pieceOf 52 = .ok (.invokestatic 56, 3) := by decide +kernel
theorem dX10_pieceOf_55 : decode cX10_pieceOf 55 = .ok (.invokestatic 66, 3) := by decide +kernel
theorem dX10_pieceOf_58 : decode cX10_pieceOf 58 = .ok (.iadd, 1) := by decide +kernel
theorem dX10_pieceOf_59 : decode cX10_pieceOf 59 = .ok (.ifCond .le 7, 3) := by decide +kernel
theorem dX10_pieceOf_62 : decode cX10_pieceOf 62 = .ok (.iconst 1, 1) := by decide +kernel
theorem dX10_pieceOf_63 : decode cX10_pieceOf 63 = .ok (.goto 4, 3) := by decide +kernel
theorem dX10_pieceOf_66 : decode cX10_pieceOf 66 = .ok (.iconst 0, 1) := by decide +kernel
theorem dX10_pieceOf_67 : decode cX10_pieceOf 67 = .ok (.istore 5, 2) := by decide +kernel
theorem dX10_pieceOf_69 : decode cX10_pieceOf 69 = .ok (.iload_n 2, 1) := by decide +kernel
theorem dX10_pieceOf_70 : decode cX10_pieceOf 70 = .ok (.iload 5, 2) := by decide +kernel
theorem dX10_pieceOf_72 : decode cX10_pieceOf 72 = .ok (.ifCond .eq 10, 3) := by decide +kernel
theorem dX10_pieceOf_75 : decode cX10_pieceOf 75 = .ok (.iconst 1, 1) := by decide +kernel
theorem dX10_pieceOf_76 : decode cX10_pieceOf 76 = .ok (.iload 4, 2) := by decide +kernel
theorem dX10_pieceOf_78 : decode cX10_pieceOf 78 = .ok (.ishl, 1) := by decide +kernel
theorem dX10_pieceOf_79 : decode cX10_pieceOf 79 = .ok (.goto 4, 3) := by decide +kernel
theorem dX10_pieceOf_82 : decode cX10_pieceOf 82 = .ok (.iconst 0, 1) := by decide +kernel
theorem dX10_pieceOf_83 : decode cX10_pieceOf 83 = .ok (.ior, 1) := by decide +kernel
theorem dX10_pieceOf_84 : decode cX10_pieceOf 84 = .ok (.istore_n 2, 1) := by decide +kernel
theorem dX10_pieceOf_85 : decode cX10_pieceOf 85 = .ok (.iload_n 3, 1) := by decide +kernel
theorem dX10_pieceOf_86 : decode cX10_pieceOf 86 = .ok (.iload 5, 2) := by decide +kernel
theorem dX10_pieceOf_88 : decode cX10_pieceOf 88 = .ok (.ior, 1) := by decide +kernel
theorem dX10_pieceOf_89 : decode cX10_pieceOf 89 = .ok (.istore_n 3, 1) := by decide +kernel
theorem dX10_pieceOf_90 : decode cX10_pieceOf 90 = .ok (.iinc 4 1, 3) := by decide +kernel
theorem dX10_pieceOf_93 : decode cX10_pieceOf 93 = .ok (.goto (-78), 3) := by decide +kernel
theorem dX10_pieceOf_96 : decode cX10_pieceOf 96 = .ok (.goto (-90), 3) := by decide +kernel
theorem dX10_pieceOf_99 : decode cX10_pieceOf 99 = .ok (.iload_n 2, 1) := by decide +kernel
theorem dX10_pieceOf_100 : decode cX10_pieceOf 100 = .ok (.ireturn, 1) := by decide +kernel
set_option maxRecDepth 20000 in
theorem ggX10_least_X10_has : GoodIn wsX10_least wsX10_has := goodIn_r _ [4] (by decide +kernel) (by decide +kernel)
set_option maxRecDepth 20000 in
theorem gX10_least_X10_has : GoodIn wsX10_least (va_wsS RX10 59 yX10_has wsX10_has) := goodIn_app (goodIn_of _ (by decide +kernel)) ggX10_least_X10_has
theorem dX10_least_0 : decode cX10_least 0 = .ok (.iconst 0, 1) := by decide +kernel
theorem dX10_least_1 : decode cX10_least 1 = .ok (.istore_n 1, 1) := by decide +kernel
theorem dX10_least_2 : decode cX10_least 2 = .ok (.iload_n 0, 1) := by decide +kernel
theorem dX10_least_3 : decode cX10_least 3 = .ok (.iload_n 1, 1) := by decide +kernel
theorem dX10_least_4 : decode cX10_least 4 = .ok (.invokestatic 59, 3) := by decide +kernel
theorem dX10_least_7 : decode cX10_least 7 = .ok (.ifCond .ne 9, 3) := by decide +kernel
theorem dX10_least_10 : decode cX10_least 10 = .ok (.iinc 1 1, 3) := by decide +kernel
theorem dX10_least_13 : decode cX10_least 13 = .ok (.goto (-11), 3) := by decide +kernel
theorem dX10_least_16 : decode cX10_least 16 = .ok (.iload_n 1, 1) := by decide +kernel
theorem dX10_least_17 : decode cX10_least 17 = .ok (.ireturn, 1) := by decide +kernel
set_option maxRecDepth 20000 in
theorem ggX10_piecesOf_X10_least : GoodIn wsX10_piecesOf wsX10_least := goodIn_r _ [4, 5, 6, 3, 7] (by decide +kernel) (by decide +kernel)
set_option maxRecDepth 20000 in
theorem gX10_piecesOf_X10_least : GoodIn wsX10_piecesOf (va_wsS RX10 70 yX10_least wsX10_least) := goodIn_app (goodIn_of _ (by decide +kernel)) ggX10_piecesOf_X10_least
set_option maxRecDepth 20000 in
theorem ggX10_piecesOf_X10_pieceOf : GoodIn wsX10_piecesOf wsX10_pieceOf := goodIn_r _ [10, 5, 6, 3, 7, 11, 12, 13, 14, 15, 16, 17, 18, 19, 20, 21, 22] (by decide +kernel) (by decide +kernel)
set_option maxRecDepth 20000 in
theorem gX10_piecesOf_X10_pieceOf : GoodIn wsX10_piecesOf (va_wsS RX10 73 yX10_pieceOf wsX10_pieceOf) := goodIn_app (goodIn_of _ (by decide +kernel)) ggX10_piecesOf_X10_pieceOf
theorem dX10_piecesOf_0 : decode cX10_piecesOf 0 = .ok (.iconst 0, 1) := by decide +kernel
theorem dX10_piecesOf_1 : decode cX10_piecesOf 1 = .ok (.istore_n 1, 1) := by decide +kernel
theorem dX10_piecesOf_2 : decode cX10_piecesOf 2 = .ok (.iload_n 0, 1) := by decide +kernel
theorem dX10_piecesOf_3 : decode cX10_piecesOf 3 = .ok (.istore_n 2, 1) := by decide +kernel
theorem dX10_piecesOf_4 : decode cX10_piecesOf 4 = .ok (.iload_n 2, 1) := by decide +kernel
theorem dX10_piecesOf_5 : decode cX10_piecesOf 5 = .ok (.ifCond .eq 22, 3) := by decide +kernel
theorem dX10_piecesOf_8 : decode cX10_piecesOf 8 = .ok (.iload_n 2, 1) := by decide +kernel
theorem dX10_piecesOf_9 : decode cX10_piecesOf 9 = .ok (.iload_n 0, 1) := by decide +kernel
theorem dX10_piecesOf_10 : decode cX10_piecesOf 10 = .ok (.iload_n 2, 1) := by decide +kernel
theorem dX10_piecesOf_11 : decode cX10_piecesOf 11 = .ok (.invokestatic 70, 3) := by decide +kernel
theorem dX10_piecesOf_14 : decode cX10_piecesOf 14 = .ok (.invokestatic 73, 3) := by decide +kernel
theorem dX10_piecesOf_17 : decode cX10_piecesOf 17 = .ok (.iconst (-1), 1) := by decide +kernel
theorem dX10_piecesOf_18 : decode cX10_piecesOf 18 = .ok (.ixor, 1) := by decide +kernel
theorem dX10_piecesOf_19 : decode cX10_piecesOf 19 = .ok (.iand, 1) := by decide +kernel
theorem dX10_piecesOf_20 : decode cX10_piecesOf 20 = .ok (.istore_n 2, 1) := by decide +kernel
theorem dX10_piecesOf_21 : decode cX10_piecesOf 21 = .ok (.iinc 1 1, 3) := by decide +kernel
theorem dX10_piecesOf_24 : decode cX10_piecesOf 24 = .ok (.goto (-20), 3) := by decide +kernel
theorem dX10_piecesOf_27 : decode cX10_piecesOf 27 = .ok (.iload_n 1, 1) := by decide +kernel
theorem dX10_piecesOf_28 : decode cX10_piecesOf 28 = .ok (.ireturn, 1) := by decide +kernel
set_option maxRecDepth 20000 in
theorem ggX10_linesOf_X10_least : GoodIn wsX10_linesOf wsX10_least := goodIn_r _ [4, 5, 6, 3, 7] (by decide +kernel) (by decide +kernel)
set_option maxRecDepth 20000 in
theorem gX10_linesOf_X10_least : GoodIn wsX10_linesOf (va_wsS RX10 70 yX10_least wsX10_least) := goodIn_app (goodIn_of _ (by decide +kernel)) ggX10_linesOf_X10_least
set_option maxRecDepth 20000 in
theorem ggX10_linesOf_X10_pieceOf : GoodIn wsX10_linesOf wsX10_pieceOf := goodIn_r _ [10, 5, 6, 3, 7, 11, 12, 13, 14, 15, 16, 17, 18, 19, 20, 21, 22] (by decide +kernel) (by decide +kernel)
set_option maxRecDepth 20000 in
theorem gX10_linesOf_X10_pieceOf : GoodIn wsX10_linesOf (va_wsS RX10 73 yX10_pieceOf wsX10_pieceOf) := goodIn_app (goodIn_of _ (by decide +kernel)) ggX10_linesOf_X10_pieceOf
set_option maxRecDepth 20000 in
theorem ggX10_linesOf_X10_odds : GoodIn wsX10_linesOf wsX10_odds := goodIn_r _ [25, 14, 15, 3, 16, 5, 6, 7, 17, 18, 19, 11, 12, 13, 20, 21, 22] (by decide +kernel) (by decide +kernel)
set_option maxRecDepth 20000 in
theorem gX10_linesOf_X10_odds : GoodIn wsX10_linesOf (va_wsS RX10 76 yX10_odds wsX10_odds) := goodIn_app (goodIn_of _ (by decide +kernel)) ggX10_linesOf_X10_odds
set_option maxRecDepth 20000 in
theorem ggX10_linesOf_X10_ones : GoodIn wsX10_linesOf wsX10_ones := goodIn_r _ [28] (by decide +kernel) (by decide +kernel)
set_option maxRecDepth 20000 in
theorem gX10_linesOf_X10_ones : GoodIn wsX10_linesOf (va_wsS RX10 79 yX10_ones wsX10_ones) := goodIn_app (goodIn_of _ (by decide +kernel)) ggX10_linesOf_X10_ones
theorem dX10_linesOf_0 : decode cX10_linesOf 0 = .ok (.iconst 0, 1) := by decide +kernel
theorem dX10_linesOf_1 : decode cX10_linesOf 1 = .ok (.istore_n 1, 1) := by decide +kernel
theorem dX10_linesOf_2 : decode cX10_linesOf 2 = .ok (.iload_n 0, 1) := by decide +kernel
theorem dX10_linesOf_3 : decode cX10_linesOf 3 = .ok (.istore_n 2, 1) := by decide +kernel
theorem dX10_linesOf_4 : decode cX10_linesOf 4 = .ok (.iload_n 2, 1) := by decide +kernel
theorem dX10_linesOf_5 : decode cX10_linesOf 5 = .ok (.ifCond .eq 47, 3) := by decide +kernel
theorem dX10_linesOf_8 : decode cX10_linesOf 8 = .ok (.iload_n 0, 1) := by decide +kernel
theorem dX10_linesOf_9 : decode cX10_linesOf 9 = .ok (.iload_n 2, 1) := by decide +kernel
theorem dX10_linesOf_10 : decode cX10_linesOf 10 = .ok (.invokestatic 70, 3) := by decide +kernel
theorem dX10_linesOf_13 : decode cX10_linesOf 13 = .ok (.invokestatic 73, 3) := by decide +kernel
theorem dX10_linesOf_16 : decode cX10_linesOf 16 = .ok (.istore_n 3, 1) := by decide +kernel
theorem dX10_linesOf_17 : decode cX10_linesOf 17 = .ok (.iload_n 3, 1) := by decide +kernel
theorem dX10_linesOf_18 : decode cX10_linesOf 18 = .ok (.invokestatic 76, 3) := by decide +kernel
theorem dX10_linesOf_21 : decode cX10_linesOf 21 = .ok (.invokestatic 79, 3) := by decide +kernel
theorem dX10_linesOf_24 : decode cX10_linesOf 24 = .ok (.iconst 2, 1) := by decide +kernel
theorem dX10_linesOf_25 : decode cX10_linesOf 25 = .ok (.idiv, 1) := by decide +kernel
theorem dX10_linesOf_26 : decode cX10_linesOf 26 = .ok (.istore 4, 2) := by decide +kernel
theorem dX10_linesOf_28 : decode cX10_linesOf 28 = .ok (.iload_n 1, 1) := by decide +kernel
theorem dX10_linesOf_29 : decode cX10_linesOf 29 = .ok (.iload 4, 2) := by decide +kernel
theorem dX10_linesOf_31 : decode cX10_linesOf 31 = .ok (.iconst 1, 1) := by decide +kernel
theorem dX10_linesOf_32 : decode cX10_linesOf 32 = .ok (.if_icmp .le 8, 3) := by decide +kernel
theorem dX10_linesOf_35 : decode cX10_linesOf 35 = .ok (.iload 4, 2) := by decide +kernel
theorem dX10_linesOf_37 : decode cX10_linesOf 37 = .ok (.goto 4, 3) := by decide +kernel
theorem dX10_linesOf_40 : decode cX10_linesOf 40 = .ok (.iconst 1, 1) := by decide +kernel
theorem dX10_linesOf_41 : decode cX10_linesOf 41 = .ok (.iadd, 1) := by decide +kernel
theorem dX10_linesOf_42 : decode cX10_linesOf 42 = .ok (.istore_n 1, 1) := by decide +kernel
theorem dX10_linesOf_43 : decode cX10_linesOf 43 = .ok (.iload_n 2, 1) := by decide +kernel
theorem dX10_linesOf_44 : decode cX10_linesOf 44 = .ok (.iload_n 3, 1) := by decide +kernel
theorem dX10_linesOf_45 : decode cX10_linesOf 45 = .ok (.iconst (-1), 1) := by decide +kernel
theorem dX10_linesOf_46 : decode cX10_linesOf 46 = .ok (.ixor, 1) := by decide +kernel
theorem dX10_linesOf_47 : decode cX10_linesOf 47 = .ok (.iand, 1) := by decide +kernel
theorem dX10_linesOf_48 : decode cX10_linesOf 48 = .ok (.istore_n 2, 1) := by decide +kernel
theorem dX10_linesOf_49 : decode cX10_linesOf 49 = .ok (.goto (-45), 3) := by decide +kernel
theorem dX10_linesOf_52 : decode cX10_linesOf 52 = .ok (.iload_n 1, 1) := by decide +kernel
theorem dX10_linesOf_53 : decode cX10_linesOf 53 = .ok (.ireturn, 1) := by decide +kernel
set_option maxRecDepth 20000 in
theorem ggX10_straysOf_X10_linesOf : GoodIn wsX10_straysOf wsX10_linesOf := goodIn_r _ [4, 5, 6, 3, 7, 8, 9, 10, 11, 12, 13, 14, 15, 16, 17, 18, 19, 20, 21, 22, 23, 24, 25, 26, 27, 28, 29, 30, 31] (by decide +kernel) (by decide +kernel)
set_option maxRecDepth 20000 in
theorem gX10_straysOf_X10_linesOf : GoodIn wsX10_straysOf (va_wsS RX10 82 yX10_linesOf wsX10_linesOf) := goodIn_app (goodIn_of _ (by decide +kernel)) ggX10_straysOf_X10_linesOf
theorem dX10_straysOf_0 : decode cX10_straysOf 0 = .ok (.iload_n 0, 1) := by decide +kernel
theorem dX10_straysOf_1 : decode cX10_straysOf 1 = .ok (.ifCond .ne 7, 3) := by decide +kernel
theorem dX10_straysOf_4 : decode cX10_straysOf 4 = .ok (.iconst 0, 1) := by decide +kernel
theorem dX10_straysOf_5 : decode cX10_straysOf 5 = .ok (.goto 9, 3) := by decide +kernel
theorem dX10_straysOf_8 : decode cX10_straysOf 8 = .ok (.iload_n 0, 1) := by decide +kernel
theorem dX10_straysOf_9 : decode cX10_straysOf 9 = .ok (.invokestatic 82, 3) := by decide +kernel
theorem dX10_straysOf_12 : decode cX10_straysOf 12 = .ok (.iconst 1, 1) := by decide +kernel
theorem dX10_straysOf_13 : decode cX10_straysOf 13 = .ok (.isub, 1) := by decide +kernel
theorem dX10_straysOf_14 : decode cX10_straysOf 14 = .ok (.ireturn, 1) := by decide +kernel
set_option maxRecDepth 20000 in
theorem ggX10_odd_X10_isForm : GoodIn wsX10_odd wsX10_isForm := goodIn_r _ [4, 5, 6, 3, 7] (by decide +kernel) (by decide +kernel)
set_option maxRecDepth 20000 in
theorem gX10_odd_X10_isForm : GoodIn wsX10_odd (va_wsS RX10 85 yX10_isForm wsX10_isForm) := goodIn_app (goodIn_of _ (by decide +kernel)) ggX10_odd_X10_isForm
set_option maxRecDepth 20000 in
theorem ggX10_odd_X10_odds : GoodIn wsX10_odd wsX10_odds := goodIn_r _ [10, 11, 12, 3, 13, 14, 15, 16, 17, 18, 19, 20, 21, 22, 23, 24, 25] (by decide +kernel) (by decide +kernel)
set_option maxRecDepth 20000 in
theorem gX10_odd_X10_odds : GoodIn wsX10_odd (va_wsS RX10 76 yX10_odds wsX10_odds) := goodIn_app (goodIn_of _ (by decide +kernel)) ggX10_odd_X10_odds
set_option maxRecDepth 20000 in
theorem ggX10_odd_X10_no : GoodIn wsX10_odd wsX10_no := goodIn_r _ [29, 30, 31, 32, 33, 34, 35, 36, 37, 38, 39, 40, 41, 42, 43, 44, 45, 46, 47, 48, 49] (by decide +kernel) (by decide +kernel)
set_option maxRecDepth 20000 in
theorem gX10_odd_X10_no : GoodIn wsX10_odd (wsV RX10 89 RX10 yX10_no wsX10_no) := goodIn_app (goodIn_of _ (by decide +kernel)) ggX10_odd_X10_no
theorem dX10_odd_0 : decode cX10_odd 0 = .ok (.iload_n 1, 1) := by decide +kernel
theorem dX10_odd_1 : decode cX10_odd 1 = .ok (.invokestatic 85, 3) := by decide +kernel
theorem dX10_odd_4 : decode cX10_odd 4 = .ok (.ifCond .eq 10, 3) := by decide +kernel
theorem dX10_odd_7 : decode cX10_odd 7 = .ok (.iload_n 1, 1) := by decide +kernel
theorem dX10_odd_8 : decode cX10_odd 8 = .ok (.invokestatic 76, 3) := by decide +kernel
theorem dX10_odd_11 : decode cX10_odd 11 = .ok (.goto 8, 3) := by decide +kernel
theorem dX10_odd_14 : decode cX10_odd 14 = .ok (.aload_n 0, 1) := by decide +kernel
theorem dX10_odd_15 : decode cX10_odd 15 = .ok (.iconst 0, 1) := by decide +kernel
theorem dX10_odd_16 : decode cX10_odd 16 = .ok (.invokevirtual 89, 3) := by decide +kernel
theorem dX10_odd_19 : decode cX10_odd 19 = .ok (.ireturn, 1) := by decide +kernel
set_option maxRecDepth 20000 in
theorem ggX10_pieces_X10_isForm : GoodIn wsX10_pieces wsX10_isForm := goodIn_r _ [4, 5, 6, 3, 7] (by decide +kernel) (by decide +kernel)
set_option maxRecDepth 20000 in
theorem gX10_pieces_X10_isForm : GoodIn wsX10_pieces (va_wsS RX10 85 yX10_isForm wsX10_isForm) := goodIn_app (goodIn_of _ (by decide +kernel)) ggX10_pieces_X10_isForm
set_option maxRecDepth 20000 in
theorem ggX10_pieces_X10_piecesOf : GoodIn wsX10_pieces wsX10_piecesOf := goodIn_r _ [10, 11, 12, 3, 13, 14, 15, 16, 17, 18, 19, 20, 21, 22, 23, 24, 25, 26, 27, 28, 29, 30, 31] (by decide +kernel) (by decide +kernel)
set_option maxRecDepth 20000 in
theorem gX10_pieces_X10_piecesOf : GoodIn wsX10_pieces (va_wsS RX10 92 yX10_piecesOf wsX10_piecesOf) := goodIn_app (goodIn_of _ (by decide +kernel)) ggX10_pieces_X10_piecesOf
set_option maxRecDepth 20000 in
theorem ggX10_pieces_X10_no : GoodIn wsX10_pieces wsX10_no := goodIn_r _ [35, 36, 37, 38, 39, 40, 41, 42, 43, 44, 45, 46, 47, 48, 49, 50, 51, 52, 53, 54, 55] (by decide +kernel) (by decide +kernel)
set_option maxRecDepth 20000 in
theorem gX10_pieces_X10_no : GoodIn wsX10_pieces (wsV RX10 89 RX10 yX10_no wsX10_no) := goodIn_app (goodIn_of _ (by decide +kernel)) ggX10_pieces_X10_no
theorem dX10_pieces_0 : decode cX10_pieces 0 = .ok (.iload_n 1, 1) := by decide +kernel
theorem dX10_pieces_1 : decode cX10_pieces 1 = .ok (.invokestatic 85, 3) := by decide +kernel
theorem dX10_pieces_4 : decode cX10_pieces 4 = .ok (.ifCond .eq 10, 3) := by decide +kernel
theorem dX10_pieces_7 : decode cX10_pieces 7 = .ok (.iload_n 1, 1) := by decide +kernel
theorem dX10_pieces_8 : decode cX10_pieces 8 = .ok (.invokestatic 92, 3) := by decide +kernel
theorem dX10_pieces_11 : decode cX10_pieces 11 = .ok (.goto 8, 3) := by decide +kernel
theorem dX10_pieces_14 : decode cX10_pieces 14 = .ok (.aload_n 0, 1) := by decide +kernel
theorem dX10_pieces_15 : decode cX10_pieces 15 = .ok (.iconst 0, 1) := by decide +kernel
theorem dX10_pieces_16 : decode cX10_pieces 16 = .ok (.invokevirtual 89, 3) := by decide +kernel
theorem dX10_pieces_19 : decode cX10_pieces 19 = .ok (.ireturn, 1) := by decide +kernel
set_option maxRecDepth 20000 in
theorem ggX10_lines_X10_isForm : GoodIn wsX10_lines wsX10_isForm := goodIn_r _ [4, 5, 6, 3, 7] (by decide +kernel) (by decide +kernel)
set_option maxRecDepth 20000 in
theorem gX10_lines_X10_isForm : GoodIn wsX10_lines (va_wsS RX10 85 yX10_isForm wsX10_isForm) := goodIn_app (goodIn_of _ (by decide +kernel)) ggX10_lines_X10_isForm
set_option maxRecDepth 20000 in
theorem ggX10_lines_X10_linesOf : GoodIn wsX10_lines wsX10_linesOf := goodIn_r _ [10, 11, 12, 3, 13, 14, 15, 16, 17, 18, 19, 20, 21, 22, 23, 24, 25, 26, 27, 28, 29, 30, 31, 32, 33, 34, 35, 36, 37] (by decide +kernel) (by decide +kernel)
set_option maxRecDepth 20000 in
theorem gX10_lines_X10_linesOf : GoodIn wsX10_lines (va_wsS RX10 82 yX10_linesOf wsX10_linesOf) := goodIn_app (goodIn_of _ (by decide +kernel)) ggX10_lines_X10_linesOf
set_option maxRecDepth 20000 in
theorem ggX10_lines_X10_no : GoodIn wsX10_lines wsX10_no := goodIn_r _ [41, 42, 43, 44, 45, 46, 47, 48, 49, 50, 51, 52, 53, 54, 55, 56, 57, 58, 59, 60, 61] (by decide +kernel) (by decide +kernel)
set_option maxRecDepth 20000 in
theorem gX10_lines_X10_no : GoodIn wsX10_lines (wsV RX10 89 RX10 yX10_no wsX10_no) := goodIn_app (goodIn_of _ (by decide +kernel)) ggX10_lines_X10_no
theorem dX10_lines_0 : decode cX10_lines 0 = .ok (.iload_n 1, 1) := by decide +kernel
theorem dX10_lines_1 : decode cX10_lines 1 = .ok (.invokestatic 85, 3) := by decide +kernel
theorem dX10_lines_4 : decode cX10_lines 4 = .ok (.ifCond .eq 10, 3) := by decide +kernel
theorem dX10_lines_7 : decode cX10_lines 7 = .ok (.iload_n 1, 1) := by decide +kernel
theorem dX10_lines_8 : decode cX10_lines 8 = .ok (.invokestatic 82, 3) := by decide +kernel
theorem dX10_lines_11 : decode cX10_lines 11 = .ok (.goto 8, 3) := by decide +kernel
theorem dX10_lines_14 : decode cX10_lines 14 = .ok (.aload_n 0, 1) := by decide +kernel
theorem dX10_lines_15 : decode cX10_lines 15 = .ok (.iconst 0, 1) := by decide +kernel
theorem dX10_lines_16 : decode cX10_lines 16 = .ok (.invokevirtual 89, 3) := by decide +kernel
theorem dX10_lines_19 : decode cX10_lines 19 = .ok (.ireturn, 1) := by decide +kernel
set_option maxRecDepth 20000 in
theorem ggX10_strays_X10_isForm : GoodIn wsX10_strays wsX10_isForm := goodIn_r _ [4, 5, 6, 3, 7] (by decide +kernel) (by decide +kernel)
set_option maxRecDepth 20000 in
theorem gX10_strays_X10_isForm : GoodIn wsX10_strays (va_wsS RX10 85 yX10_isForm wsX10_isForm) := goodIn_app (goodIn_of _ (by decide +kernel)) ggX10_strays_X10_isForm
set_option maxRecDepth 20000 in
theorem ggX10_strays_X10_straysOf : GoodIn wsX10_strays wsX10_straysOf := goodIn_r _ [10, 11, 12, 3, 13, 14, 15, 16, 17, 18, 19, 20, 21, 22, 23, 24, 25, 26, 27, 28, 29, 30, 31, 32, 33, 34, 35, 36, 37, 38, 39, 40] (by decide +kernel) (by decide +kernel)
set_option maxRecDepth 20000 in
theorem gX10_strays_X10_straysOf : GoodIn wsX10_strays (va_wsS RX10 95 yX10_straysOf wsX10_straysOf) := goodIn_app (goodIn_of _ (by decide +kernel)) ggX10_strays_X10_straysOf
set_option maxRecDepth 20000 in
theorem ggX10_strays_X10_no : GoodIn wsX10_strays wsX10_no := goodIn_r _ [44, 45, 46, 47, 48, 49, 50, 51, 52, 53, 54, 55, 56, 57, 58, 59, 60, 61, 62, 63, 64] (by decide +kernel) (by decide +kernel)
set_option maxRecDepth 20000 in
theorem gX10_strays_X10_no : GoodIn wsX10_strays (wsV RX10 89 RX10 yX10_no wsX10_no) := goodIn_app (goodIn_of _ (by decide +kernel)) ggX10_strays_X10_no
theorem dX10_strays_0 : decode cX10_strays 0 = .ok (.iload_n 1, 1) := by decide +kernel
theorem dX10_strays_1 : decode cX10_strays 1 = .ok (.invokestatic 85, 3) := by decide +kernel
theorem dX10_strays_4 : decode cX10_strays 4 = .ok (.ifCond .eq 10, 3) := by decide +kernel
theorem dX10_strays_7 : decode cX10_strays 7 = .ok (.iload_n 1, 1) := by decide +kernel
theorem dX10_strays_8 : decode cX10_strays 8 = .ok (.invokestatic 95, 3) := by decide +kernel
theorem dX10_strays_11 : decode cX10_strays 11 = .ok (.goto 8, 3) := by decide +kernel
theorem dX10_strays_14 : decode cX10_strays 14 = .ok (.aload_n 0, 1) := by decide +kernel
theorem dX10_strays_15 : decode cX10_strays 15 = .ok (.iconst 0, 1) := by decide +kernel
theorem dX10_strays_16 : decode cX10_strays 16 = .ok (.invokevirtual 89, 3) := by decide +kernel
theorem dX10_strays_19 : decode cX10_strays 19 = .ok (.ireturn, 1) := by decide +kernel
set_option maxRecDepth 20000 in
theorem ggX10_waysFrom_X10_has : GoodIn wsX10_waysFrom wsX10_has := goodIn_r _ [4] (by decide +kernel) (by decide +kernel)
set_option maxRecDepth 20000 in
theorem gX10_waysFrom_X10_has : GoodIn wsX10_waysFrom (va_wsS RX10 59 yX10_has wsX10_has) := goodIn_app (goodIn_of _ (by decide +kernel)) ggX10_waysFrom_X10_has
set_option maxRecDepth 20000 in
theorem ggX10_waysFrom_X10_ends : GoodIn wsX10_waysFrom wsX10_ends := goodIn_r _ [7, 8, 9, 3, 10, 11, 12, 13] (by decide +kernel) (by decide +kernel)
set_option maxRecDepth 20000 in
theorem gX10_waysFrom_X10_ends : GoodIn wsX10_waysFrom (va_wsS RX10 63 yX10_ends wsX10_ends) := goodIn_app (goodIn_of _ (by decide +kernel)) ggX10_waysFrom_X10_ends
set_option maxRecDepth 20000 in
theorem ggX10_waysFrom_X10_oneEnd : GoodIn wsX10_waysFrom wsX10_oneEnd := goodIn_r _ [10] (by decide +kernel) (by decide +kernel)
set_option maxRecDepth 20000 in
theorem gX10_waysFrom_X10_oneEnd : GoodIn wsX10_waysFrom (va_wsS RX10 52 yX10_oneEnd wsX10_oneEnd) := goodIn_app (goodIn_of _ (by decide +kernel)) ggX10_waysFrom_X10_oneEnd
set_option maxRecDepth 20000 in
theorem ggX10_waysFrom_X10_otherEnd : GoodIn wsX10_waysFrom wsX10_otherEnd := goodIn_r _ [13, 8, 9, 3, 10] (by decide +kernel) (by decide +kernel)
set_option maxRecDepth 20000 in
theorem gX10_waysFrom_X10_otherEnd : GoodIn wsX10_waysFrom (va_wsS RX10 56 yX10_otherEnd wsX10_otherEnd) := goodIn_app (goodIn_of _ (by decide +kernel)) ggX10_waysFrom_X10_otherEnd
set_option maxRecDepth 20000 in
theorem ggX10_waysFrom_X10_waysFrom : GoodIn wsX10_waysFrom wsX10_waysFrom := goodIn_r _ [0, 1, 2, 3, 4, 5, 6, 7, 8, 9, 10, 11, 12, 13, 14, 15] (by decide +kernel) (by decide +kernel)
set_option maxRecDepth 20000 in
theorem gX10_waysFrom_X10_waysFrom : GoodIn wsX10_waysFrom (va_wsS RX10 98 yX10_waysFrom wsX10_waysFrom) := goodIn_app (goodIn_of _ (by decide +kernel)) ggX10_waysFrom_X10_waysFrom
theorem dX10_waysFrom_0 : decode cX10_waysFrom 0 = .ok (.iload_n 0, 1) := by decide +kernel
theorem dX10_waysFrom_1 : decode cX10_waysFrom 1 = .ok (.ifCond .ne 5, 3) := by decide +kernel
theorem dX10_waysFrom_4 : decode cX10_waysFrom 4 = .ok (.lconst 1, 1) := by decide +kernel
theorem dX10_waysFrom_5 : decode cX10_waysFrom 5 = .ok (.lreturn, 1) := by decide +kernel
theorem dX10_waysFrom_6 : decode cX10_waysFrom 6 = .ok (.lconst 0, 1) := by decide +kernel
theorem dX10_waysFrom_7 : decode cX10_waysFrom 7 = .ok (.lstore_n 2, 1) := by decide +kernel
theorem dX10_waysFrom_8 : decode cX10_waysFrom 8 = .ok (.iconst 0, 1) := by decide +kernel
theorem dX10_waysFrom_9 : decode cX10_waysFrom 9 = .ok (.istore 4, 2) := by decide +kernel
theorem dX10_waysFrom_11 : decode cX10_waysFrom 11 = .ok (.iload 4, 2) := by decide +kernel
theorem dX10_waysFrom_13 : decode cX10_waysFrom 13 = .ok (.bipush 12, 2) := by decide +kernel
theorem dX10_waysFrom_15 : decode cX10_waysFrom 15 = .ok (.if_icmp .ge 54, 3) := by decide +kernel
theorem dX10_waysFrom_18 : decode cX10_waysFrom 18 = .ok (.iload_n 0, 1) := by decide +kernel
theorem dX10_waysFrom_19 : decode cX10_waysFrom 19 = .ok (.iload 4, 2) := by decide +kernel
theorem dX10_waysFrom_21 : decode cX10_waysFrom 21 = .ok (.invokestatic 59, 3) := by decide +kernel
theorem dX10_waysFrom_24 : decode cX10_waysFrom 24 = .ok (.ifCond .eq 39, 3) := by decide +kernel
theorem dX10_waysFrom_27 : decode cX10_waysFrom 27 = .ok (.iload 4, 2) := by decide +kernel
theorem dX10_waysFrom_29 : decode cX10_waysFrom 29 = .ok (.iload_n 1, 1) := by decide +kernel
theorem dX10_waysFrom_30 : decode cX10_waysFrom 30 = .ok (.invokestatic 63, 3) := by decide +kernel
theorem dX10_waysFrom_33 : decode cX10_waysFrom 33 = .ok (.ifCond .eq 30, 3) := by decide +kernel
theorem dX10_waysFrom_36 : decode cX10_waysFrom 36 = .ok (.lload_n 2, 1) := by decide +kernel
theorem dX10_waysFrom_37 : decode cX10_waysFrom 37 = .ok (.iload_n 0, 1) := by decide +kernel
theorem dX10_waysFrom_38 : decode cX10_waysFrom 38 = .ok (.iconst 1, 1) := by decide +kernel
theorem dX10_waysFrom_39 : decode cX10_waysFrom 39 = .ok (.iload 4, 2) := by decide +kernel
theorem dX10_waysFrom_41 : decode cX10_waysFrom 41 = .ok (.ishl, 1) := by decide +kernel
theorem dX10_waysFrom_42 : decode cX10_waysFrom 42 = .ok (.iconst (-1), 1) := by decide +kernel
theorem dX10_waysFrom_43 : decode cX10_waysFrom 43 = .ok (.ixor, 1) := by decide +kernel
theorem dX10_waysFrom_44 : decode cX10_waysFrom 44 = .ok (.iand, 1) := by decide +kernel
theorem dX10_waysFrom_45 : decode cX10_waysFrom 45 = .ok (.iload 4, 2) := by decide +kernel
theorem dX10_waysFrom_47 : decode cX10_waysFrom 47 = .ok (.invokestatic 52, 3) := by decide +kernel
theorem dX10_waysFrom_50 : decode cX10_waysFrom 50 = .ok (.iload 4, 2) := by decide +kernel
theorem dX10_waysFrom_52 : decode cX10_waysFrom 52 = .ok (.invokestatic 56, 3) := by decide +kernel
theorem dX10_waysFrom_55 : decode cX10_waysFrom 55 = .ok (.iadd, 1) := by decide +kernel
theorem dX10_waysFrom_56 : decode cX10_waysFrom 56 = .ok (.iload_n 1, 1) := by decide +kernel
theorem dX10_waysFrom_57 : decode cX10_waysFrom 57 = .ok (.isub, 1) := by decide +kernel
theorem dX10_waysFrom_58 : decode cX10_waysFrom 58 = .ok (.invokestatic 98, 3) := by decide +kernel
theorem dX10_waysFrom_61 : decode cX10_waysFrom 61 = .ok (.ladd, 1) := by decide +kernel
theorem dX10_waysFrom_62 : decode cX10_waysFrom 62 = .ok (.lstore_n 2, 1) := by decide +kernel
theorem dX10_waysFrom_63 : decode cX10_waysFrom 63 = .ok (.iinc 4 1, 3) := by decide +kernel
theorem dX10_waysFrom_66 : decode cX10_waysFrom 66 = .ok (.goto (-55), 3) := by decide +kernel
theorem dX10_waysFrom_69 : decode cX10_waysFrom 69 = .ok (.lload_n 2, 1) := by decide +kernel
theorem dX10_waysFrom_70 : decode cX10_waysFrom 70 = .ok (.lreturn, 1) := by decide +kernel
set_option maxRecDepth 20000 in
theorem ggX10_ways_X10_isForm : GoodIn wsX10_ways wsX10_isForm := goodIn_r _ [4, 5, 6, 3, 7] (by decide +kernel) (by decide +kernel)
set_option maxRecDepth 20000 in
theorem gX10_ways_X10_isForm : GoodIn wsX10_ways (va_wsS RX10 85 yX10_isForm wsX10_isForm) := goodIn_app (goodIn_of _ (by decide +kernel)) ggX10_ways_X10_isForm
set_option maxRecDepth 20000 in
theorem ggX10_ways_X10_isPoint : GoodIn wsX10_ways wsX10_isPoint := goodIn_r _ [10, 5, 6, 3, 7] (by decide +kernel) (by decide +kernel)
set_option maxRecDepth 20000 in
theorem gX10_ways_X10_isPoint : GoodIn wsX10_ways (va_wsS RX10 102 yX10_isPoint wsX10_isPoint) := goodIn_app (goodIn_of _ (by decide +kernel)) ggX10_ways_X10_isPoint
set_option maxRecDepth 20000 in
theorem ggX10_ways_X10_waysFrom : GoodIn wsX10_ways wsX10_waysFrom := goodIn_r _ [13, 14, 15, 3, 16, 17, 18, 19, 20, 21, 22, 23, 24, 25, 11, 12] (by decide +kernel) (by decide +kernel)
set_option maxRecDepth 20000 in
theorem gX10_ways_X10_waysFrom : GoodIn wsX10_ways (va_wsS RX10 98 yX10_waysFrom wsX10_waysFrom) := goodIn_app (goodIn_of _ (by decide +kernel)) ggX10_ways_X10_waysFrom
set_option maxRecDepth 20000 in
theorem ggX10_ways_X10_no : GoodIn wsX10_ways wsX10_no := goodIn_r _ [29, 30, 31, 32, 33, 34, 35, 36, 37, 38, 39, 40, 41, 42, 43, 44, 45, 46, 47, 48, 49] (by decide +kernel) (by decide +kernel)
set_option maxRecDepth 20000 in
theorem gX10_ways_X10_no : GoodIn wsX10_ways (wsV RX10 89 RX10 yX10_no wsX10_no) := goodIn_app (goodIn_of _ (by decide +kernel)) ggX10_ways_X10_no
theorem dX10_ways_0 : decode cX10_ways 0 = .ok (.iload_n 1, 1) := by decide +kernel
theorem dX10_ways_1 : decode cX10_ways 1 = .ok (.invokestatic 85, 3) := by decide +kernel
theorem dX10_ways_4 : decode cX10_ways 4 = .ok (.ifCond .eq 18, 3) := by decide +kernel
theorem dX10_ways_7 : decode cX10_ways 7 = .ok (.iload_n 2, 1) := by decide +kernel
theorem dX10_ways_8 : decode cX10_ways 8 = .ok (.invokestatic 102, 3) := by decide +kernel
theorem dX10_ways_11 : decode cX10_ways 11 = .ok (.ifCond .eq 11, 3) := by decide +kernel
theorem dX10_ways_14 : decode cX10_ways 14 = .ok (.iload_n 1, 1) := by decide +kernel
theorem dX10_ways_15 : decode cX10_ways 15 = .ok (.iload_n 2, 1) := by decide +kernel
theorem dX10_ways_16 : decode cX10_ways 16 = .ok (.invokestatic 98, 3) := by decide +kernel
theorem dX10_ways_19 : decode cX10_ways 19 = .ok (.goto 9, 3) := by decide +kernel
theorem dX10_ways_22 : decode cX10_ways 22 = .ok (.aload_n 0, 1) := by decide +kernel
theorem dX10_ways_23 : decode cX10_ways 23 = .ok (.iconst 0, 1) := by decide +kernel
theorem dX10_ways_24 : decode cX10_ways 24 = .ok (.invokevirtual 89, 3) := by decide +kernel
theorem dX10_ways_27 : decode cX10_ways 27 = .ok (.i2l, 1) := by decide +kernel
theorem dX10_ways_28 : decode cX10_ways 28 = .ok (.lreturn, 1) := by decide +kernel
set_option maxRecDepth 20000 in
theorem ggX10_nextStroke_X10_has : GoodIn wsX10_nextStroke wsX10_has := goodIn_r _ [4] (by decide +kernel) (by decide +kernel)
set_option maxRecDepth 20000 in
theorem gX10_nextStroke_X10_has : GoodIn wsX10_nextStroke (va_wsS RX10 59 yX10_has wsX10_has) := goodIn_app (goodIn_of _ (by decide +kernel)) ggX10_nextStroke_X10_has
set_option maxRecDepth 20000 in
theorem ggX10_nextStroke_X10_ends : GoodIn wsX10_nextStroke wsX10_ends := goodIn_r _ [7, 8, 9, 3, 10, 11, 12, 13] (by decide +kernel) (by decide +kernel)
set_option maxRecDepth 20000 in
theorem gX10_nextStroke_X10_ends : GoodIn wsX10_nextStroke (va_wsS RX10 63 yX10_ends wsX10_ends) := goodIn_app (goodIn_of _ (by decide +kernel)) ggX10_nextStroke_X10_ends
set_option maxRecDepth 20000 in
theorem ggX10_nextStroke_X10_oneEnd : GoodIn wsX10_nextStroke wsX10_oneEnd := goodIn_r _ [10] (by decide +kernel) (by decide +kernel)
set_option maxRecDepth 20000 in
theorem gX10_nextStroke_X10_oneEnd : GoodIn wsX10_nextStroke (va_wsS RX10 52 yX10_oneEnd wsX10_oneEnd) := goodIn_app (goodIn_of _ (by decide +kernel)) ggX10_nextStroke_X10_oneEnd
set_option maxRecDepth 20000 in
theorem ggX10_nextStroke_X10_otherEnd : GoodIn wsX10_nextStroke wsX10_otherEnd := goodIn_r _ [13, 8, 9, 3, 10] (by decide +kernel) (by decide +kernel)
set_option maxRecDepth 20000 in
theorem gX10_nextStroke_X10_otherEnd : GoodIn wsX10_nextStroke (va_wsS RX10 56 yX10_otherEnd wsX10_otherEnd) := goodIn_app (goodIn_of _ (by decide +kernel)) ggX10_nextStroke_X10_otherEnd
set_option maxRecDepth 20000 in
theorem ggX10_nextStroke_X10_waysFrom : GoodIn wsX10_nextStroke wsX10_waysFrom := goodIn_r _ [16, 1, 2, 3, 4, 5, 6, 7, 8, 9, 10, 11, 12, 13, 14, 15] (by decide +kernel) (by decide +kernel)
set_option maxRecDepth 20000 in
theorem gX10_nextStroke_X10_waysFrom : GoodIn wsX10_nextStroke (va_wsS RX10 98 yX10_waysFrom wsX10_waysFrom) := goodIn_app (goodIn_of _ (by decide +kernel)) ggX10_nextStroke_X10_waysFrom
theorem dX10_nextStroke_0 : decode cX10_nextStroke 0 = .ok (.iconst 0, 1) := by decide +kernel
theorem dX10_nextStroke_1 : decode cX10_nextStroke 1 = .ok (.istore_n 2, 1) := by decide +kernel
theorem dX10_nextStroke_2 : decode cX10_nextStroke 2 = .ok (.iload_n 0, 1) := by decide +kernel
theorem dX10_nextStroke_3 : decode cX10_nextStroke 3 = .ok (.iload_n 2, 1) := by decide +kernel
theorem dX10_nextStroke_4 : decode cX10_nextStroke 4 = .ok (.invokestatic 59, 3) := by decide +kernel
theorem dX10_nextStroke_7 : decode cX10_nextStroke 7 = .ok (.ifCond .eq 37, 3) := by decide +kernel
theorem dX10_nextStroke_10 : decode cX10_nextStroke 10 = .ok (.iload_n 2, 1) := by decide +kernel
theorem dX10_nextStroke_11 : decode cX10_nextStroke 11 = .ok (.iload_n 1, 1) := by decide +kernel
theorem dX10_nextStroke_12 : decode cX10_nextStroke 12 = .ok (.invokestatic 63, 3) := by decide +kernel
theorem dX10_nextStroke_15 : decode cX10_nextStroke 15 = .ok (.ifCond .eq 29, 3) := by decide +kernel
theorem dX10_nextStroke_18 : decode cX10_nextStroke 18 = .ok (.iload_n 0, 1) := by decide +kernel
theorem dX10_nextStroke_19 : decode cX10_nextStroke 19 = .ok (.iconst 1, 1) := by decide +kernel
theorem dX10_nextStroke_20 : decode cX10_nextStroke 20 = .ok (.iload_n 2, 1) := by decide +kernel
theorem dX10_nextStroke_21 : decode cX10_nextStroke 21 = .ok (.ishl, 1) := by decide +kernel
theorem dX10_nextStroke_22 : decode cX10_nextStroke 22 = .ok (.iconst (-1), 1) := by decide +kernel
theorem dX10_nextStroke_23 : decode cX10_nextStroke 23 = .ok (.ixor, 1) := by decide +kernel
theorem dX10_nextStroke_24 : decode cX10_nextStroke 24 = .ok (.iand, 1) := by decide +kernel
theorem dX10_nextStroke_25 : decode cX10_nextStroke 25 = .ok (.iload_n 2, 1) := by decide +kernel
theorem dX10_nextStroke_26 : decode cX10_nextStroke 26 = .ok (.invokestatic 52, 3) := by decide +kernel
theorem dX10_nextStroke_29 : decode cX10_nextStroke 29 = .ok (.iload_n 2, 1) := by decide +kernel
theorem dX10_nextStroke_30 : decode cX10_nextStroke 30 = .ok (.invokestatic 56, 3) := by decide +kernel
theorem dX10_nextStroke_33 : decode cX10_nextStroke 33 = .ok (.iadd, 1) := by decide +kernel
theorem dX10_nextStroke_34 : decode cX10_nextStroke 34 = .ok (.iload_n 1, 1) := by decide +kernel
theorem dX10_nextStroke_35 : decode cX10_nextStroke 35 = .ok (.isub, 1) := by decide +kernel
theorem dX10_nextStroke_36 : decode cX10_nextStroke 36 = .ok (.invokestatic 98, 3) := by decide +kernel
theorem dX10_nextStroke_39 : decode cX10_nextStroke 39 = .ok (.lconst 0, 1) := by decide +kernel
theorem dX10_nextStroke_40 : decode cX10_nextStroke 40 = .ok (.lcmp, 1) := by decide +kernel
theorem dX10_nextStroke_41 : decode cX10_nextStroke 41 = .ok (.ifCond .ne 9, 3) := by decide +kernel
theorem dX10_nextStroke_44 : decode cX10_nextStroke 44 = .ok (.iinc 2 1, 3) := by decide +kernel
theorem dX10_nextStroke_47 : decode cX10_nextStroke 47 = .ok (.goto (-45), 3) := by decide +kernel
theorem dX10_nextStroke_50 : decode cX10_nextStroke 50 = .ok (.iload_n 2, 1) := by decide +kernel
theorem dX10_nextStroke_51 : decode cX10_nextStroke 51 = .ok (.ireturn, 1) := by decide +kernel
set_option maxRecDepth 20000 in
theorem ggX10_ith_X10_isForm : GoodIn wsX10_ith wsX10_isForm := goodIn_r _ [4, 5, 6, 3, 7] (by decide +kernel) (by decide +kernel)
set_option maxRecDepth 20000 in
theorem gX10_ith_X10_isForm : GoodIn wsX10_ith (va_wsS RX10 85 yX10_isForm wsX10_isForm) := goodIn_app (goodIn_of _ (by decide +kernel)) ggX10_ith_X10_isForm
set_option maxRecDepth 20000 in
theorem ggX10_ith_X10_isPoint : GoodIn wsX10_ith wsX10_isPoint := goodIn_r _ [10, 5, 6, 3, 7] (by decide +kernel) (by decide +kernel)
set_option maxRecDepth 20000 in
theorem gX10_ith_X10_isPoint : GoodIn wsX10_ith (va_wsS RX10 102 yX10_isPoint wsX10_isPoint) := goodIn_app (goodIn_of _ (by decide +kernel)) ggX10_ith_X10_isPoint
set_option maxRecDepth 20000 in
theorem ggX10_ith_X10_in : GoodIn wsX10_ith wsX10_in := goodIn_r _ [7] (by decide +kernel) (by decide +kernel)
set_option maxRecDepth 20000 in
theorem gX10_ith_X10_in : GoodIn wsX10_ith (va_wsS RX10 48 yX10_in wsX10_in) := goodIn_app (goodIn_of _ (by decide +kernel)) ggX10_ith_X10_in
set_option maxRecDepth 20000 in
theorem ggX10_ith_X10_no : GoodIn wsX10_ith wsX10_no := goodIn_r _ [14, 15, 16, 38, 39, 40, 41, 42, 43, 44, 45, 46, 47, 48, 49, 50, 51, 52, 53, 54, 55] (by decide +kernel) (by decide +kernel)
set_option maxRecDepth 20000 in
theorem gX10_ith_X10_no : GoodIn wsX10_ith (wsV RX10 89 RX10 yX10_no wsX10_no) := goodIn_app (goodIn_of _ (by decide +kernel)) ggX10_ith_X10_no
set_option maxRecDepth 20000 in
theorem ggX10_ith_X10_waysFrom : GoodIn wsX10_ith wsX10_waysFrom := goodIn_r _ [19, 20, 21, 3, 22, 23, 24, 25, 26, 27, 28, 29, 30, 31, 17, 18] (by decide +kernel) (by decide +kernel)
set_option maxRecDepth 20000 in
theorem gX10_ith_X10_waysFrom : GoodIn wsX10_ith (va_wsS RX10 98 yX10_waysFrom wsX10_waysFrom) := goodIn_app (goodIn_of _ (by decide +kernel)) ggX10_ith_X10_waysFrom
set_option maxRecDepth 20000 in
theorem ggX10_ith_X10_ones : GoodIn wsX10_ith wsX10_ones := goodIn_r _ [34] (by decide +kernel) (by decide +kernel)
set_option maxRecDepth 20000 in
theorem gX10_ith_X10_ones : GoodIn wsX10_ith (va_wsS RX10 79 yX10_ones wsX10_ones) := goodIn_app (goodIn_of _ (by decide +kernel)) ggX10_ith_X10_ones
set_option maxRecDepth 20000 in
theorem ggX10_ith_X10_nextStroke : GoodIn wsX10_ith wsX10_nextStroke := goodIn_r _ [37, 20, 21, 3, 22, 23, 24, 25, 26, 27, 28, 29, 30, 31, 17, 18, 19] (by decide +kernel) (by decide +kernel)
set_option maxRecDepth 20000 in
theorem gX10_ith_X10_nextStroke : GoodIn wsX10_ith (va_wsS RX10 105 yX10_nextStroke wsX10_nextStroke) := goodIn_app (goodIn_of _ (by decide +kernel)) ggX10_ith_X10_nextStroke
set_option maxRecDepth 20000 in
theorem ggX10_ith_X10_oneEnd : GoodIn wsX10_ith wsX10_oneEnd := goodIn_r _ [28] (by decide +kernel) (by decide +kernel)
set_option maxRecDepth 20000 in
theorem gX10_ith_X10_oneEnd : GoodIn wsX10_ith (va_wsS RX10 52 yX10_oneEnd wsX10_oneEnd) := goodIn_app (goodIn_of _ (by decide +kernel)) ggX10_ith_X10_oneEnd
set_option maxRecDepth 20000 in
theorem ggX10_ith_X10_otherEnd : GoodIn wsX10_ith wsX10_otherEnd := goodIn_r _ [31, 26, 27, 3, 28] (by decide +kernel) (by decide +kernel)
set_option maxRecDepth 20000 in
theorem gX10_ith_X10_otherEnd : GoodIn wsX10_ith (va_wsS RX10 56 yX10_otherEnd wsX10_otherEnd) := goodIn_app (goodIn_of _ (by decide +kernel)) ggX10_ith_X10_otherEnd
theorem dX10_ith_0 : decode cX10_ith 0 = .ok (.iload_n 1, 1) := by decide +kernel
theorem dX10_ith_1 : decode cX10_ith 1 = .ok (.invokestatic 85, 3) := by decide +kernel
theorem dX10_ith_4 : decode cX10_ith 4 = .ok (.ifCond .eq 20, 3) := by decide +kernel
theorem dX10_ith_7 : decode cX10_ith 7 = .ok (.iload_n 2, 1) := by decide +kernel
theorem dX10_ith_8 : decode cX10_ith 8 = .ok (.invokestatic 102, 3) := by decide +kernel
theorem dX10_ith_11 : decode cX10_ith 11 = .ok (.ifCond .eq 13, 3) := by decide +kernel
theorem dX10_ith_14 : decode cX10_ith 14 = .ok (.iload_n 3, 1) := by decide +kernel
theorem dX10_ith_15 : decode cX10_ith 15 = .ok (.iconst 0, 1) := by decide +kernel
theorem dX10_ith_16 : decode cX10_ith 16 = .ok (.bipush 11, 2) := by decide +kernel
theorem dX10_ith_18 : decode cX10_ith 18 = .ok (.invokestatic 48, 3) := by decide +kernel
theorem dX10_ith_21 : decode cX10_ith 21 = .ok (.ifCond .ne 9, 3) := by decide +kernel
theorem dX10_ith_24 : decode cX10_ith 24 = .ok (.aload_n 0, 1) := by decide +kernel
theorem dX10_ith_25 : decode cX10_ith 25 = .ok (.iconst 0, 1) := by decide +kernel
theorem dX10_ith_26 : decode cX10_ith 26 = .ok (.invokevirtual 89, 3) := by decide +kernel
theorem dX10_ith_29 : decode cX10_ith 29 = .ok (.ireturn, 1) := by decide +kernel
theorem dX10_ith_30 : decode cX10_ith 30 = .ok (.iload_n 1, 1) := by decide +kernel
theorem dX10_ith_31 : decode cX10_ith 31 = .ok (.iload_n 2, 1) := by decide +kernel
theorem dX10_ith_32 : decode cX10_ith 32 = .ok (.invokestatic 98, 3) := by decide +kernel
theorem dX10_ith_35 : decode cX10_ith 35 = .ok (.lconst 0, 1) := by decide +kernel
theorem dX10_ith_36 : decode cX10_ith 36 = .ok (.lcmp, 1) := by decide +kernel
theorem dX10_ith_37 : decode cX10_ith 37 = .ok (.ifCond .eq 11, 3) := by decide +kernel
theorem dX10_ith_40 : decode cX10_ith 40 = .ok (.iload_n 3, 1) := by decide +kernel
theorem dX10_ith_41 : decode cX10_ith 41 = .ok (.iload_n 1, 1) := by decide +kernel
theorem dX10_ith_42 : decode cX10_ith 42 = .ok (.invokestatic 79, 3) := by decide +kernel
theorem dX10_ith_45 : decode cX10_ith 45 = .ok (.if_icmp .lt 9, 3) := by decide +kernel
theorem dX10_ith_48 : decode cX10_ith 48 = .ok (.aload_n 0, 1) := by decide +kernel
theorem dX10_ith_49 : decode cX10_ith 49 = .ok (.iconst 3, 1) := by decide +kernel
theorem dX10_ith_50 : decode cX10_ith 50 = .ok (.invokevirtual 89, 3) := by decide +kernel
theorem dX10_ith_53 : decode cX10_ith 53 = .ok (.ireturn, 1) := by decide +kernel
theorem dX10_ith_54 : decode cX10_ith 54 = .ok (.iload_n 1, 1) := by decide +kernel
theorem dX10_ith_55 : decode cX10_ith 55 = .ok (.istore 4, 2) := by decide +kernel
theorem dX10_ith_57 : decode cX10_ith 57 = .ok (.iload_n 2, 1) := by decide +kernel
theorem dX10_ith_58 : decode cX10_ith 58 = .ok (.istore 5, 2) := by decide +kernel
theorem dX10_ith_60 : decode cX10_ith 60 = .ok (.iload 4, 2) := by decide +kernel
theorem dX10_ith_62 : decode cX10_ith 62 = .ok (.iload 5, 2) := by decide +kernel
theorem dX10_ith_64 : decode cX10_ith 64 = .ok (.invokestatic 105, 3) := by decide +kernel
theorem dX10_ith_67 : decode cX10_ith 67 = .ok (.istore 6, 2) := by decide +kernel
theorem dX10_ith_69 : decode cX10_ith 69 = .ok (.iconst 0, 1) := by decide +kernel
theorem dX10_ith_70 : decode cX10_ith 70 = .ok (.istore 7, 2) := by decide +kernel
theorem dX10_ith_72 : decode cX10_ith 72 = .ok (.iload 7, 2) := by decide +kernel
theorem dX10_ith_74 : decode cX10_ith 74 = .ok (.iload_n 3, 1) := by decide +kernel
theorem dX10_ith_75 : decode cX10_ith 75 = .ok (.if_icmp .ge 45, 3) := by decide +kernel
theorem dX10_ith_78 : decode cX10_ith 78 = .ok (.iload 4, 2) := by decide +kernel
theorem dX10_ith_80 : decode cX10_ith 80 = .ok (.iconst 1, 1) := by decide +kernel
theorem dX10_ith_81 : decode cX10_ith 81 = .ok (.iload 6, 2) := by decide +kernel
theorem dX10_ith_83 : decode cX10_ith 83 = .ok (.ishl, 1) := by decide +kernel
theorem dX10_ith_84 : decode cX10_ith 84 = .ok (.iconst (-1), 1) := by decide +kernel
theorem dX10_ith_85 : decode cX10_ith 85 = .ok (.ixor, 1) := by decide +kernel
theorem dX10_ith_86 : decode cX10_ith 86 = .ok (.iand, 1) := by decide +kernel
theorem dX10_ith_87 : decode cX10_ith 87 = .ok (.istore 4, 2) := by decide +kernel
theorem dX10_ith_89 : decode cX10_ith 89 = .ok (.iload 6, 2) := by decide +kernel
theorem dX10_ith_91 : decode cX10_ith 91 = .ok (.invokestatic 52, 3) := by decide +kernel
theorem dX10_ith_94 : decode cX10_ith 94 = .ok (.iload 6, 2) := by decide +kernel
theorem dX10_ith_96 : decode cX10_ith 96 = .ok (.invokestatic 56, 3) := by decide +kernel
theorem dX10_ith_99 : decode cX10_ith 99 = .ok (.iadd, 1) := by decide +kernel
theorem dX10_ith_100 : decode cX10_ith 100 = .ok (.iload 5, 2) := by decide +kernel
theorem dX10_ith_102 : decode cX10_ith 102 = .ok (.isub, 1) := by decide +kernel
theorem dX10_ith_103 : decode cX10_ith 103 = .ok (.istore 5, 2) := by decide +kernel
theorem dX10_ith_105 : decode cX10_ith 105 = .ok (.iload 4, 2) := by decide +kernel
theorem dX10_ith_107 : decode cX10_ith 107 = .ok (.iload 5, 2) := by decide +kernel
theorem dX10_ith_109 : decode cX10_ith 109 = .ok (.invokestatic 105, 3) := by decide +kernel
theorem dX10_ith_112 : decode cX10_ith 112 = .ok (.istore 6, 2) := by decide +kernel
theorem dX10_ith_114 : decode cX10_ith 114 = .ok (.iinc 7 1, 3) := by decide +kernel
theorem dX10_ith_117 : decode cX10_ith 117 = .ok (.goto (-45), 3) := by decide +kernel
theorem dX10_ith_120 : decode cX10_ith 120 = .ok (.iload 6, 2) := by decide +kernel
theorem dX10_ith_122 : decode cX10_ith 122 = .ok (.ireturn, 1) := by decide +kernel
set_option maxRecDepth 20000 in
theorem ggX10_again_X10_isForm : GoodIn wsX10_again wsX10_isForm := goodIn_r _ [4, 5, 6, 3, 7] (by decide +kernel) (by decide +kernel)
set_option maxRecDepth 20000 in
theorem gX10_again_X10_isForm : GoodIn wsX10_again (va_wsS RX10 85 yX10_isForm wsX10_isForm) := goodIn_app (goodIn_of _ (by decide +kernel)) ggX10_again_X10_isForm
set_option maxRecDepth 20000 in
theorem ggX10_again_X10_no : GoodIn wsX10_again wsX10_no := goodIn_r _ [11, 12, 13, 44, 45, 46, 47, 48, 49, 50, 51, 52, 53, 54, 55, 56, 57, 58, 59, 60, 61] (by decide +kernel) (by decide +kernel)
set_option maxRecDepth 20000 in
theorem gX10_again_X10_no : GoodIn wsX10_again (wsV RX10 89 RX10 yX10_no wsX10_no) := goodIn_app (goodIn_of _ (by decide +kernel)) ggX10_again_X10_no
set_option maxRecDepth 20000 in
theorem ggX10_again_X10_piecesOf : GoodIn wsX10_again wsX10_piecesOf := goodIn_r _ [16, 17, 18, 3, 19, 20, 21, 22, 23, 24, 25, 26, 27, 28, 29, 30, 31, 32, 33, 34, 35, 36, 37] (by decide +kernel) (by decide +kernel)
set_option maxRecDepth 20000 in
theorem gX10_again_X10_piecesOf : GoodIn wsX10_again (va_wsS RX10 92 yX10_piecesOf wsX10_piecesOf) := goodIn_app (goodIn_of _ (by decide +kernel)) ggX10_again_X10_piecesOf
set_option maxRecDepth 20000 in
theorem ggX10_again_X10_odds : GoodIn wsX10_again wsX10_odds := goodIn_r _ [40, 29, 30, 3, 31, 20, 21, 22, 32, 33, 34, 26, 27, 28, 35, 36, 37] (by decide +kernel) (by decide +kernel)
set_option maxRecDepth 20000 in
theorem gX10_again_X10_odds : GoodIn wsX10_again (va_wsS RX10 76 yX10_odds wsX10_odds) := goodIn_app (goodIn_of _ (by decide +kernel)) ggX10_again_X10_odds
set_option maxRecDepth 20000 in
theorem ggX10_again_X10_ones : GoodIn wsX10_again wsX10_ones := goodIn_r _ [43] (by decide +kernel) (by decide +kernel)
set_option maxRecDepth 20000 in
theorem gX10_again_X10_ones : GoodIn wsX10_again (va_wsS RX10 79 yX10_ones wsX10_ones) := goodIn_app (goodIn_of _ (by decide +kernel)) ggX10_again_X10_ones
theorem dX10_again_0 : decode cX10_again 0 = .ok (.iload_n 1, 1) := by decide +kernel
theorem dX10_again_1 : decode cX10_again 1 = .ok (.invokestatic 85, 3) := by decide +kernel
theorem dX10_again_4 : decode cX10_again 4 = .ok (.ifCond .ne 9, 3) := by decide +kernel
theorem dX10_again_7 : decode cX10_again 7 = .ok (.aload_n 0, 1) := by decide +kernel
theorem dX10_again_8 : decode cX10_again 8 = .ok (.iconst 0, 1) := by decide +kernel
theorem dX10_again_9 : decode cX10_again 9 = .ok (.invokevirtual 89, 3) := by decide +kernel
theorem dX10_again_12 : decode cX10_again 12 = .ok (.ireturn, 1) := by decide +kernel
theorem dX10_again_13 : decode cX10_again 13 = .ok (.iload_n 1, 1) := by decide +kernel
theorem dX10_again_14 : decode cX10_again 14 = .ok (.invokestatic 92, 3) := by decide +kernel
theorem dX10_again_17 : decode cX10_again 17 = .ok (.iconst 1, 1) := by decide +kernel
theorem dX10_again_18 : decode cX10_again 18 = .ok (.if_icmp .le 9, 3) := by decide +kernel
theorem dX10_again_21 : decode cX10_again 21 = .ok (.aload_n 0, 1) := by decide +kernel
theorem dX10_again_22 : decode cX10_again 22 = .ok (.iconst 3, 1) := by decide +kernel
theorem dX10_again_23 : decode cX10_again 23 = .ok (.invokevirtual 89, 3) := by decide +kernel
theorem dX10_again_26 : decode cX10_again 26 = .ok (.ireturn, 1) := by decide +kernel
theorem dX10_again_27 : decode cX10_again 27 = .ok (.iload_n 1, 1) := by decide +kernel
theorem dX10_again_28 : decode cX10_again 28 = .ok (.invokestatic 76, 3) := by decide +kernel
theorem dX10_again_31 : decode cX10_again 31 = .ok (.istore_n 2, 1) := by decide +kernel
theorem dX10_again_32 : decode cX10_again 32 = .ok (.bipush 12, 2) := by decide +kernel
theorem dX10_again_34 : decode cX10_again 34 = .ok (.istore_n 3, 1) := by decide +kernel
theorem dX10_again_35 : decode cX10_again 35 = .ok (.iload_n 1, 1) := by decide +kernel
theorem dX10_again_36 : decode cX10_again 36 = .ok (.istore 4, 2) := by decide +kernel
theorem dX10_again_38 : decode cX10_again 38 = .ok (.iload 4, 2) := by decide +kernel
theorem dX10_again_40 : decode cX10_again 40 = .ok (.ifCond .le 38, 3) := by decide +kernel
theorem dX10_again_43 : decode cX10_again 43 = .ok (.iload 4, 2) := by decide +kernel
theorem dX10_again_45 : decode cX10_again 45 = .ok (.invokestatic 79, 3) := by decide +kernel
theorem dX10_again_48 : decode cX10_again 48 = .ok (.iload_n 3, 1) := by decide +kernel
theorem dX10_again_49 : decode cX10_again 49 = .ok (.if_icmp .ge 18, 3) := by decide +kernel
theorem dX10_again_52 : decode cX10_again 52 = .ok (.iload 4, 2) := by decide +kernel
theorem dX10_again_54 : decode cX10_again 54 = .ok (.invokestatic 76, 3) := by decide +kernel
theorem dX10_again_57 : decode cX10_again 57 = .ok (.iload_n 2, 1) := by decide +kernel
theorem dX10_again_58 : decode cX10_again 58 = .ok (.if_icmp .ne 9, 3) := by decide +kernel
theorem dX10_again_61 : decode cX10_again 61 = .ok (.iload 4, 2) := by decide +kernel
theorem dX10_again_63 : decode cX10_again 63 = .ok (.invokestatic 79, 3) := by decide +kernel
theorem dX10_again_66 : decode cX10_again 66 = .ok (.istore_n 3, 1) := by decide +kernel
theorem dX10_again_67 : decode cX10_again 67 = .ok (.iload 4, 2) := by decide +kernel
theorem dX10_again_69 : decode cX10_again 69 = .ok (.iconst 1, 1) := by decide +kernel
theorem dX10_again_70 : decode cX10_again 70 = .ok (.isub, 1) := by decide +kernel
theorem dX10_again_71 : decode cX10_again 71 = .ok (.iload_n 1, 1) := by decide +kernel
theorem dX10_again_72 : decode cX10_again 72 = .ok (.iand, 1) := by decide +kernel
theorem dX10_again_73 : decode cX10_again 73 = .ok (.istore 4, 2) := by decide +kernel
theorem dX10_again_75 : decode cX10_again 75 = .ok (.goto (-37), 3) := by decide +kernel
theorem dX10_again_78 : decode cX10_again 78 = .ok (.iload_n 2, 1) := by decide +kernel
theorem dX10_again_79 : decode cX10_again 79 = .ok (.ifCond .ne 7, 3) := by decide +kernel
theorem dX10_again_82 : decode cX10_again 82 = .ok (.iconst 0, 1) := by decide +kernel
theorem dX10_again_83 : decode cX10_again 83 = .ok (.goto 4, 3) := by decide +kernel
theorem dX10_again_86 : decode cX10_again 86 = .ok (.iload_n 3, 1) := by decide +kernel
theorem dX10_again_87 : decode cX10_again 87 = .ok (.ireturn, 1) := by decide +kernel
theorem dX10_quarter_0 : decode cX10_quarter 0 = .ok (.iconst 3, 1) := by decide +kernel
theorem dX10_quarter_1 : decode cX10_quarter 1 = .ok (.iload_n 0, 1) := by decide +kernel
theorem dX10_quarter_2 : decode cX10_quarter 2 = .ok (.iconst 3, 1) := by decide +kernel
theorem dX10_quarter_3 : decode cX10_quarter 3 = .ok (.irem, 1) := by decide +kernel
theorem dX10_quarter_4 : decode cX10_quarter 4 = .ok (.imul, 1) := by decide +kernel
theorem dX10_quarter_5 : decode cX10_quarter 5 = .ok (.iconst 2, 1) := by decide +kernel
theorem dX10_quarter_6 : decode cX10_quarter 6 = .ok (.iadd, 1) := by decide +kernel
theorem dX10_quarter_7 : decode cX10_quarter 7 = .ok (.iload_n 0, 1) := by decide +kernel
theorem dX10_quarter_8 : decode cX10_quarter 8 = .ok (.iconst 3, 1) := by decide +kernel
theorem dX10_quarter_9 : decode cX10_quarter 9 = .ok (.idiv, 1) := by decide +kernel
theorem dX10_quarter_10 : decode cX10_quarter 10 = .ok (.isub, 1) := by decide +kernel
theorem dX10_quarter_11 : decode cX10_quarter 11 = .ok (.ireturn, 1) := by decide +kernel
set_option maxRecDepth 20000 in
theorem ggX10_strokeOf_X10_ends : GoodIn wsX10_strokeOf wsX10_ends := goodIn_r _ [4, 5, 6, 3, 7, 8, 9, 10] (by decide +kernel) (by decide +kernel)
set_option maxRecDepth 20000 in
theorem gX10_strokeOf_X10_ends : GoodIn wsX10_strokeOf (va_wsS RX10 63 yX10_ends wsX10_ends) := goodIn_app (goodIn_of _ (by decide +kernel)) ggX10_strokeOf_X10_ends
theorem dX10_strokeOf_0 : decode cX10_strokeOf 0 = .ok (.iconst 0, 1) := by decide +kernel
theorem dX10_strokeOf_1 : decode cX10_strokeOf 1 = .ok (.istore_n 2, 1) := by decide +kernel
theorem dX10_strokeOf_2 : decode cX10_strokeOf 2 = .ok (.iload_n 2, 1) := by decide +kernel
theorem dX10_strokeOf_3 : decode cX10_strokeOf 3 = .ok (.iload_n 0, 1) := by decide +kernel
theorem dX10_strokeOf_4 : decode cX10_strokeOf 4 = .ok (.invokestatic 63, 3) := by decide +kernel
theorem dX10_strokeOf_7 : decode cX10_strokeOf 7 = .ok (.ifCond .eq 11, 3) := by decide +kernel
theorem dX10_strokeOf_10 : decode cX10_strokeOf 10 = .ok (.iload_n 2, 1) := by decide +kernel
theorem dX10_strokeOf_11 : decode cX10_strokeOf 11 = .ok (.iload_n 1, 1) := by decide +kernel
theorem dX10_strokeOf_12 : decode cX10_strokeOf 12 = .ok (.invokestatic 63, 3) := by decide +kernel
theorem dX10_strokeOf_15 : decode cX10_strokeOf 15 = .ok (.ifCond .ne 9, 3) := by decide +kernel
theorem dX10_strokeOf_18 : decode cX10_strokeOf 18 = .ok (.iinc 2 1, 3) := by decide +kernel
theorem dX10_strokeOf_21 : decode cX10_strokeOf 21 = .ok (.goto (-19), 3) := by decide +kernel
theorem dX10_strokeOf_24 : decode cX10_strokeOf 24 = .ok (.iload_n 2, 1) := by decide +kernel
theorem dX10_strokeOf_25 : decode cX10_strokeOf 25 = .ok (.ireturn, 1) := by decide +kernel
set_option maxRecDepth 20000 in
theorem ggX10_turned_X10_isForm : GoodIn wsX10_turned wsX10_isForm := goodIn_r _ [4, 5, 6, 3, 7] (by decide +kernel) (by decide +kernel)
set_option maxRecDepth 20000 in
theorem gX10_turned_X10_isForm : GoodIn wsX10_turned (va_wsS RX10 85 yX10_isForm wsX10_isForm) := goodIn_app (goodIn_of _ (by decide +kernel)) ggX10_turned_X10_isForm
set_option maxRecDepth 20000 in
theorem ggX10_turned_X10_in : GoodIn wsX10_turned wsX10_in := goodIn_r _ [7] (by decide +kernel) (by decide +kernel)
set_option maxRecDepth 20000 in
theorem gX10_turned_X10_in : GoodIn wsX10_turned (va_wsS RX10 48 yX10_in wsX10_in) := goodIn_app (goodIn_of _ (by decide +kernel)) ggX10_turned_X10_in
set_option maxRecDepth 20000 in
theorem ggX10_turned_X10_no : GoodIn wsX10_turned wsX10_no := goodIn_r _ [11, 12, 13, 32, 33, 34, 35, 36, 37, 38, 39, 40, 41, 42, 43, 44, 45, 46, 47, 48, 49] (by decide +kernel) (by decide +kernel)
set_option maxRecDepth 20000 in
theorem gX10_turned_X10_no : GoodIn wsX10_turned (wsV RX10 89 RX10 yX10_no wsX10_no) := goodIn_app (goodIn_of _ (by decide +kernel)) ggX10_turned_X10_no
set_option maxRecDepth 20000 in
theorem ggX10_turned_X10_has : GoodIn wsX10_turned wsX10_has := goodIn_r _ [16] (by decide +kernel) (by decide +kernel)
set_option maxRecDepth 20000 in
theorem gX10_turned_X10_has : GoodIn wsX10_turned (va_wsS RX10 59 yX10_has wsX10_has) := goodIn_app (goodIn_of _ (by decide +kernel)) ggX10_turned_X10_has
set_option maxRecDepth 20000 in
theorem ggX10_turned_X10_oneEnd : GoodIn wsX10_turned wsX10_oneEnd := goodIn_r _ [19] (by decide +kernel) (by decide +kernel)
set_option maxRecDepth 20000 in
theorem gX10_turned_X10_oneEnd : GoodIn wsX10_turned (va_wsS RX10 52 yX10_oneEnd wsX10_oneEnd) := goodIn_app (goodIn_of _ (by decide +kernel)) ggX10_turned_X10_oneEnd
set_option maxRecDepth 20000 in
theorem ggX10_turned_X10_quarter : GoodIn wsX10_turned wsX10_quarter := goodIn_r _ [22] (by decide +kernel) (by decide +kernel)
set_option maxRecDepth 20000 in
theorem gX10_turned_X10_quarter : GoodIn wsX10_turned (va_wsS RX10 108 yX10_quarter wsX10_quarter) := goodIn_app (goodIn_of _ (by decide +kernel)) ggX10_turned_X10_quarter
set_option maxRecDepth 20000 in
theorem ggX10_turned_X10_otherEnd : GoodIn wsX10_turned wsX10_otherEnd := goodIn_r _ [25, 17, 18, 3, 19] (by decide +kernel) (by decide +kernel)
set_option maxRecDepth 20000 in
theorem gX10_turned_X10_otherEnd : GoodIn wsX10_turned (va_wsS RX10 56 yX10_otherEnd wsX10_otherEnd) := goodIn_app (goodIn_of _ (by decide +kernel)) ggX10_turned_X10_otherEnd
set_option maxRecDepth 20000 in
theorem ggX10_turned_X10_strokeOf : GoodIn wsX10_turned wsX10_strokeOf := goodIn_r _ [28, 29, 30, 3, 31, 17, 18, 19, 23, 24, 25] (by decide +kernel) (by decide +kernel)
set_option maxRecDepth 20000 in
theorem gX10_turned_X10_strokeOf : GoodIn wsX10_turned (va_wsS RX10 111 yX10_strokeOf wsX10_strokeOf) := goodIn_app (goodIn_of _ (by decide +kernel)) ggX10_turned_X10_strokeOf
theorem dX10_turned_0 : decode cX10_turned 0 = .ok (.iload_n 1, 1) := by decide +kernel
theorem dX10_turned_1 : decode cX10_turned 1 = .ok (.invokestatic 85, 3) := by decide +kernel
theorem dX10_turned_4 : decode cX10_turned 4 = .ok (.ifCond .eq 12, 3) := by decide +kernel
theorem dX10_turned_7 : decode cX10_turned 7 = .ok (.iload_n 2, 1) := by decide +kernel
theorem dX10_turned_8 : decode cX10_turned 8 = .ok (.iconst 0, 1) := by decide +kernel
theorem dX10_turned_9 : decode cX10_turned 9 = .ok (.iconst 3, 1) := by decide +kernel
theorem dX10_turned_10 : decode cX10_turned 10 = .ok (.invokestatic 48, 3) := by decide +kernel
theorem dX10_turned_13 : decode cX10_turned 13 = .ok (.ifCond .ne 9, 3) := by decide +kernel
theorem dX10_turned_16 : decode cX10_turned 16 = .ok (.aload_n 0, 1) := by decide +kernel
theorem dX10_turned_17 : decode cX10_turned 17 = .ok (.iconst 0, 1) := by decide +kernel
theorem dX10_turned_18 : decode cX10_turned 18 = .ok (.invokevirtual 89, 3) := by decide +kernel
theorem dX10_turned_21 : decode cX10_turned 21 = .ok (.ireturn, 1) := by decide +kernel
theorem dX10_turned_22 : decode cX10_turned 22 = .ok (.iload_n 1, 1) := by decide +kernel
theorem dX10_turned_23 : decode cX10_turned 23 = .ok (.istore_n 3, 1) := by decide +kernel
theorem dX10_turned_24 : decode cX10_turned 24 = .ok (.iconst 0, 1) := by decide +kernel
theorem dX10_turned_25 : decode cX10_turned 25 = .ok (.istore 4, 2) := by decide +kernel
theorem dX10_turned_27 : decode cX10_turned 27 = .ok (.iload 4, 2) := by decide +kernel
theorem dX10_turned_29 : decode cX10_turned 29 = .ok (.iload_n 2, 1) := by decide +kernel
theorem dX10_turned_30 : decode cX10_turned 30 = .ok (.if_icmp .ge 70, 3) := by decide +kernel
theorem dX10_turned_33 : decode cX10_turned 33 = .ok (.iconst 0, 1) := by decide +kernel
theorem dX10_turned_34 : decode cX10_turned 34 = .ok (.istore 5, 2) := by decide +kernel
theorem dX10_turned_36 : decode cX10_turned 36 = .ok (.iconst 0, 1) := by decide +kernel
theorem dX10_turned_37 : decode cX10_turned 37 = .ok (.istore 6, 2) := by decide +kernel
theorem dX10_turned_39 : decode cX10_turned 39 = .ok (.iload 6, 2) := by decide +kernel
theorem dX10_turned_41 : decode cX10_turned 41 = .ok (.bipush 12, 2) := by decide +kernel
theorem dX10_turned_43 : decode cX10_turned 43 = .ok (.if_icmp .ge 48, 3) := by decide +kernel
theorem dX10_turned_46 : decode cX10_turned 46 = .ok (.iload 5, 2) := by decide +kernel
theorem dX10_turned_48 : decode cX10_turned 48 = .ok (.iload_n 3, 1) := by decide +kernel
theorem dX10_turned_49 : decode cX10_turned 49 = .ok (.iload 6, 2) := by decide +kernel
theorem dX10_turned_51 : decode cX10_turned 51 = .ok (.invokestatic 59, 3) := by decide +kernel
theorem dX10_turned_54 : decode cX10_turned 54 = .ok (.ifCond .eq 27, 3) := by decide +kernel
theorem dX10_turned_57 : decode cX10_turned 57 = .ok (.iconst 1, 1) := by decide +kernel
theorem dX10_turned_58 : decode cX10_turned 58 = .ok (.iload 6, 2) := by decide +kernel
theorem dX10_turned_60 : decode cX10_turned 60 = .ok (.invokestatic 52, 3) := by decide +kernel
theorem dX10_turned_63 : decode cX10_turned 63 = .ok (.invokestatic 108, 3) := by decide +kernel
theorem dX10_turned_66 : decode cX10_turned 66 = .ok (.iload 6, 2) := by decide +kernel
theorem dX10_turned_68 : decode cX10_turned 68 = .ok (.invokestatic 56, 3) := by decide +kernel
theorem dX10_turned_71 : decode cX10_turned 71 = .ok (.invokestatic 108, 3) := by decide +kernel
theorem dX10_turned_74 : decode cX10_turned 74 = .ok (.invokestatic 111, 3) := by decide +kernel
theorem dX10_turned_77 : decode cX10_turned 77 = .ok (.ishl, 1) := by decide +kernel
theorem dX10_turned_78 : decode cX10_turned 78 = .ok (.goto 4, 3) := by decide +kernel
theorem dX10_turned_81 : decode cX10_turned 81 = .ok (.iconst 0, 1) := by decide +kernel
theorem dX10_turned_82 : decode cX10_turned 82 = .ok (.ior, 1) := by decide +kernel
theorem dX10_turned_83 : decode cX10_turned 83 = .ok (.istore 5, 2) := by decide +kernel
theorem dX10_turned_85 : decode cX10_turned 85 = .ok (.iinc 6 1, 3) := by decide +kernel
theorem dX10_turned_88 : decode cX10_turned 88 = .ok (.goto (-49), 3) := by decide +kernel
theorem dX10_turned_91 : decode cX10_turned 91 = .ok (.iload 5, 2) := by decide +kernel
theorem dX10_turned_93 : decode cX10_turned 93 = .ok (.istore_n 3, 1) := by decide +kernel
theorem dX10_turned_94 : decode cX10_turned 94 = .ok (.iinc 4 1, 3) := by decide +kernel
theorem dX10_turned_97 : decode cX10_turned 97 = .ok (.goto (-70), 3) := by decide +kernel
theorem dX10_turned_100 : decode cX10_turned 100 = .ok (.iload_n 3, 1) := by decide +kernel
theorem dX10_turned_101 : decode cX10_turned 101 = .ok (.ireturn, 1) := by decide +kernel
set_option maxRecDepth 20000 in
theorem ggX10_sign_X10_isSign : GoodIn wsX10_sign wsX10_isSign := goodIn_r _ [4, 5, 6, 3, 7] (by decide +kernel) (by decide +kernel)
set_option maxRecDepth 20000 in
theorem gX10_sign_X10_isSign : GoodIn wsX10_sign (va_wsS RX10 114 yX10_isSign wsX10_isSign) := goodIn_app (goodIn_of _ (by decide +kernel)) ggX10_sign_X10_isSign
set_option maxRecDepth 20000 in
theorem ggX10_sign_X10_isForm : GoodIn wsX10_sign wsX10_isForm := goodIn_r _ [10, 5, 6, 3, 7] (by decide +kernel) (by decide +kernel)
set_option maxRecDepth 20000 in
theorem gX10_sign_X10_isForm : GoodIn wsX10_sign (va_wsS RX10 85 yX10_isForm wsX10_isForm) := goodIn_app (goodIn_of _ (by decide +kernel)) ggX10_sign_X10_isForm
set_option maxRecDepth 20000 in
theorem ggX10_sign_X10_puts : GoodIn wsX10_sign wsX10_puts := goodIn_r _ [14, 15, 22, 23, 24, 25, 26, 27, 28, 29, 30, 31, 32, 33, 34, 35, 36, 37, 38, 39] (by decide +kernel) (by decide +kernel)
set_option maxRecDepth 20000 in
theorem gX10_sign_X10_puts : GoodIn wsX10_sign (wsV RX10 117 RX10 yX10_puts wsX10_puts) := goodIn_app (goodIn_of _ (by decide +kernel)) ggX10_sign_X10_puts
set_option maxRecDepth 20000 in
theorem ggX10_sign_X10_no : GoodIn wsX10_sign wsX10_no := goodIn_r _ [19, 20, 21, 22, 23, 24, 25, 26, 27, 28, 29, 30, 31, 32, 33, 34, 35, 36, 37, 38, 39] (by decide +kernel) (by decide +kernel)
set_option maxRecDepth 20000 in
theorem gX10_sign_X10_no : GoodIn wsX10_sign (wsV RX10 89 RX10 yX10_no wsX10_no) := goodIn_app (goodIn_of _ (by decide +kernel)) ggX10_sign_X10_no
theorem dX10_sign_0 : decode cX10_sign 0 = .ok (.iload_n 1, 1) := by decide +kernel
theorem dX10_sign_1 : decode cX10_sign 1 = .ok (.invokestatic 114, 3) := by decide +kernel
theorem dX10_sign_4 : decode cX10_sign 4 = .ok (.ifCond .eq 21, 3) := by decide +kernel
theorem dX10_sign_7 : decode cX10_sign 7 = .ok (.iload_n 2, 1) := by decide +kernel
theorem dX10_sign_8 : decode cX10_sign 8 = .ok (.invokestatic 85, 3) := by decide +kernel
theorem dX10_sign_11 : decode cX10_sign 11 = .ok (.ifCond .eq 14, 3) := by decide +kernel
theorem dX10_sign_14 : decode cX10_sign 14 = .ok (.aload_n 0, 1) := by decide +kernel
theorem dX10_sign_15 : decode cX10_sign 15 = .ok (.iconst 3, 1) := by decide +kernel
theorem dX10_sign_16 : decode cX10_sign 16 = .ok (.iload_n 1, 1) := by decide +kernel
theorem dX10_sign_17 : decode cX10_sign 17 = .ok (.iadd, 1) := by decide +kernel
theorem dX10_sign_18 : decode cX10_sign 18 = .ok (.iload_n 2, 1) := by decide +kernel
theorem dX10_sign_19 : decode cX10_sign 19 = .ok (.invokevirtual 117, 3) := by decide +kernel
theorem dX10_sign_22 : decode cX10_sign 22 = .ok (.goto 8, 3) := by decide +kernel
theorem dX10_sign_25 : decode cX10_sign 25 = .ok (.aload_n 0, 1) := by decide +kernel
theorem dX10_sign_26 : decode cX10_sign 26 = .ok (.iconst 0, 1) := by decide +kernel
theorem dX10_sign_27 : decode cX10_sign 27 = .ok (.invokevirtual 89, 3) := by decide +kernel
theorem dX10_sign_30 : decode cX10_sign 30 = .ok (.ireturn, 1) := by decide +kernel
set_option maxRecDepth 20000 in
theorem ggX10_form_X10_isSign : GoodIn wsX10_form wsX10_isSign := goodIn_r _ [5, 6, 7, 4, 8] (by decide +kernel) (by decide +kernel)
set_option maxRecDepth 20000 in
theorem gX10_form_X10_isSign : GoodIn wsX10_form (va_wsS RX10 114 yX10_isSign wsX10_isSign) := goodIn_app (goodIn_of _ (by decide +kernel)) ggX10_form_X10_isSign
set_option maxRecDepth 20000 in
theorem ggX10_form_X10_no : GoodIn wsX10_form wsX10_no := goodIn_r _ [12, 13, 14, 15, 16, 17, 18, 19, 20, 21, 22, 23, 24, 25, 26, 27, 28, 29, 30, 31, 32] (by decide +kernel) (by decide +kernel)
set_option maxRecDepth 20000 in
theorem gX10_form_X10_no : GoodIn wsX10_form (wsV RX10 89 RX10 yX10_no wsX10_no) := goodIn_app (goodIn_of _ (by decide +kernel)) ggX10_form_X10_no
theorem dX10_form_0 : decode cX10_form 0 = .ok (.iload_n 1, 1) := by decide +kernel
theorem dX10_form_1 : decode cX10_form 1 = .ok (.invokestatic 114, 3) := by decide +kernel
theorem dX10_form_4 : decode cX10_form 4 = .ok (.ifCond .eq 14, 3) := by decide +kernel
theorem dX10_form_7 : decode cX10_form 7 = .ok (.aload_n 0, 1) := by decide +kernel
theorem dX10_form_8 : decode cX10_form 8 = .ok (.getfield 9, 3) := by decide +kernel
theorem dX10_form_11 : decode cX10_form 11 = .ok (.iconst 3, 1) := by decide +kernel
theorem dX10_form_12 : decode cX10_form 12 = .ok (.iload_n 1, 1) := by decide +kernel
theorem dX10_form_13 : decode cX10_form 13 = .ok (.iadd, 1) := by decide +kernel
theorem dX10_form_14 : decode cX10_form 14 = .ok (.iaload, 1) := by decide +kernel
theorem dX10_form_15 : decode cX10_form 15 = .ok (.goto 8, 3) := by decide +kernel
theorem dX10_form_18 : decode cX10_form 18 = .ok (.aload_n 0, 1) := by decide +kernel
theorem dX10_form_19 : decode cX10_form 19 = .ok (.iconst 0, 1) := by decide +kernel
theorem dX10_form_20 : decode cX10_form 20 = .ok (.invokevirtual 89, 3) := by decide +kernel
theorem dX10_form_23 : decode cX10_form 23 = .ok (.ireturn, 1) := by decide +kernel
set_option maxRecDepth 20000 in
theorem ggX10_apartFrom_X10_ones : GoodIn wsX10_apartFrom wsX10_ones := goodIn_r _ [5] (by decide +kernel) (by decide +kernel)
set_option maxRecDepth 20000 in
theorem gX10_apartFrom_X10_ones : GoodIn wsX10_apartFrom (va_wsS RX10 79 yX10_ones wsX10_ones) := goodIn_app (goodIn_of _ (by decide +kernel)) ggX10_apartFrom_X10_ones
theorem dX10_apartFrom_0 : decode cX10_apartFrom 0 = .ok (.iload_n 1, 1) := by decide +kernel
theorem dX10_apartFrom_1 : decode cX10_apartFrom 1 = .ok (.aload_n 0, 1) := by decide +kernel
theorem dX10_apartFrom_2 : decode cX10_apartFrom 2 = .ok (.getfield 9, 3) := by decide +kernel
theorem dX10_apartFrom_5 : decode cX10_apartFrom 5 = .ok (.iconst 3, 1) := by decide +kernel
theorem dX10_apartFrom_6 : decode cX10_apartFrom 6 = .ok (.iload_n 2, 1) := by decide +kernel
theorem dX10_apartFrom_7 : decode cX10_apartFrom 7 = .ok (.iadd, 1) := by decide +kernel
theorem dX10_apartFrom_8 : decode cX10_apartFrom 8 = .ok (.iaload, 1) := by decide +kernel
theorem dX10_apartFrom_9 : decode cX10_apartFrom 9 = .ok (.ixor, 1) := by decide +kernel
theorem dX10_apartFrom_10 : decode cX10_apartFrom 10 = .ok (.invokestatic 79, 3) := by decide +kernel
theorem dX10_apartFrom_13 : decode cX10_apartFrom 13 = .ok (.ireturn, 1) := by decide +kernel
set_option maxRecDepth 20000 in
theorem ggX10_readAs_X10_apartFrom : GoodIn wsX10_readAs wsX10_apartFrom := goodIn_r _ [6, 1, 7, 8, 5, 9, 10, 11, 12, 13, 14, 15, 16, 17, 18, 19, 20, 21, 22, 23, 24, 25, 26, 27] (by decide +kernel) (by decide +kernel)
set_option maxRecDepth 20000 in
theorem gX10_readAs_X10_apartFrom : GoodIn wsX10_readAs (wsV RX10 120 RX10 yX10_apartFrom wsX10_apartFrom) := goodIn_app (goodIn_of _ (by decide +kernel)) ggX10_readAs_X10_apartFrom
theorem dX10_readAs_0 : decode cX10_readAs 0 = .ok (.iconst (-1), 1) := by decide +kernel
theorem dX10_readAs_1 : decode cX10_readAs 1 = .ok (.istore_n 2, 1) := by decide +kernel
theorem dX10_readAs_2 : decode cX10_readAs 2 = .ok (.bipush 25, 2) := by decide +kernel
theorem dX10_readAs_4 : decode cX10_readAs 4 = .ok (.istore_n 3, 1) := by decide +kernel
theorem dX10_readAs_5 : decode cX10_readAs 5 = .ok (.iload_n 3, 1) := by decide +kernel
theorem dX10_readAs_6 : decode cX10_readAs 6 = .ok (.ifCond .lt 41, 3) := by decide +kernel
theorem dX10_readAs_9 : decode cX10_readAs 9 = .ok (.aload_n 0, 1) := by decide +kernel
theorem dX10_readAs_10 : decode cX10_readAs 10 = .ok (.getfield 9, 3) := by decide +kernel
theorem dX10_readAs_13 : decode cX10_readAs 13 = .ok (.iconst 3, 1) := by decide +kernel
theorem dX10_readAs_14 : decode cX10_readAs 14 = .ok (.iload_n 3, 1) := by decide +kernel
theorem dX10_readAs_15 : decode cX10_readAs 15 = .ok (.iadd, 1) := by decide +kernel
theorem dX10_readAs_16 : decode cX10_readAs 16 = .ok (.iaload, 1) := by decide +kernel
theorem dX10_readAs_17 : decode cX10_readAs 17 = .ok (.ifCond .eq 24, 3) := by decide +kernel
theorem dX10_readAs_20 : decode cX10_readAs 20 = .ok (.iload_n 2, 1) := by decide +kernel
theorem dX10_readAs_21 : decode cX10_readAs 21 = .ok (.ifCond .lt 18, 3) := by decide +kernel
theorem dX10_readAs_24 : decode cX10_readAs 24 = .ok (.aload_n 0, 1) := by decide +kernel
theorem dX10_readAs_25 : decode cX10_readAs 25 = .ok (.iload_n 1, 1) := by decide +kernel
theorem dX10_readAs_26 : decode cX10_readAs 26 = .ok (.iload_n 3, 1) := by decide +kernel
theorem dX10_readAs_27 : decode cX10_readAs 27 = .ok (.invokevirtual 120, 3) := by decide +kernel
theorem dX10_readAs_30 : decode cX10_readAs 30 = .ok (.aload_n 0, 1) := by decide +kernel
theorem dX10_readAs_31 : decode cX10_readAs 31 = .ok (.iload_n 1, 1) := by decide +kernel
theorem dX10_readAs_32 : decode cX10_readAs 32 = .ok (.iload_n 2, 1) := by decide +kernel
theorem dX10_readAs_33 : decode cX10_readAs 33 = .ok (.invokevirtual 120, 3) := by decide +kernel
theorem dX10_readAs_36 : decode cX10_readAs 36 = .ok (.if_icmp .gt 5, 3) := by decide +kernel
theorem dX10_readAs_39 : decode cX10_readAs 39 = .ok (.iload_n 3, 1) := by decide +kernel
theorem dX10_readAs_40 : decode cX10_readAs 40 = .ok (.istore_n 2, 1) := by decide +kernel
theorem dX10_readAs_41 : decode cX10_readAs 41 = .ok (.iinc 3 (-1), 3) := by decide +kernel
theorem dX10_readAs_44 : decode cX10_readAs 44 = .ok (.goto (-39), 3) := by decide +kernel
theorem dX10_readAs_47 : decode cX10_readAs 47 = .ok (.iload_n 2, 1) := by decide +kernel
theorem dX10_readAs_48 : decode cX10_readAs 48 = .ok (.ireturn, 1) := by decide +kernel
set_option maxRecDepth 20000 in
theorem ggX10_read_X10_isForm : GoodIn wsX10_read wsX10_isForm := goodIn_r _ [4, 5, 6, 3, 7] (by decide +kernel) (by decide +kernel)
set_option maxRecDepth 20000 in
theorem gX10_read_X10_isForm : GoodIn wsX10_read (va_wsS RX10 85 yX10_isForm wsX10_isForm) := goodIn_app (goodIn_of _ (by decide +kernel)) ggX10_read_X10_isForm
set_option maxRecDepth 20000 in
theorem ggX10_read_X10_no : GoodIn wsX10_read wsX10_no := goodIn_r _ [11, 12, 13, 26, 27, 28, 29, 30, 31, 32, 33, 34, 35, 36, 37, 38, 39, 40, 41, 42, 43] (by decide +kernel) (by decide +kernel)
set_option maxRecDepth 20000 in
theorem gX10_read_X10_no : GoodIn wsX10_read (wsV RX10 89 RX10 yX10_no wsX10_no) := goodIn_app (goodIn_of _ (by decide +kernel)) ggX10_read_X10_no
set_option maxRecDepth 20000 in
theorem ggX10_read_X10_readAs : GoodIn wsX10_read wsX10_readAs := goodIn_r _ [17, 18, 19, 20, 21, 3, 22, 23, 24, 25, 26, 27, 28, 29, 30, 31, 32, 33, 34, 35, 36, 37, 38, 39, 40, 41, 42, 43] (by decide +kernel) (by decide +kernel)
set_option maxRecDepth 20000 in
theorem gX10_read_X10_readAs : GoodIn wsX10_read (wsV RX10 123 RX10 yX10_readAs wsX10_readAs) := goodIn_app (goodIn_of _ (by decide +kernel)) ggX10_read_X10_readAs
theorem dX10_read_0 : decode cX10_read 0 = .ok (.iload_n 1, 1) := by decide +kernel
theorem dX10_read_1 : decode cX10_read 1 = .ok (.invokestatic 85, 3) := by decide +kernel
theorem dX10_read_4 : decode cX10_read 4 = .ok (.ifCond .ne 9, 3) := by decide +kernel
theorem dX10_read_7 : decode cX10_read 7 = .ok (.aload_n 0, 1) := by decide +kernel
theorem dX10_read_8 : decode cX10_read 8 = .ok (.iconst 0, 1) := by decide +kernel
theorem dX10_read_9 : decode cX10_read 9 = .ok (.invokevirtual 89, 3) := by decide +kernel
theorem dX10_read_12 : decode cX10_read 12 = .ok (.ireturn, 1) := by decide +kernel
theorem dX10_read_13 : decode cX10_read 13 = .ok (.aload_n 0, 1) := by decide +kernel
theorem dX10_read_14 : decode cX10_read 14 = .ok (.iload_n 1, 1) := by decide +kernel
theorem dX10_read_15 : decode cX10_read 15 = .ok (.invokevirtual 123, 3) := by decide +kernel
theorem dX10_read_18 : decode cX10_read 18 = .ok (.istore_n 2, 1) := by decide +kernel
theorem dX10_read_19 : decode cX10_read 19 = .ok (.iload_n 2, 1) := by decide +kernel
theorem dX10_read_20 : decode cX10_read 20 = .ok (.ifCond .ge 11, 3) := by decide +kernel
theorem dX10_read_23 : decode cX10_read 23 = .ok (.aload_n 0, 1) := by decide +kernel
theorem dX10_read_24 : decode cX10_read 24 = .ok (.iconst 3, 1) := by decide +kernel
theorem dX10_read_25 : decode cX10_read 25 = .ok (.invokevirtual 89, 3) := by decide +kernel
theorem dX10_read_28 : decode cX10_read 28 = .ok (.goto 4, 3) := by decide +kernel
theorem dX10_read_31 : decode cX10_read 31 = .ok (.iload_n 2, 1) := by decide +kernel
theorem dX10_read_32 : decode cX10_read 32 = .ok (.ireturn, 1) := by decide +kernel
set_option maxRecDepth 20000 in
theorem ggX10_doubts_X10_isForm : GoodIn wsX10_doubts wsX10_isForm := goodIn_r _ [5, 6, 7, 4, 8] (by decide +kernel) (by decide +kernel)
set_option maxRecDepth 20000 in
theorem gX10_doubts_X10_isForm : GoodIn wsX10_doubts (va_wsS RX10 85 yX10_isForm wsX10_isForm) := goodIn_app (goodIn_of _ (by decide +kernel)) ggX10_doubts_X10_isForm
set_option maxRecDepth 20000 in
theorem ggX10_doubts_X10_no : GoodIn wsX10_doubts wsX10_no := goodIn_r _ [12, 13, 14, 26, 27, 28, 29, 30, 31, 32, 33, 34, 35, 36, 37, 38, 39, 40, 41, 42, 43] (by decide +kernel) (by decide +kernel)
set_option maxRecDepth 20000 in
theorem gX10_doubts_X10_no : GoodIn wsX10_doubts (wsV RX10 89 RX10 yX10_no wsX10_no) := goodIn_app (goodIn_of _ (by decide +kernel)) ggX10_doubts_X10_no
set_option maxRecDepth 20000 in
theorem ggX10_doubts_X10_readAs : GoodIn wsX10_doubts wsX10_readAs := goodIn_r _ [18, 1, 19, 20, 21, 4, 22, 23, 24, 25, 26, 27, 28, 29, 30, 31, 32, 33, 34, 35, 36, 37, 38, 39, 40, 41, 42, 43] (by decide +kernel) (by decide +kernel)
set_option maxRecDepth 20000 in
theorem gX10_doubts_X10_readAs : GoodIn wsX10_doubts (wsV RX10 123 RX10 yX10_readAs wsX10_readAs) := goodIn_app (goodIn_of _ (by decide +kernel)) ggX10_doubts_X10_readAs
set_option maxRecDepth 20000 in
theorem ggX10_doubts_X10_apartFrom : GoodIn wsX10_doubts wsX10_apartFrom := goodIn_r _ [22, 1, 23, 24, 4, 25, 26, 27, 28, 29, 30, 31, 32, 33, 34, 35, 36, 37, 38, 39, 40, 41, 42, 43] (by decide +kernel) (by decide +kernel)
set_option maxRecDepth 20000 in
theorem gX10_doubts_X10_apartFrom : GoodIn wsX10_doubts (wsV RX10 120 RX10 yX10_apartFrom wsX10_apartFrom) := goodIn_app (goodIn_of _ (by decide +kernel)) ggX10_doubts_X10_apartFrom
theorem dX10_doubts_0 : decode cX10_doubts 0 = .ok (.iload_n 1, 1) := by decide +kernel
theorem dX10_doubts_1 : decode cX10_doubts 1 = .ok (.invokestatic 85, 3) := by decide +kernel
theorem dX10_doubts_4 : decode cX10_doubts 4 = .ok (.ifCond .ne 9, 3) := by decide +kernel
theorem dX10_doubts_7 : decode cX10_doubts 7 = .ok (.aload_n 0, 1) := by decide +kernel
theorem dX10_doubts_8 : decode cX10_doubts 8 = .ok (.iconst 0, 1) := by decide +kernel
theorem dX10_doubts_9 : decode cX10_doubts 9 = .ok (.invokevirtual 89, 3) := by decide +kernel
theorem dX10_doubts_12 : decode cX10_doubts 12 = .ok (.ireturn, 1) := by decide +kernel
theorem dX10_doubts_13 : decode cX10_doubts 13 = .ok (.aload_n 0, 1) := by decide +kernel
theorem dX10_doubts_14 : decode cX10_doubts 14 = .ok (.iload_n 1, 1) := by decide +kernel
theorem dX10_doubts_15 : decode cX10_doubts 15 = .ok (.invokevirtual 123, 3) := by decide +kernel
theorem dX10_doubts_18 : decode cX10_doubts 18 = .ok (.istore_n 2, 1) := by decide +kernel
theorem dX10_doubts_19 : decode cX10_doubts 19 = .ok (.iload_n 2, 1) := by decide +kernel
theorem dX10_doubts_20 : decode cX10_doubts 20 = .ok (.ifCond .ge 9, 3) := by decide +kernel
theorem dX10_doubts_23 : decode cX10_doubts 23 = .ok (.aload_n 0, 1) := by decide +kernel
theorem dX10_doubts_24 : decode cX10_doubts 24 = .ok (.iconst 3, 1) := by decide +kernel
theorem dX10_doubts_25 : decode cX10_doubts 25 = .ok (.invokevirtual 89, 3) := by decide +kernel
theorem dX10_doubts_28 : decode cX10_doubts 28 = .ok (.ireturn, 1) := by decide +kernel
theorem dX10_doubts_29 : decode cX10_doubts 29 = .ok (.iconst 0, 1) := by decide +kernel
theorem dX10_doubts_30 : decode cX10_doubts 30 = .ok (.istore_n 3, 1) := by decide +kernel
theorem dX10_doubts_31 : decode cX10_doubts 31 = .ok (.iconst 0, 1) := by decide +kernel
theorem dX10_doubts_32 : decode cX10_doubts 32 = .ok (.istore 4, 2) := by decide +kernel
theorem dX10_doubts_34 : decode cX10_doubts 34 = .ok (.iload 4, 2) := by decide +kernel
theorem dX10_doubts_36 : decode cX10_doubts 36 = .ok (.bipush 26, 2) := by decide +kernel
theorem dX10_doubts_38 : decode cX10_doubts 38 = .ok (.if_icmp .ge 45, 3) := by decide +kernel
theorem dX10_doubts_41 : decode cX10_doubts 41 = .ok (.iload_n 3, 1) := by decide +kernel
theorem dX10_doubts_42 : decode cX10_doubts 42 = .ok (.aload_n 0, 1) := by decide +kernel
theorem dX10_doubts_43 : decode cX10_doubts 43 = .ok (.getfield 9, 3) := by decide +kernel
theorem dX10_doubts_46 : decode cX10_doubts 46 = .ok (.iconst 3, 1) := by decide +kernel
theorem dX10_doubts_47 : decode cX10_doubts 47 = .ok (.iload 4, 2) := by decide +kernel
theorem dX10_doubts_49 : decode cX10_doubts 49 = .ok (.iadd, 1) := by decide +kernel
theorem dX10_doubts_50 : decode cX10_doubts 50 = .ok (.iaload, 1) := by decide +kernel
theorem dX10_doubts_51 : decode cX10_doubts 51 = .ok (.ifCond .eq 23, 3) := by decide +kernel
theorem dX10_doubts_54 : decode cX10_doubts 54 = .ok (.aload_n 0, 1) := by decide +kernel
theorem dX10_doubts_55 : decode cX10_doubts 55 = .ok (.iload_n 1, 1) := by decide +kernel
theorem dX10_doubts_56 : decode cX10_doubts 56 = .ok (.iload 4, 2) := by decide +kernel
theorem dX10_doubts_58 : decode cX10_doubts 58 = .ok (.invokevirtual 120, 3) := by decide +kernel
theorem dX10_doubts_61 : decode cX10_doubts 61 = .ok (.aload_n 0, 1) := by decide +kernel
theorem dX10_doubts_62 : decode cX10_doubts 62 = .ok (.iload_n 1, 1) := by decide +kernel
theorem dX10_doubts_63 : decode cX10_doubts 63 = .ok (.iload_n 2, 1) := by decide +kernel
theorem dX10_doubts_64 : decode cX10_doubts 64 = .ok (.invokevirtual 120, 3) := by decide +kernel
theorem dX10_doubts_67 : decode cX10_doubts 67 = .ok (.if_icmp .ne 7, 3) := by decide +kernel
theorem dX10_doubts_70 : decode cX10_doubts 70 = .ok (.iconst 1, 1) := by decide +kernel
theorem dX10_doubts_71 : decode cX10_doubts 71 = .ok (.goto 4, 3) := by decide +kernel
theorem dX10_doubts_74 : decode cX10_doubts 74 = .ok (.iconst 0, 1) := by decide +kernel
theorem dX10_doubts_75 : decode cX10_doubts 75 = .ok (.iadd, 1) := by decide +kernel
theorem dX10_doubts_76 : decode cX10_doubts 76 = .ok (.istore_n 3, 1) := by decide +kernel
theorem dX10_doubts_77 : decode cX10_doubts 77 = .ok (.iinc 4 1, 3) := by decide +kernel
theorem dX10_doubts_80 : decode cX10_doubts 80 = .ok (.goto (-46), 3) := by decide +kernel
theorem dX10_doubts_83 : decode cX10_doubts 83 = .ok (.iload_n 3, 1) := by decide +kernel
theorem dX10_doubts_84 : decode cX10_doubts 84 = .ok (.ireturn, 1) := by decide +kernel
set_option maxRecDepth 20000 in
theorem ggX10_apart_X10_apartFrom : GoodIn wsX10_apart wsX10_apartFrom := goodIn_r _ [6, 1, 7, 8, 5, 9, 16, 17, 18, 19, 20, 21, 22, 23, 24, 25, 26, 27, 28, 29, 30, 31, 32, 33] (by decide +kernel) (by decide +kernel)
set_option maxRecDepth 20000 in
theorem gX10_apart_X10_apartFrom : GoodIn wsX10_apart (wsV RX10 120 RX10 yX10_apartFrom wsX10_apartFrom) := goodIn_app (goodIn_of _ (by decide +kernel)) ggX10_apart_X10_apartFrom
set_option maxRecDepth 20000 in
theorem ggX10_apart_X10_no : GoodIn wsX10_apart wsX10_no := goodIn_r _ [13, 14, 15, 16, 17, 18, 19, 20, 21, 22, 23, 24, 25, 26, 27, 28, 29, 30, 31, 32, 33] (by decide +kernel) (by decide +kernel)
set_option maxRecDepth 20000 in
theorem gX10_apart_X10_no : GoodIn wsX10_apart (wsV RX10 89 RX10 yX10_no wsX10_no) := goodIn_app (goodIn_of _ (by decide +kernel)) ggX10_apart_X10_no
theorem dX10_apart_0 : decode cX10_apart 0 = .ok (.bipush 13, 2) := by decide +kernel
theorem dX10_apart_2 : decode cX10_apart 2 = .ok (.istore_n 1, 1) := by decide +kernel
theorem dX10_apart_3 : decode cX10_apart 3 = .ok (.iconst 0, 1) := by decide +kernel
theorem dX10_apart_4 : decode cX10_apart 4 = .ok (.istore_n 2, 1) := by decide +kernel
theorem dX10_apart_5 : decode cX10_apart 5 = .ok (.iload_n 2, 1) := by decide +kernel
theorem dX10_apart_6 : decode cX10_apart 6 = .ok (.bipush 26, 2) := by decide +kernel
theorem dX10_apart_8 : decode cX10_apart 8 = .ok (.if_icmp .ge 75, 3) := by decide +kernel
theorem dX10_apart_11 : decode cX10_apart 11 = .ok (.iconst 0, 1) := by decide +kernel
theorem dX10_apart_12 : decode cX10_apart 12 = .ok (.istore_n 3, 1) := by decide +kernel
theorem dX10_apart_13 : decode cX10_apart 13 = .ok (.iload_n 3, 1) := by decide +kernel
theorem dX10_apart_14 : decode cX10_apart 14 = .ok (.iload_n 2, 1) := by decide +kernel
theorem dX10_apart_15 : decode cX10_apart 15 = .ok (.if_icmp .ge 62, 3) := by decide +kernel
theorem dX10_apart_18 : decode cX10_apart 18 = .ok (.aload_n 0, 1) := by decide +kernel
theorem dX10_apart_19 : decode cX10_apart 19 = .ok (.getfield 9, 3) := by decide +kernel
theorem dX10_apart_22 : decode cX10_apart 22 = .ok (.iconst 3, 1) := by decide +kernel
theorem dX10_apart_23 : decode cX10_apart 23 = .ok (.iload_n 2, 1) := by decide +kernel
theorem dX10_apart_24 : decode cX10_apart 24 = .ok (.iadd, 1) := by decide +kernel
theorem dX10_apart_25 : decode cX10_apart 25 = .ok (.iaload, 1) := by decide +kernel
theorem dX10_apart_26 : decode cX10_apart 26 = .ok (.ifCond .eq 45, 3) := by decide +kernel
theorem dX10_apart_29 : decode cX10_apart 29 = .ok (.aload_n 0, 1) := by decide +kernel
theorem dX10_apart_30 : decode cX10_apart 30 = .ok (.getfield 9, 3) := by decide +kernel
theorem dX10_apart_33 : decode cX10_apart 33 = .ok (.iconst 3, 1) := by decide +kernel
theorem dX10_apart_34 : decode cX10_apart 34 = .ok (.iload_n 3, 1) := by decide +kernel
theorem dX10_apart_35 : decode cX10_apart 35 = .ok (.iadd, 1) := by decide +kernel
theorem dX10_apart_36 : decode cX10_apart 36 = .ok (.iaload, 1) := by decide +kernel
theorem dX10_apart_37 : decode cX10_apart 37 = .ok (.ifCond .eq 34, 3) := by decide +kernel
theorem dX10_apart_40 : decode cX10_apart 40 = .ok (.aload_n 0, 1) := by decide +kernel
theorem dX10_apart_41 : decode cX10_apart 41 = .ok (.aload_n 0, 1) := by decide +kernel
theorem dX10_apart_42 : decode cX10_apart 42 = .ok (.getfield 9, 3) := by decide +kernel
theorem dX10_apart_45 : decode cX10_apart 45 = .ok (.iconst 3, 1) := by decide +kernel
theorem dX10_apart_46 : decode cX10_apart 46 = .ok (.iload_n 2, 1) := by decide +kernel
theorem dX10_apart_47 : decode cX10_apart 47 = .ok (.iadd, 1) := by decide +kernel
theorem dX10_apart_48 : decode cX10_apart 48 = .ok (.iaload, 1) := by decide +kernel
theorem dX10_apart_49 : decode cX10_apart 49 = .ok (.iload_n 3, 1) := by decide +kernel
theorem dX10_apart_50 : decode cX10_apart 50 = .ok (.invokevirtual 120, 3) := by decide +kernel
theorem dX10_apart_53 : decode cX10_apart 53 = .ok (.iload_n 1, 1) := by decide +kernel
theorem dX10_apart_54 : decode cX10_apart 54 = .ok (.if_icmp .ge 17, 3) := by decide +kernel
theorem dX10_apart_57 : decode cX10_apart 57 = .ok (.aload_n 0, 1) := by decide +kernel
theorem dX10_apart_58 : decode cX10_apart 58 = .ok (.aload_n 0, 1) := by decide +kernel
theorem dX10_apart_59 : decode cX10_apart 59 = .ok (.getfield 9, 3) := by decide +kernel
theorem dX10_apart_62 : decode cX10_apart 62 = .ok (.iconst 3, 1) := by decide +kernel
theorem dX10_apart_63 : decode cX10_apart 63 = .ok (.iload_n 2, 1) := by decide +kernel
theorem dX10_apart_64 : decode cX10_apart 64 = .ok (.iadd, 1) := by decide +kernel
theorem dX10_apart_65 : decode cX10_apart 65 = .ok (.iaload, 1) := by decide +kernel
theorem dX10_apart_66 : decode cX10_apart 66 = .ok (.iload_n 3, 1) := by decide +kernel
theorem dX10_apart_67 : decode cX10_apart 67 = .ok (.invokevirtual 120, 3) := by decide +kernel
theorem dX10_apart_70 : decode cX10_apart 70 = .ok (.istore_n 1, 1) := by decide +kernel
theorem dX10_apart_71 : decode cX10_apart 71 = .ok (.iinc 3 1, 3) := by decide +kernel
theorem dX10_apart_74 : decode cX10_apart 74 = .ok (.goto (-61), 3) := by decide +kernel
theorem dX10_apart_77 : decode cX10_apart 77 = .ok (.iinc 2 1, 3) := by decide +kernel
theorem dX10_apart_80 : decode cX10_apart 80 = .ok (.goto (-75), 3) := by decide +kernel
theorem dX10_apart_83 : decode cX10_apart 83 = .ok (.iload_n 1, 1) := by decide +kernel
theorem dX10_apart_84 : decode cX10_apart 84 = .ok (.bipush 12, 2) := by decide +kernel
theorem dX10_apart_86 : decode cX10_apart 86 = .ok (.if_icmp .le 11, 3) := by decide +kernel
theorem dX10_apart_89 : decode cX10_apart 89 = .ok (.aload_n 0, 1) := by decide +kernel
theorem dX10_apart_90 : decode cX10_apart 90 = .ok (.iconst 3, 1) := by decide +kernel
theorem dX10_apart_91 : decode cX10_apart 91 = .ok (.invokevirtual 89, 3) := by decide +kernel
theorem dX10_apart_94 : decode cX10_apart 94 = .ok (.goto 4, 3) := by decide +kernel
theorem dX10_apart_97 : decode cX10_apart 97 = .ok (.iload_n 1, 1) := by decide +kernel
theorem dX10_apart_98 : decode cX10_apart 98 = .ok (.ireturn, 1) := by decide +kernel
set_option maxRecDepth 20000 in
theorem ggX10_stay_X10_readAs : GoodIn wsX10_stay wsX10_readAs := goodIn_r _ [6, 1, 7, 8, 9, 5, 10, 11, 12, 13, 14, 15, 16, 17, 18, 19, 20, 21, 22, 23, 24, 25, 26, 27, 28, 29, 30, 31] (by decide +kernel) (by decide +kernel)
set_option maxRecDepth 20000 in
theorem gX10_stay_X10_readAs : GoodIn wsX10_stay (wsV RX10 123 RX10 yX10_readAs wsX10_readAs) := goodIn_app (goodIn_of _ (by decide +kernel)) ggX10_stay_X10_readAs
theorem dX10_stay_0 : decode cX10_stay 0 = .ok (.iconst 0, 1) := by decide +kernel
theorem dX10_stay_1 : decode cX10_stay 1 = .ok (.istore_n 1, 1) := by decide +kernel
theorem dX10_stay_2 : decode cX10_stay 2 = .ok (.iconst 0, 1) := by decide +kernel
theorem dX10_stay_3 : decode cX10_stay 3 = .ok (.istore_n 2, 1) := by decide +kernel
theorem dX10_stay_4 : decode cX10_stay 4 = .ok (.iload_n 2, 1) := by decide +kernel
theorem dX10_stay_5 : decode cX10_stay 5 = .ok (.bipush 26, 2) := by decide +kernel
theorem dX10_stay_7 : decode cX10_stay 7 = .ok (.if_icmp .ge 55, 3) := by decide +kernel
theorem dX10_stay_10 : decode cX10_stay 10 = .ok (.iload_n 1, 1) := by decide +kernel
theorem dX10_stay_11 : decode cX10_stay 11 = .ok (.aload_n 0, 1) := by decide +kernel
theorem dX10_stay_12 : decode cX10_stay 12 = .ok (.getfield 9, 3) := by decide +kernel
theorem dX10_stay_15 : decode cX10_stay 15 = .ok (.iconst 3, 1) := by decide +kernel
theorem dX10_stay_16 : decode cX10_stay 16 = .ok (.iload_n 2, 1) := by decide +kernel
theorem dX10_stay_17 : decode cX10_stay 17 = .ok (.iadd, 1) := by decide +kernel
theorem dX10_stay_18 : decode cX10_stay 18 = .ok (.iaload, 1) := by decide +kernel
theorem dX10_stay_19 : decode cX10_stay 19 = .ok (.ifCond .eq 34, 3) := by decide +kernel
theorem dX10_stay_22 : decode cX10_stay 22 = .ok (.aload_n 0, 1) := by decide +kernel
theorem dX10_stay_23 : decode cX10_stay 23 = .ok (.aload_n 0, 1) := by decide +kernel
theorem dX10_stay_24 : decode cX10_stay 24 = .ok (.getfield 9, 3) := by decide +kernel
theorem dX10_stay_27 : decode cX10_stay 27 = .ok (.iconst 3, 1) := by decide +kernel
theorem dX10_stay_28 : decode cX10_stay 28 = .ok (.iload_n 2, 1) := by decide +kernel
theorem dX10_stay_29 : decode cX10_stay 29 = .ok (.iadd, 1) := by decide +kernel
theorem dX10_stay_30 : decode cX10_stay 30 = .ok (.iaload, 1) := by decide +kernel
theorem dX10_stay_31 : decode cX10_stay 31 = .ok (.aload_n 0, 1) := by decide +kernel
theorem dX10_stay_32 : decode cX10_stay 32 = .ok (.getfield 9, 3) := by decide +kernel
theorem dX10_stay_35 : decode cX10_stay 35 = .ok (.iconst 1, 1) := by decide +kernel
theorem dX10_stay_36 : decode cX10_stay 36 = .ok (.iaload, 1) := by decide +kernel
theorem dX10_stay_37 : decode cX10_stay 37 = .ok (.iconst (-1), 1) := by decide +kernel
theorem dX10_stay_38 : decode cX10_stay 38 = .ok (.ixor, 1) := by decide +kernel
theorem dX10_stay_39 : decode cX10_stay 39 = .ok (.iand, 1) := by decide +kernel
theorem dX10_stay_40 : decode cX10_stay 40 = .ok (.invokevirtual 123, 3) := by decide +kernel
theorem dX10_stay_43 : decode cX10_stay 43 = .ok (.iload_n 2, 1) := by decide +kernel
theorem dX10_stay_44 : decode cX10_stay 44 = .ok (.if_icmp .ne 9, 3) := by decide +kernel
theorem dX10_stay_47 : decode cX10_stay 47 = .ok (.iconst 1, 1) := by decide +kernel
theorem dX10_stay_48 : decode cX10_stay 48 = .ok (.iload_n 2, 1) := by decide +kernel
theorem dX10_stay_49 : decode cX10_stay 49 = .ok (.ishl, 1) := by decide +kernel
theorem dX10_stay_50 : decode cX10_stay 50 = .ok (.goto 4, 3) := by decide +kernel
theorem dX10_stay_53 : decode cX10_stay 53 = .ok (.iconst 0, 1) := by decide +kernel
theorem dX10_stay_54 : decode cX10_stay 54 = .ok (.ior, 1) := by decide +kernel
theorem dX10_stay_55 : decode cX10_stay 55 = .ok (.istore_n 1, 1) := by decide +kernel
theorem dX10_stay_56 : decode cX10_stay 56 = .ok (.iinc 2 1, 3) := by decide +kernel
theorem dX10_stay_59 : decode cX10_stay 59 = .ok (.goto (-55), 3) := by decide +kernel
theorem dX10_stay_62 : decode cX10_stay 62 = .ok (.iload_n 1, 1) := by decide +kernel
theorem dX10_stay_63 : decode cX10_stay 63 = .ok (.ireturn, 1) := by decide +kernel
set_option maxRecDepth 20000 in
theorem ggX10_forge_X10_isSign : GoodIn wsX10_forge wsX10_isSign := goodIn_r _ [5, 6, 7, 4, 8] (by decide +kernel) (by decide +kernel)
set_option maxRecDepth 20000 in
theorem gX10_forge_X10_isSign : GoodIn wsX10_forge (va_wsS RX10 114 yX10_isSign wsX10_isSign) := goodIn_app (goodIn_of _ (by decide +kernel)) ggX10_forge_X10_isSign
set_option maxRecDepth 20000 in
theorem ggX10_forge_X10_no : GoodIn wsX10_forge wsX10_no := goodIn_r _ [12, 13, 14, 26, 27, 28, 29, 30, 31, 32, 33, 34, 35, 36, 37, 38, 39, 40, 41, 42, 43] (by decide +kernel) (by decide +kernel)
set_option maxRecDepth 20000 in
theorem gX10_forge_X10_no : GoodIn wsX10_forge (wsV RX10 89 RX10 yX10_no wsX10_no) := goodIn_app (goodIn_of _ (by decide +kernel)) ggX10_forge_X10_no
set_option maxRecDepth 20000 in
theorem ggX10_forge_X10_apartFrom : GoodIn wsX10_forge wsX10_apartFrom := goodIn_r _ [18, 1, 19, 20, 4, 21, 26, 27, 28, 29, 30, 31, 32, 33, 34, 35, 36, 37, 38, 39, 40, 41, 42, 43] (by decide +kernel) (by decide +kernel)
set_option maxRecDepth 20000 in
theorem gX10_forge_X10_apartFrom : GoodIn wsX10_forge (wsV RX10 120 RX10 yX10_apartFrom wsX10_apartFrom) := goodIn_app (goodIn_of _ (by decide +kernel)) ggX10_forge_X10_apartFrom
set_option maxRecDepth 20000 in
theorem ggX10_forge_X10_readAs : GoodIn wsX10_forge wsX10_readAs := goodIn_r _ [25, 1, 15, 16, 17, 4, 18, 19, 20, 21, 26, 27, 28, 29, 30, 31, 32, 33, 34, 35, 36, 37, 38, 39, 40, 41, 42, 43] (by decide +kernel) (by decide +kernel)
set_option maxRecDepth 20000 in
theorem gX10_forge_X10_readAs : GoodIn wsX10_forge (wsV RX10 123 RX10 yX10_readAs wsX10_readAs) := goodIn_app (goodIn_of _ (by decide +kernel)) ggX10_forge_X10_readAs
theorem dX10_forge_0 : decode cX10_forge 0 = .ok (.iload_n 1, 1) := by decide +kernel
theorem dX10_forge_1 : decode cX10_forge 1 = .ok (.invokestatic 114, 3) := by decide +kernel
theorem dX10_forge_4 : decode cX10_forge 4 = .ok (.ifCond .eq 15, 3) := by decide +kernel
theorem dX10_forge_7 : decode cX10_forge 7 = .ok (.iload_n 2, 1) := by decide +kernel
theorem dX10_forge_8 : decode cX10_forge 8 = .ok (.invokestatic 114, 3) := by decide +kernel
theorem dX10_forge_11 : decode cX10_forge 11 = .ok (.ifCond .eq 8, 3) := by decide +kernel
theorem dX10_forge_14 : decode cX10_forge 14 = .ok (.iload_n 1, 1) := by decide +kernel
theorem dX10_forge_15 : decode cX10_forge 15 = .ok (.iload_n 2, 1) := by decide +kernel
theorem dX10_forge_16 : decode cX10_forge 16 = .ok (.if_icmp .ne 9, 3) := by decide +kernel
theorem dX10_forge_19 : decode cX10_forge 19 = .ok (.aload_n 0, 1) := by decide +kernel
theorem dX10_forge_20 : decode cX10_forge 20 = .ok (.iconst 0, 1) := by decide +kernel
theorem dX10_forge_21 : decode cX10_forge 21 = .ok (.invokevirtual 89, 3) := by decide +kernel
theorem dX10_forge_24 : decode cX10_forge 24 = .ok (.ireturn, 1) := by decide +kernel
theorem dX10_forge_25 : decode cX10_forge 25 = .ok (.aload_n 0, 1) := by decide +kernel
theorem dX10_forge_26 : decode cX10_forge 26 = .ok (.getfield 9, 3) := by decide +kernel
theorem dX10_forge_29 : decode cX10_forge 29 = .ok (.iconst 3, 1) := by decide +kernel
theorem dX10_forge_30 : decode cX10_forge 30 = .ok (.iload_n 1, 1) := by decide +kernel
theorem dX10_forge_31 : decode cX10_forge 31 = .ok (.iadd, 1) := by decide +kernel
theorem dX10_forge_32 : decode cX10_forge 32 = .ok (.iaload, 1) := by decide +kernel
theorem dX10_forge_33 : decode cX10_forge 33 = .ok (.ifCond .eq 14, 3) := by decide +kernel
theorem dX10_forge_36 : decode cX10_forge 36 = .ok (.aload_n 0, 1) := by decide +kernel
theorem dX10_forge_37 : decode cX10_forge 37 = .ok (.getfield 9, 3) := by decide +kernel
theorem dX10_forge_40 : decode cX10_forge 40 = .ok (.iconst 3, 1) := by decide +kernel
theorem dX10_forge_41 : decode cX10_forge 41 = .ok (.iload_n 2, 1) := by decide +kernel
theorem dX10_forge_42 : decode cX10_forge 42 = .ok (.iadd, 1) := by decide +kernel
theorem dX10_forge_43 : decode cX10_forge 43 = .ok (.iaload, 1) := by decide +kernel
theorem dX10_forge_44 : decode cX10_forge 44 = .ok (.ifCond .ne 9, 3) := by decide +kernel
theorem dX10_forge_47 : decode cX10_forge 47 = .ok (.aload_n 0, 1) := by decide +kernel
theorem dX10_forge_48 : decode cX10_forge 48 = .ok (.iconst 4, 1) := by decide +kernel
theorem dX10_forge_49 : decode cX10_forge 49 = .ok (.invokevirtual 89, 3) := by decide +kernel
theorem dX10_forge_52 : decode cX10_forge 52 = .ok (.ireturn, 1) := by decide +kernel
theorem dX10_forge_53 : decode cX10_forge 53 = .ok (.bipush 13, 2) := by decide +kernel
theorem dX10_forge_55 : decode cX10_forge 55 = .ok (.istore_n 3, 1) := by decide +kernel
theorem dX10_forge_56 : decode cX10_forge 56 = .ok (.iconst 0, 1) := by decide +kernel
theorem dX10_forge_57 : decode cX10_forge 57 = .ok (.istore 4, 2) := by decide +kernel
theorem dX10_forge_59 : decode cX10_forge 59 = .ok (.iload 4, 2) := by decide +kernel
theorem dX10_forge_61 : decode cX10_forge 61 = .ok (.sipush 4096, 3) := by decide +kernel
theorem dX10_forge_64 : decode cX10_forge 64 = .ok (.if_icmp .ge 38, 3) := by decide +kernel
theorem dX10_forge_67 : decode cX10_forge 67 = .ok (.aload_n 0, 1) := by decide +kernel
theorem dX10_forge_68 : decode cX10_forge 68 = .ok (.iload 4, 2) := by decide +kernel
theorem dX10_forge_70 : decode cX10_forge 70 = .ok (.iload_n 1, 1) := by decide +kernel
theorem dX10_forge_71 : decode cX10_forge 71 = .ok (.invokevirtual 120, 3) := by decide +kernel
theorem dX10_forge_74 : decode cX10_forge 74 = .ok (.iload_n 3, 1) := by decide +kernel
theorem dX10_forge_75 : decode cX10_forge 75 = .ok (.if_icmp .ge 21, 3) := by decide +kernel
theorem dX10_forge_78 : decode cX10_forge 78 = .ok (.aload_n 0, 1) := by decide +kernel
theorem dX10_forge_79 : decode cX10_forge 79 = .ok (.iload 4, 2) := by decide +kernel
theorem dX10_forge_81 : decode cX10_forge 81 = .ok (.invokevirtual 123, 3) := by decide +kernel
theorem dX10_forge_84 : decode cX10_forge 84 = .ok (.iload_n 2, 1) := by decide +kernel
theorem dX10_forge_85 : decode cX10_forge 85 = .ok (.if_icmp .ne 11, 3) := by decide +kernel
theorem dX10_forge_88 : decode cX10_forge 88 = .ok (.aload_n 0, 1) := by decide +kernel
theorem dX10_forge_89 : decode cX10_forge 89 = .ok (.iload 4, 2) := by decide +kernel
theorem dX10_forge_91 : decode cX10_forge 91 = .ok (.iload_n 1, 1) := by decide +kernel
theorem dX10_forge_92 : decode cX10_forge 92 = .ok (.invokevirtual 120, 3) := by decide +kernel
theorem dX10_forge_95 : decode cX10_forge 95 = .ok (.istore_n 3, 1) := by decide +kernel
theorem dX10_forge_96 : decode cX10_forge 96 = .ok (.iinc 4 1, 3) := by decide +kernel
theorem dX10_forge_99 : decode cX10_forge 99 = .ok (.goto (-40), 3) := by decide +kernel
theorem dX10_forge_102 : decode cX10_forge 102 = .ok (.iload_n 3, 1) := by decide +kernel
theorem dX10_forge_103 : decode cX10_forge 103 = .ok (.bipush 12, 2) := by decide +kernel
theorem dX10_forge_105 : decode cX10_forge 105 = .ok (.if_icmp .le 11, 3) := by decide +kernel
theorem dX10_forge_108 : decode cX10_forge 108 = .ok (.aload_n 0, 1) := by decide +kernel
theorem dX10_forge_109 : decode cX10_forge 109 = .ok (.iconst 3, 1) := by decide +kernel
theorem dX10_forge_110 : decode cX10_forge 110 = .ok (.invokevirtual 89, 3) := by decide +kernel
theorem dX10_forge_113 : decode cX10_forge 113 = .ok (.goto 4, 3) := by decide +kernel
theorem dX10_forge_116 : decode cX10_forge 116 = .ok (.iload_n 3, 1) := by decide +kernel
theorem dX10_forge_117 : decode cX10_forge 117 = .ok (.ireturn, 1) := by decide +kernel
set_option maxRecDepth 20000 in
theorem ggX10_adds_X10_at : GoodIn wsX10_adds wsX10_at := goodIn_r _ [6] (by decide +kernel) (by decide +kernel)
set_option maxRecDepth 20000 in
theorem gX10_adds_X10_at : GoodIn wsX10_adds (wsV RX10 126 RX10 yX10_at wsX10_at) := goodIn_app (goodIn_of _ (by decide +kernel)) ggX10_adds_X10_at
theorem dX10_adds_0 : decode cX10_adds 0 = .ok (.aload_n 0, 1) := by decide +kernel
theorem dX10_adds_1 : decode cX10_adds 1 = .ok (.getfield 9, 3) := by decide +kernel
theorem dX10_adds_4 : decode cX10_adds 4 = .ok (.iconst 2, 1) := by decide +kernel
theorem dX10_adds_5 : decode cX10_adds 5 = .ok (.iaload, 1) := by decide +kernel
theorem dX10_adds_6 : decode cX10_adds 6 = .ok (.istore 4, 2) := by decide +kernel
theorem dX10_adds_8 : decode cX10_adds 8 = .ok (.aload_n 0, 1) := by decide +kernel
theorem dX10_adds_9 : decode cX10_adds 9 = .ok (.getfield 9, 3) := by decide +kernel
theorem dX10_adds_12 : decode cX10_adds 12 = .ok (.aload_n 0, 1) := by decide +kernel
theorem dX10_adds_13 : decode cX10_adds 13 = .ok (.iload 4, 2) := by decide +kernel
theorem dX10_adds_15 : decode cX10_adds 15 = .ok (.iconst 0, 1) := by decide +kernel
theorem dX10_adds_16 : decode cX10_adds 16 = .ok (.invokevirtual 126, 3) := by decide +kernel
theorem dX10_adds_19 : decode cX10_adds 19 = .ok (.iload_n 1, 1) := by decide +kernel
theorem dX10_adds_20 : decode cX10_adds 20 = .ok (.iastore, 1) := by decide +kernel
theorem dX10_adds_21 : decode cX10_adds 21 = .ok (.aload_n 0, 1) := by decide +kernel
theorem dX10_adds_22 : decode cX10_adds 22 = .ok (.getfield 9, 3) := by decide +kernel
theorem dX10_adds_25 : decode cX10_adds 25 = .ok (.aload_n 0, 1) := by decide +kernel
theorem dX10_adds_26 : decode cX10_adds 26 = .ok (.iload 4, 2) := by decide +kernel
theorem dX10_adds_28 : decode cX10_adds 28 = .ok (.iconst 1, 1) := by decide +kernel
theorem dX10_adds_29 : decode cX10_adds 29 = .ok (.invokevirtual 126, 3) := by decide +kernel
theorem dX10_adds_32 : decode cX10_adds 32 = .ok (.iload_n 2, 1) := by decide +kernel
theorem dX10_adds_33 : decode cX10_adds 33 = .ok (.iastore, 1) := by decide +kernel
theorem dX10_adds_34 : decode cX10_adds 34 = .ok (.aload_n 0, 1) := by decide +kernel
theorem dX10_adds_35 : decode cX10_adds 35 = .ok (.getfield 9, 3) := by decide +kernel
theorem dX10_adds_38 : decode cX10_adds 38 = .ok (.aload_n 0, 1) := by decide +kernel
theorem dX10_adds_39 : decode cX10_adds 39 = .ok (.iload 4, 2) := by decide +kernel
theorem dX10_adds_41 : decode cX10_adds 41 = .ok (.iconst 2, 1) := by decide +kernel
theorem dX10_adds_42 : decode cX10_adds 42 = .ok (.invokevirtual 126, 3) := by decide +kernel
theorem dX10_adds_45 : decode cX10_adds 45 = .ok (.iload_n 3, 1) := by decide +kernel
theorem dX10_adds_46 : decode cX10_adds 46 = .ok (.iastore, 1) := by decide +kernel
theorem dX10_adds_47 : decode cX10_adds 47 = .ok (.aload_n 0, 1) := by decide +kernel
theorem dX10_adds_48 : decode cX10_adds 48 = .ok (.getfield 9, 3) := by decide +kernel
theorem dX10_adds_51 : decode cX10_adds 51 = .ok (.iconst 2, 1) := by decide +kernel
theorem dX10_adds_52 : decode cX10_adds 52 = .ok (.dup2, 1) := by decide +kernel
theorem dX10_adds_53 : decode cX10_adds 53 = .ok (.iaload, 1) := by decide +kernel
theorem dX10_adds_54 : decode cX10_adds 54 = .ok (.iconst 1, 1) := by decide +kernel
theorem dX10_adds_55 : decode cX10_adds 55 = .ok (.iadd, 1) := by decide +kernel
theorem dX10_adds_56 : decode cX10_adds 56 = .ok (.iastore, 1) := by decide +kernel
theorem dX10_adds_57 : decode cX10_adds 57 = .ok (.return_, 1) := by decide +kernel
set_option maxRecDepth 20000 in
theorem ggX10_letter_X10_isKind : GoodIn wsX10_letter wsX10_isKind := goodIn_r _ [5, 6, 7, 4, 8] (by decide +kernel) (by decide +kernel)
set_option maxRecDepth 20000 in
theorem gX10_letter_X10_isKind : GoodIn wsX10_letter (va_wsS RX10 129 yX10_isKind wsX10_isKind) := goodIn_app (goodIn_of _ (by decide +kernel)) ggX10_letter_X10_isKind
set_option maxRecDepth 20000 in
theorem ggX10_letter_X10_isForm : GoodIn wsX10_letter wsX10_isForm := goodIn_r _ [11, 6, 7, 4, 8] (by decide +kernel) (by decide +kernel)
set_option maxRecDepth 20000 in
theorem gX10_letter_X10_isForm : GoodIn wsX10_letter (va_wsS RX10 85 yX10_isForm wsX10_isForm) := goodIn_app (goodIn_of _ (by decide +kernel)) ggX10_letter_X10_isForm
set_option maxRecDepth 20000 in
theorem ggX10_letter_X10_no : GoodIn wsX10_letter wsX10_no := goodIn_r _ [15, 16, 17, 26, 27, 28, 29, 30, 31, 32, 33, 34, 35, 36, 37, 38, 39, 40, 41, 42, 43] (by decide +kernel) (by decide +kernel)
set_option maxRecDepth 20000 in
theorem gX10_letter_X10_no : GoodIn wsX10_letter (wsV RX10 89 RX10 yX10_no wsX10_no) := goodIn_app (goodIn_of _ (by decide +kernel)) ggX10_letter_X10_no
set_option maxRecDepth 20000 in
theorem ggX10_letter_X10_adds : GoodIn wsX10_letter wsX10_adds := goodIn_r _ [21, 1, 22, 23, 24, 4, 25, 26, 27, 28, 29, 30, 31, 32, 33, 34, 35, 36, 37, 38, 39, 40, 41, 42, 43] (by decide +kernel) (by decide +kernel)
set_option maxRecDepth 20000 in
theorem gX10_letter_X10_adds : GoodIn wsX10_letter (wsV RX10 132 RX10 yX10_adds wsX10_adds) := goodIn_app (goodIn_of _ (by decide +kernel)) ggX10_letter_X10_adds
theorem dX10_letter_0 : decode cX10_letter 0 = .ok (.iload_n 1, 1) := by decide +kernel
theorem dX10_letter_1 : decode cX10_letter 1 = .ok (.invokestatic 129, 3) := by decide +kernel
theorem dX10_letter_4 : decode cX10_letter 4 = .ok (.ifCond .eq 10, 3) := by decide +kernel
theorem dX10_letter_7 : decode cX10_letter 7 = .ok (.iload_n 2, 1) := by decide +kernel
theorem dX10_letter_8 : decode cX10_letter 8 = .ok (.invokestatic 85, 3) := by decide +kernel
theorem dX10_letter_11 : decode cX10_letter 11 = .ok (.ifCond .ne 9, 3) := by decide +kernel
theorem dX10_letter_14 : decode cX10_letter 14 = .ok (.aload_n 0, 1) := by decide +kernel
theorem dX10_letter_15 : decode cX10_letter 15 = .ok (.iconst 0, 1) := by decide +kernel
theorem dX10_letter_16 : decode cX10_letter 16 = .ok (.invokevirtual 89, 3) := by decide +kernel
theorem dX10_letter_19 : decode cX10_letter 19 = .ok (.ireturn, 1) := by decide +kernel
theorem dX10_letter_20 : decode cX10_letter 20 = .ok (.aload_n 0, 1) := by decide +kernel
theorem dX10_letter_21 : decode cX10_letter 21 = .ok (.getfield 9, 3) := by decide +kernel
theorem dX10_letter_24 : decode cX10_letter 24 = .ok (.iconst 2, 1) := by decide +kernel
theorem dX10_letter_25 : decode cX10_letter 25 = .ok (.iaload, 1) := by decide +kernel
theorem dX10_letter_26 : decode cX10_letter 26 = .ok (.bipush 12, 2) := by decide +kernel
theorem dX10_letter_28 : decode cX10_letter 28 = .ok (.if_icmp .ne 9, 3) := by decide +kernel
theorem dX10_letter_31 : decode cX10_letter 31 = .ok (.aload_n 0, 1) := by decide +kernel
theorem dX10_letter_32 : decode cX10_letter 32 = .ok (.iconst 1, 1) := by decide +kernel
theorem dX10_letter_33 : decode cX10_letter 33 = .ok (.invokevirtual 89, 3) := by decide +kernel
theorem dX10_letter_36 : decode cX10_letter 36 = .ok (.ireturn, 1) := by decide +kernel
theorem dX10_letter_37 : decode cX10_letter 37 = .ok (.aload_n 0, 1) := by decide +kernel
theorem dX10_letter_38 : decode cX10_letter 38 = .ok (.iload_n 1, 1) := by decide +kernel
theorem dX10_letter_39 : decode cX10_letter 39 = .ok (.iload_n 2, 1) := by decide +kernel
theorem dX10_letter_40 : decode cX10_letter 40 = .ok (.bipush 6, 2) := by decide +kernel
theorem dX10_letter_42 : decode cX10_letter 42 = .ok (.invokevirtual 132, 3) := by decide +kernel
theorem dX10_letter_45 : decode cX10_letter 45 = .ok (.aload_n 0, 1) := by decide +kernel
theorem dX10_letter_46 : decode cX10_letter 46 = .ok (.getfield 9, 3) := by decide +kernel
theorem dX10_letter_49 : decode cX10_letter 49 = .ok (.iconst 2, 1) := by decide +kernel
theorem dX10_letter_50 : decode cX10_letter 50 = .ok (.iaload, 1) := by decide +kernel
theorem dX10_letter_51 : decode cX10_letter 51 = .ok (.iconst 1, 1) := by decide +kernel
theorem dX10_letter_52 : decode cX10_letter 52 = .ok (.isub, 1) := by decide +kernel
theorem dX10_letter_53 : decode cX10_letter 53 = .ok (.ireturn, 1) := by decide +kernel
theorem dX10_lastsBy_0 : decode cX10_lastsBy 0 = .ok (.iload_n 0, 1) := by decide +kernel
theorem dX10_lastsBy_1 : decode cX10_lastsBy 1 = .ok (.tableswitch 49 1 5 #[35, 39, 49, 35, 43], 35) := by decide +kernel
theorem dX10_lastsBy_36 : decode cX10_lastsBy 36 = .ok (.iconst 2, 1) := by decide +kernel
theorem dX10_lastsBy_37 : decode cX10_lastsBy 37 = .ok (.iload_n 1, 1) := by decide +kernel
theorem dX10_lastsBy_38 : decode cX10_lastsBy 38 = .ok (.imul, 1) := by decide +kernel
theorem dX10_lastsBy_39 : decode cX10_lastsBy 39 = .ok (.ireturn, 1) := by decide +kernel
theorem dX10_lastsBy_40 : decode cX10_lastsBy 40 = .ok (.iload_n 1, 1) := by decide +kernel
theorem dX10_lastsBy_41 : decode cX10_lastsBy 41 = .ok (.iconst 2, 1) := by decide +kernel
theorem dX10_lastsBy_42 : decode cX10_lastsBy 42 = .ok (.idiv, 1) := by decide +kernel
theorem dX10_lastsBy_43 : decode cX10_lastsBy 43 = .ok (.ireturn, 1) := by decide +kernel
theorem dX10_lastsBy_44 : decode cX10_lastsBy 44 = .ok (.iload_n 1, 1) := by decide +kernel
theorem dX10_lastsBy_45 : decode cX10_lastsBy 45 = .ok (.iconst 2, 1) := by decide +kernel
theorem dX10_lastsBy_46 : decode cX10_lastsBy 46 = .ok (.idiv, 1) := by decide +kernel
theorem dX10_lastsBy_47 : decode cX10_lastsBy 47 = .ok (.iconst 4, 1) := by decide +kernel
theorem dX10_lastsBy_48 : decode cX10_lastsBy 48 = .ok (.iadd, 1) := by decide +kernel
theorem dX10_lastsBy_49 : decode cX10_lastsBy 49 = .ok (.ireturn, 1) := by decide +kernel
theorem dX10_lastsBy_50 : decode cX10_lastsBy 50 = .ok (.iload_n 1, 1) := by decide +kernel
theorem dX10_lastsBy_51 : decode cX10_lastsBy 51 = .ok (.ireturn, 1) := by decide +kernel
set_option maxRecDepth 20000 in
theorem ggX10_lasts_X10_at : GoodIn wsX10_lasts wsX10_at := goodIn_r _ [6] (by decide +kernel) (by decide +kernel)
set_option maxRecDepth 20000 in
theorem gX10_lasts_X10_at : GoodIn wsX10_lasts (wsV RX10 126 RX10 yX10_at wsX10_at) := goodIn_app (goodIn_of _ (by decide +kernel)) ggX10_lasts_X10_at
set_option maxRecDepth 20000 in
theorem ggX10_lasts_X10_lastsBy : GoodIn wsX10_lasts wsX10_lastsBy := goodIn_r _ [9] (by decide +kernel) (by decide +kernel)
set_option maxRecDepth 20000 in
theorem gX10_lasts_X10_lastsBy : GoodIn wsX10_lasts (va_wsS RX10 136 yX10_lastsBy wsX10_lastsBy) := goodIn_app (goodIn_of _ (by decide +kernel)) ggX10_lasts_X10_lastsBy
theorem dX10_lasts_0 : decode cX10_lasts 0 = .ok (.aload_n 0, 1) := by decide +kernel
theorem dX10_lasts_1 : decode cX10_lasts 1 = .ok (.getfield 9, 3) := by decide +kernel
theorem dX10_lasts_4 : decode cX10_lasts 4 = .ok (.aload_n 0, 1) := by decide +kernel
theorem dX10_lasts_5 : decode cX10_lasts 5 = .ok (.iload_n 1, 1) := by decide +kernel
theorem dX10_lasts_6 : decode cX10_lasts 6 = .ok (.iconst 0, 1) := by decide +kernel
theorem dX10_lasts_7 : decode cX10_lasts 7 = .ok (.invokevirtual 126, 3) := by decide +kernel
theorem dX10_lasts_10 : decode cX10_lasts 10 = .ok (.iaload, 1) := by decide +kernel
theorem dX10_lasts_11 : decode cX10_lasts 11 = .ok (.aload_n 0, 1) := by decide +kernel
theorem dX10_lasts_12 : decode cX10_lasts 12 = .ok (.getfield 9, 3) := by decide +kernel
theorem dX10_lasts_15 : decode cX10_lasts 15 = .ok (.aload_n 0, 1) := by decide +kernel
theorem dX10_lasts_16 : decode cX10_lasts 16 = .ok (.iload_n 1, 1) := by decide +kernel
theorem dX10_lasts_17 : decode cX10_lasts 17 = .ok (.iconst 2, 1) := by decide +kernel
theorem dX10_lasts_18 : decode cX10_lasts 18 = .ok (.invokevirtual 126, 3) := by decide +kernel
theorem dX10_lasts_21 : decode cX10_lasts 21 = .ok (.iaload, 1) := by decide +kernel
theorem dX10_lasts_22 : decode cX10_lasts 22 = .ok (.invokestatic 136, 3) := by decide +kernel
theorem dX10_lasts_25 : decode cX10_lasts 25 = .ok (.ireturn, 1) := by decide +kernel
set_option maxRecDepth 20000 in
theorem ggX10_shows_X10_lasts : GoodIn wsX10_shows wsX10_lasts := goodIn_r _ [6, 1, 7, 8, 9, 5, 10, 11, 12, 13, 14, 15, 16, 17, 18, 19, 20, 21, 22, 23, 24, 25, 26, 27, 28, 29, 30, 31] (by decide +kernel) (by decide +kernel)
set_option maxRecDepth 20000 in
theorem gX10_shows_X10_lasts : GoodIn wsX10_shows (wsV RX10 139 RX10 yX10_lasts wsX10_lasts) := goodIn_app (goodIn_of _ (by decide +kernel)) ggX10_shows_X10_lasts
set_option maxRecDepth 20000 in
theorem ggX10_shows_X10_at : GoodIn wsX10_shows wsX10_at := goodIn_r _ [10] (by decide +kernel) (by decide +kernel)
set_option maxRecDepth 20000 in
theorem gX10_shows_X10_at : GoodIn wsX10_shows (wsV RX10 126 RX10 yX10_at wsX10_at) := goodIn_app (goodIn_of _ (by decide +kernel)) ggX10_shows_X10_at
theorem dX10_shows_0 : decode cX10_shows 0 = .ok (.aload_n 0, 1) := by decide +kernel
theorem dX10_shows_1 : decode cX10_shows 1 = .ok (.getfield 9, 3) := by decide +kernel
theorem dX10_shows_4 : decode cX10_shows 4 = .ok (.iconst 0, 1) := by decide +kernel
theorem dX10_shows_5 : decode cX10_shows 5 = .ok (.iaload, 1) := by decide +kernel
theorem dX10_shows_6 : decode cX10_shows 6 = .ok (.aload_n 0, 1) := by decide +kernel
theorem dX10_shows_7 : decode cX10_shows 7 = .ok (.iload_n 1, 1) := by decide +kernel
theorem dX10_shows_8 : decode cX10_shows 8 = .ok (.invokevirtual 139, 3) := by decide +kernel
theorem dX10_shows_11 : decode cX10_shows 11 = .ok (.if_icmp .ge 17, 3) := by decide +kernel
theorem dX10_shows_14 : decode cX10_shows 14 = .ok (.aload_n 0, 1) := by decide +kernel
theorem dX10_shows_15 : decode cX10_shows 15 = .ok (.getfield 9, 3) := by decide +kernel
theorem dX10_shows_18 : decode cX10_shows 18 = .ok (.aload_n 0, 1) := by decide +kernel
theorem dX10_shows_19 : decode cX10_shows 19 = .ok (.iload_n 1, 1) := by decide +kernel
theorem dX10_shows_20 : decode cX10_shows 20 = .ok (.iconst 1, 1) := by decide +kernel
theorem dX10_shows_21 : decode cX10_shows 21 = .ok (.invokevirtual 126, 3) := by decide +kernel
theorem dX10_shows_24 : decode cX10_shows 24 = .ok (.iaload, 1) := by decide +kernel
theorem dX10_shows_25 : decode cX10_shows 25 = .ok (.goto 23, 3) := by decide +kernel
theorem dX10_shows_28 : decode cX10_shows 28 = .ok (.aload_n 0, 1) := by decide +kernel
theorem dX10_shows_29 : decode cX10_shows 29 = .ok (.getfield 9, 3) := by decide +kernel
theorem dX10_shows_32 : decode cX10_shows 32 = .ok (.aload_n 0, 1) := by decide +kernel
theorem dX10_shows_33 : decode cX10_shows 33 = .ok (.iload_n 1, 1) := by decide +kernel
theorem dX10_shows_34 : decode cX10_shows 34 = .ok (.iconst 1, 1) := by decide +kernel
theorem dX10_shows_35 : decode cX10_shows 35 = .ok (.invokevirtual 126, 3) := by decide +kernel
theorem dX10_shows_38 : decode cX10_shows 38 = .ok (.iaload, 1) := by decide +kernel
theorem dX10_shows_39 : decode cX10_shows 39 = .ok (.aload_n 0, 1) := by decide +kernel
theorem dX10_shows_40 : decode cX10_shows 40 = .ok (.getfield 9, 3) := by decide +kernel
theorem dX10_shows_43 : decode cX10_shows 43 = .ok (.iconst 1, 1) := by decide +kernel
theorem dX10_shows_44 : decode cX10_shows 44 = .ok (.iaload, 1) := by decide +kernel
theorem dX10_shows_45 : decode cX10_shows 45 = .ok (.iconst (-1), 1) := by decide +kernel
theorem dX10_shows_46 : decode cX10_shows 46 = .ok (.ixor, 1) := by decide +kernel
theorem dX10_shows_47 : decode cX10_shows 47 = .ok (.iand, 1) := by decide +kernel
theorem dX10_shows_48 : decode cX10_shows 48 = .ok (.istore_n 2, 1) := by decide +kernel
theorem dX10_shows_49 : decode cX10_shows 49 = .ok (.aload_n 0, 1) := by decide +kernel
theorem dX10_shows_50 : decode cX10_shows 50 = .ok (.getfield 9, 3) := by decide +kernel
theorem dX10_shows_53 : decode cX10_shows 53 = .ok (.aload_n 0, 1) := by decide +kernel
theorem dX10_shows_54 : decode cX10_shows 54 = .ok (.iload_n 1, 1) := by decide +kernel
theorem dX10_shows_55 : decode cX10_shows 55 = .ok (.iconst 0, 1) := by decide +kernel
theorem dX10_shows_56 : decode cX10_shows 56 = .ok (.invokevirtual 126, 3) := by decide +kernel
theorem dX10_shows_59 : decode cX10_shows 59 = .ok (.iaload, 1) := by decide +kernel
theorem dX10_shows_60 : decode cX10_shows 60 = .ok (.istore_n 3, 1) := by decide +kernel
theorem dX10_shows_61 : decode cX10_shows 61 = .ok (.iload_n 3, 1) := by decide +kernel
theorem dX10_shows_62 : decode cX10_shows 62 = .ok (.iconst 3, 1) := by decide +kernel
theorem dX10_shows_63 : decode cX10_shows 63 = .ok (.if_icmp .ne 10, 3) := by decide +kernel
theorem dX10_shows_66 : decode cX10_shows 66 = .ok (.iload_n 2, 1) := by decide +kernel
theorem dX10_shows_67 : decode cX10_shows 67 = .ok (.bipush 12, 2) := by decide +kernel
theorem dX10_shows_69 : decode cX10_shows 69 = .ok (.ior, 1) := by decide +kernel
theorem dX10_shows_70 : decode cX10_shows 70 = .ok (.goto 16, 3) := by decide +kernel
theorem dX10_shows_73 : decode cX10_shows 73 = .ok (.iload_n 3, 1) := by decide +kernel
theorem dX10_shows_74 : decode cX10_shows 74 = .ok (.iconst 4, 1) := by decide +kernel
theorem dX10_shows_75 : decode cX10_shows 75 = .ok (.if_icmp .ne 10, 3) := by decide +kernel
theorem dX10_shows_78 : decode cX10_shows 78 = .ok (.iload_n 2, 1) := by decide +kernel
theorem dX10_shows_79 : decode cX10_shows 79 = .ok (.bipush 48, 2) := by decide +kernel
theorem dX10_shows_81 : decode cX10_shows 81 = .ok (.ior, 1) := by decide +kernel
theorem dX10_shows_82 : decode cX10_shows 82 = .ok (.goto 4, 3) := by decide +kernel
theorem dX10_shows_85 : decode cX10_shows 85 = .ok (.iload_n 2, 1) := by decide +kernel
theorem dX10_shows_86 : decode cX10_shows 86 = .ok (.ireturn, 1) := by decide +kernel
set_option maxRecDepth 20000 in
theorem ggX10_feetBy_X10_ones : GoodIn wsX10_feetBy wsX10_ones := goodIn_r _ [4] (by decide +kernel) (by decide +kernel)
set_option maxRecDepth 20000 in
theorem gX10_feetBy_X10_ones : GoodIn wsX10_feetBy (va_wsS RX10 79 yX10_ones wsX10_ones) := goodIn_app (goodIn_of _ (by decide +kernel)) ggX10_feetBy_X10_ones
set_option maxRecDepth 20000 in
theorem ggX10_feetBy_X10_straysOf : GoodIn wsX10_feetBy wsX10_straysOf := goodIn_r _ [7, 8, 9, 3, 10, 11, 12, 13, 14, 15, 16, 17, 18, 19, 20, 21, 22, 23, 24, 25, 26, 27, 28, 29, 30, 31, 32, 33, 34, 1, 2, 4] (by decide +kernel) (by decide +kernel)
set_option maxRecDepth 20000 in
theorem gX10_feetBy_X10_straysOf : GoodIn wsX10_feetBy (va_wsS RX10 95 yX10_straysOf wsX10_straysOf) := goodIn_app (goodIn_of _ (by decide +kernel)) ggX10_feetBy_X10_straysOf
theorem dX10_feetBy_0 : decode cX10_feetBy 0 = .ok (.iload_n 1, 1) := by decide +kernel
theorem dX10_feetBy_1 : decode cX10_feetBy 1 = .ok (.invokestatic 79, 3) := by decide +kernel
theorem dX10_feetBy_4 : decode cX10_feetBy 4 = .ok (.iload_n 1, 1) := by decide +kernel
theorem dX10_feetBy_5 : decode cX10_feetBy 5 = .ok (.invokestatic 95, 3) := by decide +kernel
theorem dX10_feetBy_8 : decode cX10_feetBy 8 = .ok (.iadd, 1) := by decide +kernel
theorem dX10_feetBy_9 : decode cX10_feetBy 9 = .ok (.istore_n 2, 1) := by decide +kernel
theorem dX10_feetBy_10 : decode cX10_feetBy 10 = .ok (.iload_n 0, 1) := by decide +kernel
theorem dX10_feetBy_11 : decode cX10_feetBy 11 = .ok (.tableswitch 43 1 4 #[29, 43, 39, 33], 29) := by decide +kernel
theorem dX10_feetBy_40 : decode cX10_feetBy 40 = .ok (.iconst 2, 1) := by decide +kernel
theorem dX10_feetBy_41 : decode cX10_feetBy 41 = .ok (.iload_n 2, 1) := by decide +kernel
theorem dX10_feetBy_42 : decode cX10_feetBy 42 = .ok (.imul, 1) := by decide +kernel
theorem dX10_feetBy_43 : decode cX10_feetBy 43 = .ok (.ireturn, 1) := by decide +kernel
theorem dX10_feetBy_44 : decode cX10_feetBy 44 = .ok (.iconst 2, 1) := by decide +kernel
theorem dX10_feetBy_45 : decode cX10_feetBy 45 = .ok (.iload_n 2, 1) := by decide +kernel
theorem dX10_feetBy_46 : decode cX10_feetBy 46 = .ok (.imul, 1) := by decide +kernel
theorem dX10_feetBy_47 : decode cX10_feetBy 47 = .ok (.iconst 2, 1) := by decide +kernel
theorem dX10_feetBy_48 : decode cX10_feetBy 48 = .ok (.iadd, 1) := by decide +kernel
theorem dX10_feetBy_49 : decode cX10_feetBy 49 = .ok (.ireturn, 1) := by decide +kernel
theorem dX10_feetBy_50 : decode cX10_feetBy 50 = .ok (.iload_n 2, 1) := by decide +kernel
theorem dX10_feetBy_51 : decode cX10_feetBy 51 = .ok (.iconst 2, 1) := by decide +kernel
theorem dX10_feetBy_52 : decode cX10_feetBy 52 = .ok (.iadd, 1) := by decide +kernel
theorem dX10_feetBy_53 : decode cX10_feetBy 53 = .ok (.ireturn, 1) := by decide +kernel
theorem dX10_feetBy_54 : decode cX10_feetBy 54 = .ok (.iload_n 2, 1) := by decide +kernel
theorem dX10_feetBy_55 : decode cX10_feetBy 55 = .ok (.ireturn, 1) := by decide +kernel
set_option maxRecDepth 20000 in
theorem ggX10_feet_X10_at : GoodIn wsX10_feet wsX10_at := goodIn_r _ [6] (by decide +kernel) (by decide +kernel)
set_option maxRecDepth 20000 in
theorem gX10_feet_X10_at : GoodIn wsX10_feet (wsV RX10 126 RX10 yX10_at wsX10_at) := goodIn_app (goodIn_of _ (by decide +kernel)) ggX10_feet_X10_at
set_option maxRecDepth 20000 in
theorem ggX10_feet_X10_feetBy : GoodIn wsX10_feet wsX10_feetBy := goodIn_r _ [9, 10, 11, 5, 12, 13, 14, 15, 16, 17, 18, 19, 20, 21, 22, 23, 24, 25, 26, 27, 28, 29, 30, 31, 32, 33, 34, 35, 36, 37, 38, 39, 40, 41, 42] (by decide +kernel) (by decide +kernel)
set_option maxRecDepth 20000 in
theorem gX10_feet_X10_feetBy : GoodIn wsX10_feet (va_wsS RX10 142 yX10_feetBy wsX10_feetBy) := goodIn_app (goodIn_of _ (by decide +kernel)) ggX10_feet_X10_feetBy
theorem dX10_feet_0 : decode cX10_feet 0 = .ok (.aload_n 0, 1) := by decide +kernel
theorem dX10_feet_1 : decode cX10_feet 1 = .ok (.getfield 9, 3) := by decide +kernel
theorem dX10_feet_4 : decode cX10_feet 4 = .ok (.aload_n 0, 1) := by decide +kernel
theorem dX10_feet_5 : decode cX10_feet 5 = .ok (.iload_n 1, 1) := by decide +kernel
theorem dX10_feet_6 : decode cX10_feet 6 = .ok (.iconst 0, 1) := by decide +kernel
theorem dX10_feet_7 : decode cX10_feet 7 = .ok (.invokevirtual 126, 3) := by decide +kernel
theorem dX10_feet_10 : decode cX10_feet 10 = .ok (.iaload, 1) := by decide +kernel
theorem dX10_feet_11 : decode cX10_feet 11 = .ok (.aload_n 0, 1) := by decide +kernel
theorem dX10_feet_12 : decode cX10_feet 12 = .ok (.getfield 9, 3) := by decide +kernel
theorem dX10_feet_15 : decode cX10_feet 15 = .ok (.aload_n 0, 1) := by decide +kernel
theorem dX10_feet_16 : decode cX10_feet 16 = .ok (.iload_n 1, 1) := by decide +kernel
theorem dX10_feet_17 : decode cX10_feet 17 = .ok (.iconst 1, 1) := by decide +kernel
theorem dX10_feet_18 : decode cX10_feet 18 = .ok (.invokevirtual 126, 3) := by decide +kernel
theorem dX10_feet_21 : decode cX10_feet 21 = .ok (.iaload, 1) := by decide +kernel
theorem dX10_feet_22 : decode cX10_feet 22 = .ok (.invokestatic 142, 3) := by decide +kernel
theorem dX10_feet_25 : decode cX10_feet 25 = .ok (.ireturn, 1) := by decide +kernel
set_option maxRecDepth 20000 in
theorem ggX10_of_X10_isLetter : GoodIn wsX10_of wsX10_isLetter := goodIn_r _ [6, 1, 7, 8, 5, 9, 79, 80, 81, 82, 83, 84, 85, 86, 87, 88, 89, 90, 91, 92, 93, 94, 95, 96] (by decide +kernel) (by decide +kernel)
set_option maxRecDepth 20000 in
theorem gX10_of_X10_isLetter : GoodIn wsX10_of (wsV RX10 145 RX10 yX10_isLetter wsX10_isLetter) := goodIn_app (goodIn_of _ (by decide +kernel)) ggX10_of_X10_isLetter
set_option maxRecDepth 20000 in
theorem ggX10_of_X10_in : GoodIn wsX10_of wsX10_in := goodIn_r _ [9] (by decide +kernel) (by decide +kernel)
set_option maxRecDepth 20000 in
theorem gX10_of_X10_in : GoodIn wsX10_of (va_wsS RX10 48 yX10_in wsX10_in) := goodIn_app (goodIn_of _ (by decide +kernel)) ggX10_of_X10_in
set_option maxRecDepth 20000 in
theorem ggX10_of_X10_no : GoodIn wsX10_of wsX10_no := goodIn_r _ [13, 14, 15, 79, 80, 81, 82, 83, 84, 85, 86, 87, 88, 89, 90, 91, 92, 93, 94, 95, 96] (by decide +kernel) (by decide +kernel)
set_option maxRecDepth 20000 in
theorem gX10_of_X10_no : GoodIn wsX10_of (wsV RX10 89 RX10 yX10_no wsX10_no) := goodIn_app (goodIn_of _ (by decide +kernel)) ggX10_of_X10_no
set_option maxRecDepth 20000 in
theorem ggX10_of_X10_lasts : GoodIn wsX10_of wsX10_lasts := goodIn_r _ [19, 1, 20, 21, 22, 5, 23, 24, 25, 26, 79, 80, 81, 82, 83, 84, 85, 86, 87, 88, 89, 90, 91, 92, 93, 94, 95, 96] (by decide +kernel) (by decide +kernel)
set_option maxRecDepth 20000 in
theorem gX10_of_X10_lasts : GoodIn wsX10_of (wsV RX10 139 RX10 yX10_lasts wsX10_lasts) := goodIn_app (goodIn_of _ (by decide +kernel)) ggX10_of_X10_lasts
set_option maxRecDepth 20000 in
theorem ggX10_of_X10_shows : GoodIn wsX10_of wsX10_shows := goodIn_r _ [30, 1, 16, 17, 18, 5, 19, 20, 21, 22, 23, 24, 25, 26, 79, 80, 81, 82, 83, 84, 85, 86, 87, 88, 89, 90, 91, 92, 93, 94, 95, 96] (by decide +kernel) (by decide +kernel)
set_option maxRecDepth 20000 in
theorem gX10_of_X10_shows : GoodIn wsX10_of (wsV RX10 148 RX10 yX10_shows wsX10_shows) := goodIn_app (goodIn_of _ (by decide +kernel)) ggX10_of_X10_shows
set_option maxRecDepth 20000 in
theorem ggX10_of_X10_feet : GoodIn wsX10_of wsX10_feet := goodIn_r _ [34, 1, 20, 21, 22, 5, 23, 35, 36, 37, 38, 39, 40, 41, 42, 43, 44, 45, 46, 47, 48, 49, 50, 51, 52, 53, 54, 55, 56, 57, 58, 59, 60, 61, 62, 63, 64, 65, 66, 67, 68, 69, 70, 79, 80, 81, 82, 83, 84, 85, 86, 87, 88, 89, 90, 91, 92, 93, 94, 95, 96] (by decide +kernel) (by decide +kernel)
set_option maxRecDepth 20000 in
theorem gX10_of_X10_feet : GoodIn wsX10_of (wsV RX10 151 RX10 yX10_feet wsX10_feet) := goodIn_app (goodIn_of _ (by decide +kernel)) ggX10_of_X10_feet
set_option maxRecDepth 20000 in
theorem ggX10_of_X10_at : GoodIn wsX10_of wsX10_at := goodIn_r _ [23] (by decide +kernel) (by decide +kernel)
set_option maxRecDepth 20000 in
theorem gX10_of_X10_at : GoodIn wsX10_of (wsV RX10 126 RX10 yX10_at wsX10_at) := goodIn_app (goodIn_of _ (by decide +kernel)) ggX10_of_X10_at
set_option maxRecDepth 20000 in
theorem ggX10_of_X10_readAs : GoodIn wsX10_of wsX10_readAs := goodIn_r _ [74, 1, 75, 76, 77, 5, 78, 38, 39, 40, 79, 80, 81, 82, 83, 84, 85, 86, 87, 88, 89, 90, 91, 92, 93, 94, 95, 96] (by decide +kernel) (by decide +kernel)
set_option maxRecDepth 20000 in
theorem gX10_of_X10_readAs : GoodIn wsX10_of (wsV RX10 123 RX10 yX10_readAs wsX10_readAs) := goodIn_app (goodIn_of _ (by decide +kernel)) ggX10_of_X10_readAs
theorem dX10_of_0 : decode cX10_of 0 = .ok (.aload_n 0, 1) := by decide +kernel
theorem dX10_of_1 : decode cX10_of 1 = .ok (.iload_n 1, 1) := by decide +kernel
theorem dX10_of_2 : decode cX10_of 2 = .ok (.invokevirtual 145, 3) := by decide +kernel
theorem dX10_of_5 : decode cX10_of 5 = .ok (.ifCond .eq 13, 3) := by decide +kernel
theorem dX10_of_8 : decode cX10_of 8 = .ok (.iload_n 2, 1) := by decide +kernel
theorem dX10_of_9 : decode cX10_of 9 = .ok (.iconst 0, 1) := by decide +kernel
theorem dX10_of_10 : decode cX10_of 10 = .ok (.bipush 7, 2) := by decide +kernel
theorem dX10_of_12 : decode cX10_of 12 = .ok (.invokestatic 48, 3) := by decide +kernel
theorem dX10_of_15 : decode cX10_of 15 = .ok (.ifCond .ne 9, 3) := by decide +kernel
theorem dX10_of_18 : decode cX10_of 18 = .ok (.aload_n 0, 1) := by decide +kernel
theorem dX10_of_19 : decode cX10_of 19 = .ok (.iconst 0, 1) := by decide +kernel
theorem dX10_of_20 : decode cX10_of 20 = .ok (.invokevirtual 89, 3) := by decide +kernel
theorem dX10_of_23 : decode cX10_of 23 = .ok (.ireturn, 1) := by decide +kernel
theorem dX10_of_24 : decode cX10_of 24 = .ok (.iload_n 2, 1) := by decide +kernel
theorem dX10_of_25 : decode cX10_of 25 = .ok (.tableswitch 79 3 7 #[35, 41, 47, 53, 69], 35) := by decide +kernel
theorem dX10_of_60 : decode cX10_of 60 = .ok (.aload_n 0, 1) := by decide +kernel
theorem dX10_of_61 : decode cX10_of 61 = .ok (.iload_n 1, 1) := by decide +kernel
theorem dX10_of_62 : decode cX10_of 62 = .ok (.invokevirtual 139, 3) := by decide +kernel
theorem dX10_of_65 : decode cX10_of 65 = .ok (.ireturn, 1) := by decide +kernel
theorem dX10_of_66 : decode cX10_of 66 = .ok (.aload_n 0, 1) := by decide +kernel
theorem dX10_of_67 : decode cX10_of 67 = .ok (.iload_n 1, 1) := by decide +kernel
theorem dX10_of_68 : decode cX10_of 68 = .ok (.invokevirtual 148, 3) := by decide +kernel
theorem dX10_of_71 : decode cX10_of 71 = .ok (.ireturn, 1) := by decide +kernel
theorem dX10_of_72 : decode cX10_of 72 = .ok (.aload_n 0, 1) := by decide +kernel
theorem dX10_of_73 : decode cX10_of 73 = .ok (.iload_n 1, 1) := by decide +kernel
theorem dX10_of_74 : decode cX10_of 74 = .ok (.invokevirtual 151, 3) := by decide +kernel
theorem dX10_of_77 : decode cX10_of 77 = .ok (.ireturn, 1) := by decide +kernel
theorem dX10_of_78 : decode cX10_of 78 = .ok (.aload_n 0, 1) := by decide +kernel
theorem dX10_of_79 : decode cX10_of 79 = .ok (.aload_n 0, 1) := by decide +kernel
theorem dX10_of_80 : decode cX10_of 80 = .ok (.getfield 9, 3) := by decide +kernel
theorem dX10_of_83 : decode cX10_of 83 = .ok (.aload_n 0, 1) := by decide +kernel
theorem dX10_of_84 : decode cX10_of 84 = .ok (.iload_n 1, 1) := by decide +kernel
theorem dX10_of_85 : decode cX10_of 85 = .ok (.iconst 1, 1) := by decide +kernel
theorem dX10_of_86 : decode cX10_of 86 = .ok (.invokevirtual 126, 3) := by decide +kernel
theorem dX10_of_89 : decode cX10_of 89 = .ok (.iaload, 1) := by decide +kernel
theorem dX10_of_90 : decode cX10_of 90 = .ok (.invokevirtual 123, 3) := by decide +kernel
theorem dX10_of_93 : decode cX10_of 93 = .ok (.ireturn, 1) := by decide +kernel
theorem dX10_of_94 : decode cX10_of 94 = .ok (.aload_n 0, 1) := by decide +kernel
theorem dX10_of_95 : decode cX10_of 95 = .ok (.aload_n 0, 1) := by decide +kernel
theorem dX10_of_96 : decode cX10_of 96 = .ok (.iload_n 1, 1) := by decide +kernel
theorem dX10_of_97 : decode cX10_of 97 = .ok (.invokevirtual 148, 3) := by decide +kernel
theorem dX10_of_100 : decode cX10_of 100 = .ok (.invokevirtual 123, 3) := by decide +kernel
theorem dX10_of_103 : decode cX10_of 103 = .ok (.ireturn, 1) := by decide +kernel
theorem dX10_of_104 : decode cX10_of 104 = .ok (.aload_n 0, 1) := by decide +kernel
theorem dX10_of_105 : decode cX10_of 105 = .ok (.getfield 9, 3) := by decide +kernel
theorem dX10_of_108 : decode cX10_of 108 = .ok (.aload_n 0, 1) := by decide +kernel
theorem dX10_of_109 : decode cX10_of 109 = .ok (.iload_n 1, 1) := by decide +kernel
theorem dX10_of_110 : decode cX10_of 110 = .ok (.iload_n 2, 1) := by decide +kernel
theorem dX10_of_111 : decode cX10_of 111 = .ok (.invokevirtual 126, 3) := by decide +kernel
theorem dX10_of_114 : decode cX10_of 114 = .ok (.iaload, 1) := by decide +kernel
theorem dX10_of_115 : decode cX10_of 115 = .ok (.ireturn, 1) := by decide +kernel
set_option maxRecDepth 20000 in
theorem ggX10_set_X10_isForm : GoodIn wsX10_set wsX10_isForm := goodIn_r _ [4, 5, 6, 3, 7] (by decide +kernel) (by decide +kernel)
set_option maxRecDepth 20000 in
theorem gX10_set_X10_isForm : GoodIn wsX10_set (va_wsS RX10 85 yX10_isForm wsX10_isForm) := goodIn_app (goodIn_of _ (by decide +kernel)) ggX10_set_X10_isForm
set_option maxRecDepth 20000 in
theorem ggX10_set_X10_in : GoodIn wsX10_set wsX10_in := goodIn_r _ [7] (by decide +kernel) (by decide +kernel)
set_option maxRecDepth 20000 in
theorem gX10_set_X10_in : GoodIn wsX10_set (va_wsS RX10 48 yX10_in wsX10_in) := goodIn_app (goodIn_of _ (by decide +kernel)) ggX10_set_X10_in
set_option maxRecDepth 20000 in
theorem ggX10_set_X10_isLetter : GoodIn wsX10_set wsX10_isLetter := goodIn_r _ [11, 12, 5, 6, 3, 7, 27, 28, 29, 30, 31, 32, 33, 34, 35, 36, 37, 38, 39, 40, 41, 42, 43, 44] (by decide +kernel) (by decide +kernel)
set_option maxRecDepth 20000 in
theorem gX10_set_X10_isLetter : GoodIn wsX10_set (wsV RX10 145 RX10 yX10_isLetter wsX10_isLetter) := goodIn_app (goodIn_of _ (by decide +kernel)) ggX10_set_X10_isLetter
set_option maxRecDepth 20000 in
theorem ggX10_set_X10_at : GoodIn wsX10_set wsX10_at := goodIn_r _ [16] (by decide +kernel) (by decide +kernel)
set_option maxRecDepth 20000 in
theorem gX10_set_X10_at : GoodIn wsX10_set (wsV RX10 126 RX10 yX10_at wsX10_at) := goodIn_app (goodIn_of _ (by decide +kernel)) ggX10_set_X10_at
set_option maxRecDepth 20000 in
theorem ggX10_set_X10_puts : GoodIn wsX10_set wsX10_puts := goodIn_r _ [20, 12, 27, 28, 29, 30, 31, 32, 33, 34, 35, 36, 37, 38, 39, 40, 41, 42, 43, 44] (by decide +kernel) (by decide +kernel)
set_option maxRecDepth 20000 in
theorem gX10_set_X10_puts : GoodIn wsX10_set (wsV RX10 117 RX10 yX10_puts wsX10_puts) := goodIn_app (goodIn_of _ (by decide +kernel)) ggX10_set_X10_puts
set_option maxRecDepth 20000 in
theorem ggX10_set_X10_no : GoodIn wsX10_set wsX10_no := goodIn_r _ [24, 25, 26, 27, 28, 29, 30, 31, 32, 33, 34, 35, 36, 37, 38, 39, 40, 41, 42, 43, 44] (by decide +kernel) (by decide +kernel)
set_option maxRecDepth 20000 in
theorem gX10_set_X10_no : GoodIn wsX10_set (wsV RX10 89 RX10 yX10_no wsX10_no) := goodIn_app (goodIn_of _ (by decide +kernel)) ggX10_set_X10_no
theorem dX10_set_0 : decode cX10_set 0 = .ok (.iload_n 2, 1) := by decide +kernel
theorem dX10_set_1 : decode cX10_set 1 = .ok (.iconst 1, 1) := by decide +kernel
theorem dX10_set_2 : decode cX10_set 2 = .ok (.if_icmp .ne 10, 3) := by decide +kernel
theorem dX10_set_5 : decode cX10_set 5 = .ok (.iload_n 3, 1) := by decide +kernel
theorem dX10_set_6 : decode cX10_set 6 = .ok (.invokestatic 85, 3) := by decide +kernel
theorem dX10_set_9 : decode cX10_set 9 = .ok (.goto 23, 3) := by decide +kernel
theorem dX10_set_12 : decode cX10_set 12 = .ok (.iload_n 2, 1) := by decide +kernel
theorem dX10_set_13 : decode cX10_set 13 = .ok (.iconst 2, 1) := by decide +kernel
theorem dX10_set_14 : decode cX10_set 14 = .ok (.if_icmp .ne 17, 3) := by decide +kernel
theorem dX10_set_17 : decode cX10_set 17 = .ok (.iload_n 3, 1) := by decide +kernel
theorem dX10_set_18 : decode cX10_set 18 = .ok (.iconst 0, 1) := by decide +kernel
theorem dX10_set_19 : decode cX10_set 19 = .ok (.bipush 99, 2) := by decide +kernel
theorem dX10_set_21 : decode cX10_set 21 = .ok (.invokestatic 48, 3) := by decide +kernel
theorem dX10_set_24 : decode cX10_set 24 = .ok (.ifCond .eq 7, 3) := by decide +kernel
theorem dX10_set_27 : decode cX10_set 27 = .ok (.iconst 1, 1) := by decide +kernel
theorem dX10_set_28 : decode cX10_set 28 = .ok (.goto 4, 3) := by decide +kernel
theorem dX10_set_31 : decode cX10_set 31 = .ok (.iconst 0, 1) := by decide +kernel
theorem dX10_set_32 : decode cX10_set 32 = .ok (.istore 4, 2) := by decide +kernel
theorem dX10_set_34 : decode cX10_set 34 = .ok (.aload_n 0, 1) := by decide +kernel
theorem dX10_set_35 : decode cX10_set 35 = .ok (.iload_n 1, 1) := by decide +kernel
theorem dX10_set_36 : decode cX10_set 36 = .ok (.invokevirtual 145, 3) := by decide +kernel
theorem dX10_set_39 : decode cX10_set 39 = .ok (.ifCond .eq 22, 3) := by decide +kernel
