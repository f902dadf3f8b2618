theorem dX1_offer_16 : decode cX1_offer 16 = .ok (.iload_n 1, 1) := by decide +kernel
theorem dX1_offer_17 : decode cX1_offer 17 = .ok (.aload_n 0, 1) := by decide +kernel
theorem dX1_offer_18 : decode cX1_offer 18 = .ok (.getfield 29, 3) := by decide +kernel
theorem dX1_offer_21 : decode cX1_offer 21 = .ok (.if_icmp .ge 13, 3) := by decide +kernel
theorem dX1_offer_24 : decode cX1_offer 24 = .ok (.aload_n 0, 1) := by decide +kernel
theorem dX1_offer_25 : decode cX1_offer 25 = .ok (.iload_n 1, 1) := by decide +kernel
theorem dX1_offer_26 : decode cX1_offer 26 = .ok (.putfield 29, 3) := by decide +kernel
theorem dX1_offer_29 : decode cX1_offer 29 = .ok (.aload_n 0, 1) := by decide +kernel
theorem dX1_offer_30 : decode cX1_offer 30 = .ok (.iload_n 2, 1) := by decide +kernel
theorem dX1_offer_31 : decode cX1_offer 31 = .ok (.putfield 32, 3) := by decide +kernel
theorem dX1_offer_34 : decode cX1_offer 34 = .ok (.return_, 1) := by decide +kernel
set_option maxRecDepth 20000 in
theorem ggX2_init_X8_init : GoodIn wsX2_init wsX8_init := goodIn_r _ [9, 10, 2, 3, 11, 12, 13, 14, 15, 16, 17, 18, 19] (by decide +kernel) (by decide +kernel)
set_option maxRecDepth 20000 in
theorem gX2_init_X8_init_n9 : GoodIn wsX2_init (wsX8_init) := ggX2_init_X8_init
theorem dX2_init_0 : decode cX2_init 0 = .ok (.aload_n 0, 1) := by decide +kernel
theorem dX2_init_1 : decode cX2_init 1 = .ok (.invokespecial 1, 3) := by decide +kernel
theorem dX2_init_4 : decode cX2_init 4 = .ok (.aload_n 0, 1) := by decide +kernel
theorem dX2_init_5 : decode cX2_init 5 = .ok (.new 7, 3) := by decide +kernel
theorem dX2_init_8 : decode cX2_init 8 = .ok (.dup, 1) := by decide +kernel
theorem dX2_init_9 : decode cX2_init 9 = .ok (.invokespecial 9, 3) := by decide +kernel
theorem dX2_init_12 : decode cX2_init 12 = .ok (.putfield 10, 3) := by decide +kernel
theorem dX2_init_15 : decode cX2_init 15 = .ok (.return_, 1) := by decide +kernel
set_option maxRecDepth 20000 in
theorem ggX2_tell_X8_cut : GoodIn wsX2_tell wsX8_cut := goodIn_r _ [7, 8, 9, 10, 11, 12, 13, 14, 15, 16, 17, 18, 19, 20, 21, 6, 22, 23, 24, 25, 26, 27, 28, 29, 30, 31, 32, 33, 34, 35, 36, 37, 38, 39, 40, 41, 42, 43, 44, 45, 46, 47, 48, 49, 50, 51, 52, 53, 54, 55, 56, 57, 58, 59, 60, 61, 62, 63, 64, 65, 66, 67, 68, 69, 70, 71, 72, 73, 74, 75, 76, 77, 78, 79, 80, 81, 82, 83, 84, 85, 86, 87, 88, 89, 90, 165, 166, 167, 168, 169, 170, 171] (by decide +kernel) (by decide +kernel)
set_option maxRecDepth 20000 in
theorem gX2_tell_X8_cut : GoodIn wsX2_tell (wsV RX2 16 RX8 yX8_cut wsX8_cut) := goodIn_app (goodIn_of _ (by decide +kernel)) ggX2_tell_X8_cut
set_option maxRecDepth 20000 in
theorem ggX2_tell_X2_passItem : GoodIn wsX2_tell wsX2_passItem := goodIn_r _ [95, 1, 2, 96, 97, 98, 94, 99, 100, 101, 102, 6, 103, 8, 10, 12, 104, 105, 106, 107, 108, 109, 110, 111, 112, 113, 114, 115, 116, 117, 118, 119, 120, 121, 122, 123, 124, 125, 126, 127, 128, 129, 130, 131, 132, 133, 134, 135, 136, 137, 138, 139, 140, 141, 142, 143, 144, 145, 146, 147, 148, 149, 150, 151, 152, 153, 154, 163, 164, 165, 166, 167, 168, 169, 172, 173, 174, 175, 176, 177, 178, 179] (by decide +kernel) (by decide +kernel)
set_option maxRecDepth 20000 in
theorem gX2_tell_X2_passItem : GoodIn wsX2_tell (wsV RX2 26 RX2 yX2_passItem wsX2_passItem) := goodIn_app (goodIn_of _ (by decide +kernel)) ggX2_tell_X2_passItem
set_option maxRecDepth 20000 in
theorem ggX2_tell_X8_typeAt : GoodIn wsX2_tell wsX8_typeAt := goodIn_r _ [158, 8, 10, 165, 166, 167, 168, 169] (by decide +kernel) (by decide +kernel)
set_option maxRecDepth 20000 in
theorem gX2_tell_X8_typeAt : GoodIn wsX2_tell (wsV RX2 30 RX8 yX8_typeAt wsX8_typeAt) := goodIn_app (goodIn_of _ (by decide +kernel)) ggX2_tell_X8_typeAt
set_option maxRecDepth 20000 in
theorem ggX2_tell_X8_placeAt : GoodIn wsX2_tell wsX8_placeAt := goodIn_r _ [162, 8, 11, 9, 165, 166, 167, 168, 169] (by decide +kernel) (by decide +kernel)
set_option maxRecDepth 20000 in
theorem gX2_tell_X8_placeAt : GoodIn wsX2_tell (wsV RX2 34 RX8 yX8_placeAt wsX8_placeAt) := goodIn_app (goodIn_of _ (by decide +kernel)) ggX2_tell_X8_placeAt
theorem dX2_tell_0 : decode cX2_tell 0 = .ok (.aload_n 0, 1) := by decide +kernel
theorem dX2_tell_1 : decode cX2_tell 1 = .ok (.getfield 10, 3) := by decide +kernel
theorem dX2_tell_4 : decode cX2_tell 4 = .ok (.aload_n 1, 1) := by decide +kernel
theorem dX2_tell_5 : decode cX2_tell 5 = .ok (.invokevirtual 16, 3) := by decide +kernel
theorem dX2_tell_8 : decode cX2_tell 8 = .ok (.aload_n 0, 1) := by decide +kernel
theorem dX2_tell_9 : decode cX2_tell 9 = .ok (.iconst 0, 1) := by decide +kernel
theorem dX2_tell_10 : decode cX2_tell 10 = .ok (.putfield 20, 3) := by decide +kernel
theorem dX2_tell_13 : decode cX2_tell 13 = .ok (.iconst 1, 1) := by decide +kernel
theorem dX2_tell_14 : decode cX2_tell 14 = .ok (.istore_n 3, 1) := by decide +kernel
theorem dX2_tell_15 : decode cX2_tell 15 = .ok (.iload_n 3, 1) := by decide +kernel
theorem dX2_tell_16 : decode cX2_tell 16 = .ok (.bipush 120, 2) := by decide +kernel
theorem dX2_tell_18 : decode cX2_tell 18 = .ok (.if_icmp .gt 64, 3) := by decide +kernel
theorem dX2_tell_21 : decode cX2_tell 21 = .ok (.aload_n 0, 1) := by decide +kernel
theorem dX2_tell_22 : decode cX2_tell 22 = .ok (.aload_n 2, 1) := by decide +kernel
theorem dX2_tell_23 : decode cX2_tell 23 = .ok (.invokevirtual 26, 3) := by decide +kernel
theorem dX2_tell_26 : decode cX2_tell 26 = .ok (.ifCond .ne 6, 3) := by decide +kernel
theorem dX2_tell_29 : decode cX2_tell 29 = .ok (.goto 53, 3) := by decide +kernel
theorem dX2_tell_32 : decode cX2_tell 32 = .ok (.aload_n 0, 1) := by decide +kernel
theorem dX2_tell_33 : decode cX2_tell 33 = .ok (.getfield 10, 3) := by decide +kernel
theorem dX2_tell_36 : decode cX2_tell 36 = .ok (.aload_n 0, 1) := by decide +kernel
theorem dX2_tell_37 : decode cX2_tell 37 = .ok (.getfield 20, 3) := by decide +kernel
theorem dX2_tell_40 : decode cX2_tell 40 = .ok (.invokevirtual 30, 3) := by decide +kernel
theorem dX2_tell_43 : decode cX2_tell 43 = .ok (.ifCond .ne 5, 3) := by decide +kernel
theorem dX2_tell_46 : decode cX2_tell 46 = .ok (.iload_n 3, 1) := by decide +kernel
theorem dX2_tell_47 : decode cX2_tell 47 = .ok (.ireturn, 1) := by decide +kernel
theorem dX2_tell_48 : decode cX2_tell 48 = .ok (.aload_n 0, 1) := by decide +kernel
theorem dX2_tell_49 : decode cX2_tell 49 = .ok (.getfield 10, 3) := by decide +kernel
theorem dX2_tell_52 : decode cX2_tell 52 = .ok (.aload_n 0, 1) := by decide +kernel
theorem dX2_tell_53 : decode cX2_tell 53 = .ok (.getfield 20, 3) := by decide +kernel
theorem dX2_tell_56 : decode cX2_tell 56 = .ok (.invokevirtual 30, 3) := by decide +kernel
theorem dX2_tell_59 : decode cX2_tell 59 = .ok (.iconst 3, 1) := by decide +kernel
theorem dX2_tell_60 : decode cX2_tell 60 = .ok (.if_icmp .eq 6, 3) := by decide +kernel
theorem dX2_tell_63 : decode cX2_tell 63 = .ok (.goto 19, 3) := by decide +kernel
theorem dX2_tell_66 : decode cX2_tell 66 = .ok (.aload_n 0, 1) := by decide +kernel
theorem dX2_tell_67 : decode cX2_tell 67 = .ok (.dup, 1) := by decide +kernel
theorem dX2_tell_68 : decode cX2_tell 68 = .ok (.getfield 20, 3) := by decide +kernel
theorem dX2_tell_71 : decode cX2_tell 71 = .ok (.iconst 1, 1) := by decide +kernel
theorem dX2_tell_72 : decode cX2_tell 72 = .ok (.iadd, 1) := by decide +kernel
theorem dX2_tell_73 : decode cX2_tell 73 = .ok (.putfield 20, 3) := by decide +kernel
theorem dX2_tell_76 : decode cX2_tell 76 = .ok (.iinc 3 1, 3) := by decide +kernel
theorem dX2_tell_79 : decode cX2_tell 79 = .ok (.goto (-64), 3) := by decide +kernel
theorem dX2_tell_82 : decode cX2_tell 82 = .ok (.iconst (-1), 1) := by decide +kernel
theorem dX2_tell_83 : decode cX2_tell 83 = .ok (.aload_n 0, 1) := by decide +kernel
theorem dX2_tell_84 : decode cX2_tell 84 = .ok (.getfield 10, 3) := by decide +kernel
theorem dX2_tell_87 : decode cX2_tell 87 = .ok (.aload_n 0, 1) := by decide +kernel
theorem dX2_tell_88 : decode cX2_tell 88 = .ok (.getfield 20, 3) := by decide +kernel
theorem dX2_tell_91 : decode cX2_tell 91 = .ok (.invokevirtual 34, 3) := by decide +kernel
theorem dX2_tell_94 : decode cX2_tell 94 = .ok (.isub, 1) := by decide +kernel
theorem dX2_tell_95 : decode cX2_tell 95 = .ok (.ireturn, 1) := by decide +kernel
set_option maxRecDepth 20000 in
theorem ggX2_passItem_X2_passWord : GoodIn wsX2_passItem wsX2_passWord := goodIn_r _ [7, 1, 2, 8, 9, 10, 11, 12, 13, 14, 15, 67, 68, 69, 70, 71, 72, 73] (by decide +kernel) (by decide +kernel)
set_option maxRecDepth 20000 in
theorem gX2_passItem_X2_passWord : GoodIn wsX2_passItem (wsV RX2 37 RX2 yX2_passWord wsX2_passWord) := goodIn_app (goodIn_of _ (by decide +kernel)) ggX2_passItem_X2_passWord
set_option maxRecDepth 20000 in
theorem ggX2_passItem_X2_passSign : GoodIn wsX2_passItem wsX2_passSign := goodIn_r _ [19, 20, 21, 22, 6, 23, 1, 2, 8, 9, 10, 11, 12, 13, 14, 15, 24, 25, 26, 27, 28, 29, 30, 31, 32, 74, 75, 76, 77, 78, 79, 80, 67, 68, 69, 70, 71, 72, 73, 81] (by decide +kernel) (by decide +kernel)
set_option maxRecDepth 20000 in
theorem gX2_passItem_X2_passSign : GoodIn wsX2_passItem (wsV RX2 41 RX2 yX2_passSign wsX2_passSign) := goodIn_app (goodIn_of _ (by decide +kernel)) ggX2_passItem_X2_passSign
set_option maxRecDepth 20000 in
theorem ggX2_passItem_X2_passSun : GoodIn wsX2_passItem wsX2_passSun := goodIn_r _ [36, 20, 21, 22, 6, 23, 1, 2, 8, 9, 10, 11, 12, 13, 14, 15, 74, 75, 76, 77, 78, 79, 80, 67, 68, 69, 70, 71, 72, 73] (by decide +kernel) (by decide +kernel)
set_option maxRecDepth 20000 in
theorem gX2_passItem_X2_passSun : GoodIn wsX2_passItem (wsV RX2 44 RX2 yX2_passSun wsX2_passSun) := goodIn_app (goodIn_of _ (by decide +kernel)) ggX2_passItem_X2_passSun
set_option maxRecDepth 20000 in
theorem ggX2_passItem_X8_valueAt : GoodIn wsX2_passItem wsX8_valueAt := goodIn_r _ [12, 13, 14, 15, 69, 70, 71, 72, 73] (by decide +kernel) (by decide +kernel)
set_option maxRecDepth 20000 in
theorem gX2_passItem_X8_valueAt : GoodIn wsX2_passItem (wsV RX2 47 RX8 yX8_valueAt wsX8_valueAt) := goodIn_app (goodIn_of _ (by decide +kernel)) ggX2_passItem_X8_valueAt
set_option maxRecDepth 20000 in
theorem ggX2_passItem_X4_isKind : GoodIn wsX2_passItem wsX4_isKind := goodIn_r _ [40] (by decide +kernel) (by decide +kernel)
set_option maxRecDepth 20000 in
theorem gX2_passItem_X4_isKind : GoodIn wsX2_passItem (va_wsS RX2 51 yX4_isKind wsX4_isKind) := goodIn_app (goodIn_of _ (by decide +kernel)) ggX2_passItem_X4_isKind
set_option maxRecDepth 20000 in
theorem ggX2_passItem_X5_isFull : GoodIn wsX2_passItem wsX5_isFull := goodIn_r _ [45, 46, 74, 75, 76, 77, 78, 79, 80] (by decide +kernel) (by decide +kernel)
set_option maxRecDepth 20000 in
theorem gX2_passItem_X5_isFull : GoodIn wsX2_passItem (wsV RX2 56 RX5 yX5_isFull wsX5_isFull) := goodIn_app (goodIn_of _ (by decide +kernel)) ggX2_passItem_X5_isFull
set_option maxRecDepth 20000 in
theorem ggX2_passItem_X2_passLetter : GoodIn wsX2_passItem wsX2_passLetter := goodIn_r _ [50, 51, 52, 53, 6, 54, 3, 4, 5, 7, 1, 2, 8, 9, 10, 11, 12, 13, 14, 15, 20, 21, 22, 23, 55, 56, 57, 27, 58, 29, 30, 31, 32, 59, 60, 61, 44, 62, 63, 46, 64, 65, 66, 42, 43, 45, 74, 75, 76, 77, 78, 79, 80, 67, 68, 69, 70, 71, 72, 73, 81] (by decide +kernel) (by decide +kernel)
set_option maxRecDepth 20000 in
theorem gX2_passItem_X2_passLetter : GoodIn wsX2_passItem (wsV RX2 62 RX2 yX2_passLetter wsX2_passLetter) := goodIn_app (goodIn_of _ (by decide +kernel)) ggX2_passItem_X2_passLetter
theorem dX2_passItem_0 : decode cX2_passItem 0 = .ok (.aload_n 0, 1) := by decide +kernel
theorem dX2_passItem_1 : decode cX2_passItem 1 = .ok (.bipush 6, 2) := by decide +kernel
theorem dX2_passItem_3 : decode cX2_passItem 3 = .ok (.invokevirtual 37, 3) := by decide +kernel
theorem dX2_passItem_6 : decode cX2_passItem 6 = .ok (.ifCond .eq 9, 3) := by decide +kernel
theorem dX2_passItem_9 : decode cX2_passItem 9 = .ok (.aload_n 0, 1) := by decide +kernel
theorem dX2_passItem_10 : decode cX2_passItem 10 = .ok (.aload_n 1, 1) := by decide +kernel
theorem dX2_passItem_11 : decode cX2_passItem 11 = .ok (.invokevirtual 41, 3) := by decide +kernel
theorem dX2_passItem_14 : decode cX2_passItem 14 = .ok (.ireturn, 1) := by decide +kernel
theorem dX2_passItem_15 : decode cX2_passItem 15 = .ok (.aload_n 0, 1) := by decide +kernel
theorem dX2_passItem_16 : decode cX2_passItem 16 = .ok (.bipush 7, 2) := by decide +kernel
theorem dX2_passItem_18 : decode cX2_passItem 18 = .ok (.invokevirtual 37, 3) := by decide +kernel
theorem dX2_passItem_21 : decode cX2_passItem 21 = .ok (.ifCond .eq 9, 3) := by decide +kernel
theorem dX2_passItem_24 : decode cX2_passItem 24 = .ok (.aload_n 0, 1) := by decide +kernel
theorem dX2_passItem_25 : decode cX2_passItem 25 = .ok (.aload_n 1, 1) := by decide +kernel
theorem dX2_passItem_26 : decode cX2_passItem 26 = .ok (.invokevirtual 44, 3) := by decide +kernel
theorem dX2_passItem_29 : decode cX2_passItem 29 = .ok (.ireturn, 1) := by decide +kernel
theorem dX2_passItem_30 : decode cX2_passItem 30 = .ok (.aload_n 0, 1) := by decide +kernel
theorem dX2_passItem_31 : decode cX2_passItem 31 = .ok (.getfield 10, 3) := by decide +kernel
theorem dX2_passItem_34 : decode cX2_passItem 34 = .ok (.aload_n 0, 1) := by decide +kernel
theorem dX2_passItem_35 : decode cX2_passItem 35 = .ok (.getfield 20, 3) := by decide +kernel
theorem dX2_passItem_38 : decode cX2_passItem 38 = .ok (.iconst 1, 1) := by decide +kernel
theorem dX2_passItem_39 : decode cX2_passItem 39 = .ok (.invokevirtual 47, 3) := by decide +kernel
theorem dX2_passItem_42 : decode cX2_passItem 42 = .ok (.istore_n 2, 1) := by decide +kernel
theorem dX2_passItem_43 : decode cX2_passItem 43 = .ok (.iload_n 2, 1) := by decide +kernel
theorem dX2_passItem_44 : decode cX2_passItem 44 = .ok (.invokestatic 51, 3) := by decide +kernel
theorem dX2_passItem_47 : decode cX2_passItem 47 = .ok (.ifCond .eq 10, 3) := by decide +kernel
theorem dX2_passItem_50 : decode cX2_passItem 50 = .ok (.aload_n 1, 1) := by decide +kernel
theorem dX2_passItem_51 : decode cX2_passItem 51 = .ok (.invokevirtual 56, 3) := by decide +kernel
theorem dX2_passItem_54 : decode cX2_passItem 54 = .ok (.ifCond .eq 5, 3) := by decide +kernel
theorem dX2_passItem_57 : decode cX2_passItem 57 = .ok (.iconst 0, 1) := by decide +kernel
theorem dX2_passItem_58 : decode cX2_passItem 58 = .ok (.ireturn, 1) := by decide +kernel
theorem dX2_passItem_59 : decode cX2_passItem 59 = .ok (.aload_n 0, 1) := by decide +kernel
theorem dX2_passItem_60 : decode cX2_passItem 60 = .ok (.dup, 1) := by decide +kernel
theorem dX2_passItem_61 : decode cX2_passItem 61 = .ok (.getfield 20, 3) := by decide +kernel
theorem dX2_passItem_64 : decode cX2_passItem 64 = .ok (.iconst 1, 1) := by decide +kernel
theorem dX2_passItem_65 : decode cX2_passItem 65 = .ok (.iadd, 1) := by decide +kernel
theorem dX2_passItem_66 : decode cX2_passItem 66 = .ok (.putfield 20, 3) := by decide +kernel
theorem dX2_passItem_69 : decode cX2_passItem 69 = .ok (.aload_n 0, 1) := by decide +kernel
theorem dX2_passItem_70 : decode cX2_passItem 70 = .ok (.aload_n 1, 1) := by decide +kernel
theorem dX2_passItem_71 : decode cX2_passItem 71 = .ok (.iload_n 2, 1) := by decide +kernel
theorem dX2_passItem_72 : decode cX2_passItem 72 = .ok (.invokevirtual 62, 3) := by decide +kernel
theorem dX2_passItem_75 : decode cX2_passItem 75 = .ok (.ireturn, 1) := by decide +kernel
set_option maxRecDepth 20000 in
theorem ggX2_passSign_X2_passNumber : GoodIn wsX2_passSign wsX2_passNumber := goodIn_r _ [5, 6, 7, 8, 9, 10, 11, 12, 13, 14, 15, 32, 33, 34, 35, 36, 37, 38] (by decide +kernel) (by decide +kernel)
set_option maxRecDepth 20000 in
theorem gX2_passSign_X2_passNumber : GoodIn wsX2_passSign (wsV RX2 68 RX2 yX2_passNumber wsX2_passNumber) := goodIn_app (goodIn_of _ (by decide +kernel)) ggX2_passSign_X2_passNumber
set_option maxRecDepth 20000 in
theorem ggX2_passSign_X0_put : GoodIn wsX2_passSign wsX0_put := goodIn_r _ [20, 21, 22, 23, 19, 24, 39] (by decide +kernel) (by decide +kernel)
set_option maxRecDepth 20000 in
theorem gX2_passSign_X0_put : GoodIn wsX2_passSign (wsV RX2 77 RX0 yX0_put wsX0_put) := goodIn_app (goodIn_of _ (by decide +kernel)) ggX2_passSign_X0_put
theorem dX2_passSign_0 : decode cX2_passSign 0 = .ok (.aload_n 0, 1) := by decide +kernel
theorem dX2_passSign_1 : decode cX2_passSign 1 = .ok (.bipush 25, 2) := by decide +kernel
theorem dX2_passSign_3 : decode cX2_passSign 3 = .ok (.invokevirtual 68, 3) := by decide +kernel
theorem dX2_passSign_6 : decode cX2_passSign 6 = .ok (.istore_n 2, 1) := by decide +kernel
theorem dX2_passSign_7 : decode cX2_passSign 7 = .ok (.iload_n 2, 1) := by decide +kernel
theorem dX2_passSign_8 : decode cX2_passSign 8 = .ok (.ifCond .ge 5, 3) := by decide +kernel
theorem dX2_passSign_11 : decode cX2_passSign 11 = .ok (.iconst 0, 1) := by decide +kernel
theorem dX2_passSign_12 : decode cX2_passSign 12 = .ok (.ireturn, 1) := by decide +kernel
theorem dX2_passSign_13 : decode cX2_passSign 13 = .ok (.aload_n 0, 1) := by decide +kernel
theorem dX2_passSign_14 : decode cX2_passSign 14 = .ok (.sipush 4095, 3) := by decide +kernel
theorem dX2_passSign_17 : decode cX2_passSign 17 = .ok (.invokevirtual 68, 3) := by decide +kernel
theorem dX2_passSign_20 : decode cX2_passSign 20 = .ok (.istore_n 3, 1) := by decide +kernel
theorem dX2_passSign_21 : decode cX2_passSign 21 = .ok (.iload_n 3, 1) := by decide +kernel
theorem dX2_passSign_22 : decode cX2_passSign 22 = .ok (.ifCond .ge 5, 3) := by decide +kernel
theorem dX2_passSign_25 : decode cX2_passSign 25 = .ok (.iconst 0, 1) := by decide +kernel
theorem dX2_passSign_26 : decode cX2_passSign 26 = .ok (.ireturn, 1) := by decide +kernel
theorem dX2_passSign_27 : decode cX2_passSign 27 = .ok (.aload_n 1, 1) := by decide +kernel
theorem dX2_passSign_28 : decode cX2_passSign 28 = .ok (.getfield 73, 3) := by decide +kernel
theorem dX2_passSign_31 : decode cX2_passSign 31 = .ok (.iload_n 2, 1) := by decide +kernel
theorem dX2_passSign_32 : decode cX2_passSign 32 = .ok (.iload_n 3, 1) := by decide +kernel
theorem dX2_passSign_33 : decode cX2_passSign 33 = .ok (.invokevirtual 77, 3) := by decide +kernel
theorem dX2_passSign_36 : decode cX2_passSign 36 = .ok (.iconst 1, 1) := by decide +kernel
theorem dX2_passSign_37 : decode cX2_passSign 37 = .ok (.ireturn, 1) := by decide +kernel
set_option maxRecDepth 20000 in
theorem ggX2_passSun_X2_passNumber : GoodIn wsX2_passSun wsX2_passNumber := goodIn_r _ [5, 6, 7, 8, 9, 10, 11, 12, 13, 14, 15, 23, 24, 25, 26, 27, 28, 29] (by decide +kernel) (by decide +kernel)
set_option maxRecDepth 20000 in
theorem gX2_passSun_X2_passNumber : GoodIn wsX2_passSun (wsV RX2 68 RX2 yX2_passNumber wsX2_passNumber) := goodIn_app (goodIn_of _ (by decide +kernel)) ggX2_passSun_X2_passNumber
theorem dX2_passSun_0 : decode cX2_passSun 0 = .ok (.aload_n 0, 1) := by decide +kernel
theorem dX2_passSun_1 : decode cX2_passSun 1 = .ok (.sipush 4095, 3) := by decide +kernel
theorem dX2_passSun_4 : decode cX2_passSun 4 = .ok (.invokevirtual 68, 3) := by decide +kernel
theorem dX2_passSun_7 : decode cX2_passSun 7 = .ok (.istore_n 2, 1) := by decide +kernel
theorem dX2_passSun_8 : decode cX2_passSun 8 = .ok (.iload_n 2, 1) := by decide +kernel
theorem dX2_passSun_9 : decode cX2_passSun 9 = .ok (.ifCond .ge 5, 3) := by decide +kernel
theorem dX2_passSun_12 : decode cX2_passSun 12 = .ok (.iconst 0, 1) := by decide +kernel
theorem dX2_passSun_13 : decode cX2_passSun 13 = .ok (.ireturn, 1) := by decide +kernel
theorem dX2_passSun_14 : decode cX2_passSun 14 = .ok (.aload_n 1, 1) := by decide +kernel
theorem dX2_passSun_15 : decode cX2_passSun 15 = .ok (.iload_n 2, 1) := by decide +kernel
theorem dX2_passSun_16 : decode cX2_passSun 16 = .ok (.putfield 81, 3) := by decide +kernel
theorem dX2_passSun_19 : decode cX2_passSun 19 = .ok (.iconst 1, 1) := by decide +kernel
theorem dX2_passSun_20 : decode cX2_passSun 20 = .ok (.ireturn, 1) := by decide +kernel
set_option maxRecDepth 20000 in
theorem ggX2_passLetter_X2_passForm : GoodIn wsX2_passLetter wsX2_passForm := goodIn_r _ [5, 6, 7, 8, 4, 9, 10, 11, 12, 13, 14, 15, 16, 17, 18, 19, 20, 21, 22, 23, 24, 25, 26, 27, 28, 29, 30, 31, 32, 46, 47, 48, 49, 50, 51, 52, 53, 54, 55, 56, 57, 58, 59, 60] (by decide +kernel) (by decide +kernel)
set_option maxRecDepth 20000 in
theorem gX2_passLetter_X2_passForm : GoodIn wsX2_passLetter (wsV RX2 84 RX2 yX2_passForm wsX2_passForm) := goodIn_app (goodIn_of _ (by decide +kernel)) ggX2_passLetter_X2_passForm
set_option maxRecDepth 20000 in
theorem ggX2_passLetter_X2_passWord : GoodIn wsX2_passLetter wsX2_passWord := goodIn_r _ [9, 10, 11, 12, 13, 14, 15, 16, 17, 18, 19, 53, 54, 55, 56, 57, 58, 59] (by decide +kernel) (by decide +kernel)
set_option maxRecDepth 20000 in
theorem gX2_passLetter_X2_passWord : GoodIn wsX2_passLetter (wsV RX2 37 RX2 yX2_passWord wsX2_passWord) := goodIn_app (goodIn_of _ (by decide +kernel)) ggX2_passLetter_X2_passWord
set_option maxRecDepth 20000 in
theorem ggX2_passLetter_X2_passNumber : GoodIn wsX2_passLetter wsX2_passNumber := goodIn_r _ [23, 10, 11, 12, 13, 14, 15, 16, 17, 18, 19, 53, 54, 55, 56, 57, 58, 59] (by decide +kernel) (by decide +kernel)
set_option maxRecDepth 20000 in
theorem gX2_passLetter_X2_passNumber : GoodIn wsX2_passLetter (wsV RX2 68 RX2 yX2_passNumber wsX2_passNumber) := goodIn_app (goodIn_of _ (by decide +kernel)) ggX2_passLetter_X2_passNumber
set_option maxRecDepth 20000 in
theorem ggX2_passLetter_X5_add : GoodIn wsX2_passLetter wsX5_add := goodIn_r _ [37, 38, 39, 40, 41, 42, 43, 44, 36, 45, 46, 47, 48, 49, 50, 51, 52] (by decide +kernel) (by decide +kernel)
set_option maxRecDepth 20000 in
theorem gX2_passLetter_X5_add : GoodIn wsX2_passLetter (wsV RX2 88 RX5 yX5_add wsX5_add) := goodIn_app (goodIn_of _ (by decide +kernel)) ggX2_passLetter_X5_add
theorem dX2_passLetter_0 : decode cX2_passLetter 0 = .ok (.aload_n 0, 1) := by decide +kernel
theorem dX2_passLetter_1 : decode cX2_passLetter 1 = .ok (.aload_n 1, 1) := by decide +kernel
theorem dX2_passLetter_2 : decode cX2_passLetter 2 = .ok (.invokevirtual 84, 3) := by decide +kernel
theorem dX2_passLetter_5 : decode cX2_passLetter 5 = .ok (.istore_n 3, 1) := by decide +kernel
theorem dX2_passLetter_6 : decode cX2_passLetter 6 = .ok (.iload_n 3, 1) := by decide +kernel
theorem dX2_passLetter_7 : decode cX2_passLetter 7 = .ok (.ifCond .ge 5, 3) := by decide +kernel
theorem dX2_passLetter_10 : decode cX2_passLetter 10 = .ok (.iconst 0, 1) := by decide +kernel
theorem dX2_passLetter_11 : decode cX2_passLetter 11 = .ok (.ireturn, 1) := by decide +kernel
theorem dX2_passLetter_12 : decode cX2_passLetter 12 = .ok (.bipush 6, 2) := by decide +kernel
theorem dX2_passLetter_14 : decode cX2_passLetter 14 = .ok (.istore 4, 2) := by decide +kernel
theorem dX2_passLetter_16 : decode cX2_passLetter 16 = .ok (.aload_n 0, 1) := by decide +kernel
theorem dX2_passLetter_17 : decode cX2_passLetter 17 = .ok (.bipush 10, 2) := by decide +kernel
theorem dX2_passLetter_19 : decode cX2_passLetter 19 = .ok (.invokevirtual 37, 3) := by decide +kernel
theorem dX2_passLetter_22 : decode cX2_passLetter 22 = .ok (.ifCond .eq 11, 3) := by decide +kernel
theorem dX2_passLetter_25 : decode cX2_passLetter 25 = .ok (.aload_n 0, 1) := by decide +kernel
theorem dX2_passLetter_26 : decode cX2_passLetter 26 = .ok (.bipush 99, 2) := by decide +kernel
theorem dX2_passLetter_28 : decode cX2_passLetter 28 = .ok (.invokevirtual 68, 3) := by decide +kernel
theorem dX2_passLetter_31 : decode cX2_passLetter 31 = .ok (.istore 4, 2) := by decide +kernel
theorem dX2_passLetter_33 : decode cX2_passLetter 33 = .ok (.iload 4, 2) := by decide +kernel
theorem dX2_passLetter_35 : decode cX2_passLetter 35 = .ok (.ifCond .ge 5, 3) := by decide +kernel
theorem dX2_passLetter_38 : decode cX2_passLetter 38 = .ok (.iconst 0, 1) := by decide +kernel
theorem dX2_passLetter_39 : decode cX2_passLetter 39 = .ok (.ireturn, 1) := by decide +kernel
theorem dX2_passLetter_40 : decode cX2_passLetter 40 = .ok (.aload_n 1, 1) := by decide +kernel
theorem dX2_passLetter_41 : decode cX2_passLetter 41 = .ok (.iload_n 2, 1) := by decide +kernel
theorem dX2_passLetter_42 : decode cX2_passLetter 42 = .ok (.iload_n 3, 1) := by decide +kernel
theorem dX2_passLetter_43 : decode cX2_passLetter 43 = .ok (.iload 4, 2) := by decide +kernel
theorem dX2_passLetter_45 : decode cX2_passLetter 45 = .ok (.invokevirtual 88, 3) := by decide +kernel
theorem dX2_passLetter_48 : decode cX2_passLetter 48 = .ok (.pop, 1) := by decide +kernel
theorem dX2_passLetter_49 : decode cX2_passLetter 49 = .ok (.iconst 1, 1) := by decide +kernel
theorem dX2_passLetter_50 : decode cX2_passLetter 50 = .ok (.ireturn, 1) := by decide +kernel
set_option maxRecDepth 20000 in
theorem ggX2_passForm_X2_passWord : GoodIn wsX2_passForm wsX2_passWord := goodIn_r _ [5, 6, 7, 8, 9, 10, 11, 12, 13, 14, 15, 36, 37, 38, 39, 40, 41, 42] (by decide +kernel) (by decide +kernel)
set_option maxRecDepth 20000 in
theorem gX2_passForm_X2_passWord : GoodIn wsX2_passForm (wsV RX2 37 RX2 yX2_passWord wsX2_passWord) := goodIn_app (goodIn_of _ (by decide +kernel)) ggX2_passForm_X2_passWord
set_option maxRecDepth 20000 in
theorem ggX2_passForm_X2_passNumber : GoodIn wsX2_passForm wsX2_passNumber := goodIn_r _ [19, 6, 7, 8, 9, 10, 11, 12, 13, 14, 15, 36, 37, 38, 39, 40, 41, 42] (by decide +kernel) (by decide +kernel)
set_option maxRecDepth 20000 in
theorem gX2_passForm_X2_passNumber : GoodIn wsX2_passForm (wsV RX2 68 RX2 yX2_passNumber wsX2_passNumber) := goodIn_app (goodIn_of _ (by decide +kernel)) ggX2_passForm_X2_passNumber
set_option maxRecDepth 20000 in
theorem ggX2_passForm_X0_formAt : GoodIn wsX2_passForm wsX0_formAt := goodIn_r _ [24, 25, 26, 27, 23, 28, 43] (by decide +kernel) (by decide +kernel)
set_option maxRecDepth 20000 in
theorem gX2_passForm_X0_formAt : GoodIn wsX2_passForm (wsV RX2 92 RX0 yX0_formAt wsX0_formAt) := goodIn_app (goodIn_of _ (by decide +kernel)) ggX2_passForm_X0_formAt
theorem dX2_passForm_0 : decode cX2_passForm 0 = .ok (.aload_n 0, 1) := by decide +kernel
theorem dX2_passForm_1 : decode cX2_passForm 1 = .ok (.bipush 8, 2) := by decide +kernel
theorem dX2_passForm_3 : decode cX2_passForm 3 = .ok (.invokevirtual 37, 3) := by decide +kernel
theorem dX2_passForm_6 : decode cX2_passForm 6 = .ok (.ifCond .eq 11, 3) := by decide +kernel
theorem dX2_passForm_9 : decode cX2_passForm 9 = .ok (.aload_n 0, 1) := by decide +kernel
theorem dX2_passForm_10 : decode cX2_passForm 10 = .ok (.sipush 4095, 3) := by decide +kernel
theorem dX2_passForm_13 : decode cX2_passForm 13 = .ok (.invokevirtual 68, 3) := by decide +kernel
theorem dX2_passForm_16 : decode cX2_passForm 16 = .ok (.ireturn, 1) := by decide +kernel
theorem dX2_passForm_17 : decode cX2_passForm 17 = .ok (.aload_n 0, 1) := by decide +kernel
theorem dX2_passForm_18 : decode cX2_passForm 18 = .ok (.bipush 9, 2) := by decide +kernel
theorem dX2_passForm_20 : decode cX2_passForm 20 = .ok (.invokevirtual 37, 3) := by decide +kernel
theorem dX2_passForm_23 : decode cX2_passForm 23 = .ok (.ifCond .ne 5, 3) := by decide +kernel
theorem dX2_passForm_26 : decode cX2_passForm 26 = .ok (.iconst (-1), 1) := by decide +kernel
theorem dX2_passForm_27 : decode cX2_passForm 27 = .ok (.ireturn, 1) := by decide +kernel
theorem dX2_passForm_28 : decode cX2_passForm 28 = .ok (.aload_n 0, 1) := by decide +kernel
theorem dX2_passForm_29 : decode cX2_passForm 29 = .ok (.bipush 25, 2) := by decide +kernel
theorem dX2_passForm_31 : decode cX2_passForm 31 = .ok (.invokevirtual 68, 3) := by decide +kernel
theorem dX2_passForm_34 : decode cX2_passForm 34 = .ok (.istore_n 2, 1) := by decide +kernel
theorem dX2_passForm_35 : decode cX2_passForm 35 = .ok (.iload_n 2, 1) := by decide +kernel
theorem dX2_passForm_36 : decode cX2_passForm 36 = .ok (.ifCond .ge 7, 3) := by decide +kernel
theorem dX2_passForm_39 : decode cX2_passForm 39 = .ok (.iconst (-1), 1) := by decide +kernel
theorem dX2_passForm_40 : decode cX2_passForm 40 = .ok (.goto 11, 3) := by decide +kernel
theorem dX2_passForm_43 : decode cX2_passForm 43 = .ok (.aload_n 1, 1) := by decide +kernel
theorem dX2_passForm_44 : decode cX2_passForm 44 = .ok (.getfield 73, 3) := by decide +kernel
theorem dX2_passForm_47 : decode cX2_passForm 47 = .ok (.iload_n 2, 1) := by decide +kernel
theorem dX2_passForm_48 : decode cX2_passForm 48 = .ok (.invokevirtual 92, 3) := by decide +kernel
theorem dX2_passForm_51 : decode cX2_passForm 51 = .ok (.ireturn, 1) := by decide +kernel
set_option maxRecDepth 20000 in
theorem ggX2_passWord_X8_valueAt : GoodIn wsX2_passWord wsX8_valueAt := goodIn_r _ [7, 8, 9, 10, 13, 14, 15, 16, 17] (by decide +kernel) (by decide +kernel)
set_option maxRecDepth 20000 in
theorem gX2_passWord_X8_valueAt : GoodIn wsX2_passWord (wsV RX2 47 RX8 yX8_valueAt wsX8_valueAt) := goodIn_app (goodIn_of _ (by decide +kernel)) ggX2_passWord_X8_valueAt
theorem dX2_passWord_0 : decode cX2_passWord 0 = .ok (.aload_n 0, 1) := by decide +kernel
theorem dX2_passWord_1 : decode cX2_passWord 1 = .ok (.getfield 10, 3) := by decide +kernel
theorem dX2_passWord_4 : decode cX2_passWord 4 = .ok (.aload_n 0, 1) := by decide +kernel
theorem dX2_passWord_5 : decode cX2_passWord 5 = .ok (.getfield 20, 3) := by decide +kernel
theorem dX2_passWord_8 : decode cX2_passWord 8 = .ok (.iconst 1, 1) := by decide +kernel
theorem dX2_passWord_9 : decode cX2_passWord 9 = .ok (.invokevirtual 47, 3) := by decide +kernel
theorem dX2_passWord_12 : decode cX2_passWord 12 = .ok (.iload_n 1, 1) := by decide +kernel
theorem dX2_passWord_13 : decode cX2_passWord 13 = .ok (.if_icmp .eq 5, 3) := by decide +kernel
theorem dX2_passWord_16 : decode cX2_passWord 16 = .ok (.iconst 0, 1) := by decide +kernel
theorem dX2_passWord_17 : decode cX2_passWord 17 = .ok (.ireturn, 1) := by decide +kernel
theorem dX2_passWord_18 : decode cX2_passWord 18 = .ok (.aload_n 0, 1) := by decide +kernel
theorem dX2_passWord_19 : decode cX2_passWord 19 = .ok (.dup, 1) := by decide +kernel
theorem dX2_passWord_20 : decode cX2_passWord 20 = .ok (.getfield 20, 3) := by decide +kernel
theorem dX2_passWord_23 : decode cX2_passWord 23 = .ok (.iconst 1, 1) := by decide +kernel
theorem dX2_passWord_24 : decode cX2_passWord 24 = .ok (.iadd, 1) := by decide +kernel
theorem dX2_passWord_25 : decode cX2_passWord 25 = .ok (.putfield 20, 3) := by decide +kernel
theorem dX2_passWord_28 : decode cX2_passWord 28 = .ok (.iconst 1, 1) := by decide +kernel
theorem dX2_passWord_29 : decode cX2_passWord 29 = .ok (.ireturn, 1) := by decide +kernel
set_option maxRecDepth 20000 in
theorem ggX2_passNumber_X8_valueAt : GoodIn wsX2_passNumber wsX8_valueAt := goodIn_r _ [7, 8, 9, 10, 13, 14, 15, 16, 17] (by decide +kernel) (by decide +kernel)
set_option maxRecDepth 20000 in
theorem gX2_passNumber_X8_valueAt : GoodIn wsX2_passNumber (wsV RX2 47 RX8 yX8_valueAt wsX8_valueAt) := goodIn_app (goodIn_of _ (by decide +kernel)) ggX2_passNumber_X8_valueAt
theorem dX2_passNumber_0 : decode cX2_passNumber 0 = .ok (.aload_n 0, 1) := by decide +kernel
theorem dX2_passNumber_1 : decode cX2_passNumber 1 = .ok (.getfield 10, 3) := by decide +kernel
theorem dX2_passNumber_4 : decode cX2_passNumber 4 = .ok (.aload_n 0, 1) := by decide +kernel
theorem dX2_passNumber_5 : decode cX2_passNumber 5 = .ok (.getfield 20, 3) := by decide +kernel
theorem dX2_passNumber_8 : decode cX2_passNumber 8 = .ok (.iconst 2, 1) := by decide +kernel
theorem dX2_passNumber_9 : decode cX2_passNumber 9 = .ok (.invokevirtual 47, 3) := by decide +kernel
theorem dX2_passNumber_12 : decode cX2_passNumber 12 = .ok (.istore_n 2, 1) := by decide +kernel
theorem dX2_passNumber_13 : decode cX2_passNumber 13 = .ok (.iload_n 2, 1) := by decide +kernel
theorem dX2_passNumber_14 : decode cX2_passNumber 14 = .ok (.ifCond .lt 8, 3) := by decide +kernel
theorem dX2_passNumber_17 : decode cX2_passNumber 17 = .ok (.iload_n 2, 1) := by decide +kernel
theorem dX2_passNumber_18 : decode cX2_passNumber 18 = .ok (.iload_n 1, 1) := by decide +kernel
theorem dX2_passNumber_19 : decode cX2_passNumber 19 = .ok (.if_icmp .le 5, 3) := by decide +kernel
theorem dX2_passNumber_22 : decode cX2_passNumber 22 = .ok (.iconst (-1), 1) := by decide +kernel
theorem dX2_passNumber_23 : decode cX2_passNumber 23 = .ok (.ireturn, 1) := by decide +kernel
theorem dX2_passNumber_24 : decode cX2_passNumber 24 = .ok (.aload_n 0, 1) := by decide +kernel
theorem dX2_passNumber_25 : decode cX2_passNumber 25 = .ok (.dup, 1) := by decide +kernel
theorem dX2_passNumber_26 : decode cX2_passNumber 26 = .ok (.getfield 20, 3) := by decide +kernel
theorem dX2_passNumber_29 : decode cX2_passNumber 29 = .ok (.iconst 1, 1) := by decide +kernel
theorem dX2_passNumber_30 : decode cX2_passNumber 30 = .ok (.iadd, 1) := by decide +kernel
theorem dX2_passNumber_31 : decode cX2_passNumber 31 = .ok (.putfield 20, 3) := by decide +kernel
theorem dX2_passNumber_34 : decode cX2_passNumber 34 = .ok (.iload_n 2, 1) := by decide +kernel
theorem dX2_passNumber_35 : decode cX2_passNumber 35 = .ok (.ireturn, 1) := by decide +kernel
theorem dX3_isForm_0 : decode cX3_isForm 0 = .ok (.iload_n 0, 1) := by decide +kernel
theorem dX3_isForm_1 : decode cX3_isForm 1 = .ok (.ifCond .lt 14, 3) := by decide +kernel
theorem dX3_isForm_4 : decode cX3_isForm 4 = .ok (.iload_n 0, 1) := by decide +kernel
theorem dX3_isForm_5 : decode cX3_isForm 5 = .ok (.sipush 4095, 3) := by decide +kernel
theorem dX3_isForm_8 : decode cX3_isForm 8 = .ok (.if_icmp .gt 7, 3) := by decide +kernel
theorem dX3_isForm_11 : decode cX3_isForm 11 = .ok (.iconst 1, 1) := by decide +kernel
theorem dX3_isForm_12 : decode cX3_isForm 12 = .ok (.goto 4, 3) := by decide +kernel
theorem dX3_isForm_15 : decode cX3_isForm 15 = .ok (.iconst 0, 1) := by decide +kernel
theorem dX3_isForm_16 : decode cX3_isForm 16 = .ok (.ireturn, 1) := by decide +kernel
theorem dX3_isPoint_0 : decode cX3_isPoint 0 = .ok (.lload_n 0, 1) := by decide +kernel
theorem dX3_isPoint_1 : decode cX3_isPoint 1 = .ok (.lconst 0, 1) := by decide +kernel
theorem dX3_isPoint_2 : decode cX3_isPoint 2 = .ok (.lcmp, 1) := by decide +kernel
theorem dX3_isPoint_3 : decode cX3_isPoint 3 = .ok (.ifCond .lt 15, 3) := by decide +kernel
theorem dX3_isPoint_6 : decode cX3_isPoint 6 = .ok (.lload_n 0, 1) := by decide +kernel
theorem dX3_isPoint_7 : decode cX3_isPoint 7 = .ok (.ldc2_w 9, 3) := by decide +kernel
theorem dX3_isPoint_10 : decode cX3_isPoint 10 = .ok (.lcmp, 1) := by decide +kernel
theorem dX3_isPoint_11 : decode cX3_isPoint 11 = .ok (.ifCond .ge 7, 3) := by decide +kernel
theorem dX3_isPoint_14 : decode cX3_isPoint 14 = .ok (.iconst 1, 1) := by decide +kernel
theorem dX3_isPoint_15 : decode cX3_isPoint 15 = .ok (.goto 4, 3) := by decide +kernel
theorem dX3_isPoint_18 : decode cX3_isPoint 18 = .ok (.iconst 0, 1) := by decide +kernel
theorem dX3_isPoint_19 : decode cX3_isPoint 19 = .ok (.ireturn, 1) := by decide +kernel
theorem dX3_hasStroke_0 : decode cX3_hasStroke 0 = .ok (.iload_n 0, 1) := by decide +kernel
theorem dX3_hasStroke_1 : decode cX3_hasStroke 1 = .ok (.iload_n 1, 1) := by decide +kernel
theorem dX3_hasStroke_2 : decode cX3_hasStroke 2 = .ok (.ishr, 1) := by decide +kernel
theorem dX3_hasStroke_3 : decode cX3_hasStroke 3 = .ok (.iconst 1, 1) := by decide +kernel
theorem dX3_hasStroke_4 : decode cX3_hasStroke 4 = .ok (.iand, 1) := by decide +kernel
theorem dX3_hasStroke_5 : decode cX3_hasStroke 5 = .ok (.ifCond .eq 7, 3) := by decide +kernel
theorem dX3_hasStroke_8 : decode cX3_hasStroke 8 = .ok (.iconst 1, 1) := by decide +kernel
theorem dX3_hasStroke_9 : decode cX3_hasStroke 9 = .ok (.goto 4, 3) := by decide +kernel
theorem dX3_hasStroke_12 : decode cX3_hasStroke 12 = .ok (.iconst 0, 1) := by decide +kernel
theorem dX3_hasStroke_13 : decode cX3_hasStroke 13 = .ok (.ireturn, 1) := by decide +kernel
theorem dX3_across_0 : decode cX3_across 0 = .ok (.iload_n 0, 1) := by decide +kernel
theorem dX3_across_1 : decode cX3_across 1 = .ok (.ifCond .lt 9, 3) := by decide +kernel
theorem dX3_across_4 : decode cX3_across 4 = .ok (.iload_n 0, 1) := by decide +kernel
theorem dX3_across_5 : decode cX3_across 5 = .ok (.bipush 12, 2) := by decide +kernel
theorem dX3_across_7 : decode cX3_across 7 = .ok (.if_icmp .lt 5, 3) := by decide +kernel
theorem dX3_across_10 : decode cX3_across 10 = .ok (.iconst (-1), 1) := by decide +kernel
theorem dX3_across_11 : decode cX3_across 11 = .ok (.ireturn, 1) := by decide +kernel
theorem dX3_across_12 : decode cX3_across 12 = .ok (.getstatic 11, 3) := by decide +kernel
theorem dX3_across_15 : decode cX3_across 15 = .ok (.iload_n 0, 1) := by decide +kernel
theorem dX3_across_16 : decode cX3_across 16 = .ok (.iaload, 1) := by decide +kernel
theorem dX3_across_17 : decode cX3_across 17 = .ok (.iload_n 1, 1) := by decide +kernel
theorem dX3_across_18 : decode cX3_across 18 = .ok (.if_icmp .ne 9, 3) := by decide +kernel
theorem dX3_across_21 : decode cX3_across 21 = .ok (.getstatic 15, 3) := by decide +kernel
theorem dX3_across_24 : decode cX3_across 24 = .ok (.iload_n 0, 1) := by decide +kernel
theorem dX3_across_25 : decode cX3_across 25 = .ok (.iaload, 1) := by decide +kernel
theorem dX3_across_26 : decode cX3_across 26 = .ok (.ireturn, 1) := by decide +kernel
theorem dX3_across_27 : decode cX3_across 27 = .ok (.getstatic 15, 3) := by decide +kernel
theorem dX3_across_30 : decode cX3_across 30 = .ok (.iload_n 0, 1) := by decide +kernel
theorem dX3_across_31 : decode cX3_across 31 = .ok (.iaload, 1) := by decide +kernel
theorem dX3_across_32 : decode cX3_across 32 = .ok (.iload_n 1, 1) := by decide +kernel
theorem dX3_across_33 : decode cX3_across 33 = .ok (.if_icmp .ne 11, 3) := by decide +kernel
theorem dX3_across_36 : decode cX3_across 36 = .ok (.getstatic 11, 3) := by decide +kernel
theorem dX3_across_39 : decode cX3_across 39 = .ok (.iload_n 0, 1) := by decide +kernel
theorem dX3_across_40 : decode cX3_across 40 = .ok (.iaload, 1) := by decide +kernel
theorem dX3_across_41 : decode cX3_across 41 = .ok (.goto 4, 3) := by decide +kernel
theorem dX3_across_44 : decode cX3_across 44 = .ok (.iconst (-1), 1) := by decide +kernel
theorem dX3_across_45 : decode cX3_across 45 = .ok (.ireturn, 1) := by decide +kernel
theorem dX3_oddPoints_0 : decode cX3_oddPoints 0 = .ok (.iconst 0, 1) := by decide +kernel
theorem dX3_oddPoints_1 : decode cX3_oddPoints 1 = .ok (.istore_n 1, 1) := by decide +kernel
theorem dX3_oddPoints_2 : decode cX3_oddPoints 2 = .ok (.iconst 0, 1) := by decide +kernel
theorem dX3_oddPoints_3 : decode cX3_oddPoints 3 = .ok (.istore_n 2, 1) := by decide +kernel
theorem dX3_oddPoints_4 : decode cX3_oddPoints 4 = .ok (.iload_n 2, 1) := by decide +kernel
theorem dX3_oddPoints_5 : decode cX3_oddPoints 5 = .ok (.bipush 12, 2) := by decide +kernel
theorem dX3_oddPoints_7 : decode cX3_oddPoints 7 = .ok (.if_icmp .ge 25, 3) := by decide +kernel
theorem dX3_oddPoints_10 : decode cX3_oddPoints 10 = .ok (.iload_n 0, 1) := by decide +kernel
theorem dX3_oddPoints_11 : decode cX3_oddPoints 11 = .ok (.iload_n 2, 1) := by decide +kernel
theorem dX3_oddPoints_12 : decode cX3_oddPoints 12 = .ok (.ishr, 1) := by decide +kernel
theorem dX3_oddPoints_13 : decode cX3_oddPoints 13 = .ok (.iconst 1, 1) := by decide +kernel
theorem dX3_oddPoints_14 : decode cX3_oddPoints 14 = .ok (.iand, 1) := by decide +kernel
theorem dX3_oddPoints_15 : decode cX3_oddPoints 15 = .ok (.ifCond .eq 11, 3) := by decide +kernel
theorem dX3_oddPoints_18 : decode cX3_oddPoints 18 = .ok (.iload_n 1, 1) := by decide +kernel
theorem dX3_oddPoints_19 : decode cX3_oddPoints 19 = .ok (.getstatic 18, 3) := by decide +kernel
theorem dX3_oddPoints_22 : decode cX3_oddPoints 22 = .ok (.iload_n 2, 1) := by decide +kernel
theorem dX3_oddPoints_23 : decode cX3_oddPoints 23 = .ok (.iaload, 1) := by decide +kernel
theorem dX3_oddPoints_24 : decode cX3_oddPoints 24 = .ok (.ixor, 1) := by decide +kernel
theorem dX3_oddPoints_25 : decode cX3_oddPoints 25 = .ok (.istore_n 1, 1) := by decide +kernel
theorem dX3_oddPoints_26 : decode cX3_oddPoints 26 = .ok (.iinc 2 1, 3) := by decide +kernel
theorem dX3_oddPoints_29 : decode cX3_oddPoints 29 = .ok (.goto (-25), 3) := by decide +kernel
theorem dX3_oddPoints_32 : decode cX3_oddPoints 32 = .ok (.iload_n 1, 1) := by decide +kernel
theorem dX3_oddPoints_33 : decode cX3_oddPoints 33 = .ok (.ireturn, 1) := by decide +kernel
theorem dX3_firstPiece_0 : decode cX3_firstPiece 0 = .ok (.iload_n 0, 1) := by decide +kernel
theorem dX3_firstPiece_1 : decode cX3_firstPiece 1 = .ok (.iload_n 0, 1) := by decide +kernel
theorem dX3_firstPiece_2 : decode cX3_firstPiece 2 = .ok (.ineg, 1) := by decide +kernel
theorem dX3_firstPiece_3 : decode cX3_firstPiece 3 = .ok (.iand, 1) := by decide +kernel
theorem dX3_firstPiece_4 : decode cX3_firstPiece 4 = .ok (.istore_n 1, 1) := by decide +kernel
theorem dX3_firstPiece_5 : decode cX3_firstPiece 5 = .ok (.iconst 0, 1) := by decide +kernel
theorem dX3_firstPiece_6 : decode cX3_firstPiece 6 = .ok (.istore_n 2, 1) := by decide +kernel
theorem dX3_firstPiece_7 : decode cX3_firstPiece 7 = .ok (.iconst 0, 1) := by decide +kernel
theorem dX3_firstPiece_8 : decode cX3_firstPiece 8 = .ok (.istore_n 3, 1) := by decide +kernel
theorem dX3_firstPiece_9 : decode cX3_firstPiece 9 = .ok (.iload_n 3, 1) := by decide +kernel
theorem dX3_firstPiece_10 : decode cX3_firstPiece 10 = .ok (.bipush 12, 2) := by decide +kernel
theorem dX3_firstPiece_12 : decode cX3_firstPiece 12 = .ok (.if_icmp .ge 94, 3) := by decide +kernel
theorem dX3_firstPiece_15 : decode cX3_firstPiece 15 = .ok (.iload_n 2, 1) := by decide +kernel
theorem dX3_firstPiece_16 : decode cX3_firstPiece 16 = .ok (.istore 4, 2) := by decide +kernel
theorem dX3_firstPiece_18 : decode cX3_firstPiece 18 = .ok (.iconst 0, 1) := by decide +kernel
theorem dX3_firstPiece_19 : decode cX3_firstPiece 19 = .ok (.istore 5, 2) := by decide +kernel
theorem dX3_firstPiece_21 : decode cX3_firstPiece 21 = .ok (.iload 5, 2) := by decide +kernel
theorem dX3_firstPiece_23 : decode cX3_firstPiece 23 = .ok (.bipush 12, 2) := by decide +kernel
theorem dX3_firstPiece_25 : decode cX3_firstPiece 25 = .ok (.if_icmp .ge 66, 3) := by decide +kernel
theorem dX3_firstPiece_28 : decode cX3_firstPiece 28 = .ok (.iconst 1, 1) := by decide +kernel
theorem dX3_firstPiece_29 : decode cX3_firstPiece 29 = .ok (.iload 5, 2) := by decide +kernel
theorem dX3_firstPiece_31 : decode cX3_firstPiece 31 = .ok (.ishl, 1) := by decide +kernel
theorem dX3_firstPiece_32 : decode cX3_firstPiece 32 = .ok (.istore 6, 2) := by decide +kernel
theorem dX3_firstPiece_34 : decode cX3_firstPiece 34 = .ok (.iload_n 1, 1) := by decide +kernel
theorem dX3_firstPiece_35 : decode cX3_firstPiece 35 = .ok (.iload 6, 2) := by decide +kernel
theorem dX3_firstPiece_37 : decode cX3_firstPiece 37 = .ok (.iand, 1) := by decide +kernel
theorem dX3_firstPiece_38 : decode cX3_firstPiece 38 = .ok (.ifCond .ne 14, 3) := by decide +kernel
theorem dX3_firstPiece_41 : decode cX3_firstPiece 41 = .ok (.iload_n 2, 1) := by decide +kernel
theorem dX3_firstPiece_42 : decode cX3_firstPiece 42 = .ok (.getstatic 18, 3) := by decide +kernel
theorem dX3_firstPiece_45 : decode cX3_firstPiece 45 = .ok (.iload 5, 2) := by decide +kernel
theorem dX3_firstPiece_47 : decode cX3_firstPiece 47 = .ok (.iaload, 1) := by decide +kernel
theorem dX3_firstPiece_48 : decode cX3_firstPiece 48 = .ok (.iand, 1) := by decide +kernel
theorem dX3_firstPiece_49 : decode cX3_firstPiece 49 = .ok (.ifCond .eq 7, 3) := by decide +kernel
theorem dX3_firstPiece_52 : decode cX3_firstPiece 52 = .ok (.iconst 1, 1) := by decide +kernel
theorem dX3_firstPiece_53 : decode cX3_firstPiece 53 = .ok (.goto 4, 3) := by decide +kernel
theorem dX3_firstPiece_56 : decode cX3_firstPiece 56 = .ok (.iconst 0, 1) := by decide +kernel
theorem dX3_firstPiece_57 : decode cX3_firstPiece 57 = .ok (.istore 7, 2) := by decide +kernel
theorem dX3_firstPiece_59 : decode cX3_firstPiece 59 = .ok (.iload 7, 2) := by decide +kernel
theorem dX3_firstPiece_61 : decode cX3_firstPiece 61 = .ok (.ifCond .eq 24, 3) := by decide +kernel
theorem dX3_firstPiece_64 : decode cX3_firstPiece 64 = .ok (.iload_n 0, 1) := by decide +kernel
theorem dX3_firstPiece_65 : decode cX3_firstPiece 65 = .ok (.iload 6, 2) := by decide +kernel
theorem dX3_firstPiece_67 : decode cX3_firstPiece 67 = .ok (.iand, 1) := by decide +kernel
theorem dX3_firstPiece_68 : decode cX3_firstPiece 68 = .ok (.ifCond .eq 17, 3) := by decide +kernel
theorem dX3_firstPiece_71 : decode cX3_firstPiece 71 = .ok (.iload_n 1, 1) := by decide +kernel
theorem dX3_firstPiece_72 : decode cX3_firstPiece 72 = .ok (.iload 6, 2) := by decide +kernel
theorem dX3_firstPiece_74 : decode cX3_firstPiece 74 = .ok (.ior, 1) := by decide +kernel
theorem dX3_firstPiece_75 : decode cX3_firstPiece 75 = .ok (.istore_n 1, 1) := by decide +kernel
theorem dX3_firstPiece_76 : decode cX3_firstPiece 76 = .ok (.iload_n 2, 1) := by decide +kernel
theorem dX3_firstPiece_77 : decode cX3_firstPiece 77 = .ok (.getstatic 18, 3) := by decide +kernel
theorem dX3_firstPiece_80 : decode cX3_firstPiece 80 = .ok (.iload 5, 2) := by decide +kernel
theorem dX3_firstPiece_82 : decode cX3_firstPiece 82 = .ok (.iaload, 1) := by decide +kernel
theorem dX3_firstPiece_83 : decode cX3_firstPiece 83 = .ok (.ior, 1) := by decide +kernel
theorem dX3_firstPiece_84 : decode cX3_firstPiece 84 = .ok (.istore_n 2, 1) := by decide +kernel
theorem dX3_firstPiece_85 : decode cX3_firstPiece 85 = .ok (.iinc 5 1, 3) := by decide +kernel
theorem dX3_firstPiece_88 : decode cX3_firstPiece 88 = .ok (.goto (-67), 3) := by decide +kernel
theorem dX3_firstPiece_91 : decode cX3_firstPiece 91 = .ok (.iload_n 2, 1) := by decide +kernel
theorem dX3_firstPiece_92 : decode cX3_firstPiece 92 = .ok (.iload 4, 2) := by decide +kernel
theorem dX3_firstPiece_94 : decode cX3_firstPiece 94 = .ok (.if_icmp .ne 6, 3) := by decide +kernel
theorem dX3_firstPiece_97 : decode cX3_firstPiece 97 = .ok (.goto 9, 3) := by decide +kernel
theorem dX3_firstPiece_100 : decode cX3_firstPiece 100 = .ok (.iinc 3 1, 3) := by decide +kernel
theorem dX3_firstPiece_103 : decode cX3_firstPiece 103 = .ok (.goto (-94), 3) := by decide +kernel
theorem dX3_firstPiece_106 : decode cX3_firstPiece 106 = .ok (.iload_n 1, 1) := by decide +kernel
theorem dX3_firstPiece_107 : decode cX3_firstPiece 107 = .ok (.ireturn, 1) := by decide +kernel
set_option maxRecDepth 20000 in
theorem ggX3_countPieces_X3_firstPiece : GoodIn wsX3_countPieces wsX3_firstPiece := goodIn_r _ [4, 5] (by decide +kernel) (by decide +kernel)
set_option maxRecDepth 20000 in
theorem gX3_countPieces_X3_firstPiece : GoodIn wsX3_countPieces (va_wsS RX3 21 yX3_firstPiece wsX3_firstPiece) := goodIn_app (goodIn_of _ (by decide +kernel)) ggX3_countPieces_X3_firstPiece
theorem dX3_countPieces_0 : decode cX3_countPieces 0 = .ok (.iconst 0, 1) := by decide +kernel
theorem dX3_countPieces_1 : decode cX3_countPieces 1 = .ok (.istore_n 1, 1) := by decide +kernel
theorem dX3_countPieces_2 : decode cX3_countPieces 2 = .ok (.iload_n 0, 1) := by decide +kernel
theorem dX3_countPieces_3 : decode cX3_countPieces 3 = .ok (.istore_n 2, 1) := by decide +kernel
theorem dX3_countPieces_4 : decode cX3_countPieces 4 = .ok (.iconst 0, 1) := by decide +kernel
theorem dX3_countPieces_5 : decode cX3_countPieces 5 = .ok (.istore_n 3, 1) := by decide +kernel
theorem dX3_countPieces_6 : decode cX3_countPieces 6 = .ok (.iload_n 3, 1) := by decide +kernel
theorem dX3_countPieces_7 : decode cX3_countPieces 7 = .ok (.bipush 12, 2) := by decide +kernel
theorem dX3_countPieces_9 : decode cX3_countPieces 9 = .ok (.if_icmp .ge 25, 3) := by decide +kernel
theorem dX3_countPieces_12 : decode cX3_countPieces 12 = .ok (.iload_n 2, 1) := by decide +kernel
theorem dX3_countPieces_13 : decode cX3_countPieces 13 = .ok (.ifCond .eq 21, 3) := by decide +kernel
theorem dX3_countPieces_16 : decode cX3_countPieces 16 = .ok (.iload_n 2, 1) := by decide +kernel
theorem dX3_countPieces_17 : decode cX3_countPieces 17 = .ok (.iload_n 2, 1) := by decide +kernel
theorem dX3_countPieces_18 : decode cX3_countPieces 18 = .ok (.invokestatic 21, 3) := by decide +kernel
theorem dX3_countPieces_21 : decode cX3_countPieces 21 = .ok (.iconst (-1), 1) := by decide +kernel
theorem dX3_countPieces_22 : decode cX3_countPieces 22 = .ok (.ixor, 1) := by decide +kernel
theorem dX3_countPieces_23 : decode cX3_countPieces 23 = .ok (.iand, 1) := by decide +kernel
theorem dX3_countPieces_24 : decode cX3_countPieces 24 = .ok (.istore_n 2, 1) := by decide +kernel
theorem dX3_countPieces_25 : decode cX3_countPieces 25 = .ok (.iinc 1 1, 3) := by decide +kernel
theorem dX3_countPieces_28 : decode cX3_countPieces 28 = .ok (.iinc 3 1, 3) := by decide +kernel
theorem dX3_countPieces_31 : decode cX3_countPieces 31 = .ok (.goto (-25), 3) := by decide +kernel
theorem dX3_countPieces_34 : decode cX3_countPieces 34 = .ok (.iload_n 1, 1) := by decide +kernel
theorem dX3_countPieces_35 : decode cX3_countPieces 35 = .ok (.ireturn, 1) := by decide +kernel
set_option maxRecDepth 20000 in
theorem ggX3_countLines_X3_firstPiece : GoodIn wsX3_countLines wsX3_firstPiece := goodIn_r _ [8, 9] (by decide +kernel) (by decide +kernel)
set_option maxRecDepth 20000 in
theorem gX3_countLines_X3_firstPiece : GoodIn wsX3_countLines (va_wsS RX3 21 yX3_firstPiece wsX3_firstPiece) := goodIn_app (goodIn_of _ (by decide +kernel)) ggX3_countLines_X3_firstPiece
set_option maxRecDepth 20000 in
theorem ggX3_countLines_X3_oddPoints : GoodIn wsX3_countLines wsX3_oddPoints := goodIn_r _ [12, 9] (by decide +kernel) (by decide +kernel)
set_option maxRecDepth 20000 in
theorem gX3_countLines_X3_oddPoints : GoodIn wsX3_countLines (va_wsS RX3 25 yX3_oddPoints wsX3_oddPoints) := goodIn_app (goodIn_of _ (by decide +kernel)) ggX3_countLines_X3_oddPoints
set_option maxRecDepth 20000 in
theorem ggX3_countLines_J6_bitCount_0f7a4 : GoodIn wsX3_countLines wsJ6_bitCount_0f7a4 := goodIn_r _ [16, 17, 18, 19] (by decide +kernel) (by decide +kernel)
set_option maxRecDepth 20000 in
theorem gX3_countLines_J6_bitCount_0f7a4 : GoodIn wsX3_countLines (va_wsS RX3 28 yJ6_bitCount_0f7a4 wsJ6_bitCount_0f7a4) := goodIn_app (goodIn_of _ (by decide +kernel)) ggX3_countLines_J6_bitCount_0f7a4
theorem dX3_countLines_0 : decode cX3_countLines 0 = .ok (.iconst 0, 1) := by decide +kernel
theorem dX3_countLines_1 : decode cX3_countLines 1 = .ok (.istore_n 1, 1) := by decide +kernel
theorem dX3_countLines_2 : decode cX3_countLines 2 = .ok (.iload_n 0, 1) := by decide +kernel
theorem dX3_countLines_3 : decode cX3_countLines 3 = .ok (.istore_n 2, 1) := by decide +kernel
theorem dX3_countLines_4 : decode cX3_countLines 4 = .ok (.iconst 0, 1) := by decide +kernel
theorem dX3_countLines_5 : decode cX3_countLines 5 = .ok (.istore_n 3, 1) := by decide +kernel
theorem dX3_countLines_6 : decode cX3_countLines 6 = .ok (.iload_n 3, 1) := by decide +kernel
theorem dX3_countLines_7 : decode cX3_countLines 7 = .ok (.bipush 12, 2) := by decide +kernel
theorem dX3_countLines_9 : decode cX3_countLines 9 = .ok (.if_icmp .ge 43, 3) := by decide +kernel
theorem dX3_countLines_12 : decode cX3_countLines 12 = .ok (.iload_n 2, 1) := by decide +kernel
theorem dX3_countLines_13 : decode cX3_countLines 13 = .ok (.ifCond .eq 39, 3) := by decide +kernel
theorem dX3_countLines_16 : decode cX3_countLines 16 = .ok (.iload_n 2, 1) := by decide +kernel
theorem dX3_countLines_17 : decode cX3_countLines 17 = .ok (.invokestatic 21, 3) := by decide +kernel
theorem dX3_countLines_20 : decode cX3_countLines 20 = .ok (.istore 4, 2) := by decide +kernel
theorem dX3_countLines_22 : decode cX3_countLines 22 = .ok (.iload_n 1, 1) := by decide +kernel
theorem dX3_countLines_23 : decode cX3_countLines 23 = .ok (.iconst 1, 1) := by decide +kernel
theorem dX3_countLines_24 : decode cX3_countLines 24 = .ok (.iload 4, 2) := by decide +kernel
theorem dX3_countLines_26 : decode cX3_countLines 26 = .ok (.invokestatic 25, 3) := by decide +kernel
theorem dX3_countLines_29 : decode cX3_countLines 29 = .ok (.invokestatic 28, 3) := by decide +kernel
theorem dX3_countLines_32 : decode cX3_countLines 32 = .ok (.iconst 2, 1) := by decide +kernel
theorem dX3_countLines_33 : decode cX3_countLines 33 = .ok (.idiv, 1) := by decide +kernel
theorem dX3_countLines_34 : decode cX3_countLines 34 = .ok (.invokestatic 33, 3) := by decide +kernel
theorem dX3_countLines_37 : decode cX3_countLines 37 = .ok (.iadd, 1) := by decide +kernel
theorem dX3_countLines_38 : decode cX3_countLines 38 = .ok (.istore_n 1, 1) := by decide +kernel
theorem dX3_countLines_39 : decode cX3_countLines 39 = .ok (.iload_n 2, 1) := by decide +kernel
theorem dX3_countLines_40 : decode cX3_countLines 40 = .ok (.iload 4, 2) := by decide +kernel
theorem dX3_countLines_42 : decode cX3_countLines 42 = .ok (.iconst (-1), 1) := by decide +kernel
theorem dX3_countLines_43 : decode cX3_countLines 43 = .ok (.ixor, 1) := by decide +kernel
theorem dX3_countLines_44 : decode cX3_countLines 44 = .ok (.iand, 1) := by decide +kernel
theorem dX3_countLines_45 : decode cX3_countLines 45 = .ok (.istore_n 2, 1) := by decide +kernel
theorem dX3_countLines_46 : decode cX3_countLines 46 = .ok (.iinc 3 1, 3) := by decide +kernel
theorem dX3_countLines_49 : decode cX3_countLines 49 = .ok (.goto (-43), 3) := by decide +kernel
theorem dX3_countLines_52 : decode cX3_countLines 52 = .ok (.iload_n 1, 1) := by decide +kernel
theorem dX3_countLines_53 : decode cX3_countLines 53 = .ok (.ireturn, 1) := by decide +kernel
set_option maxRecDepth 20000 in
theorem ggX3_countStrays_X3_countLines : GoodIn wsX3_countStrays wsX3_countLines := goodIn_r _ [8, 1, 2, 3, 4, 9, 10, 7, 11, 12, 13, 14, 15, 16, 17, 18, 19, 20, 21, 22] (by decide +kernel) (by decide +kernel)
set_option maxRecDepth 20000 in
theorem gX3_countStrays_X3_countLines : GoodIn wsX3_countStrays (va_wsS RX3 39 yX3_countLines wsX3_countLines) := goodIn_app (goodIn_of _ (by decide +kernel)) ggX3_countStrays_X3_countLines
theorem dX3_countStrays_0 : decode cX3_countStrays 0 = .ok (.iconst 0, 1) := by decide +kernel
theorem dX3_countStrays_1 : decode cX3_countStrays 1 = .ok (.iload_n 0, 1) := by decide +kernel
theorem dX3_countStrays_2 : decode cX3_countStrays 2 = .ok (.invokestatic 39, 3) := by decide +kernel
theorem dX3_countStrays_5 : decode cX3_countStrays 5 = .ok (.iconst 1, 1) := by decide +kernel
theorem dX3_countStrays_6 : decode cX3_countStrays 6 = .ok (.isub, 1) := by decide +kernel
theorem dX3_countStrays_7 : decode cX3_countStrays 7 = .ok (.invokestatic 33, 3) := by decide +kernel
theorem dX3_countStrays_10 : decode cX3_countStrays 10 = .ok (.ireturn, 1) := by decide +kernel
set_option maxRecDepth 20000 in
theorem ggX3_canBeTrodden_X3_touches : GoodIn wsX3_canBeTrodden wsX3_touches := goodIn_r _ [4, 5, 6, 3, 7, 8, 9, 10, 11, 12] (by decide +kernel) (by decide +kernel)
set_option maxRecDepth 20000 in
theorem gX3_canBeTrodden_X3_touches : GoodIn wsX3_canBeTrodden (va_wsS RX3 42 yX3_touches wsX3_touches) := goodIn_app (goodIn_of _ (by decide +kernel)) ggX3_canBeTrodden_X3_touches
set_option maxRecDepth 20000 in
theorem ggX3_canBeTrodden_X3_countPieces : GoodIn wsX3_canBeTrodden wsX3_countPieces := goodIn_r _ [15, 16, 17, 3, 18, 19] (by decide +kernel) (by decide +kernel)
set_option maxRecDepth 20000 in
theorem gX3_canBeTrodden_X3_countPieces : GoodIn wsX3_canBeTrodden (va_wsS RX3 46 yX3_countPieces wsX3_countPieces) := goodIn_app (goodIn_of _ (by decide +kernel)) ggX3_canBeTrodden_X3_countPieces
set_option maxRecDepth 20000 in
theorem ggX3_canBeTrodden_X3_oddPoints : GoodIn wsX3_canBeTrodden wsX3_oddPoints := goodIn_r _ [22, 19] (by decide +kernel) (by decide +kernel)
set_option maxRecDepth 20000 in
theorem gX3_canBeTrodden_X3_oddPoints : GoodIn wsX3_canBeTrodden (va_wsS RX3 25 yX3_oddPoints wsX3_oddPoints) := goodIn_app (goodIn_of _ (by decide +kernel)) ggX3_canBeTrodden_X3_oddPoints
set_option maxRecDepth 20000 in
theorem ggX3_canBeTrodden_J6_bitCount_0f7a4 : GoodIn wsX3_canBeTrodden wsJ6_bitCount_0f7a4 := goodIn_r _ [26, 27, 28, 29] (by decide +kernel) (by decide +kernel)
set_option maxRecDepth 20000 in
theorem gX3_canBeTrodden_J6_bitCount_0f7a4 : GoodIn wsX3_canBeTrodden (va_wsS RX3 28 yJ6_bitCount_0f7a4 wsJ6_bitCount_0f7a4) := goodIn_app (goodIn_of _ (by decide +kernel)) ggX3_canBeTrodden_J6_bitCount_0f7a4
theorem dX3_canBeTrodden_0 : decode cX3_canBeTrodden 0 = .ok (.iload_n 0, 1) := by decide +kernel
theorem dX3_canBeTrodden_1 : decode cX3_canBeTrodden 1 = .ok (.ifCond .ne 5, 3) := by decide +kernel
theorem dX3_canBeTrodden_4 : decode cX3_canBeTrodden 4 = .ok (.iconst 1, 1) := by decide +kernel
theorem dX3_canBeTrodden_5 : decode cX3_canBeTrodden 5 = .ok (.ireturn, 1) := by decide +kernel
theorem dX3_canBeTrodden_6 : decode cX3_canBeTrodden 6 = .ok (.iload_n 0, 1) := by decide +kernel
theorem dX3_canBeTrodden_7 : decode cX3_canBeTrodden 7 = .ok (.iload_n 1, 1) := by decide +kernel
theorem dX3_canBeTrodden_8 : decode cX3_canBeTrodden 8 = .ok (.invokestatic 42, 3) := by decide +kernel
theorem dX3_canBeTrodden_11 : decode cX3_canBeTrodden 11 = .ok (.ifCond .eq 11, 3) := by decide +kernel
theorem dX3_canBeTrodden_14 : decode cX3_canBeTrodden 14 = .ok (.iload_n 0, 1) := by decide +kernel
theorem dX3_canBeTrodden_15 : decode cX3_canBeTrodden 15 = .ok (.invokestatic 46, 3) := by decide +kernel
theorem dX3_canBeTrodden_18 : decode cX3_canBeTrodden 18 = .ok (.iconst 1, 1) := by decide +kernel
theorem dX3_canBeTrodden_19 : decode cX3_canBeTrodden 19 = .ok (.if_icmp .eq 5, 3) := by decide +kernel
theorem dX3_canBeTrodden_22 : decode cX3_canBeTrodden 22 = .ok (.iconst 0, 1) := by decide +kernel
theorem dX3_canBeTrodden_23 : decode cX3_canBeTrodden 23 = .ok (.ireturn, 1) := by decide +kernel
theorem dX3_canBeTrodden_24 : decode cX3_canBeTrodden 24 = .ok (.iload_n 0, 1) := by decide +kernel
theorem dX3_canBeTrodden_25 : decode cX3_canBeTrodden 25 = .ok (.invokestatic 25, 3) := by decide +kernel
theorem dX3_canBeTrodden_28 : decode cX3_canBeTrodden 28 = .ok (.istore_n 2, 1) := by decide +kernel
theorem dX3_canBeTrodden_29 : decode cX3_canBeTrodden 29 = .ok (.iload_n 2, 1) := by decide +kernel
theorem dX3_canBeTrodden_30 : decode cX3_canBeTrodden 30 = .ok (.ifCond .eq 19, 3) := by decide +kernel
theorem dX3_canBeTrodden_33 : decode cX3_canBeTrodden 33 = .ok (.iload_n 2, 1) := by decide +kernel
theorem dX3_canBeTrodden_34 : decode cX3_canBeTrodden 34 = .ok (.invokestatic 28, 3) := by decide +kernel
theorem dX3_canBeTrodden_37 : decode cX3_canBeTrodden 37 = .ok (.iconst 2, 1) := by decide +kernel
theorem dX3_canBeTrodden_38 : decode cX3_canBeTrodden 38 = .ok (.if_icmp .ne 15, 3) := by decide +kernel
theorem dX3_canBeTrodden_41 : decode cX3_canBeTrodden 41 = .ok (.iload_n 2, 1) := by decide +kernel
theorem dX3_canBeTrodden_42 : decode cX3_canBeTrodden 42 = .ok (.iload_n 1, 1) := by decide +kernel
theorem dX3_canBeTrodden_43 : decode cX3_canBeTrodden 43 = .ok (.ishr, 1) := by decide +kernel
theorem dX3_canBeTrodden_44 : decode cX3_canBeTrodden 44 = .ok (.iconst 1, 1) := by decide +kernel
theorem dX3_canBeTrodden_45 : decode cX3_canBeTrodden 45 = .ok (.iand, 1) := by decide +kernel
theorem dX3_canBeTrodden_46 : decode cX3_canBeTrodden 46 = .ok (.ifCond .eq 7, 3) := by decide +kernel
theorem dX3_canBeTrodden_49 : decode cX3_canBeTrodden 49 = .ok (.iconst 1, 1) := by decide +kernel
theorem dX3_canBeTrodden_50 : decode cX3_canBeTrodden 50 = .ok (.goto 4, 3) := by decide +kernel
theorem dX3_canBeTrodden_53 : decode cX3_canBeTrodden 53 = .ok (.iconst 0, 1) := by decide +kernel
theorem dX3_canBeTrodden_54 : decode cX3_canBeTrodden 54 = .ok (.ireturn, 1) := by decide +kernel
set_option maxRecDepth 20000 in
theorem ggX3_touches_X3_hasStroke : GoodIn wsX3_touches wsX3_hasStroke := goodIn_r _ [4] (by decide +kernel) (by decide +kernel)
set_option maxRecDepth 20000 in
theorem gX3_touches_X3_hasStroke : GoodIn wsX3_touches (va_wsS RX3 49 yX3_hasStroke wsX3_hasStroke) := goodIn_app (goodIn_of _ (by decide +kernel)) ggX3_touches_X3_hasStroke
set_option maxRecDepth 20000 in
theorem ggX3_touches_X3_across : GoodIn wsX3_touches wsX3_across := goodIn_r _ [7, 8, 9] (by decide +kernel) (by decide +kernel)
set_option maxRecDepth 20000 in
theorem gX3_touches_X3_across : GoodIn wsX3_touches (va_wsS RX3 52 yX3_across wsX3_across) := goodIn_app (goodIn_of _ (by decide +kernel)) ggX3_touches_X3_across
theorem dX3_touches_0 : decode cX3_touches 0 = .ok (.iconst 0, 1) := by decide +kernel
theorem dX3_touches_1 : decode cX3_touches 1 = .ok (.istore_n 2, 1) := by decide +kernel
theorem dX3_touches_2 : decode cX3_touches 2 = .ok (.iload_n 2, 1) := by decide +kernel
theorem dX3_touches_3 : decode cX3_touches 3 = .ok (.bipush 12, 2) := by decide +kernel
theorem dX3_touches_5 : decode cX3_touches 5 = .ok (.if_icmp .ge 27, 3) := by decide +kernel
theorem dX3_touches_8 : decode cX3_touches 8 = .ok (.iload_n 0, 1) := by decide +kernel
theorem dX3_touches_9 : decode cX3_touches 9 = .ok (.iload_n 2, 1) := by decide +kernel
theorem dX3_touches_10 : decode cX3_touches 10 = .ok (.invokestatic 49, 3) := by decide +kernel
theorem dX3_touches_13 : decode cX3_touches 13 = .ok (.ifCond .eq 13, 3) := by decide +kernel
theorem dX3_touches_16 : decode cX3_touches 16 = .ok (.iload_n 2, 1) := by decide +kernel
theorem dX3_touches_17 : decode cX3_touches 17 = .ok (.iload_n 1, 1) := by decide +kernel
theorem dX3_touches_18 : decode cX3_touches 18 = .ok (.invokestatic 52, 3) := by decide +kernel
theorem dX3_touches_21 : decode cX3_touches 21 = .ok (.ifCond .lt 5, 3) := by decide +kernel
theorem dX3_touches_24 : decode cX3_touches 24 = .ok (.iconst 1, 1) := by decide +kernel
theorem dX3_touches_25 : decode cX3_touches 25 = .ok (.ireturn, 1) := by decide +kernel
theorem dX3_touches_26 : decode cX3_touches 26 = .ok (.iinc 2 1, 3) := by decide +kernel
theorem dX3_touches_29 : decode cX3_touches 29 = .ok (.goto (-27), 3) := by decide +kernel
theorem dX3_touches_32 : decode cX3_touches 32 = .ok (.iconst 0, 1) := by decide +kernel
theorem dX3_touches_33 : decode cX3_touches 33 = .ok (.ireturn, 1) := by decide +kernel
set_option maxRecDepth 20000 in
theorem ggX3_countWays_X3_across : GoodIn wsX3_countWays wsX3_across := goodIn_r _ [4, 5, 6] (by decide +kernel) (by decide +kernel)
set_option maxRecDepth 20000 in
theorem gX3_countWays_X3_across : GoodIn wsX3_countWays (va_wsS RX3 52 yX3_across wsX3_across) := goodIn_app (goodIn_of _ (by decide +kernel)) ggX3_countWays_X3_across
set_option maxRecDepth 20000 in
theorem ggX3_countWays_X3_hasStroke : GoodIn wsX3_countWays wsX3_hasStroke := goodIn_r _ [9] (by decide +kernel) (by decide +kernel)
set_option maxRecDepth 20000 in
theorem gX3_countWays_X3_hasStroke : GoodIn wsX3_countWays (va_wsS RX3 49 yX3_hasStroke wsX3_hasStroke) := goodIn_app (goodIn_of _ (by decide +kernel)) ggX3_countWays_X3_hasStroke
set_option maxRecDepth 20000 in
theorem ggX3_countWays_X3_countWays : GoodIn wsX3_countWays wsX3_countWays := goodIn_r _ [0, 1, 2, 3, 4, 5, 6, 7, 8, 9, 10, 11] (by decide +kernel) (by decide +kernel)
set_option maxRecDepth 20000 in
theorem gX3_countWays_X3_countWays : GoodIn wsX3_countWays (va_wsS RX3 55 yX3_countWays wsX3_countWays) := goodIn_app (goodIn_of _ (by decide +kernel)) ggX3_countWays_X3_countWays
theorem dX3_countWays_0 : decode cX3_countWays 0 = .ok (.iload_n 0, 1) := by decide +kernel
theorem dX3_countWays_1 : decode cX3_countWays 1 = .ok (.ifCond .ne 5, 3) := by decide +kernel
theorem dX3_countWays_4 : decode cX3_countWays 4 = .ok (.lconst 1, 1) := by decide +kernel
theorem dX3_countWays_5 : decode cX3_countWays 5 = .ok (.lreturn, 1) := by decide +kernel
theorem dX3_countWays_6 : decode cX3_countWays 6 = .ok (.iload_n 2, 1) := by decide +kernel
theorem dX3_countWays_7 : decode cX3_countWays 7 = .ok (.bipush 12, 2) := by decide +kernel
theorem dX3_countWays_9 : decode cX3_countWays 9 = .ok (.if_icmp .lt 5, 3) := by decide +kernel
theorem dX3_countWays_12 : decode cX3_countWays 12 = .ok (.lconst 0, 1) := by decide +kernel
theorem dX3_countWays_13 : decode cX3_countWays 13 = .ok (.lreturn, 1) := by decide +kernel
theorem dX3_countWays_14 : decode cX3_countWays 14 = .ok (.lconst 0, 1) := by decide +kernel
theorem dX3_countWays_15 : decode cX3_countWays 15 = .ok (.lstore_n 3, 1) := by decide +kernel
theorem dX3_countWays_16 : decode cX3_countWays 16 = .ok (.iconst 0, 1) := by decide +kernel
theorem dX3_countWays_17 : decode cX3_countWays 17 = .ok (.istore 5, 2) := by decide +kernel
theorem dX3_countWays_19 : decode cX3_countWays 19 = .ok (.iload 5, 2) := by decide +kernel
theorem dX3_countWays_21 : decode cX3_countWays 21 = .ok (.bipush 12, 2) := by decide +kernel
theorem dX3_countWays_23 : decode cX3_countWays 23 = .ok (.if_icmp .ge 50, 3) := by decide +kernel
theorem dX3_countWays_26 : decode cX3_countWays 26 = .ok (.iload 5, 2) := by decide +kernel
theorem dX3_countWays_28 : decode cX3_countWays 28 = .ok (.iload_n 1, 1) := by decide +kernel
theorem dX3_countWays_29 : decode cX3_countWays 29 = .ok (.invokestatic 52, 3) := by decide +kernel
theorem dX3_countWays_32 : decode cX3_countWays 32 = .ok (.istore 6, 2) := by decide +kernel
theorem dX3_countWays_34 : decode cX3_countWays 34 = .ok (.iload_n 0, 1) := by decide +kernel
theorem dX3_countWays_35 : decode cX3_countWays 35 = .ok (.iload 5, 2) := by decide +kernel
theorem dX3_countWays_37 : decode cX3_countWays 37 = .ok (.invokestatic 49, 3) := by decide +kernel
theorem dX3_countWays_40 : decode cX3_countWays 40 = .ok (.ifCond .eq 27, 3) := by decide +kernel
theorem dX3_countWays_43 : decode cX3_countWays 43 = .ok (.iload 6, 2) := by decide +kernel
theorem dX3_countWays_45 : decode cX3_countWays 45 = .ok (.ifCond .lt 22, 3) := by decide +kernel
theorem dX3_countWays_48 : decode cX3_countWays 48 = .ok (.lload_n 3, 1) := by decide +kernel
theorem dX3_countWays_49 : decode cX3_countWays 49 = .ok (.iload_n 0, 1) := by decide +kernel
theorem dX3_countWays_50 : decode cX3_countWays 50 = .ok (.iconst 1, 1) := by decide +kernel
theorem dX3_countWays_51 : decode cX3_countWays 51 = .ok (.iload 5, 2) := by decide +kernel
theorem dX3_countWays_53 : decode cX3_countWays 53 = .ok (.ishl, 1) := by decide +kernel
theorem dX3_countWays_54 : decode cX3_countWays 54 = .ok (.iconst (-1), 1) := by decide +kernel
theorem dX3_countWays_55 : decode cX3_countWays 55 = .ok (.ixor, 1) := by decide +kernel
theorem dX3_countWays_56 : decode cX3_countWays 56 = .ok (.iand, 1) := by decide +kernel
theorem dX3_countWays_57 : decode cX3_countWays 57 = .ok (.iload 6, 2) := by decide +kernel
theorem dX3_countWays_59 : decode cX3_countWays 59 = .ok (.iload_n 2, 1) := by decide +kernel
theorem dX3_countWays_60 : decode cX3_countWays 60 = .ok (.iconst 1, 1) := by decide +kernel
theorem dX3_countWays_61 : decode cX3_countWays 61 = .ok (.iadd, 1) := by decide +kernel
theorem dX3_countWays_62 : decode cX3_countWays 62 = .ok (.invokestatic 55, 3) := by decide +kernel
theorem dX3_countWays_65 : decode cX3_countWays 65 = .ok (.ladd, 1) := by decide +kernel
theorem dX3_countWays_66 : decode cX3_countWays 66 = .ok (.lstore_n 3, 1) := by decide +kernel
theorem dX3_countWays_67 : decode cX3_countWays 67 = .ok (.iinc 5 1, 3) := by decide +kernel
theorem dX3_countWays_70 : decode cX3_countWays 70 = .ok (.goto (-51), 3) := by decide +kernel
theorem dX3_countWays_73 : decode cX3_countWays 73 = .ok (.lload_n 3, 1) := by decide +kernel
theorem dX3_countWays_74 : decode cX3_countWays 74 = .ok (.lreturn, 1) := by decide +kernel
set_option maxRecDepth 20000 in
theorem ggX3_strokeOfFirstWay_J6_bitCount_0f7a4 : GoodIn wsX3_strokeOfFirstWay wsJ6_bitCount_0f7a4 := goodIn_r _ [4, 5, 6, 7] (by decide +kernel) (by decide +kernel)
set_option maxRecDepth 20000 in
theorem gX3_strokeOfFirstWay_J6_bitCount_0f7a4 : GoodIn wsX3_strokeOfFirstWay (va_wsS RX3 28 yJ6_bitCount_0f7a4 wsJ6_bitCount_0f7a4) := goodIn_app (goodIn_of _ (by decide +kernel)) ggX3_strokeOfFirstWay_J6_bitCount_0f7a4
set_option maxRecDepth 20000 in
theorem ggX3_strokeOfFirstWay_X3_canBeTrodden : GoodIn wsX3_strokeOfFirstWay wsX3_canBeTrodden := goodIn_r _ [11, 12, 13, 10, 14, 15, 16, 17, 18, 19, 20, 21, 22, 23, 24, 25, 26, 27, 28, 29, 30, 31, 32, 1, 2, 3, 4, 5, 6, 7] (by decide +kernel) (by decide +kernel)
set_option maxRecDepth 20000 in
theorem gX3_strokeOfFirstWay_X3_canBeTrodden : GoodIn wsX3_strokeOfFirstWay (va_wsS RX3 59 yX3_canBeTrodden wsX3_canBeTrodden) := goodIn_app (goodIn_of _ (by decide +kernel)) ggX3_strokeOfFirstWay_X3_canBeTrodden
set_option maxRecDepth 20000 in
theorem ggX3_strokeOfFirstWay_X3_leastOnward : GoodIn wsX3_strokeOfFirstWay wsX3_leastOnward := goodIn_r _ [35, 18, 19, 10, 20, 21, 22, 15, 16, 17, 8, 9, 11, 12, 13, 14, 23, 24, 25, 26, 27, 28, 29, 30, 31, 32, 1, 2, 3, 4, 5, 6, 7] (by decide +kernel) (by decide +kernel)
set_option maxRecDepth 20000 in
theorem gX3_strokeOfFirstWay_X3_leastOnward : GoodIn wsX3_strokeOfFirstWay (va_wsS RX3 62 yX3_leastOnward wsX3_leastOnward) := goodIn_app (goodIn_of _ (by decide +kernel)) ggX3_strokeOfFirstWay_X3_leastOnward
set_option maxRecDepth 20000 in
theorem ggX3_strokeOfFirstWay_X3_across : GoodIn wsX3_strokeOfFirstWay wsX3_across := goodIn_r _ [20, 21, 22] (by decide +kernel) (by decide +kernel)
set_option maxRecDepth 20000 in
theorem gX3_strokeOfFirstWay_X3_across : GoodIn wsX3_strokeOfFirstWay (va_wsS RX3 52 yX3_across wsX3_across) := goodIn_app (goodIn_of _ (by decide +kernel)) ggX3_strokeOfFirstWay_X3_across
theorem dX3_strokeOfFirstWay_0 : decode cX3_strokeOfFirstWay 0 = .ok (.iload_n 2, 1) := by decide +kernel
theorem dX3_strokeOfFirstWay_1 : decode cX3_strokeOfFirstWay 1 = .ok (.ifCond .lt 19, 3) := by decide +kernel
theorem dX3_strokeOfFirstWay_4 : decode cX3_strokeOfFirstWay 4 = .ok (.iload_n 2, 1) := by decide +kernel
theorem dX3_strokeOfFirstWay_5 : decode cX3_strokeOfFirstWay 5 = .ok (.iload_n 0, 1) := by decide +kernel
theorem dX3_strokeOfFirstWay_6 : decode cX3_strokeOfFirstWay 6 = .ok (.invokestatic 28, 3) := by decide +kernel
theorem dX3_strokeOfFirstWay_9 : decode cX3_strokeOfFirstWay 9 = .ok (.if_icmp .ge 11, 3) := by decide +kernel
theorem dX3_strokeOfFirstWay_12 : decode cX3_strokeOfFirstWay 12 = .ok (.iload_n 0, 1) := by decide +kernel
theorem dX3_strokeOfFirstWay_13 : decode cX3_strokeOfFirstWay 13 = .ok (.iload_n 1, 1) := by decide +kernel
theorem dX3_strokeOfFirstWay_14 : decode cX3_strokeOfFirstWay 14 = .ok (.invokestatic 59, 3) := by decide +kernel
theorem dX3_strokeOfFirstWay_17 : decode cX3_strokeOfFirstWay 17 = .ok (.ifCond .ne 5, 3) := by decide +kernel
theorem dX3_strokeOfFirstWay_20 : decode cX3_strokeOfFirstWay 20 = .ok (.iconst (-1), 1) := by decide +kernel
theorem dX3_strokeOfFirstWay_21 : decode cX3_strokeOfFirstWay 21 = .ok (.ireturn, 1) := by decide +kernel
theorem dX3_strokeOfFirstWay_22 : decode cX3_strokeOfFirstWay 22 = .ok (.iload_n 0, 1) := by decide +kernel
theorem dX3_strokeOfFirstWay_23 : decode cX3_strokeOfFirstWay 23 = .ok (.istore_n 3, 1) := by decide +kernel
theorem dX3_strokeOfFirstWay_24 : decode cX3_strokeOfFirstWay 24 = .ok (.iload_n 1, 1) := by decide +kernel
theorem dX3_strokeOfFirstWay_25 : decode cX3_strokeOfFirstWay 25 = .ok (.istore 4, 2) := by decide +kernel
theorem dX3_strokeOfFirstWay_27 : decode cX3_strokeOfFirstWay 27 = .ok (.iconst (-1), 1) := by decide +kernel
theorem dX3_strokeOfFirstWay_28 : decode cX3_strokeOfFirstWay 28 = .ok (.istore 5, 2) := by decide +kernel
theorem dX3_strokeOfFirstWay_30 : decode cX3_strokeOfFirstWay 30 = .ok (.iconst 0, 1) := by decide +kernel
theorem dX3_strokeOfFirstWay_31 : decode cX3_strokeOfFirstWay 31 = .ok (.istore 6, 2) := by decide +kernel
theorem dX3_strokeOfFirstWay_33 : decode cX3_strokeOfFirstWay 33 = .ok (.iload 6, 2) := by decide +kernel
theorem dX3_strokeOfFirstWay_35 : decode cX3_strokeOfFirstWay 35 = .ok (.iload_n 2, 1) := by decide +kernel
theorem dX3_strokeOfFirstWay_36 : decode cX3_strokeOfFirstWay 36 = .ok (.if_icmp .gt 42, 3) := by decide +kernel
theorem dX3_strokeOfFirstWay_39 : decode cX3_strokeOfFirstWay 39 = .ok (.iload_n 3, 1) := by decide +kernel
theorem dX3_strokeOfFirstWay_40 : decode cX3_strokeOfFirstWay 40 = .ok (.iload 4, 2) := by decide +kernel
theorem dX3_strokeOfFirstWay_42 : decode cX3_strokeOfFirstWay 42 = .ok (.invokestatic 62, 3) := by decide +kernel
theorem dX3_strokeOfFirstWay_45 : decode cX3_strokeOfFirstWay 45 = .ok (.istore 5, 2) := by decide +kernel
theorem dX3_strokeOfFirstWay_47 : decode cX3_strokeOfFirstWay 47 = .ok (.iload 5, 2) := by decide +kernel
theorem dX3_strokeOfFirstWay_49 : decode cX3_strokeOfFirstWay 49 = .ok (.ifCond .ge 5, 3) := by decide +kernel
theorem dX3_strokeOfFirstWay_52 : decode cX3_strokeOfFirstWay 52 = .ok (.iconst (-1), 1) := by decide +kernel
theorem dX3_strokeOfFirstWay_53 : decode cX3_strokeOfFirstWay 53 = .ok (.ireturn, 1) := by decide +kernel
theorem dX3_strokeOfFirstWay_54 : decode cX3_strokeOfFirstWay 54 = .ok (.iload 5, 2) := by decide +kernel
theorem dX3_strokeOfFirstWay_56 : decode cX3_strokeOfFirstWay 56 = .ok (.iload 4, 2) := by decide +kernel
theorem dX3_strokeOfFirstWay_58 : decode cX3_strokeOfFirstWay 58 = .ok (.invokestatic 52, 3) := by decide +kernel
theorem dX3_strokeOfFirstWay_61 : decode cX3_strokeOfFirstWay 61 = .ok (.istore 4, 2) := by decide +kernel
theorem dX3_strokeOfFirstWay_63 : decode cX3_strokeOfFirstWay 63 = .ok (.iload_n 3, 1) := by decide +kernel
theorem dX3_strokeOfFirstWay_64 : decode cX3_strokeOfFirstWay 64 = .ok (.iconst 1, 1) := by decide +kernel
theorem dX3_strokeOfFirstWay_65 : decode cX3_strokeOfFirstWay 65 = .ok (.iload 5, 2) := by decide +kernel
theorem dX3_strokeOfFirstWay_67 : decode cX3_strokeOfFirstWay 67 = .ok (.ishl, 1) := by decide +kernel
theorem dX3_strokeOfFirstWay_68 : decode cX3_strokeOfFirstWay 68 = .ok (.iconst (-1), 1) := by decide +kernel
theorem dX3_strokeOfFirstWay_69 : decode cX3_strokeOfFirstWay 69 = .ok (.ixor, 1) := by decide +kernel
theorem dX3_strokeOfFirstWay_70 : decode cX3_strokeOfFirstWay 70 = .ok (.iand, 1) := by decide +kernel
theorem dX3_strokeOfFirstWay_71 : decode cX3_strokeOfFirstWay 71 = .ok (.istore_n 3, 1) := by decide +kernel
theorem dX3_strokeOfFirstWay_72 : decode cX3_strokeOfFirstWay 72 = .ok (.iinc 6 1, 3) := by decide +kernel
theorem dX3_strokeOfFirstWay_75 : decode cX3_strokeOfFirstWay 75 = .ok (.goto (-42), 3) := by decide +kernel
theorem dX3_strokeOfFirstWay_78 : decode cX3_strokeOfFirstWay 78 = .ok (.iload 5, 2) := by decide +kernel
theorem dX3_strokeOfFirstWay_80 : decode cX3_strokeOfFirstWay 80 = .ok (.ireturn, 1) := by decide +kernel
set_option maxRecDepth 20000 in
theorem ggX3_leastOnward_X3_across : GoodIn wsX3_leastOnward wsX3_across := goodIn_r _ [4, 5, 6] (by decide +kernel) (by decide +kernel)
set_option maxRecDepth 20000 in
theorem gX3_leastOnward_X3_across : GoodIn wsX3_leastOnward (va_wsS RX3 52 yX3_across wsX3_across) := goodIn_app (goodIn_of _ (by decide +kernel)) ggX3_leastOnward_X3_across
set_option maxRecDepth 20000 in
theorem ggX3_leastOnward_X3_hasStroke : GoodIn wsX3_leastOnward wsX3_hasStroke := goodIn_r _ [9] (by decide +kernel) (by decide +kernel)
set_option maxRecDepth 20000 in
theorem gX3_leastOnward_X3_hasStroke : GoodIn wsX3_leastOnward (va_wsS RX3 49 yX3_hasStroke wsX3_hasStroke) := goodIn_app (goodIn_of _ (by decide +kernel)) ggX3_leastOnward_X3_hasStroke
set_option maxRecDepth 20000 in
theorem ggX3_leastOnward_X3_canBeTrodden : GoodIn wsX3_leastOnward wsX3_canBeTrodden := goodIn_r _ [12, 13, 14, 3, 15, 7, 8, 9, 1, 2, 4, 5, 6, 16, 17, 18, 19, 20, 21, 22, 23, 24, 25, 26, 27, 28, 29, 30, 31, 32] (by decide +kernel) (by decide +kernel)
set_option maxRecDepth 20000 in
theorem gX3_leastOnward_X3_canBeTrodden : GoodIn wsX3_leastOnward (va_wsS RX3 59 yX3_canBeTrodden wsX3_canBeTrodden) := goodIn_app (goodIn_of _ (by decide +kernel)) ggX3_leastOnward_X3_canBeTrodden
theorem dX3_leastOnward_0 : decode cX3_leastOnward 0 = .ok (.iconst 0, 1) := by decide +kernel
theorem dX3_leastOnward_1 : decode cX3_leastOnward 1 = .ok (.istore_n 2, 1) := by decide +kernel
theorem dX3_leastOnward_2 : decode cX3_leastOnward 2 = .ok (.iload_n 2, 1) := by decide +kernel
theorem dX3_leastOnward_3 : decode cX3_leastOnward 3 = .ok (.bipush 12, 2) := by decide +kernel
theorem dX3_leastOnward_5 : decode cX3_leastOnward 5 = .ok (.if_icmp .ge 43, 3) := by decide +kernel
theorem dX3_leastOnward_8 : decode cX3_leastOnward 8 = .ok (.iload_n 2, 1) := by decide +kernel
theorem dX3_leastOnward_9 : decode cX3_leastOnward 9 = .ok (.iload_n 1, 1) := by decide +kernel
theorem dX3_leastOnward_10 : decode cX3_leastOnward 10 = .ok (.invokestatic 52, 3) := by decide +kernel
theorem dX3_leastOnward_13 : decode cX3_leastOnward 13 = .ok (.istore_n 3, 1) := by decide +kernel
theorem dX3_leastOnward_14 : decode cX3_leastOnward 14 = .ok (.iload_n 0, 1) := by decide +kernel
theorem dX3_leastOnward_15 : decode cX3_leastOnward 15 = .ok (.iload_n 2, 1) := by decide +kernel
theorem dX3_leastOnward_16 : decode cX3_leastOnward 16 = .ok (.invokestatic 49, 3) := by decide +kernel
theorem dX3_leastOnward_19 : decode cX3_leastOnward 19 = .ok (.ifCond .eq 23, 3) := by decide +kernel
theorem dX3_leastOnward_22 : decode cX3_leastOnward 22 = .ok (.iload_n 3, 1) := by decide +kernel
theorem dX3_leastOnward_23 : decode cX3_leastOnward 23 = .ok (.ifCond .lt 19, 3) := by decide +kernel
theorem dX3_leastOnward_26 : decode cX3_leastOnward 26 = .ok (.iload_n 0, 1) := by decide +kernel
theorem dX3_leastOnward_27 : decode cX3_leastOnward 27 = .ok (.iconst 1, 1) := by decide +kernel
theorem dX3_leastOnward_28 : decode cX3_leastOnward 28 = .ok (.iload_n 2, 1) := by decide +kernel
theorem dX3_leastOnward_29 : decode cX3_leastOnward 29 = .ok (.ishl, 1) := by decide +kernel
theorem dX3_leastOnward_30 : decode cX3_leastOnward 30 = .ok (.iconst (-1), 1) := by decide +kernel
theorem dX3_leastOnward_31 : decode cX3_leastOnward 31 = .ok (.ixor, 1) := by decide +kernel
theorem dX3_leastOnward_32 : decode cX3_leastOnward 32 = .ok (.iand, 1) := by decide +kernel
theorem dX3_leastOnward_33 : decode cX3_leastOnward 33 = .ok (.iload_n 3, 1) := by decide +kernel
theorem dX3_leastOnward_34 : decode cX3_leastOnward 34 = .ok (.invokestatic 59, 3) := by decide +kernel
theorem dX3_leastOnward_37 : decode cX3_leastOnward 37 = .ok (.ifCond .eq 5, 3) := by decide +kernel
theorem dX3_leastOnward_40 : decode cX3_leastOnward 40 = .ok (.iload_n 2, 1) := by decide +kernel
theorem dX3_leastOnward_41 : decode cX3_leastOnward 41 = .ok (.ireturn, 1) := by decide +kernel
theorem dX3_leastOnward_42 : decode cX3_leastOnward 42 = .ok (.iinc 2 1, 3) := by decide +kernel
theorem dX3_leastOnward_45 : decode cX3_leastOnward 45 = .ok (.goto (-43), 3) := by decide +kernel
theorem dX3_leastOnward_48 : decode cX3_leastOnward 48 = .ok (.iconst (-1), 1) := by decide +kernel
theorem dX3_leastOnward_49 : decode cX3_leastOnward 49 = .ok (.ireturn, 1) := by decide +kernel
set_option maxRecDepth 20000 in
theorem ggX3_fewestToClose_X3_oddPoints : GoodIn wsX3_fewestToClose wsX3_oddPoints := goodIn_r _ [4, 5] (by decide +kernel) (by decide +kernel)
set_option maxRecDepth 20000 in
theorem gX3_fewestToClose_X3_oddPoints : GoodIn wsX3_fewestToClose (va_wsS RX3 25 yX3_oddPoints wsX3_oddPoints) := goodIn_app (goodIn_of _ (by decide +kernel)) ggX3_fewestToClose_X3_oddPoints
set_option maxRecDepth 20000 in
theorem ggX3_fewestToClose_J6_bitCount_0f7a4 : GoodIn wsX3_fewestToClose wsJ6_bitCount_0f7a4 := goodIn_r _ [9, 10, 11, 12] (by decide +kernel) (by decide +kernel)
set_option maxRecDepth 20000 in
theorem gX3_fewestToClose_J6_bitCount_0f7a4 : GoodIn wsX3_fewestToClose (va_wsS RX3 28 yJ6_bitCount_0f7a4 wsJ6_bitCount_0f7a4) := goodIn_app (goodIn_of _ (by decide +kernel)) ggX3_fewestToClose_J6_bitCount_0f7a4
set_option maxRecDepth 20000 in
theorem ggX3_fewestToClose_X3_nextPart : GoodIn wsX3_fewestToClose wsX3_nextPart := goodIn_r _ [15] (by decide +kernel) (by decide +kernel)
set_option maxRecDepth 20000 in
theorem gX3_fewestToClose_X3_nextPart : GoodIn wsX3_fewestToClose (va_wsS RX3 65 yX3_nextPart wsX3_nextPart) := goodIn_app (goodIn_of _ (by decide +kernel)) ggX3_fewestToClose_X3_nextPart
theorem dX3_fewestToClose_0 : decode cX3_fewestToClose 0 = .ok (.iload_n 0, 1) := by decide +kernel
theorem dX3_fewestToClose_1 : decode cX3_fewestToClose 1 = .ok (.invokestatic 25, 3) := by decide +kernel
theorem dX3_fewestToClose_4 : decode cX3_fewestToClose 4 = .ok (.istore_n 1, 1) := by decide +kernel
theorem dX3_fewestToClose_5 : decode cX3_fewestToClose 5 = .ok (.iload_n 0, 1) := by decide +kernel
theorem dX3_fewestToClose_6 : decode cX3_fewestToClose 6 = .ok (.invokestatic 28, 3) := by decide +kernel
theorem dX3_fewestToClose_9 : decode cX3_fewestToClose 9 = .ok (.istore_n 2, 1) := by decide +kernel
theorem dX3_fewestToClose_10 : decode cX3_fewestToClose 10 = .ok (.iconst 0, 1) := by decide +kernel
theorem dX3_fewestToClose_11 : decode cX3_fewestToClose 11 = .ok (.istore_n 3, 1) := by decide +kernel
theorem dX3_fewestToClose_12 : decode cX3_fewestToClose 12 = .ok (.iconst 0, 1) := by decide +kernel
theorem dX3_fewestToClose_13 : decode cX3_fewestToClose 13 = .ok (.istore 4, 2) := by decide +kernel
theorem dX3_fewestToClose_15 : decode cX3_fewestToClose 15 = .ok (.iload 4, 2) := by decide +kernel
theorem dX3_fewestToClose_17 : decode cX3_fewestToClose 17 = .ok (.sipush 4095, 3) := by decide +kernel
theorem dX3_fewestToClose_20 : decode cX3_fewestToClose 20 = .ok (.if_icmp .gt 43, 3) := by decide +kernel
theorem dX3_fewestToClose_23 : decode cX3_fewestToClose 23 = .ok (.iload_n 3, 1) := by decide +kernel
theorem dX3_fewestToClose_24 : decode cX3_fewestToClose 24 = .ok (.invokestatic 28, 3) := by decide +kernel
theorem dX3_fewestToClose_27 : decode cX3_fewestToClose 27 = .ok (.iload_n 2, 1) := by decide +kernel
theorem dX3_fewestToClose_28 : decode cX3_fewestToClose 28 = .ok (.if_icmp .ge 16, 3) := by decide +kernel
theorem dX3_fewestToClose_31 : decode cX3_fewestToClose 31 = .ok (.iload_n 3, 1) := by decide +kernel
theorem dX3_fewestToClose_32 : decode cX3_fewestToClose 32 = .ok (.invokestatic 25, 3) := by decide +kernel
theorem dX3_fewestToClose_35 : decode cX3_fewestToClose 35 = .ok (.iload_n 1, 1) := by decide +kernel
theorem dX3_fewestToClose_36 : decode cX3_fewestToClose 36 = .ok (.if_icmp .ne 8, 3) := by decide +kernel
theorem dX3_fewestToClose_39 : decode cX3_fewestToClose 39 = .ok (.iload_n 3, 1) := by decide +kernel
theorem dX3_fewestToClose_40 : decode cX3_fewestToClose 40 = .ok (.invokestatic 28, 3) := by decide +kernel
theorem dX3_fewestToClose_43 : decode cX3_fewestToClose 43 = .ok (.istore_n 2, 1) := by decide +kernel
theorem dX3_fewestToClose_44 : decode cX3_fewestToClose 44 = .ok (.iload_n 3, 1) := by decide +kernel
theorem dX3_fewestToClose_45 : decode cX3_fewestToClose 45 = .ok (.iload_n 0, 1) := by decide +kernel
theorem dX3_fewestToClose_46 : decode cX3_fewestToClose 46 = .ok (.invokestatic 65, 3) := by decide +kernel
theorem dX3_fewestToClose_49 : decode cX3_fewestToClose 49 = .ok (.istore_n 3, 1) := by decide +kernel
theorem dX3_fewestToClose_50 : decode cX3_fewestToClose 50 = .ok (.iload_n 3, 1) := by decide +kernel
theorem dX3_fewestToClose_51 : decode cX3_fewestToClose 51 = .ok (.ifCond .ne 6, 3) := by decide +kernel
theorem dX3_fewestToClose_54 : decode cX3_fewestToClose 54 = .ok (.goto 9, 3) := by decide +kernel
theorem dX3_fewestToClose_57 : decode cX3_fewestToClose 57 = .ok (.iinc 4 1, 3) := by decide +kernel
theorem dX3_fewestToClose_60 : decode cX3_fewestToClose 60 = .ok (.goto (-45), 3) := by decide +kernel
theorem dX3_fewestToClose_63 : decode cX3_fewestToClose 63 = .ok (.iload_n 2, 1) := by decide +kernel
theorem dX3_fewestToClose_64 : decode cX3_fewestToClose 64 = .ok (.ireturn, 1) := by decide +kernel
theorem dX3_nextPart_0 : decode cX3_nextPart 0 = .ok (.iload_n 0, 1) := by decide +kernel
theorem dX3_nextPart_1 : decode cX3_nextPart 1 = .ok (.iload_n 1, 1) := by decide +kernel
theorem dX3_nextPart_2 : decode cX3_nextPart 2 = .ok (.isub, 1) := by decide +kernel
theorem dX3_nextPart_3 : decode cX3_nextPart 3 = .ok (.iload_n 1, 1) := by decide +kernel
theorem dX3_nextPart_4 : decode cX3_nextPart 4 = .ok (.iand, 1) := by decide +kernel
theorem dX3_nextPart_5 : decode cX3_nextPart 5 = .ok (.ireturn, 1) := by decide +kernel
set_option maxRecDepth 20000 in
theorem ggX3_byAQuarter_X3_hasStroke : GoodIn wsX3_byAQuarter wsX3_hasStroke := goodIn_r _ [5] (by decide +kernel) (by decide +kernel)
set_option maxRecDepth 20000 in
theorem gX3_byAQuarter_X3_hasStroke : GoodIn wsX3_byAQuarter (va_wsS RX3 49 yX3_hasStroke wsX3_hasStroke) := goodIn_app (goodIn_of _ (by decide +kernel)) ggX3_byAQuarter_X3_hasStroke
theorem dX3_byAQuarter_0 : decode cX3_byAQuarter 0 = .ok (.iconst 0, 1) := by decide +kernel
theorem dX3_byAQuarter_1 : decode cX3_byAQuarter 1 = .ok (.istore_n 1, 1) := by decide +kernel
theorem dX3_byAQuarter_2 : decode cX3_byAQuarter 2 = .ok (.iconst 0, 1) := by decide +kernel
theorem dX3_byAQuarter_3 : decode cX3_byAQuarter 3 = .ok (.istore_n 2, 1) := by decide +kernel
theorem dX3_byAQuarter_4 : decode cX3_byAQuarter 4 = .ok (.iload_n 2, 1) := by decide +kernel
theorem dX3_byAQuarter_5 : decode cX3_byAQuarter 5 = .ok (.getstatic 68, 3) := by decide +kernel
theorem dX3_byAQuarter_8 : decode cX3_byAQuarter 8 = .ok (.arraylength, 1) := by decide +kernel
theorem dX3_byAQuarter_9 : decode cX3_byAQuarter 9 = .ok (.if_icmp .ge 27, 3) := by decide +kernel
theorem dX3_byAQuarter_12 : decode cX3_byAQuarter 12 = .ok (.iload_n 0, 1) := by decide +kernel
theorem dX3_byAQuarter_13 : decode cX3_byAQuarter 13 = .ok (.iload_n 2, 1) := by decide +kernel
theorem dX3_byAQuarter_14 : decode cX3_byAQuarter 14 = .ok (.invokestatic 49, 3) := by decide +kernel
theorem dX3_byAQuarter_17 : decode cX3_byAQuarter 17 = .ok (.ifCond .eq 13, 3) := by decide +kernel
theorem dX3_byAQuarter_20 : decode cX3_byAQuarter 20 = .ok (.iload_n 1, 1) := by decide +kernel
theorem dX3_byAQuarter_21 : decode cX3_byAQuarter 21 = .ok (.iconst 1, 1) := by decide +kernel
theorem dX3_byAQuarter_22 : decode cX3_byAQuarter 22 = .ok (.getstatic 68, 3) := by decide +kernel
theorem dX3_byAQuarter_25 : decode cX3_byAQuarter 25 = .ok (.iload_n 2, 1) := by decide +kernel
theorem dX3_byAQuarter_26 : decode cX3_byAQuarter 26 = .ok (.iaload, 1) := by decide +kernel
theorem dX3_byAQuarter_27 : decode cX3_byAQuarter 27 = .ok (.ishl, 1) := by decide +kernel
theorem dX3_byAQuarter_28 : decode cX3_byAQuarter 28 = .ok (.ior, 1) := by decide +kernel
theorem dX3_byAQuarter_29 : decode cX3_byAQuarter 29 = .ok (.istore_n 1, 1) := by decide +kernel
theorem dX3_byAQuarter_30 : decode cX3_byAQuarter 30 = .ok (.iinc 2 1, 3) := by decide +kernel
theorem dX3_byAQuarter_33 : decode cX3_byAQuarter 33 = .ok (.goto (-29), 3) := by decide +kernel
theorem dX3_byAQuarter_36 : decode cX3_byAQuarter 36 = .ok (.iload_n 1, 1) := by decide +kernel
theorem dX3_byAQuarter_37 : decode cX3_byAQuarter 37 = .ok (.ireturn, 1) := by decide +kernel
set_option maxRecDepth 20000 in
theorem ggX3_differ_J6_bitCount_0f7a4 : GoodIn wsX3_differ wsJ6_bitCount_0f7a4 := goodIn_r _ [4, 5, 6, 7] (by decide +kernel) (by decide +kernel)
set_option maxRecDepth 20000 in
theorem gX3_differ_J6_bitCount_0f7a4 : GoodIn wsX3_differ (va_wsS RX3 28 yJ6_bitCount_0f7a4 wsJ6_bitCount_0f7a4) := goodIn_app (goodIn_of _ (by decide +kernel)) ggX3_differ_J6_bitCount_0f7a4
theorem dX3_differ_0 : decode cX3_differ 0 = .ok (.iload_n 0, 1) := by decide +kernel
theorem dX3_differ_1 : decode cX3_differ 1 = .ok (.iload_n 1, 1) := by decide +kernel
theorem dX3_differ_2 : decode cX3_differ 2 = .ok (.ixor, 1) := by decide +kernel
theorem dX3_differ_3 : decode cX3_differ 3 = .ok (.invokestatic 28, 3) := by decide +kernel
theorem dX3_differ_6 : decode cX3_differ 6 = .ok (.ireturn, 1) := by decide +kernel
set_option maxRecDepth 20000 in
theorem ggX3_between_X3_across : GoodIn wsX3_between wsX3_across := goodIn_r _ [4, 5, 6] (by decide +kernel) (by decide +kernel)
set_option maxRecDepth 20000 in
theorem gX3_between_X3_across : GoodIn wsX3_between (va_wsS RX3 52 yX3_across wsX3_across) := goodIn_app (goodIn_of _ (by decide +kernel)) ggX3_between_X3_across
theorem dX3_between_0 : decode cX3_between 0 = .ok (.iconst 0, 1) := by decide +kernel
theorem dX3_between_1 : decode cX3_between 1 = .ok (.istore_n 2, 1) := by decide +kernel
theorem dX3_between_2 : decode cX3_between 2 = .ok (.iload_n 2, 1) := by decide +kernel
theorem dX3_between_3 : decode cX3_between 3 = .ok (.bipush 12, 2) := by decide +kernel
theorem dX3_between_5 : decode cX3_between 5 = .ok (.if_icmp .ge 20, 3) := by decide +kernel
theorem dX3_between_8 : decode cX3_between 8 = .ok (.iload_n 2, 1) := by decide +kernel
theorem dX3_between_9 : decode cX3_between 9 = .ok (.iload_n 0, 1) := by decide +kernel
theorem dX3_between_10 : decode cX3_between 10 = .ok (.invokestatic 52, 3) := by decide +kernel
theorem dX3_between_13 : decode cX3_between 13 = .ok (.iload_n 1, 1) := by decide +kernel
theorem dX3_between_14 : decode cX3_between 14 = .ok (.if_icmp .ne 5, 3) := by decide +kernel
theorem dX3_between_17 : decode cX3_between 17 = .ok (.iload_n 2, 1) := by decide +kernel
theorem dX3_between_18 : decode cX3_between 18 = .ok (.ireturn, 1) := by decide +kernel
theorem dX3_between_19 : decode cX3_between 19 = .ok (.iinc 2 1, 3) := by decide +kernel
theorem dX3_between_22 : decode cX3_between 22 = .ok (.goto (-20), 3) := by decide +kernel
theorem dX3_between_25 : decode cX3_between 25 = .ok (.iconst (-1), 1) := by decide +kernel
theorem dX3_between_26 : decode cX3_between 26 = .ok (.ireturn, 1) := by decide +kernel
theorem dX4_isKind_0 : decode cX4_isKind 0 = .ok (.iload_n 0, 1) := by decide +kernel
theorem dX4_isKind_1 : decode cX4_isKind 1 = .ok (.ifCond .lt 13, 3) := by decide +kernel
theorem dX4_isKind_4 : decode cX4_isKind 4 = .ok (.iload_n 0, 1) := by decide +kernel
theorem dX4_isKind_5 : decode cX4_isKind 5 = .ok (.bipush 6, 2) := by decide +kernel
theorem dX4_isKind_7 : decode cX4_isKind 7 = .ok (.if_icmp .ge 7, 3) := by decide +kernel
theorem dX4_isKind_10 : decode cX4_isKind 10 = .ok (.iconst 1, 1) := by decide +kernel
theorem dX4_isKind_11 : decode cX4_isKind 11 = .ok (.goto 4, 3) := by decide +kernel
theorem dX4_isKind_14 : decode cX4_isKind 14 = .ok (.iconst 0, 1) := by decide +kernel
theorem dX4_isKind_15 : decode cX4_isKind 15 = .ok (.ireturn, 1) := by decide +kernel
theorem dX4_above_0 : decode cX4_above 0 = .ok (.iload_n 0, 1) := by decide +kernel
theorem dX4_above_1 : decode cX4_above 1 = .ok (.tableswitch 41 1 5 #[35, 35, 35, 37, 39], 35) := by decide +kernel
theorem dX4_above_36 : decode cX4_above 36 = .ok (.iconst 0, 1) := by decide +kernel
theorem dX4_above_37 : decode cX4_above 37 = .ok (.ireturn, 1) := by decide +kernel
theorem dX4_above_38 : decode cX4_above 38 = .ok (.iconst 1, 1) := by decide +kernel
theorem dX4_above_39 : decode cX4_above 39 = .ok (.ireturn, 1) := by decide +kernel
theorem dX4_above_40 : decode cX4_above 40 = .ok (.iconst 2, 1) := by decide +kernel
theorem dX4_above_41 : decode cX4_above 41 = .ok (.ireturn, 1) := by decide +kernel
theorem dX4_above_42 : decode cX4_above 42 = .ok (.iconst (-1), 1) := by decide +kernel
theorem dX4_above_43 : decode cX4_above 43 = .ok (.ireturn, 1) := by decide +kernel
set_option maxRecDepth 20000 in
theorem ggX4_isUnder_X4_above : GoodIn wsX4_isUnder wsX4_above := goodIn_r _ [4] (by decide +kernel) (by decide +kernel)
set_option maxRecDepth 20000 in
theorem gX4_isUnder_X4_above : GoodIn wsX4_isUnder (va_wsS RX4 9 yX4_above wsX4_above) := goodIn_app (goodIn_of _ (by decide +kernel)) ggX4_isUnder_X4_above
theorem dX4_isUnder_0 : decode cX4_isUnder 0 = .ok (.iload_n 0, 1) := by decide +kernel
theorem dX4_isUnder_1 : decode cX4_isUnder 1 = .ok (.istore_n 2, 1) := by decide +kernel
theorem dX4_isUnder_2 : decode cX4_isUnder 2 = .ok (.iconst 0, 1) := by decide +kernel
theorem dX4_isUnder_3 : decode cX4_isUnder 3 = .ok (.istore_n 3, 1) := by decide +kernel
theorem dX4_isUnder_4 : decode cX4_isUnder 4 = .ok (.iload_n 3, 1) := by decide +kernel
theorem dX4_isUnder_5 : decode cX4_isUnder 5 = .ok (.bipush 6, 2) := by decide +kernel
theorem dX4_isUnder_7 : decode cX4_isUnder 7 = .ok (.if_icmp .ge 25, 3) := by decide +kernel
theorem dX4_isUnder_10 : decode cX4_isUnder 10 = .ok (.iload_n 2, 1) := by decide +kernel
theorem dX4_isUnder_11 : decode cX4_isUnder 11 = .ok (.ifCond .lt 21, 3) := by decide +kernel
theorem dX4_isUnder_14 : decode cX4_isUnder 14 = .ok (.iload_n 2, 1) := by decide +kernel
theorem dX4_isUnder_15 : decode cX4_isUnder 15 = .ok (.iload_n 1, 1) := by decide +kernel
theorem dX4_isUnder_16 : decode cX4_isUnder 16 = .ok (.if_icmp .ne 5, 3) := by decide +kernel
theorem dX4_isUnder_19 : decode cX4_isUnder 19 = .ok (.iconst 1, 1) := by decide +kernel
theorem dX4_isUnder_20 : decode cX4_isUnder 20 = .ok (.ireturn, 1) := by decide +kernel
theorem dX4_isUnder_21 : decode cX4_isUnder 21 = .ok (.iload_n 2, 1) := by decide +kernel
theorem dX4_isUnder_22 : decode cX4_isUnder 22 = .ok (.invokestatic 9, 3) := by decide +kernel
theorem dX4_isUnder_25 : decode cX4_isUnder 25 = .ok (.istore_n 2, 1) := by decide +kernel
theorem dX4_isUnder_26 : decode cX4_isUnder 26 = .ok (.iinc 3 1, 3) := by decide +kernel
theorem dX4_isUnder_29 : decode cX4_isUnder 29 = .ok (.goto (-25), 3) := by decide +kernel
theorem dX4_isUnder_32 : decode cX4_isUnder 32 = .ok (.iconst 0, 1) := by decide +kernel
theorem dX4_isUnder_33 : decode cX4_isUnder 33 = .ok (.ireturn, 1) := by decide +kernel
theorem dX4_lasts_0 : decode cX4_lasts 0 = .ok (.iload_n 0, 1) := by decide +kernel
theorem dX4_lasts_1 : decode cX4_lasts 1 = .ok (.tableswitch 49 1 5 #[35, 39, 49, 35, 43], 35) := by decide +kernel
theorem dX4_lasts_36 : decode cX4_lasts 36 = .ok (.iconst 2, 1) := by decide +kernel
theorem dX4_lasts_37 : decode cX4_lasts 37 = .ok (.iload_n 1, 1) := by decide +kernel
theorem dX4_lasts_38 : decode cX4_lasts 38 = .ok (.imul, 1) := by decide +kernel
theorem dX4_lasts_39 : decode cX4_lasts 39 = .ok (.ireturn, 1) := by decide +kernel
theorem dX4_lasts_40 : decode cX4_lasts 40 = .ok (.iload_n 1, 1) := by decide +kernel
theorem dX4_lasts_41 : decode cX4_lasts 41 = .ok (.iconst 2, 1) := by decide +kernel
theorem dX4_lasts_42 : decode cX4_lasts 42 = .ok (.idiv, 1) := by decide +kernel
theorem dX4_lasts_43 : decode cX4_lasts 43 = .ok (.ireturn, 1) := by decide +kernel
theorem dX4_lasts_44 : decode cX4_lasts 44 = .ok (.iload_n 1, 1) := by decide +kernel
theorem dX4_lasts_45 : decode cX4_lasts 45 = .ok (.iconst 2, 1) := by decide +kernel
theorem dX4_lasts_46 : decode cX4_lasts 46 = .ok (.idiv, 1) := by decide +kernel
theorem dX4_lasts_47 : decode cX4_lasts 47 = .ok (.iconst 4, 1) := by decide +kernel
theorem dX4_lasts_48 : decode cX4_lasts 48 = .ok (.iadd, 1) := by decide +kernel
theorem dX4_lasts_49 : decode cX4_lasts 49 = .ok (.ireturn, 1) := by decide +kernel
theorem dX4_lasts_50 : decode cX4_lasts 50 = .ok (.iload_n 1, 1) := by decide +kernel
theorem dX4_lasts_51 : decode cX4_lasts 51 = .ok (.ireturn, 1) := by decide +kernel
theorem dX4_shows_0 : decode cX4_shows 0 = .ok (.iload_n 0, 1) := by decide +kernel
theorem dX4_shows_1 : decode cX4_shows 1 = .ok (.lookupswitch 37 #[(3, 27), (4, 32)], 27) := by decide +kernel
theorem dX4_shows_28 : decode cX4_shows 28 = .ok (.iload_n 1, 1) := by decide +kernel
theorem dX4_shows_29 : decode cX4_shows 29 = .ok (.bipush 12, 2) := by decide +kernel
theorem dX4_shows_31 : decode cX4_shows 31 = .ok (.ior, 1) := by decide +kernel
theorem dX4_shows_32 : decode cX4_shows 32 = .ok (.ireturn, 1) := by decide +kernel
theorem dX4_shows_33 : decode cX4_shows 33 = .ok (.iload_n 1, 1) := by decide +kernel
theorem dX4_shows_34 : decode cX4_shows 34 = .ok (.bipush 48, 2) := by decide +kernel
theorem dX4_shows_36 : decode cX4_shows 36 = .ok (.ior, 1) := by decide +kernel
theorem dX4_shows_37 : decode cX4_shows 37 = .ok (.ireturn, 1) := by decide +kernel
theorem dX4_shows_38 : decode cX4_shows 38 = .ok (.iload_n 1, 1) := by decide +kernel
theorem dX4_shows_39 : decode cX4_shows 39 = .ok (.ireturn, 1) := by decide +kernel
set_option maxRecDepth 20000 in
theorem ggX4_feet_J6_bitCount_0f7a4 : GoodIn wsX4_feet wsJ6_bitCount_0f7a4 := goodIn_r _ [4, 5, 6, 7] (by decide +kernel) (by decide +kernel)
set_option maxRecDepth 20000 in
theorem gX4_feet_J6_bitCount_0f7a4 : GoodIn wsX4_feet (va_wsS RX4 13 yJ6_bitCount_0f7a4 wsJ6_bitCount_0f7a4) := goodIn_app (goodIn_of _ (by decide +kernel)) ggX4_feet_J6_bitCount_0f7a4
set_option maxRecDepth 20000 in
theorem ggX4_feet_X3_countStrays : GoodIn wsX4_feet wsX3_countStrays := goodIn_r _ [11, 12, 13, 14, 15, 16, 17, 10, 18, 19, 20, 21, 22, 23, 24, 25, 26, 2, 3, 4, 5, 6, 7] (by decide +kernel) (by decide +kernel)
set_option maxRecDepth 20000 in
theorem gX4_feet_X3_countStrays : GoodIn wsX4_feet (va_wsS RX4 18 yX3_countStrays wsX3_countStrays) := goodIn_app (goodIn_of _ (by decide +kernel)) ggX4_feet_X3_countStrays
theorem dX4_feet_0 : decode cX4_feet 0 = .ok (.iload_n 1, 1) := by decide +kernel
theorem dX4_feet_1 : decode cX4_feet 1 = .ok (.invokestatic 13, 3) := by decide +kernel
theorem dX4_feet_4 : decode cX4_feet 4 = .ok (.iload_n 1, 1) := by decide +kernel
theorem dX4_feet_5 : decode cX4_feet 5 = .ok (.invokestatic 18, 3) := by decide +kernel
theorem dX4_feet_8 : decode cX4_feet 8 = .ok (.iadd, 1) := by decide +kernel
theorem dX4_feet_9 : decode cX4_feet 9 = .ok (.istore_n 2, 1) := by decide +kernel
theorem dX4_feet_10 : decode cX4_feet 10 = .ok (.iload_n 0, 1) := by decide +kernel
theorem dX4_feet_11 : decode cX4_feet 11 = .ok (.tableswitch 43 1 4 #[29, 43, 33, 37], 29) := by decide +kernel
theorem dX4_feet_40 : decode cX4_feet 40 = .ok (.iconst 2, 1) := by decide +kernel
theorem dX4_feet_41 : decode cX4_feet 41 = .ok (.iload_n 2, 1) := by decide +kernel
theorem dX4_feet_42 : decode cX4_feet 42 = .ok (.imul, 1) := by decide +kernel
theorem dX4_feet_43 : decode cX4_feet 43 = .ok (.ireturn, 1) := by decide +kernel
theorem dX4_feet_44 : decode cX4_feet 44 = .ok (.iload_n 2, 1) := by decide +kernel
theorem dX4_feet_45 : decode cX4_feet 45 = .ok (.iconst 2, 1) := by decide +kernel
theorem dX4_feet_46 : decode cX4_feet 46 = .ok (.iadd, 1) := by decide +kernel
theorem dX4_feet_47 : decode cX4_feet 47 = .ok (.ireturn, 1) := by decide +kernel
theorem dX4_feet_48 : decode cX4_feet 48 = .ok (.iconst 2, 1) := by decide +kernel
theorem dX4_feet_49 : decode cX4_feet 49 = .ok (.iload_n 2, 1) := by decide +kernel
theorem dX4_feet_50 : decode cX4_feet 50 = .ok (.imul, 1) := by decide +kernel
theorem dX4_feet_51 : decode cX4_feet 51 = .ok (.iconst 2, 1) := by decide +kernel
theorem dX4_feet_52 : decode cX4_feet 52 = .ok (.iadd, 1) := by decide +kernel
theorem dX4_feet_53 : decode cX4_feet 53 = .ok (.ireturn, 1) := by decide +kernel
theorem dX4_feet_54 : decode cX4_feet 54 = .ok (.iload_n 2, 1) := by decide +kernel
theorem dX4_feet_55 : decode cX4_feet 55 = .ok (.ireturn, 1) := by decide +kernel
set_option maxRecDepth 20000 in
theorem ggX4_lastsForFeet_X4_feet : GoodIn wsX4_lastsForFeet wsX4_feet := goodIn_r _ [4, 5, 6, 7, 8, 9, 10, 11, 12, 13, 14, 15, 16, 17, 18, 19, 20, 21, 22, 23, 24, 25, 26, 27, 28, 29, 30] (by decide +kernel) (by decide +kernel)
set_option maxRecDepth 20000 in
theorem gX4_lastsForFeet_X4_feet : GoodIn wsX4_lastsForFeet (va_wsS RX4 23 yX4_feet wsX4_feet) := goodIn_app (goodIn_of _ (by decide +kernel)) ggX4_lastsForFeet_X4_feet
set_option maxRecDepth 20000 in
theorem ggX4_lastsForFeet_X4_lasts : GoodIn wsX4_lastsForFeet wsX4_lasts := goodIn_r _ [33] (by decide +kernel) (by decide +kernel)
set_option maxRecDepth 20000 in
theorem gX4_lastsForFeet_X4_lasts : GoodIn wsX4_lastsForFeet (va_wsS RX4 27 yX4_lasts wsX4_lasts) := goodIn_app (goodIn_of _ (by decide +kernel)) ggX4_lastsForFeet_X4_lasts
theorem dX4_lastsForFeet_0 : decode cX4_lastsForFeet 0 = .ok (.iload_n 0, 1) := by decide +kernel
theorem dX4_lastsForFeet_1 : decode cX4_lastsForFeet 1 = .ok (.iload_n 1, 1) := by decide +kernel
theorem dX4_lastsForFeet_2 : decode cX4_lastsForFeet 2 = .ok (.invokestatic 23, 3) := by decide +kernel
theorem dX4_lastsForFeet_5 : decode cX4_lastsForFeet 5 = .ok (.istore_n 3, 1) := by decide +kernel
theorem dX4_lastsForFeet_6 : decode cX4_lastsForFeet 6 = .ok (.iload_n 3, 1) := by decide +kernel
theorem dX4_lastsForFeet_7 : decode cX4_lastsForFeet 7 = .ok (.ifCond .le 16, 3) := by decide +kernel
theorem dX4_lastsForFeet_10 : decode cX4_lastsForFeet 10 = .ok (.iload_n 0, 1) := by decide +kernel
theorem dX4_lastsForFeet_11 : decode cX4_lastsForFeet 11 = .ok (.iload_n 2, 1) := by decide +kernel
theorem dX4_lastsForFeet_12 : decode cX4_lastsForFeet 12 = .ok (.invokestatic 27, 3) := by decide +kernel
theorem dX4_lastsForFeet_15 : decode cX4_lastsForFeet 15 = .ok (.bipush 100, 2) := by decide +kernel
theorem dX4_lastsForFeet_17 : decode cX4_lastsForFeet 17 = .ok (.imul, 1) := by decide +kernel
theorem dX4_lastsForFeet_18 : decode cX4_lastsForFeet 18 = .ok (.iload_n 3, 1) := by decide +kernel
theorem dX4_lastsForFeet_19 : decode cX4_lastsForFeet 19 = .ok (.idiv, 1) := by decide +kernel
theorem dX4_lastsForFeet_20 : decode cX4_lastsForFeet 20 = .ok (.goto 4, 3) := by decide +kernel
theorem dX4_lastsForFeet_23 : decode cX4_lastsForFeet 23 = .ok (.iconst 0, 1) := by decide +kernel
theorem dX4_lastsForFeet_24 : decode cX4_lastsForFeet 24 = .ok (.ireturn, 1) := by decide +kernel
set_option maxRecDepth 20000 in
theorem ggX4_longestForFeet_X4_lastsForFeet : GoodIn wsX4_longestForFeet wsX4_lastsForFeet := goodIn_r _ [4, 5, 6, 3, 7, 8, 9, 10, 11, 12, 13, 14, 15, 16, 17, 18, 19, 20, 21, 22, 23, 24, 25, 26, 27, 28, 29, 30, 31, 32, 33, 34, 35, 36] (by decide +kernel) (by decide +kernel)
set_option maxRecDepth 20000 in
theorem gX4_longestForFeet_X4_lastsForFeet : GoodIn wsX4_longestForFeet (va_wsS RX4 30 yX4_lastsForFeet wsX4_lastsForFeet) := goodIn_app (goodIn_of _ (by decide +kernel)) ggX4_longestForFeet_X4_lastsForFeet
theorem dX4_longestForFeet_0 : decode cX4_longestForFeet 0 = .ok (.iconst 0, 1) := by decide +kernel
theorem dX4_longestForFeet_1 : decode cX4_longestForFeet 1 = .ok (.istore_n 2, 1) := by decide +kernel
theorem dX4_longestForFeet_2 : decode cX4_longestForFeet 2 = .ok (.iconst 0, 1) := by decide +kernel
theorem dX4_longestForFeet_3 : decode cX4_longestForFeet 3 = .ok (.iload_n 0, 1) := by decide +kernel
theorem dX4_longestForFeet_4 : decode cX4_longestForFeet 4 = .ok (.iload_n 1, 1) := by decide +kernel
theorem dX4_longestForFeet_5 : decode cX4_longestForFeet 5 = .ok (.invokestatic 30, 3) := by decide +kernel
theorem dX4_longestForFeet_8 : decode cX4_longestForFeet 8 = .ok (.istore_n 3, 1) := by decide +kernel
theorem dX4_longestForFeet_9 : decode cX4_longestForFeet 9 = .ok (.iconst 1, 1) := by decide +kernel
theorem dX4_longestForFeet_10 : decode cX4_longestForFeet 10 = .ok (.istore 4, 2) := by decide +kernel
theorem dX4_longestForFeet_12 : decode cX4_longestForFeet 12 = .ok (.iload 4, 2) := by decide +kernel
theorem dX4_longestForFeet_14 : decode cX4_longestForFeet 14 = .ok (.bipush 6, 2) := by decide +kernel
theorem dX4_longestForFeet_16 : decode cX4_longestForFeet 16 = .ok (.if_icmp .ge 30, 3) := by decide +kernel
theorem dX4_longestForFeet_19 : decode cX4_longestForFeet 19 = .ok (.iload 4, 2) := by decide +kernel
theorem dX4_longestForFeet_21 : decode cX4_longestForFeet 21 = .ok (.iload_n 0, 1) := by decide +kernel
theorem dX4_longestForFeet_22 : decode cX4_longestForFeet 22 = .ok (.iload_n 1, 1) := by decide +kernel
theorem dX4_longestForFeet_23 : decode cX4_longestForFeet 23 = .ok (.invokestatic 30, 3) := by decide +kernel
theorem dX4_longestForFeet_26 : decode cX4_longestForFeet 26 = .ok (.istore 5, 2) := by decide +kernel
theorem dX4_longestForFeet_28 : decode cX4_longestForFeet 28 = .ok (.iload 5, 2) := by decide +kernel
theorem dX4_longestForFeet_30 : decode cX4_longestForFeet 30 = .ok (.iload_n 3, 1) := by decide +kernel
theorem dX4_longestForFeet_31 : decode cX4_longestForFeet 31 = .ok (.if_icmp .le 9, 3) := by decide +kernel
theorem dX4_longestForFeet_34 : decode cX4_longestForFeet 34 = .ok (.iload 5, 2) := by decide +kernel
theorem dX4_longestForFeet_36 : decode cX4_longestForFeet 36 = .ok (.istore_n 3, 1) := by decide +kernel
theorem dX4_longestForFeet_37 : decode cX4_longestForFeet 37 = .ok (.iload 4, 2) := by decide +kernel
theorem dX4_longestForFeet_39 : decode cX4_longestForFeet 39 = .ok (.istore_n 2, 1) := by decide +kernel
theorem dX4_longestForFeet_40 : decode cX4_longestForFeet 40 = .ok (.iinc 4 1, 3) := by decide +kernel
theorem dX4_longestForFeet_43 : decode cX4_longestForFeet 43 = .ok (.goto (-31), 3) := by decide +kernel
theorem dX4_longestForFeet_46 : decode cX4_longestForFeet 46 = .ok (.iload_n 2, 1) := by decide +kernel
theorem dX4_longestForFeet_47 : decode cX4_longestForFeet 47 = .ok (.ireturn, 1) := by decide +kernel
set_option maxRecDepth 20000 in
theorem ggX5_init_X0_init : GoodIn wsX5_init wsX0_init := goodIn_r _ [13, 14, 2, 3, 8, 15, 16] (by decide +kernel) (by decide +kernel)
set_option maxRecDepth 20000 in
theorem gX5_init_X0_init_n9 : GoodIn wsX5_init (wsX0_init) := ggX5_init_X0_init
theorem dX5_init_0 : decode cX5_init 0 = .ok (.aload_n 0, 1) := by decide +kernel
theorem dX5_init_1 : decode cX5_init 1 = .ok (.invokespecial 1, 3) := by decide +kernel
theorem dX5_init_4 : decode cX5_init 4 = .ok (.aload_n 0, 1) := by decide +kernel
theorem dX5_init_5 : decode cX5_init 5 = .ok (.new 7, 3) := by decide +kernel
theorem dX5_init_8 : decode cX5_init 8 = .ok (.dup, 1) := by decide +kernel
theorem dX5_init_9 : decode cX5_init 9 = .ok (.invokespecial 9, 3) := by decide +kernel
theorem dX5_init_12 : decode cX5_init 12 = .ok (.putfield 10, 3) := by decide +kernel
theorem dX5_init_15 : decode cX5_init 15 = .ok (.aload_n 0, 1) := by decide +kernel
theorem dX5_init_16 : decode cX5_init 16 = .ok (.bipush 12, 2) := by decide +kernel
theorem dX5_init_18 : decode cX5_init 18 = .ok (.newarray .int, 2) := by decide +kernel
theorem dX5_init_20 : decode cX5_init 20 = .ok (.putfield 16, 3) := by decide +kernel
theorem dX5_init_23 : decode cX5_init 23 = .ok (.aload_n 0, 1) := by decide +kernel
theorem dX5_init_24 : decode cX5_init 24 = .ok (.bipush 12, 2) := by decide +kernel
theorem dX5_init_26 : decode cX5_init 26 = .ok (.newarray .int, 2) := by decide +kernel
theorem dX5_init_28 : decode cX5_init 28 = .ok (.putfield 20, 3) := by decide +kernel
theorem dX5_init_31 : decode cX5_init 31 = .ok (.aload_n 0, 1) := by decide +kernel
theorem dX5_init_32 : decode cX5_init 32 = .ok (.bipush 12, 2) := by decide +kernel
theorem dX5_init_34 : decode cX5_init 34 = .ok (.newarray .int, 2) := by decide +kernel
theorem dX5_init_36 : decode cX5_init 36 = .ok (.putfield 23, 3) := by decide +kernel
theorem dX5_init_39 : decode cX5_init 39 = .ok (.return_, 1) := by decide +kernel
set_option maxRecDepth 20000 in
theorem ggX5_become_X0_become : GoodIn wsX5_become wsX0_become := goodIn_r _ [16, 17, 18, 4, 5, 6, 26] (by decide +kernel) (by decide +kernel)
set_option maxRecDepth 20000 in
theorem gX5_become_X0_become : GoodIn wsX5_become (wsV RX5 26 RX0 yX0_become wsX0_become) := goodIn_app (goodIn_of _ (by decide +kernel)) ggX5_become_X0_become
theorem dX5_become_0 : decode cX5_become 0 = .ok (.aload_n 0, 1) := by decide +kernel
theorem dX5_become_1 : decode cX5_become 1 = .ok (.getfield 10, 3) := by decide +kernel
theorem dX5_become_4 : decode cX5_become 4 = .ok (.aload_n 1, 1) := by decide +kernel
theorem dX5_become_5 : decode cX5_become 5 = .ok (.getfield 10, 3) := by decide +kernel
theorem dX5_become_8 : decode cX5_become 8 = .ok (.invokevirtual 26, 3) := by decide +kernel
theorem dX5_become_11 : decode cX5_become 11 = .ok (.aload_n 1, 1) := by decide +kernel
theorem dX5_become_12 : decode cX5_become 12 = .ok (.getfield 16, 3) := by decide +kernel
theorem dX5_become_15 : decode cX5_become 15 = .ok (.iconst 0, 1) := by decide +kernel
theorem dX5_become_16 : decode cX5_become 16 = .ok (.aload_n 0, 1) := by decide +kernel
theorem dX5_become_17 : decode cX5_become 17 = .ok (.getfield 16, 3) := by decide +kernel
theorem dX5_become_20 : decode cX5_become 20 = .ok (.iconst 0, 1) := by decide +kernel
theorem dX5_become_21 : decode cX5_become 21 = .ok (.bipush 12, 2) := by decide +kernel
theorem dX5_become_23 : decode cX5_become 23 = .ok (.invokestatic 30, 3) := by decide +kernel
theorem dX5_become_26 : decode cX5_become 26 = .ok (.aload_n 1, 1) := by decide +kernel
theorem dX5_become_27 : decode cX5_become 27 = .ok (.getfield 20, 3) := by decide +kernel
theorem dX5_become_30 : decode cX5_become 30 = .ok (.iconst 0, 1) := by decide +kernel
theorem dX5_become_31 : decode cX5_become 31 = .ok (.aload_n 0, 1) := by decide +kernel
theorem dX5_become_32 : decode cX5_become 32 = .ok (.getfield 20, 3) := by decide +kernel
theorem dX5_become_35 : decode cX5_become 35 = .ok (.iconst 0, 1) := by decide +kernel
theorem dX5_become_36 : decode cX5_become 36 = .ok (.bipush 12, 2) := by decide +kernel
theorem dX5_become_38 : decode cX5_become 38 = .ok (.invokestatic 30, 3) := by decide +kernel
theorem dX5_become_41 : decode cX5_become 41 = .ok (.aload_n 1, 1) := by decide +kernel
theorem dX5_become_42 : decode cX5_become 42 = .ok (.getfield 23, 3) := by decide +kernel
theorem dX5_become_45 : decode cX5_become 45 = .ok (.iconst 0, 1) := by decide +kernel
theorem dX5_become_46 : decode cX5_become 46 = .ok (.aload_n 0, 1) := by decide +kernel
theorem dX5_become_47 : decode cX5_become 47 = .ok (.getfield 23, 3) := by decide +kernel
theorem dX5_become_50 : decode cX5_become 50 = .ok (.iconst 0, 1) := by decide +kernel
theorem dX5_become_51 : decode cX5_become 51 = .ok (.bipush 12, 2) := by decide +kernel
theorem dX5_become_53 : decode cX5_become 53 = .ok (.invokestatic 30, 3) := by decide +kernel
theorem dX5_become_56 : decode cX5_become 56 = .ok (.aload_n 0, 1) := by decide +kernel
theorem dX5_become_57 : decode cX5_become 57 = .ok (.aload_n 1, 1) := by decide +kernel
theorem dX5_become_58 : decode cX5_become 58 = .ok (.getfield 36, 3) := by decide +kernel
theorem dX5_become_61 : decode cX5_become 61 = .ok (.putfield 36, 3) := by decide +kernel
theorem dX5_become_64 : decode cX5_become 64 = .ok (.aload_n 0, 1) := by decide +kernel
theorem dX5_become_65 : decode cX5_become 65 = .ok (.aload_n 1, 1) := by decide +kernel
theorem dX5_become_66 : decode cX5_become 66 = .ok (.getfield 40, 3) := by decide +kernel
theorem dX5_become_69 : decode cX5_become 69 = .ok (.putfield 40, 3) := by decide +kernel
theorem dX5_become_72 : decode cX5_become 72 = .ok (.aload_n 0, 1) := by decide +kernel
theorem dX5_become_73 : decode cX5_become 73 = .ok (.aload_n 1, 1) := by decide +kernel
theorem dX5_become_74 : decode cX5_become 74 = .ok (.getfield 43, 3) := by decide +kernel
theorem dX5_become_77 : decode cX5_become 77 = .ok (.putfield 43, 3) := by decide +kernel
theorem dX5_become_80 : decode cX5_become 80 = .ok (.return_, 1) := by decide +kernel
theorem dX5_has_0 : decode cX5_has 0 = .ok (.iload_n 1, 1) := by decide +kernel
theorem dX5_has_1 : decode cX5_has 1 = .ok (.ifCond .lt 15, 3) := by decide +kernel
theorem dX5_has_4 : decode cX5_has 4 = .ok (.iload_n 1, 1) := by decide +kernel
theorem dX5_has_5 : decode cX5_has 5 = .ok (.aload_n 0, 1) := by decide +kernel
theorem dX5_has_6 : decode cX5_has 6 = .ok (.getfield 36, 3) := by decide +kernel
theorem dX5_has_9 : decode cX5_has 9 = .ok (.if_icmp .ge 7, 3) := by decide +kernel
theorem dX5_has_12 : decode cX5_has 12 = .ok (.iconst 1, 1) := by decide +kernel
theorem dX5_has_13 : decode cX5_has 13 = .ok (.goto 4, 3) := by decide +kernel
theorem dX5_has_16 : decode cX5_has 16 = .ok (.iconst 0, 1) := by decide +kernel
theorem dX5_has_17 : decode cX5_has 17 = .ok (.ireturn, 1) := by decide +kernel
theorem dX5_isFull_0 : decode cX5_isFull 0 = .ok (.aload_n 0, 1) := by decide +kernel
theorem dX5_isFull_1 : decode cX5_isFull 1 = .ok (.getfield 36, 3) := by decide +kernel
theorem dX5_isFull_4 : decode cX5_isFull 4 = .ok (.bipush 12, 2) := by decide +kernel
theorem dX5_isFull_6 : decode cX5_isFull 6 = .ok (.if_icmp .lt 7, 3) := by decide +kernel
theorem dX5_isFull_9 : decode cX5_isFull 9 = .ok (.iconst 1, 1) := by decide +kernel
theorem dX5_isFull_10 : decode cX5_isFull 10 = .ok (.goto 4, 3) := by decide +kernel
theorem dX5_isFull_13 : decode cX5_isFull 13 = .ok (.iconst 0, 1) := by decide +kernel
theorem dX5_isFull_14 : decode cX5_isFull 14 = .ok (.ireturn, 1) := by decide +kernel
set_option maxRecDepth 20000 in
theorem ggX5_add_X5_isFull : GoodIn wsX5_add wsX5_isFull := goodIn_r _ [9, 2, 10, 11, 12, 13, 14, 15, 16] (by decide +kernel) (by decide +kernel)
set_option maxRecDepth 20000 in
theorem gX5_add_X5_isFull : GoodIn wsX5_add (wsV RX5 46 RX5 yX5_isFull wsX5_isFull) := goodIn_app (goodIn_of _ (by decide +kernel)) ggX5_add_X5_isFull
theorem dX5_add_0 : decode cX5_add 0 = .ok (.aload_n 0, 1) := by decide +kernel
theorem dX5_add_1 : decode cX5_add 1 = .ok (.invokevirtual 46, 3) := by decide +kernel
theorem dX5_add_4 : decode cX5_add 4 = .ok (.ifCond .eq 5, 3) := by decide +kernel
theorem dX5_add_7 : decode cX5_add 7 = .ok (.iconst (-1), 1) := by decide +kernel
theorem dX5_add_8 : decode cX5_add 8 = .ok (.ireturn, 1) := by decide +kernel
theorem dX5_add_9 : decode cX5_add 9 = .ok (.aload_n 0, 1) := by decide +kernel
theorem dX5_add_10 : decode cX5_add 10 = .ok (.getfield 16, 3) := by decide +kernel
theorem dX5_add_13 : decode cX5_add 13 = .ok (.aload_n 0, 1) := by decide +kernel
theorem dX5_add_14 : decode cX5_add 14 = .ok (.getfield 36, 3) := by decide +kernel
theorem dX5_add_17 : decode cX5_add 17 = .ok (.iload_n 1, 1) := by decide +kernel
theorem dX5_add_18 : decode cX5_add 18 = .ok (.iastore, 1) := by decide +kernel
theorem dX5_add_19 : decode cX5_add 19 = .ok (.aload_n 0, 1) := by decide +kernel
theorem dX5_add_20 : decode cX5_add 20 = .ok (.getfield 20, 3) := by decide +kernel
theorem dX5_add_23 : decode cX5_add 23 = .ok (.aload_n 0, 1) := by decide +kernel
theorem dX5_add_24 : decode cX5_add 24 = .ok (.getfield 36, 3) := by decide +kernel
theorem dX5_add_27 : decode cX5_add 27 = .ok (.iload_n 2, 1) := by decide +kernel
theorem dX5_add_28 : decode cX5_add 28 = .ok (.iastore, 1) := by decide +kernel
theorem dX5_add_29 : decode cX5_add 29 = .ok (.aload_n 0, 1) := by decide +kernel
theorem dX5_add_30 : decode cX5_add 30 = .ok (.getfield 23, 3) := by decide +kernel
theorem dX5_add_33 : decode cX5_add 33 = .ok (.aload_n 0, 1) := by decide +kernel
theorem dX5_add_34 : decode cX5_add 34 = .ok (.getfield 36, 3) := by decide +kernel
theorem dX5_add_37 : decode cX5_add 37 = .ok (.iload_n 3, 1) := by decide +kernel
theorem dX5_add_38 : decode cX5_add 38 = .ok (.iastore, 1) := by decide +kernel
theorem dX5_add_39 : decode cX5_add 39 = .ok (.aload_n 0, 1) := by decide +kernel
theorem dX5_add_40 : decode cX5_add 40 = .ok (.dup, 1) := by decide +kernel
theorem dX5_add_41 : decode cX5_add 41 = .ok (.getfield 36, 3) := by decide +kernel
theorem dX5_add_44 : decode cX5_add 44 = .ok (.iconst 1, 1) := by decide +kernel
theorem dX5_add_45 : decode cX5_add 45 = .ok (.iadd, 1) := by decide +kernel
theorem dX5_add_46 : decode cX5_add 46 = .ok (.putfield 36, 3) := by decide +kernel
theorem dX5_add_49 : decode cX5_add 49 = .ok (.aload_n 0, 1) := by decide +kernel
theorem dX5_add_50 : decode cX5_add 50 = .ok (.getfield 36, 3) := by decide +kernel
theorem dX5_add_53 : decode cX5_add 53 = .ok (.iconst 1, 1) := by decide +kernel
theorem dX5_add_54 : decode cX5_add 54 = .ok (.isub, 1) := by decide +kernel
theorem dX5_add_55 : decode cX5_add 55 = .ok (.ireturn, 1) := by decide +kernel
set_option maxRecDepth 20000 in
theorem ggX5_lastsOf_X4_lasts : GoodIn wsX5_lastsOf wsX4_lasts := goodIn_r _ [6] (by decide +kernel) (by decide +kernel)
set_option maxRecDepth 20000 in
theorem gX5_lastsOf_X4_lasts : GoodIn wsX5_lastsOf (va_wsS RX5 50 yX4_lasts wsX4_lasts) := goodIn_app (goodIn_of _ (by decide +kernel)) ggX5_lastsOf_X4_lasts
theorem dX5_lastsOf_0 : decode cX5_lastsOf 0 = .ok (.aload_n 0, 1) := by decide +kernel
theorem dX5_lastsOf_1 : decode cX5_lastsOf 1 = .ok (.getfield 16, 3) := by decide +kernel
theorem dX5_lastsOf_4 : decode cX5_lastsOf 4 = .ok (.iload_n 1, 1) := by decide +kernel
theorem dX5_lastsOf_5 : decode cX5_lastsOf 5 = .ok (.iaload, 1) := by decide +kernel
theorem dX5_lastsOf_6 : decode cX5_lastsOf 6 = .ok (.aload_n 0, 1) := by decide +kernel
theorem dX5_lastsOf_7 : decode cX5_lastsOf 7 = .ok (.getfield 23, 3) := by decide +kernel
theorem dX5_lastsOf_10 : decode cX5_lastsOf 10 = .ok (.iload_n 1, 1) := by decide +kernel
theorem dX5_lastsOf_11 : decode cX5_lastsOf 11 = .ok (.iaload, 1) := by decide +kernel
theorem dX5_lastsOf_12 : decode cX5_lastsOf 12 = .ok (.invokestatic 50, 3) := by decide +kernel
theorem dX5_lastsOf_15 : decode cX5_lastsOf 15 = .ok (.ireturn, 1) := by decide +kernel
set_option maxRecDepth 20000 in
theorem ggX5_feetOf_X4_feet : GoodIn wsX5_feetOf wsX4_feet := goodIn_r _ [6, 7, 8, 9, 10, 11, 12, 13, 14, 15, 16, 17, 18, 19, 20, 21, 22, 23, 24, 25, 26, 27, 28, 29, 30, 31, 32] (by decide +kernel) (by decide +kernel)
set_option maxRecDepth 20000 in
theorem gX5_feetOf_X4_feet : GoodIn wsX5_feetOf (va_wsS RX5 56 yX4_feet wsX4_feet) := goodIn_app (goodIn_of _ (by decide +kernel)) ggX5_feetOf_X4_feet
theorem dX5_feetOf_0 : decode cX5_feetOf 0 = .ok (.aload_n 0, 1) := by decide +kernel
theorem dX5_feetOf_1 : decode cX5_feetOf 1 = .ok (.getfield 16, 3) := by decide +kernel
theorem dX5_feetOf_4 : decode cX5_feetOf 4 = .ok (.iload_n 1, 1) := by decide +kernel
theorem dX5_feetOf_5 : decode cX5_feetOf 5 = .ok (.iaload, 1) := by decide +kernel
theorem dX5_feetOf_6 : decode cX5_feetOf 6 = .ok (.aload_n 0, 1) := by decide +kernel
theorem dX5_feetOf_7 : decode cX5_feetOf 7 = .ok (.getfield 20, 3) := by decide +kernel
theorem dX5_feetOf_10 : decode cX5_feetOf 10 = .ok (.iload_n 1, 1) := by decide +kernel
theorem dX5_feetOf_11 : decode cX5_feetOf 11 = .ok (.iaload, 1) := by decide +kernel
theorem dX5_feetOf_12 : decode cX5_feetOf 12 = .ok (.invokestatic 56, 3) := by decide +kernel
theorem dX5_feetOf_15 : decode cX5_feetOf 15 = .ok (.ireturn, 1) := by decide +kernel
set_option maxRecDepth 20000 in
theorem ggX5_shownAt_X5_lastsOf : GoodIn wsX5_shownAt wsX5_lastsOf := goodIn_r _ [8, 3, 9, 10, 11, 12, 13, 17, 18, 19, 20, 21, 22, 23] (by decide +kernel) (by decide +kernel)
set_option maxRecDepth 20000 in
theorem gX5_shownAt_X5_lastsOf : GoodIn wsX5_shownAt (wsV RX5 59 RX5 yX5_lastsOf wsX5_lastsOf) := goodIn_app (goodIn_of _ (by decide +kernel)) ggX5_shownAt_X5_lastsOf
set_option maxRecDepth 20000 in
theorem ggX5_shownAt_X4_shows : GoodIn wsX5_shownAt wsX4_shows := goodIn_r _ [16] (by decide +kernel) (by decide +kernel)
set_option maxRecDepth 20000 in
theorem gX5_shownAt_X4_shows : GoodIn wsX5_shownAt (va_wsS RX5 63 yX4_shows wsX4_shows) := goodIn_app (goodIn_of _ (by decide +kernel)) ggX5_shownAt_X4_shows
theorem dX5_shownAt_0 : decode cX5_shownAt 0 = .ok (.iload_n 2, 1) := by decide +kernel
theorem dX5_shownAt_1 : decode cX5_shownAt 1 = .ok (.aload_n 0, 1) := by decide +kernel
theorem dX5_shownAt_2 : decode cX5_shownAt 2 = .ok (.iload_n 1, 1) := by decide +kernel
theorem dX5_shownAt_3 : decode cX5_shownAt 3 = .ok (.invokevirtual 59, 3) := by decide +kernel
theorem dX5_shownAt_6 : decode cX5_shownAt 6 = .ok (.if_icmp .ge 12, 3) := by decide +kernel
theorem dX5_shownAt_9 : decode cX5_shownAt 9 = .ok (.aload_n 0, 1) := by decide +kernel
theorem dX5_shownAt_10 : decode cX5_shownAt 10 = .ok (.getfield 20, 3) := by decide +kernel
theorem dX5_shownAt_13 : decode cX5_shownAt 13 = .ok (.iload_n 1, 1) := by decide +kernel
theorem dX5_shownAt_14 : decode cX5_shownAt 14 = .ok (.iaload, 1) := by decide +kernel
theorem dX5_shownAt_15 : decode cX5_shownAt 15 = .ok (.goto 16, 3) := by decide +kernel
theorem dX5_shownAt_18 : decode cX5_shownAt 18 = .ok (.aload_n 0, 1) := by decide +kernel
theorem dX5_shownAt_19 : decode cX5_shownAt 19 = .ok (.getfield 20, 3) := by decide +kernel
theorem dX5_shownAt_22 : decode cX5_shownAt 22 = .ok (.iload_n 1, 1) := by decide +kernel
theorem dX5_shownAt_23 : decode cX5_shownAt 23 = .ok (.iaload, 1) := by decide +kernel
theorem dX5_shownAt_24 : decode cX5_shownAt 24 = .ok (.aload_n 0, 1) := by decide +kernel
theorem dX5_shownAt_25 : decode cX5_shownAt 25 = .ok (.getfield 43, 3) := by decide +kernel
theorem dX5_shownAt_28 : decode cX5_shownAt 28 = .ok (.iconst (-1), 1) := by decide +kernel
theorem dX5_shownAt_29 : decode cX5_shownAt 29 = .ok (.ixor, 1) := by decide +kernel
theorem dX5_shownAt_30 : decode cX5_shownAt 30 = .ok (.iand, 1) := by decide +kernel
theorem dX5_shownAt_31 : decode cX5_shownAt 31 = .ok (.istore_n 3, 1) := by decide +kernel
theorem dX5_shownAt_32 : decode cX5_shownAt 32 = .ok (.aload_n 0, 1) := by decide +kernel
theorem dX5_shownAt_33 : decode cX5_shownAt 33 = .ok (.getfield 16, 3) := by decide +kernel
theorem dX5_shownAt_36 : decode cX5_shownAt 36 = .ok (.iload_n 1, 1) := by decide +kernel
theorem dX5_shownAt_37 : decode cX5_shownAt 37 = .ok (.iaload, 1) := by decide +kernel
theorem dX5_shownAt_38 : decode cX5_shownAt 38 = .ok (.iload_n 3, 1) := by decide +kernel
theorem dX5_shownAt_39 : decode cX5_shownAt 39 = .ok (.invokestatic 63, 3) := by decide +kernel
theorem dX5_shownAt_42 : decode cX5_shownAt 42 = .ok (.ireturn, 1) := by decide +kernel
set_option maxRecDepth 20000 in
theorem ggX5_seenAs_X5_shownAt : GoodIn wsX5_seenAs wsX5_shownAt := goodIn_r _ [7, 8, 9, 10, 11, 12, 13, 6, 14, 15, 16, 17, 18, 19, 20, 21, 22, 40, 41, 42, 43, 44, 45, 46] (by decide +kernel) (by decide +kernel)
set_option maxRecDepth 20000 in
theorem gX5_seenAs_X5_shownAt : GoodIn wsX5_seenAs (wsV RX5 66 RX5 yX5_shownAt wsX5_shownAt) := goodIn_app (goodIn_of _ (by decide +kernel)) ggX5_seenAs_X5_shownAt
set_option maxRecDepth 20000 in
theorem ggX5_seenAs_X0_nearest : GoodIn wsX5_seenAs wsX0_nearest := goodIn_r _ [27, 28, 29, 30, 31, 32, 33, 34, 35, 36, 37, 38, 39, 47] (by decide +kernel) (by decide +kernel)
set_option maxRecDepth 20000 in
theorem gX5_seenAs_X0_nearest : GoodIn wsX5_seenAs (wsV RX5 69 RX0 yX0_nearest wsX0_nearest) := goodIn_app (goodIn_of _ (by decide +kernel)) ggX5_seenAs_X0_nearest
theorem dX5_seenAs_0 : decode cX5_seenAs 0 = .ok (.aload_n 0, 1) := by decide +kernel
theorem dX5_seenAs_1 : decode cX5_seenAs 1 = .ok (.getfield 10, 3) := by decide +kernel
theorem dX5_seenAs_4 : decode cX5_seenAs 4 = .ok (.aload_n 0, 1) := by decide +kernel
theorem dX5_seenAs_5 : decode cX5_seenAs 5 = .ok (.iload_n 1, 1) := by decide +kernel
theorem dX5_seenAs_6 : decode cX5_seenAs 6 = .ok (.aload_n 0, 1) := by decide +kernel
theorem dX5_seenAs_7 : decode cX5_seenAs 7 = .ok (.getfield 40, 3) := by decide +kernel
theorem dX5_seenAs_10 : decode cX5_seenAs 10 = .ok (.invokevirtual 66, 3) := by decide +kernel
theorem dX5_seenAs_13 : decode cX5_seenAs 13 = .ok (.invokevirtual 69, 3) := by decide +kernel
theorem dX5_seenAs_16 : decode cX5_seenAs 16 = .ok (.ireturn, 1) := by decide +kernel
set_option maxRecDepth 20000 in
theorem ggX5_isMisreadAt_X5_shownAt : GoodIn wsX5_isMisreadAt wsX5_shownAt := goodIn_r _ [7, 2, 8, 9, 10, 11, 12, 6, 13, 14, 15, 16, 17, 18, 19, 20, 21, 39, 40, 41, 42, 43, 44, 45] (by decide +kernel) (by decide +kernel)
set_option maxRecDepth 20000 in
theorem gX5_isMisreadAt_X5_shownAt : GoodIn wsX5_isMisreadAt (wsV RX5 66 RX5 yX5_shownAt wsX5_shownAt) := goodIn_app (goodIn_of _ (by decide +kernel)) ggX5_isMisreadAt_X5_shownAt
set_option maxRecDepth 20000 in
theorem ggX5_isMisreadAt_X0_nearest : GoodIn wsX5_isMisreadAt wsX0_nearest := goodIn_r _ [26, 27, 28, 29, 30, 31, 32, 33, 34, 35, 36, 37, 38, 46] (by decide +kernel) (by decide +kernel)
set_option maxRecDepth 20000 in
theorem gX5_isMisreadAt_X0_nearest : GoodIn wsX5_isMisreadAt (wsV RX5 69 RX0 yX0_nearest wsX0_nearest) := goodIn_app (goodIn_of _ (by decide +kernel)) ggX5_isMisreadAt_X0_nearest
theorem dX5_isMisreadAt_0 : decode cX5_isMisreadAt 0 = .ok (.aload_n 0, 1) := by decide +kernel
theorem dX5_isMisreadAt_1 : decode cX5_isMisreadAt 1 = .ok (.getfield 10, 3) := by decide +kernel
theorem dX5_isMisreadAt_4 : decode cX5_isMisreadAt 4 = .ok (.aload_n 0, 1) := by decide +kernel
theorem dX5_isMisreadAt_5 : decode cX5_isMisreadAt 5 = .ok (.iload_n 1, 1) := by decide +kernel
theorem dX5_isMisreadAt_6 : decode cX5_isMisreadAt 6 = .ok (.iload_n 2, 1) := by decide +kernel
theorem dX5_isMisreadAt_7 : decode cX5_isMisreadAt 7 = .ok (.invokevirtual 66, 3) := by decide +kernel
theorem dX5_isMisreadAt_10 : decode cX5_isMisreadAt 10 = .ok (.invokevirtual 69, 3) := by decide +kernel
theorem dX5_isMisreadAt_13 : decode cX5_isMisreadAt 13 = .ok (.aload_n 0, 1) := by decide +kernel
theorem dX5_isMisreadAt_14 : decode cX5_isMisreadAt 14 = .ok (.getfield 10, 3) := by decide +kernel
theorem dX5_isMisreadAt_17 : decode cX5_isMisreadAt 17 = .ok (.aload_n 0, 1) := by decide +kernel
theorem dX5_isMisreadAt_18 : decode cX5_isMisreadAt 18 = .ok (.getfield 20, 3) := by decide +kernel
theorem dX5_isMisreadAt_21 : decode cX5_isMisreadAt 21 = .ok (.iload_n 1, 1) := by decide +kernel
theorem dX5_isMisreadAt_22 : decode cX5_isMisreadAt 22 = .ok (.iaload, 1) := by decide +kernel
theorem dX5_isMisreadAt_23 : decode cX5_isMisreadAt 23 = .ok (.invokevirtual 69, 3) := by decide +kernel
theorem dX5_isMisreadAt_26 : decode cX5_isMisreadAt 26 = .ok (.if_icmp .eq 7, 3) := by decide +kernel
theorem dX5_isMisreadAt_29 : decode cX5_isMisreadAt 29 = .ok (.iconst 1, 1) := by decide +kernel
theorem dX5_isMisreadAt_30 : decode cX5_isMisreadAt 30 = .ok (.goto 4, 3) := by decide +kernel
theorem dX5_isMisreadAt_33 : decode cX5_isMisreadAt 33 = .ok (.iconst 0, 1) := by decide +kernel
theorem dX5_isMisreadAt_34 : decode cX5_isMisreadAt 34 = .ok (.ireturn, 1) := by decide +kernel
set_option maxRecDepth 20000 in
theorem ggX5_countChanged_X5_shownAt : GoodIn wsX5_countChanged wsX5_shownAt := goodIn_r _ [7, 8, 9, 10, 11, 12, 13, 6, 14, 15, 16, 17, 18, 19, 20, 21, 22, 23, 24, 25, 26, 27, 28, 29] (by decide +kernel) (by decide +kernel)
set_option maxRecDepth 20000 in
theorem gX5_countChanged_X5_shownAt : GoodIn wsX5_countChanged (wsV RX5 66 RX5 yX5_shownAt wsX5_shownAt) := goodIn_app (goodIn_of _ (by decide +kernel)) ggX5_countChanged_X5_shownAt
theorem dX5_countChanged_0 : decode cX5_countChanged 0 = .ok (.iconst 0, 1) := by decide +kernel
theorem dX5_countChanged_1 : decode cX5_countChanged 1 = .ok (.istore_n 2, 1) := by decide +kernel
theorem dX5_countChanged_2 : decode cX5_countChanged 2 = .ok (.iconst 0, 1) := by decide +kernel
theorem dX5_countChanged_3 : decode cX5_countChanged 3 = .ok (.istore_n 3, 1) := by decide +kernel
theorem dX5_countChanged_4 : decode cX5_countChanged 4 = .ok (.iload_n 3, 1) := by decide +kernel
theorem dX5_countChanged_5 : decode cX5_countChanged 5 = .ok (.aload_n 0, 1) := by decide +kernel
theorem dX5_countChanged_6 : decode cX5_countChanged 6 = .ok (.getfield 36, 3) := by decide +kernel
theorem dX5_countChanged_9 : decode cX5_countChanged 9 = .ok (.if_icmp .ge 30, 3) := by decide +kernel
theorem dX5_countChanged_12 : decode cX5_countChanged 12 = .ok (.aload_n 0, 1) := by decide +kernel
theorem dX5_countChanged_13 : decode cX5_countChanged 13 = .ok (.iload_n 3, 1) := by decide +kernel
theorem dX5_countChanged_14 : decode cX5_countChanged 14 = .ok (.aload_n 0, 1) := by decide +kernel
theorem dX5_countChanged_15 : decode cX5_countChanged 15 = .ok (.getfield 40, 3) := by decide +kernel
theorem dX5_countChanged_18 : decode cX5_countChanged 18 = .ok (.invokevirtual 66, 3) := by decide +kernel
theorem dX5_countChanged_21 : decode cX5_countChanged 21 = .ok (.aload_n 0, 1) := by decide +kernel
theorem dX5_countChanged_22 : decode cX5_countChanged 22 = .ok (.iload_n 3, 1) := by decide +kernel
theorem dX5_countChanged_23 : decode cX5_countChanged 23 = .ok (.iload_n 1, 1) := by decide +kernel
theorem dX5_countChanged_24 : decode cX5_countChanged 24 = .ok (.invokevirtual 66, 3) := by decide +kernel
theorem dX5_countChanged_27 : decode cX5_countChanged 27 = .ok (.if_icmp .eq 6, 3) := by decide +kernel
theorem dX5_countChanged_30 : decode cX5_countChanged 30 = .ok (.iinc 2 1, 3) := by decide +kernel
theorem dX5_countChanged_33 : decode cX5_countChanged 33 = .ok (.iinc 3 1, 3) := by decide +kernel
theorem dX5_countChanged_36 : decode cX5_countChanged 36 = .ok (.goto (-32), 3) := by decide +kernel
theorem dX5_countChanged_39 : decode cX5_countChanged 39 = .ok (.iload_n 2, 1) := by decide +kernel
theorem dX5_countChanged_40 : decode cX5_countChanged 40 = .ok (.ireturn, 1) := by decide +kernel
set_option maxRecDepth 20000 in
theorem ggX5_feetOfAll_X5_feetOf : GoodIn wsX5_feetOfAll wsX5_feetOf := goodIn_r _ [6, 7, 8, 9, 10, 11, 12, 13, 14, 15, 16, 17, 18, 19, 20, 21, 22, 23, 24, 25, 26, 27, 28, 29, 30, 31, 32, 33, 34, 35, 36, 37, 38, 39, 40, 41, 42, 43, 44, 45] (by decide +kernel) (by decide +kernel)
set_option maxRecDepth 20000 in
theorem gX5_feetOfAll_X5_feetOf : GoodIn wsX5_feetOfAll (wsV RX5 72 RX5 yX5_feetOf wsX5_feetOf) := goodIn_app (goodIn_of _ (by decide +kernel)) ggX5_feetOfAll_X5_feetOf
theorem dX5_feetOfAll_0 : decode cX5_feetOfAll 0 = .ok (.iconst 0, 1) := by decide +kernel
theorem dX5_feetOfAll_1 : decode cX5_feetOfAll 1 = .ok (.istore_n 1, 1) := by decide +kernel
theorem dX5_feetOfAll_2 : decode cX5_feetOfAll 2 = .ok (.iconst 0, 1) := by decide +kernel
theorem dX5_feetOfAll_3 : decode cX5_feetOfAll 3 = .ok (.istore_n 2, 1) := by decide +kernel
theorem dX5_feetOfAll_4 : decode cX5_feetOfAll 4 = .ok (.iload_n 2, 1) := by decide +kernel
theorem dX5_feetOfAll_5 : decode cX5_feetOfAll 5 = .ok (.aload_n 0, 1) := by decide +kernel
theorem dX5_feetOfAll_6 : decode cX5_feetOfAll 6 = .ok (.getfield 36, 3) := by decide +kernel
theorem dX5_feetOfAll_9 : decode cX5_feetOfAll 9 = .ok (.if_icmp .ge 17, 3) := by decide +kernel
theorem dX5_feetOfAll_12 : decode cX5_feetOfAll 12 = .ok (.iload_n 1, 1) := by decide +kernel
theorem dX5_feetOfAll_13 : decode cX5_feetOfAll 13 = .ok (.aload_n 0, 1) := by decide +kernel
theorem dX5_feetOfAll_14 : decode cX5_feetOfAll 14 = .ok (.iload_n 2, 1) := by decide +kernel
theorem dX5_feetOfAll_15 : decode cX5_feetOfAll 15 = .ok (.invokevirtual 72, 3) := by decide +kernel
theorem dX5_feetOfAll_18 : decode cX5_feetOfAll 18 = .ok (.iadd, 1) := by decide +kernel
theorem dX5_feetOfAll_19 : decode cX5_feetOfAll 19 = .ok (.istore_n 1, 1) := by decide +kernel
theorem dX5_feetOfAll_20 : decode cX5_feetOfAll 20 = .ok (.iinc 2 1, 3) := by decide +kernel
theorem dX5_feetOfAll_23 : decode cX5_feetOfAll 23 = .ok (.goto (-19), 3) := by decide +kernel
theorem dX5_feetOfAll_26 : decode cX5_feetOfAll 26 = .ok (.iload_n 1, 1) := by decide +kernel
theorem dX5_feetOfAll_27 : decode cX5_feetOfAll 27 = .ok (.ireturn, 1) := by decide +kernel
set_option maxRecDepth 20000 in
theorem ggX5_strokesOfAll_J6_bitCount_0f7a4 : GoodIn wsX5_strokesOfAll wsJ6_bitCount_0f7a4 := goodIn_r _ [6, 7, 8, 9] (by decide +kernel) (by decide +kernel)
set_option maxRecDepth 20000 in
theorem gX5_strokesOfAll_J6_bitCount_0f7a4 : GoodIn wsX5_strokesOfAll (va_wsS RX5 75 yJ6_bitCount_0f7a4 wsJ6_bitCount_0f7a4) := goodIn_app (goodIn_of _ (by decide +kernel)) ggX5_strokesOfAll_J6_bitCount_0f7a4
theorem dX5_strokesOfAll_0 : decode cX5_strokesOfAll 0 = .ok (.iconst 0, 1) := by decide +kernel
theorem dX5_strokesOfAll_1 : decode cX5_strokesOfAll 1 = .ok (.istore_n 1, 1) := by decide +kernel
theorem dX5_strokesOfAll_2 : decode cX5_strokesOfAll 2 = .ok (.iconst 0, 1) := by decide +kernel
theorem dX5_strokesOfAll_3 : decode cX5_strokesOfAll 3 = .ok (.istore_n 2, 1) := by decide +kernel
theorem dX5_strokesOfAll_4 : decode cX5_strokesOfAll 4 = .ok (.iload_n 2, 1) := by decide +kernel
theorem dX5_strokesOfAll_5 : decode cX5_strokesOfAll 5 = .ok (.aload_n 0, 1) := by decide +kernel
theorem dX5_strokesOfAll_6 : decode cX5_strokesOfAll 6 = .ok (.getfield 36, 3) := by decide +kernel
theorem dX5_strokesOfAll_9 : decode cX5_strokesOfAll 9 = .ok (.if_icmp .ge 21, 3) := by decide +kernel
theorem dX5_strokesOfAll_12 : decode cX5_strokesOfAll 12 = .ok (.iload_n 1, 1) := by decide +kernel
theorem dX5_strokesOfAll_13 : decode cX5_strokesOfAll 13 = .ok (.aload_n 0, 1) := by decide +kernel
theorem dX5_strokesOfAll_14 : decode cX5_strokesOfAll 14 = .ok (.getfield 20, 3) := by decide +kernel
theorem dX5_strokesOfAll_17 : decode cX5_strokesOfAll 17 = .ok (.iload_n 2, 1) := by decide +kernel
theorem dX5_strokesOfAll_18 : decode cX5_strokesOfAll 18 = .ok (.iaload, 1) := by decide +kernel
theorem dX5_strokesOfAll_19 : decode cX5_strokesOfAll 19 = .ok (.invokestatic 75, 3) := by decide +kernel
theorem dX5_strokesOfAll_22 : decode cX5_strokesOfAll 22 = .ok (.iadd, 1) := by decide +kernel
theorem dX5_strokesOfAll_23 : decode cX5_strokesOfAll 23 = .ok (.istore_n 1, 1) := by decide +kernel
theorem dX5_strokesOfAll_24 : decode cX5_strokesOfAll 24 = .ok (.iinc 2 1, 3) := by decide +kernel
theorem dX5_strokesOfAll_27 : decode cX5_strokesOfAll 27 = .ok (.goto (-23), 3) := by decide +kernel
theorem dX5_strokesOfAll_30 : decode cX5_strokesOfAll 30 = .ok (.iload_n 1, 1) := by decide +kernel
theorem dX5_strokesOfAll_31 : decode cX5_strokesOfAll 31 = .ok (.ireturn, 1) := by decide +kernel
set_option maxRecDepth 20000 in
theorem ggX5_lettersMisread_X5_isMisreadAt : GoodIn wsX5_lettersMisread wsX5_isMisreadAt := goodIn_r _ [7, 8, 9, 10, 11, 12, 6, 13, 14, 15, 16, 17, 18, 19, 20, 21, 22, 23, 24, 25, 26, 27, 28, 29, 30, 31, 32, 33, 34, 35, 36, 37, 38, 39, 40, 41, 42, 43, 44, 45, 46, 47, 48, 49, 50, 51, 52] (by decide +kernel) (by decide +kernel)
set_option maxRecDepth 20000 in
theorem gX5_lettersMisread_X5_isMisreadAt : GoodIn wsX5_lettersMisread (wsV RX5 80 RX5 yX5_isMisreadAt wsX5_isMisreadAt) := goodIn_app (goodIn_of _ (by decide +kernel)) ggX5_lettersMisread_X5_isMisreadAt
theorem dX5_lettersMisread_0 : decode cX5_lettersMisread 0 = .ok (.iconst 0, 1) := by decide +kernel
theorem dX5_lettersMisread_1 : decode cX5_lettersMisread 1 = .ok (.istore_n 1, 1) := by decide +kernel
theorem dX5_lettersMisread_2 : decode cX5_lettersMisread 2 = .ok (.iconst 0, 1) := by decide +kernel
theorem dX5_lettersMisread_3 : decode cX5_lettersMisread 3 = .ok (.istore_n 2, 1) := by decide +kernel
theorem dX5_lettersMisread_4 : decode cX5_lettersMisread 4 = .ok (.iload_n 2, 1) := by decide +kernel
theorem dX5_lettersMisread_5 : decode cX5_lettersMisread 5 = .ok (.aload_n 0, 1) := by decide +kernel
theorem dX5_lettersMisread_6 : decode cX5_lettersMisread 6 = .ok (.getfield 36, 3) := by decide +kernel
theorem dX5_lettersMisread_9 : decode cX5_lettersMisread 9 = .ok (.if_icmp .ge 27, 3) := by decide +kernel
theorem dX5_lettersMisread_12 : decode cX5_lettersMisread 12 = .ok (.aload_n 0, 1) := by decide +kernel
theorem dX5_lettersMisread_13 : decode cX5_lettersMisread 13 = .ok (.iload_n 2, 1) := by decide +kernel
theorem dX5_lettersMisread_14 : decode cX5_lettersMisread 14 = .ok (.aload_n 0, 1) := by decide +kernel
theorem dX5_lettersMisread_15 : decode cX5_lettersMisread 15 = .ok (.getfield 40, 3) := by decide +kernel
theorem dX5_lettersMisread_18 : decode cX5_lettersMisread 18 = .ok (.invokevirtual 80, 3) := by decide +kernel
theorem dX5_lettersMisread_21 : decode cX5_lettersMisread 21 = .ok (.ifCond .eq 9, 3) := by decide +kernel
theorem dX5_lettersMisread_24 : decode cX5_lettersMisread 24 = .ok (.iload_n 1, 1) := by decide +kernel
theorem dX5_lettersMisread_25 : decode cX5_lettersMisread 25 = .ok (.iconst 1, 1) := by decide +kernel
theorem dX5_lettersMisread_26 : decode cX5_lettersMisread 26 = .ok (.iload_n 2, 1) := by decide +kernel
theorem dX5_lettersMisread_27 : decode cX5_lettersMisread 27 = .ok (.ishl, 1) := by decide +kernel
theorem dX5_lettersMisread_28 : decode cX5_lettersMisread 28 = .ok (.ior, 1) := by decide +kernel
theorem dX5_lettersMisread_29 : decode cX5_lettersMisread 29 = .ok (.istore_n 1, 1) := by decide +kernel
theorem dX5_lettersMisread_30 : decode cX5_lettersMisread 30 = .ok (.iinc 2 1, 3) := by decide +kernel
theorem dX5_lettersMisread_33 : decode cX5_lettersMisread 33 = .ok (.goto (-29), 3) := by decide +kernel
theorem dX5_lettersMisread_36 : decode cX5_lettersMisread 36 = .ok (.iload_n 1, 1) := by decide +kernel
theorem dX5_lettersMisread_37 : decode cX5_lettersMisread 37 = .ok (.ireturn, 1) := by decide +kernel
set_option maxRecDepth 20000 in
theorem ggX5_worthOf_X5_shownAt : GoodIn wsX5_worthOf wsX5_shownAt := goodIn_r _ [8, 3, 9, 10, 11, 12, 13, 7, 14, 15, 16, 17, 18, 19, 20, 21, 22, 41, 42, 43, 44, 45, 46, 47] (by decide +kernel) (by decide +kernel)
set_option maxRecDepth 20000 in
theorem gX5_worthOf_X5_shownAt : GoodIn wsX5_worthOf (wsV RX5 66 RX5 yX5_shownAt wsX5_shownAt) := goodIn_app (goodIn_of _ (by decide +kernel)) ggX5_worthOf_X5_shownAt
set_option maxRecDepth 20000 in
theorem ggX5_worthOf_X0_nearest : GoodIn wsX5_worthOf wsX0_nearest := goodIn_r _ [27, 28, 29, 30, 31, 32, 33, 34, 35, 36, 37, 38, 39, 48] (by decide +kernel) (by decide +kernel)
set_option maxRecDepth 20000 in
theorem gX5_worthOf_X0_nearest : GoodIn wsX5_worthOf (wsV RX5 69 RX0 yX0_nearest wsX0_nearest) := goodIn_app (goodIn_of _ (by decide +kernel)) ggX5_worthOf_X0_nearest
set_option maxRecDepth 20000 in
theorem ggX5_worthOf_J6_bitCount_0f7a4 : GoodIn wsX5_worthOf wsJ6_bitCount_0f7a4 := goodIn_r _ [36, 37, 38, 39] (by decide +kernel) (by decide +kernel)
set_option maxRecDepth 20000 in
theorem gX5_worthOf_J6_bitCount_0f7a4 : GoodIn wsX5_worthOf (va_wsS RX5 75 yJ6_bitCount_0f7a4 wsJ6_bitCount_0f7a4) := goodIn_app (goodIn_of _ (by decide +kernel)) ggX5_worthOf_J6_bitCount_0f7a4
theorem dX5_worthOf_0 : decode cX5_worthOf 0 = .ok (.aload_n 0, 1) := by decide +kernel
theorem dX5_worthOf_1 : decode cX5_worthOf 1 = .ok (.iload_n 1, 1) := by decide +kernel
theorem dX5_worthOf_2 : decode cX5_worthOf 2 = .ok (.aload_n 0, 1) := by decide +kernel
theorem dX5_worthOf_3 : decode cX5_worthOf 3 = .ok (.getfield 40, 3) := by decide +kernel
theorem dX5_worthOf_6 : decode cX5_worthOf 6 = .ok (.invokevirtual 66, 3) := by decide +kernel
theorem dX5_worthOf_9 : decode cX5_worthOf 9 = .ok (.istore_n 2, 1) := by decide +kernel
theorem dX5_worthOf_10 : decode cX5_worthOf 10 = .ok (.aload_n 0, 1) := by decide +kernel
theorem dX5_worthOf_11 : decode cX5_worthOf 11 = .ok (.getfield 10, 3) := by decide +kernel
theorem dX5_worthOf_14 : decode cX5_worthOf 14 = .ok (.iload_n 2, 1) := by decide +kernel
theorem dX5_worthOf_15 : decode cX5_worthOf 15 = .ok (.invokevirtual 69, 3) := by decide +kernel
theorem dX5_worthOf_18 : decode cX5_worthOf 18 = .ok (.istore_n 3, 1) := by decide +kernel
theorem dX5_worthOf_19 : decode cX5_worthOf 19 = .ok (.iload_n 3, 1) := by decide +kernel
theorem dX5_worthOf_20 : decode cX5_worthOf 20 = .ok (.ifCond .lt 24, 3) := by decide +kernel
theorem dX5_worthOf_23 : decode cX5_worthOf 23 = .ok (.iload_n 3, 1) := by decide +kernel
theorem dX5_worthOf_24 : decode cX5_worthOf 24 = .ok (.aload_n 0, 1) := by decide +kernel
theorem dX5_worthOf_25 : decode cX5_worthOf 25 = .ok (.getfield 10, 3) := by decide +kernel
theorem dX5_worthOf_28 : decode cX5_worthOf 28 = .ok (.aload_n 0, 1) := by decide +kernel
theorem dX5_worthOf_29 : decode cX5_worthOf 29 = .ok (.getfield 20, 3) := by decide +kernel
theorem dX5_worthOf_32 : decode cX5_worthOf 32 = .ok (.iload_n 1, 1) := by decide +kernel
theorem dX5_worthOf_33 : decode cX5_worthOf 33 = .ok (.iaload, 1) := by decide +kernel
theorem dX5_worthOf_34 : decode cX5_worthOf 34 = .ok (.invokevirtual 69, 3) := by decide +kernel
theorem dX5_worthOf_37 : decode cX5_worthOf 37 = .ok (.if_icmp .ne 7, 3) := by decide +kernel
theorem dX5_worthOf_40 : decode cX5_worthOf 40 = .ok (.iconst 1, 1) := by decide +kernel
theorem dX5_worthOf_41 : decode cX5_worthOf 41 = .ok (.goto 4, 3) := by decide +kernel
theorem dX5_worthOf_44 : decode cX5_worthOf 44 = .ok (.iconst 0, 1) := by decide +kernel
theorem dX5_worthOf_45 : decode cX5_worthOf 45 = .ok (.istore 4, 2) := by decide +kernel
theorem dX5_worthOf_47 : decode cX5_worthOf 47 = .ok (.iload_n 2, 1) := by decide +kernel
theorem dX5_worthOf_48 : decode cX5_worthOf 48 = .ok (.invokestatic 75, 3) := by decide +kernel
theorem dX5_worthOf_51 : decode cX5_worthOf 51 = .ok (.iload 4, 2) := by decide +kernel
theorem dX5_worthOf_53 : decode cX5_worthOf 53 = .ok (.ifCond .eq 8, 3) := by decide +kernel
theorem dX5_worthOf_56 : decode cX5_worthOf 56 = .ok (.bipush 10, 2) := by decide +kernel
theorem dX5_worthOf_58 : decode cX5_worthOf 58 = .ok (.goto 4, 3) := by decide +kernel
theorem dX5_worthOf_61 : decode cX5_worthOf 61 = .ok (.iconst 0, 1) := by decide +kernel
theorem dX5_worthOf_62 : decode cX5_worthOf 62 = .ok (.iadd, 1) := by decide +kernel
theorem dX5_worthOf_63 : decode cX5_worthOf 63 = .ok (.ireturn, 1) := by decide +kernel
theorem dX6_init_0 : decode cX6_init 0 = .ok (.aload_n 0, 1) := by decide +kernel
theorem dX6_init_1 : decode cX6_init 1 = .ok (.invokespecial 1, 3) := by decide +kernel
theorem dX6_init_4 : decode cX6_init 4 = .ok (.aload_n 0, 1) := by decide +kernel
theorem dX6_init_5 : decode cX6_init 5 = .ok (.iconst 4, 1) := by decide +kernel
theorem dX6_init_6 : decode cX6_init 6 = .ok (.newarray .int, 2) := by decide +kernel
theorem dX6_init_8 : decode cX6_init 8 = .ok (.putfield 9, 3) := by decide +kernel
theorem dX6_init_11 : decode cX6_init 11 = .ok (.aload_n 0, 1) := by decide +kernel
theorem dX6_init_12 : decode cX6_init 12 = .ok (.iconst 4, 1) := by decide +kernel
theorem dX6_init_13 : decode cX6_init 13 = .ok (.newarray .int, 2) := by decide +kernel
theorem dX6_init_15 : decode cX6_init 15 = .ok (.putfield 13, 3) := by decide +kernel
theorem dX6_init_18 : decode cX6_init 18 = .ok (.aload_n 0, 1) := by decide +kernel
theorem dX6_init_19 : decode cX6_init 19 = .ok (.sipush 160, 3) := by decide +kernel
theorem dX6_init_22 : decode cX6_init 22 = .ok (.newarray .long, 2) := by decide +kernel
theorem dX6_init_24 : decode cX6_init 24 = .ok (.putfield 16, 3) := by decide +kernel
theorem dX6_init_27 : decode cX6_init 27 = .ok (.return_, 1) := by decide +kernel
theorem dX6_isSheet_0 : decode cX6_isSheet 0 = .ok (.iload_n 0, 1) := by decide +kernel
theorem dX6_isSheet_1 : decode cX6_isSheet 1 = .ok (.ifCond .lt 12, 3) := by decide +kernel
theorem dX6_isSheet_4 : decode cX6_isSheet 4 = .ok (.iload_n 0, 1) := by decide +kernel
theorem dX6_isSheet_5 : decode cX6_isSheet 5 = .ok (.iconst 4, 1) := by decide +kernel
theorem dX6_isSheet_6 : decode cX6_isSheet 6 = .ok (.if_icmp .ge 7, 3) := by decide +kernel
theorem dX6_isSheet_9 : decode cX6_isSheet 9 = .ok (.iconst 1, 1) := by decide +kernel
theorem dX6_isSheet_10 : decode cX6_isSheet 10 = .ok (.goto 4, 3) := by decide +kernel
theorem dX6_isSheet_13 : decode cX6_isSheet 13 = .ok (.iconst 0, 1) := by decide +kernel
theorem dX6_isSheet_14 : decode cX6_isSheet 14 = .ok (.ireturn, 1) := by decide +kernel
theorem dX6_isWidth_0 : decode cX6_isWidth 0 = .ok (.iload_n 0, 1) := by decide +kernel
theorem dX6_isWidth_1 : decode cX6_isWidth 1 = .ok (.ifCond .eq 21, 3) := by decide +kernel
theorem dX6_isWidth_4 : decode cX6_isWidth 4 = .ok (.iload_n 0, 1) := by decide +kernel
theorem dX6_isWidth_5 : decode cX6_isWidth 5 = .ok (.bipush 8, 2) := by decide +kernel
theorem dX6_isWidth_7 : decode cX6_isWidth 7 = .ok (.if_icmp .eq 15, 3) := by decide +kernel
theorem dX6_isWidth_10 : decode cX6_isWidth 10 = .ok (.iload_n 0, 1) := by decide +kernel
theorem dX6_isWidth_11 : decode cX6_isWidth 11 = .ok (.bipush 16, 2) := by decide +kernel
theorem dX6_isWidth_13 : decode cX6_isWidth 13 = .ok (.if_icmp .eq 9, 3) := by decide +kernel
theorem dX6_isWidth_16 : decode cX6_isWidth 16 = .ok (.iload_n 0, 1) := by decide +kernel
theorem dX6_isWidth_17 : decode cX6_isWidth 17 = .ok (.bipush 64, 2) := by decide +kernel
theorem dX6_isWidth_19 : decode cX6_isWidth 19 = .ok (.if_icmp .ne 7, 3) := by decide +kernel
theorem dX6_isWidth_22 : decode cX6_isWidth 22 = .ok (.iconst 1, 1) := by decide +kernel
theorem dX6_isWidth_23 : decode cX6_isWidth 23 = .ok (.goto 4, 3) := by decide +kernel
theorem dX6_isWidth_26 : decode cX6_isWidth 26 = .ok (.iconst 0, 1) := by decide +kernel
theorem dX6_isWidth_27 : decode cX6_isWidth 27 = .ok (.ireturn, 1) := by decide +kernel
set_option maxRecDepth 20000 in
theorem ggX6_isMissing_X6_isSheet : GoodIn wsX6_isMissing wsX6_isSheet := goodIn_r _ [5] (by decide +kernel) (by decide +kernel)
set_option maxRecDepth 20000 in
theorem gX6_isMissing_X6_isSheet : GoodIn wsX6_isMissing (va_wsS RX6 20 yX6_isSheet wsX6_isSheet) := goodIn_app (goodIn_of _ (by decide +kernel)) ggX6_isMissing_X6_isSheet
theorem dX6_isMissing_0 : decode cX6_isMissing 0 = .ok (.iload_n 1, 1) := by decide +kernel
theorem dX6_isMissing_1 : decode cX6_isMissing 1 = .ok (.invokestatic 20, 3) := by decide +kernel
theorem dX6_isMissing_4 : decode cX6_isMissing 4 = .ok (.ifCond .eq 12, 3) := by decide +kernel
theorem dX6_isMissing_7 : decode cX6_isMissing 7 = .ok (.aload_n 0, 1) := by decide +kernel
theorem dX6_isMissing_8 : decode cX6_isMissing 8 = .ok (.getfield 9, 3) := by decide +kernel
theorem dX6_isMissing_11 : decode cX6_isMissing 11 = .ok (.iload_n 1, 1) := by decide +kernel
theorem dX6_isMissing_12 : decode cX6_isMissing 12 = .ok (.iaload, 1) := by decide +kernel
theorem dX6_isMissing_13 : decode cX6_isMissing 13 = .ok (.ifCond .ne 7, 3) := by decide +kernel
theorem dX6_isMissing_16 : decode cX6_isMissing 16 = .ok (.iconst 1, 1) := by decide +kernel
theorem dX6_isMissing_17 : decode cX6_isMissing 17 = .ok (.goto 4, 3) := by decide +kernel
theorem dX6_isMissing_20 : decode cX6_isMissing 20 = .ok (.iconst 0, 1) := by decide +kernel
theorem dX6_isMissing_21 : decode cX6_isMissing 21 = .ok (.ireturn, 1) := by decide +kernel
set_option maxRecDepth 20000 in
theorem ggX6_areAlike_X6_isSheet : GoodIn wsX6_areAlike wsX6_isSheet := goodIn_r _ [5] (by decide +kernel) (by decide +kernel)
set_option maxRecDepth 20000 in
theorem gX6_areAlike_X6_isSheet : GoodIn wsX6_areAlike (va_wsS RX6 20 yX6_isSheet wsX6_isSheet) := goodIn_app (goodIn_of _ (by decide +kernel)) ggX6_areAlike_X6_isSheet
theorem dX6_areAlike_0 : decode cX6_areAlike 0 = .ok (.iload_n 1, 1) := by decide +kernel
theorem dX6_areAlike_1 : decode cX6_areAlike 1 = .ok (.invokestatic 20, 3) := by decide +kernel
theorem dX6_areAlike_4 : decode cX6_areAlike 4 = .ok (.ifCond .eq 29, 3) := by decide +kernel
theorem dX6_areAlike_7 : decode cX6_areAlike 7 = .ok (.iload_n 2, 1) := by decide +kernel
theorem dX6_areAlike_8 : decode cX6_areAlike 8 = .ok (.invokestatic 20, 3) := by decide +kernel
theorem dX6_areAlike_11 : decode cX6_areAlike 11 = .ok (.ifCond .eq 22, 3) := by decide +kernel
theorem dX6_areAlike_14 : decode cX6_areAlike 14 = .ok (.aload_n 0, 1) := by decide +kernel
theorem dX6_areAlike_15 : decode cX6_areAlike 15 = .ok (.getfield 9, 3) := by decide +kernel
theorem dX6_areAlike_18 : decode cX6_areAlike 18 = .ok (.iload_n 1, 1) := by decide +kernel
theorem dX6_areAlike_19 : decode cX6_areAlike 19 = .ok (.iaload, 1) := by decide +kernel
theorem dX6_areAlike_20 : decode cX6_areAlike 20 = .ok (.aload_n 0, 1) := by decide +kernel
theorem dX6_areAlike_21 : decode cX6_areAlike 21 = .ok (.getfield 9, 3) := by decide +kernel
theorem dX6_areAlike_24 : decode cX6_areAlike 24 = .ok (.iload_n 2, 1) := by decide +kernel
theorem dX6_areAlike_25 : decode cX6_areAlike 25 = .ok (.iaload, 1) := by decide +kernel
theorem dX6_areAlike_26 : decode cX6_areAlike 26 = .ok (.if_icmp .ne 7, 3) := by decide +kernel
theorem dX6_areAlike_29 : decode cX6_areAlike 29 = .ok (.iconst 1, 1) := by decide +kernel
theorem dX6_areAlike_30 : decode cX6_areAlike 30 = .ok (.goto 4, 3) := by decide +kernel
theorem dX6_areAlike_33 : decode cX6_areAlike 33 = .ok (.iconst 0, 1) := by decide +kernel
theorem dX6_areAlike_34 : decode cX6_areAlike 34 = .ok (.ireturn, 1) := by decide +kernel
set_option maxRecDepth 20000 in
theorem ggX6_sizeOf_X6_isSheet : GoodIn wsX6_sizeOf wsX6_isSheet := goodIn_r _ [5] (by decide +kernel) (by decide +kernel)
set_option maxRecDepth 20000 in
theorem gX6_sizeOf_X6_isSheet : GoodIn wsX6_sizeOf (va_wsS RX6 20 yX6_isSheet wsX6_isSheet) := goodIn_app (goodIn_of _ (by decide +kernel)) ggX6_sizeOf_X6_isSheet
theorem dX6_sizeOf_0 : decode cX6_sizeOf 0 = .ok (.iload_n 1, 1) := by decide +kernel
theorem dX6_sizeOf_1 : decode cX6_sizeOf 1 = .ok (.invokestatic 20, 3) := by decide +kernel
theorem dX6_sizeOf_4 : decode cX6_sizeOf 4 = .ok (.ifCond .eq 12, 3) := by decide +kernel
theorem dX6_sizeOf_7 : decode cX6_sizeOf 7 = .ok (.aload_n 0, 1) := by decide +kernel
theorem dX6_sizeOf_8 : decode cX6_sizeOf 8 = .ok (.getfield 13, 3) := by decide +kernel
theorem dX6_sizeOf_11 : decode cX6_sizeOf 11 = .ok (.iload_n 1, 1) := by decide +kernel
theorem dX6_sizeOf_12 : decode cX6_sizeOf 12 = .ok (.iaload, 1) := by decide +kernel
theorem dX6_sizeOf_13 : decode cX6_sizeOf 13 = .ok (.goto 4, 3) := by decide +kernel
theorem dX6_sizeOf_16 : decode cX6_sizeOf 16 = .ok (.iconst 0, 1) := by decide +kernel
theorem dX6_sizeOf_17 : decode cX6_sizeOf 17 = .ok (.ireturn, 1) := by decide +kernel
set_option maxRecDepth 20000 in
theorem ggX6_holds_X6_sizeOf : GoodIn wsX6_holds wsX6_sizeOf := goodIn_r _ [5, 6, 7, 8, 4, 9, 10, 11, 12] (by decide +kernel) (by decide +kernel)
set_option maxRecDepth 20000 in
theorem gX6_holds_X6_sizeOf : GoodIn wsX6_holds (wsV RX6 24 RX6 yX6_sizeOf wsX6_sizeOf) := goodIn_app (goodIn_of _ (by decide +kernel)) ggX6_holds_X6_sizeOf
theorem dX6_holds_0 : decode cX6_holds 0 = .ok (.aload_n 0, 1) := by decide +kernel
theorem dX6_holds_1 : decode cX6_holds 1 = .ok (.iload_n 1, 1) := by decide +kernel
theorem dX6_holds_2 : decode cX6_holds 2 = .ok (.invokevirtual 24, 3) := by decide +kernel
theorem dX6_holds_5 : decode cX6_holds 5 = .ok (.istore 4, 2) := by decide +kernel
theorem dX6_holds_7 : decode cX6_holds 7 = .ok (.iload_n 2, 1) := by decide +kernel
theorem dX6_holds_8 : decode cX6_holds 8 = .ok (.ifCond .lt 25, 3) := by decide +kernel
theorem dX6_holds_11 : decode cX6_holds 11 = .ok (.iload_n 3, 1) := by decide +kernel
theorem dX6_holds_12 : decode cX6_holds 12 = .ok (.ifCond .lt 21, 3) := by decide +kernel
theorem dX6_holds_15 : decode cX6_holds 15 = .ok (.iload_n 2, 1) := by decide +kernel
theorem dX6_holds_16 : decode cX6_holds 16 = .ok (.iload 4, 2) := by decide +kernel
theorem dX6_holds_18 : decode cX6_holds 18 = .ok (.if_icmp .gt 15, 3) := by decide +kernel
theorem dX6_holds_21 : decode cX6_holds 21 = .ok (.iload_n 3, 1) := by decide +kernel
theorem dX6_holds_22 : decode cX6_holds 22 = .ok (.iload 4, 2) := by decide +kernel
theorem dX6_holds_24 : decode cX6_holds 24 = .ok (.iload_n 2, 1) := by decide +kernel
theorem dX6_holds_25 : decode cX6_holds 25 = .ok (.isub, 1) := by decide +kernel
theorem dX6_holds_26 : decode cX6_holds 26 = .ok (.if_icmp .gt 7, 3) := by decide +kernel
theorem dX6_holds_29 : decode cX6_holds 29 = .ok (.iconst 1, 1) := by decide +kernel
theorem dX6_holds_30 : decode cX6_holds 30 = .ok (.goto 4, 3) := by decide +kernel
theorem dX6_holds_33 : decode cX6_holds 33 = .ok (.iconst 0, 1) := by decide +kernel
theorem dX6_holds_34 : decode cX6_holds 34 = .ok (.ireturn, 1) := by decide +kernel
set_option maxRecDepth 20000 in
theorem ggX6_lay_X6_isSheet : GoodIn wsX6_lay wsX6_isSheet := goodIn_r _ [7] (by decide +kernel) (by decide +kernel)
set_option maxRecDepth 20000 in
theorem gX6_lay_X6_isSheet : GoodIn wsX6_lay (va_wsS RX6 20 yX6_isSheet wsX6_isSheet) := goodIn_app (goodIn_of _ (by decide +kernel)) ggX6_lay_X6_isSheet
theorem dX6_lay_0 : decode cX6_lay 0 = .ok (.iload_n 1, 1) := by decide +kernel
theorem dX6_lay_1 : decode cX6_lay 1 = .ok (.invokestatic 20, 3) := by decide +kernel
theorem dX6_lay_4 : decode cX6_lay 4 = .ok (.ifCond .eq 13, 3) := by decide +kernel
theorem dX6_lay_7 : decode cX6_lay 7 = .ok (.iload_n 3, 1) := by decide +kernel
theorem dX6_lay_8 : decode cX6_lay 8 = .ok (.ifCond .lt 9, 3) := by decide +kernel
theorem dX6_lay_11 : decode cX6_lay 11 = .ok (.iload_n 3, 1) := by decide +kernel
theorem dX6_lay_12 : decode cX6_lay 12 = .ok (.bipush 40, 2) := by decide +kernel
theorem dX6_lay_14 : decode cX6_lay 14 = .ok (.if_icmp .le 5, 3) := by decide +kernel
theorem dX6_lay_17 : decode cX6_lay 17 = .ok (.iconst 0, 1) := by decide +kernel
theorem dX6_lay_18 : decode cX6_lay 18 = .ok (.ireturn, 1) := by decide +kernel
theorem dX6_lay_19 : decode cX6_lay 19 = .ok (.aload_n 0, 1) := by decide +kernel
theorem dX6_lay_20 : decode cX6_lay 20 = .ok (.getfield 9, 3) := by decide +kernel
theorem dX6_lay_23 : decode cX6_lay 23 = .ok (.iload_n 1, 1) := by decide +kernel
theorem dX6_lay_24 : decode cX6_lay 24 = .ok (.iload_n 2, 1) := by decide +kernel
theorem dX6_lay_25 : decode cX6_lay 25 = .ok (.iastore, 1) := by decide +kernel
theorem dX6_lay_26 : decode cX6_lay 26 = .ok (.aload_n 0, 1) := by decide +kernel
theorem dX6_lay_27 : decode cX6_lay 27 = .ok (.getfield 13, 3) := by decide +kernel
theorem dX6_lay_30 : decode cX6_lay 30 = .ok (.iload_n 1, 1) := by decide +kernel
theorem dX6_lay_31 : decode cX6_lay 31 = .ok (.iload_n 2, 1) := by decide +kernel
theorem dX6_lay_32 : decode cX6_lay 32 = .ok (.ifCond .ne 7, 3) := by decide +kernel
theorem dX6_lay_35 : decode cX6_lay 35 = .ok (.iconst 0, 1) := by decide +kernel
theorem dX6_lay_36 : decode cX6_lay 36 = .ok (.goto 4, 3) := by decide +kernel
theorem dX6_lay_39 : decode cX6_lay 39 = .ok (.iload_n 3, 1) := by decide +kernel
theorem dX6_lay_40 : decode cX6_lay 40 = .ok (.iastore, 1) := by decide +kernel
theorem dX6_lay_41 : decode cX6_lay 41 = .ok (.iconst 0, 1) := by decide +kernel
theorem dX6_lay_42 : decode cX6_lay 42 = .ok (.istore 4, 2) := by decide +kernel
theorem dX6_lay_44 : decode cX6_lay 44 = .ok (.iload 4, 2) := by decide +kernel
theorem dX6_lay_46 : decode cX6_lay 46 = .ok (.bipush 40, 2) := by decide +kernel
theorem dX6_lay_48 : decode cX6_lay 48 = .ok (.if_icmp .ge 22, 3) := by decide +kernel
theorem dX6_lay_51 : decode cX6_lay 51 = .ok (.aload_n 0, 1) := by decide +kernel
theorem dX6_lay_52 : decode cX6_lay 52 = .ok (.getfield 16, 3) := by decide +kernel
theorem dX6_lay_55 : decode cX6_lay 55 = .ok (.iload_n 1, 1) := by decide +kernel
theorem dX6_lay_56 : decode cX6_lay 56 = .ok (.bipush 40, 2) := by decide +kernel
theorem dX6_lay_58 : decode cX6_lay 58 = .ok (.imul, 1) := by decide +kernel
theorem dX6_lay_59 : decode cX6_lay 59 = .ok (.iload 4, 2) := by decide +kernel
theorem dX6_lay_61 : decode cX6_lay 61 = .ok (.iadd, 1) := by decide +kernel
theorem dX6_lay_62 : decode cX6_lay 62 = .ok (.lconst 0, 1) := by decide +kernel
theorem dX6_lay_63 : decode cX6_lay 63 = .ok (.lastore, 1) := by decide +kernel
theorem dX6_lay_64 : decode cX6_lay 64 = .ok (.iinc 4 1, 3) := by decide +kernel
theorem dX6_lay_67 : decode cX6_lay 67 = .ok (.goto (-23), 3) := by decide +kernel
theorem dX6_lay_70 : decode cX6_lay 70 = .ok (.aload_n 0, 1) := by decide +kernel
theorem dX6_lay_71 : decode cX6_lay 71 = .ok (.getfield 13, 3) := by decide +kernel
theorem dX6_lay_74 : decode cX6_lay 74 = .ok (.iload_n 1, 1) := by decide +kernel
theorem dX6_lay_75 : decode cX6_lay 75 = .ok (.iaload, 1) := by decide +kernel
theorem dX6_lay_76 : decode cX6_lay 76 = .ok (.ireturn, 1) := by decide +kernel
set_option maxRecDepth 20000 in
theorem ggX6_at_X6_sizeOf : GoodIn wsX6_at wsX6_sizeOf := goodIn_r _ [6, 7, 8, 9, 5, 10, 11, 12, 13] (by decide +kernel) (by decide +kernel)
set_option maxRecDepth 20000 in
theorem gX6_at_X6_sizeOf : GoodIn wsX6_at (wsV RX6 24 RX6 yX6_sizeOf wsX6_sizeOf) := goodIn_app (goodIn_of _ (by decide +kernel)) ggX6_at_X6_sizeOf
theorem dX6_at_0 : decode cX6_at 0 = .ok (.iload_n 2, 1) := by decide +kernel
theorem dX6_at_1 : decode cX6_at 1 = .ok (.ifCond .lt 26, 3) := by decide +kernel
theorem dX6_at_4 : decode cX6_at 4 = .ok (.iload_n 2, 1) := by decide +kernel
theorem dX6_at_5 : decode cX6_at 5 = .ok (.aload_n 0, 1) := by decide +kernel
theorem dX6_at_6 : decode cX6_at 6 = .ok (.iload_n 1, 1) := by decide +kernel
theorem dX6_at_7 : decode cX6_at 7 = .ok (.invokevirtual 24, 3) := by decide +kernel
theorem dX6_at_10 : decode cX6_at 10 = .ok (.if_icmp .ge 17, 3) := by decide +kernel
theorem dX6_at_13 : decode cX6_at 13 = .ok (.aload_n 0, 1) := by decide +kernel
theorem dX6_at_14 : decode cX6_at 14 = .ok (.getfield 16, 3) := by decide +kernel
theorem dX6_at_17 : decode cX6_at 17 = .ok (.iload_n 1, 1) := by decide +kernel
theorem dX6_at_18 : decode cX6_at 18 = .ok (.bipush 40, 2) := by decide +kernel
theorem dX6_at_20 : decode cX6_at 20 = .ok (.imul, 1) := by decide +kernel
theorem dX6_at_21 : decode cX6_at 21 = .ok (.iload_n 2, 1) := by decide +kernel
theorem dX6_at_22 : decode cX6_at 22 = .ok (.iadd, 1) := by decide +kernel
theorem dX6_at_23 : decode cX6_at 23 = .ok (.laload, 1) := by decide +kernel
theorem dX6_at_24 : decode cX6_at 24 = .ok (.goto 4, 3) := by decide +kernel
theorem dX6_at_27 : decode cX6_at 27 = .ok (.lconst 0, 1) := by decide +kernel
theorem dX6_at_28 : decode cX6_at 28 = .ok (.lreturn, 1) := by decide +kernel
set_option maxRecDepth 20000 in
theorem ggX6_put_X6_sizeOf : GoodIn wsX6_put wsX6_sizeOf := goodIn_r _ [7, 8, 9, 10, 6, 11, 15, 16, 17] (by decide +kernel) (by decide +kernel)
set_option maxRecDepth 20000 in
theorem gX6_put_X6_sizeOf : GoodIn wsX6_put (wsV RX6 24 RX6 yX6_sizeOf wsX6_sizeOf) := goodIn_app (goodIn_of _ (by decide +kernel)) ggX6_put_X6_sizeOf
set_option maxRecDepth 20000 in
theorem ggX6_put_X6_lowest : GoodIn wsX6_put wsX6_lowest := goodIn_r _ [14] (by decide +kernel) (by decide +kernel)
set_option maxRecDepth 20000 in
theorem gX6_put_X6_lowest : GoodIn wsX6_put (va_wsS RX6 28 yX6_lowest wsX6_lowest) := goodIn_app (goodIn_of _ (by decide +kernel)) ggX6_put_X6_lowest
theorem dX6_put_0 : decode cX6_put 0 = .ok (.iload_n 2, 1) := by decide +kernel
theorem dX6_put_1 : decode cX6_put 1 = .ok (.ifCond .lt 33, 3) := by decide +kernel
theorem dX6_put_4 : decode cX6_put 4 = .ok (.iload_n 2, 1) := by decide +kernel
theorem dX6_put_5 : decode cX6_put 5 = .ok (.aload_n 0, 1) := by decide +kernel
theorem dX6_put_6 : decode cX6_put 6 = .ok (.iload_n 1, 1) := by decide +kernel
theorem dX6_put_7 : decode cX6_put 7 = .ok (.invokevirtual 24, 3) := by decide +kernel
theorem dX6_put_10 : decode cX6_put 10 = .ok (.if_icmp .ge 24, 3) := by decide +kernel
theorem dX6_put_13 : decode cX6_put 13 = .ok (.aload_n 0, 1) := by decide +kernel
theorem dX6_put_14 : decode cX6_put 14 = .ok (.getfield 16, 3) := by decide +kernel
theorem dX6_put_17 : decode cX6_put 17 = .ok (.iload_n 1, 1) := by decide +kernel
theorem dX6_put_18 : decode cX6_put 18 = .ok (.bipush 40, 2) := by decide +kernel
theorem dX6_put_20 : decode cX6_put 20 = .ok (.imul, 1) := by decide +kernel
theorem dX6_put_21 : decode cX6_put 21 = .ok (.iload_n 2, 1) := by decide +kernel
theorem dX6_put_22 : decode cX6_put 22 = .ok (.iadd, 1) := by decide +kernel
theorem dX6_put_23 : decode cX6_put 23 = .ok (.aload_n 0, 1) := by decide +kernel
theorem dX6_put_24 : decode cX6_put 24 = .ok (.getfield 9, 3) := by decide +kernel
theorem dX6_put_27 : decode cX6_put 27 = .ok (.iload_n 1, 1) := by decide +kernel
theorem dX6_put_28 : decode cX6_put 28 = .ok (.iaload, 1) := by decide +kernel
theorem dX6_put_29 : decode cX6_put 29 = .ok (.lload_n 3, 1) := by decide +kernel
theorem dX6_put_30 : decode cX6_put 30 = .ok (.invokestatic 28, 3) := by decide +kernel
theorem dX6_put_33 : decode cX6_put 33 = .ok (.lastore, 1) := by decide +kernel
theorem dX6_put_34 : decode cX6_put 34 = .ok (.return_, 1) := by decide +kernel
theorem dX6_lowest_0 : decode cX6_lowest 0 = .ok (.iload_n 0, 1) := by decide +kernel
theorem dX6_lowest_1 : decode cX6_lowest 1 = .ok (.lookupswitch 37 #[(8, 27), (16, 32)], 27) := by decide +kernel
theorem dX6_lowest_28 : decode cX6_lowest 28 = .ok (.lload_n 1, 1) := by decide +kernel
theorem dX6_lowest_29 : decode cX6_lowest 29 = .ok (.l2i, 1) := by decide +kernel
theorem dX6_lowest_30 : decode cX6_lowest 30 = .ok (.i2b, 1) := by decide +kernel
theorem dX6_lowest_31 : decode cX6_lowest 31 = .ok (.i2l, 1) := by decide +kernel
theorem dX6_lowest_32 : decode cX6_lowest 32 = .ok (.lreturn, 1) := by decide +kernel
theorem dX6_lowest_33 : decode cX6_lowest 33 = .ok (.lload_n 1, 1) := by decide +kernel
theorem dX6_lowest_34 : decode cX6_lowest 34 = .ok (.l2i, 1) := by decide +kernel
theorem dX6_lowest_35 : decode cX6_lowest 35 = .ok (.i2s, 1) := by decide +kernel
theorem dX6_lowest_36 : decode cX6_lowest 36 = .ok (.i2l, 1) := by decide +kernel
theorem dX6_lowest_37 : decode cX6_lowest 37 = .ok (.lreturn, 1) := by decide +kernel
theorem dX6_lowest_38 : decode cX6_lowest 38 = .ok (.lload_n 1, 1) := by decide +kernel
theorem dX6_lowest_39 : decode cX6_lowest 39 = .ok (.lreturn, 1) := by decide +kernel
set_option maxRecDepth 20000 in
theorem ggX6_move_X6_holds : GoodIn wsX6_move wsX6_holds := goodIn_r _ [10, 11, 12, 13, 9, 14, 15, 16, 17, 18, 19, 20, 21] (by decide +kernel) (by decide +kernel)
set_option maxRecDepth 20000 in
theorem gX6_move_X6_holds : GoodIn wsX6_move (wsV RX6 32 RX6 yX6_holds wsX6_holds) := goodIn_app (goodIn_of _ (by decide +kernel)) ggX6_move_X6_holds
theorem dX6_move_0 : decode cX6_move 0 = .ok (.aload_n 0, 1) := by decide +kernel
theorem dX6_move_1 : decode cX6_move 1 = .ok (.iload_n 1, 1) := by decide +kernel
theorem dX6_move_2 : decode cX6_move 2 = .ok (.iload_n 2, 1) := by decide +kernel
theorem dX6_move_3 : decode cX6_move 3 = .ok (.iload 5, 2) := by decide +kernel
theorem dX6_move_5 : decode cX6_move 5 = .ok (.invokevirtual 32, 3) := by decide +kernel
theorem dX6_move_8 : decode cX6_move 8 = .ok (.ifCond .eq 41, 3) := by decide +kernel
theorem dX6_move_11 : decode cX6_move 11 = .ok (.aload_n 0, 1) := by decide +kernel
theorem dX6_move_12 : decode cX6_move 12 = .ok (.iload_n 3, 1) := by decide +kernel
theorem dX6_move_13 : decode cX6_move 13 = .ok (.iload 4, 2) := by decide +kernel
theorem dX6_move_15 : decode cX6_move 15 = .ok (.iload 5, 2) := by decide +kernel
theorem dX6_move_17 : decode cX6_move 17 = .ok (.invokevirtual 32, 3) := by decide +kernel
theorem dX6_move_20 : decode cX6_move 20 = .ok (.ifCond .eq 29, 3) := by decide +kernel
theorem dX6_move_23 : decode cX6_move 23 = .ok (.aload_n 0, 1) := by decide +kernel
theorem dX6_move_24 : decode cX6_move 24 = .ok (.getfield 16, 3) := by decide +kernel
theorem dX6_move_27 : decode cX6_move 27 = .ok (.iload_n 1, 1) := by decide +kernel
theorem dX6_move_28 : decode cX6_move 28 = .ok (.bipush 40, 2) := by decide +kernel
theorem dX6_move_30 : decode cX6_move 30 = .ok (.imul, 1) := by decide +kernel
theorem dX6_move_31 : decode cX6_move 31 = .ok (.iload_n 2, 1) := by decide +kernel
theorem dX6_move_32 : decode cX6_move 32 = .ok (.iadd, 1) := by decide +kernel
theorem dX6_move_33 : decode cX6_move 33 = .ok (.aload_n 0, 1) := by decide +kernel
theorem dX6_move_34 : decode cX6_move 34 = .ok (.getfield 16, 3) := by decide +kernel
theorem dX6_move_37 : decode cX6_move 37 = .ok (.iload_n 3, 1) := by decide +kernel
theorem dX6_move_38 : decode cX6_move 38 = .ok (.bipush 40, 2) := by decide +kernel
theorem dX6_move_40 : decode cX6_move 40 = .ok (.imul, 1) := by decide +kernel
theorem dX6_move_41 : decode cX6_move 41 = .ok (.iload 4, 2) := by decide +kernel
theorem dX6_move_43 : decode cX6_move 43 = .ok (.iadd, 1) := by decide +kernel
theorem dX6_move_44 : decode cX6_move 44 = .ok (.iload 5, 2) := by decide +kernel
theorem dX6_move_46 : decode cX6_move 46 = .ok (.invokestatic 36, 3) := by decide +kernel
theorem dX6_move_49 : decode cX6_move 49 = .ok (.return_, 1) := by decide +kernel
set_option maxRecDepth 20000 in
theorem ggX6_toBook_X6_sizeOf : GoodIn wsX6_toBook wsX6_sizeOf := goodIn_r _ [10, 11, 12, 13, 9, 14, 29, 30, 31] (by decide +kernel) (by decide +kernel)
set_option maxRecDepth 20000 in
theorem gX6_toBook_X6_sizeOf : GoodIn wsX6_toBook (wsV RX6 24 RX6 yX6_sizeOf wsX6_sizeOf) := goodIn_app (goodIn_of _ (by decide +kernel)) ggX6_toBook_X6_sizeOf
set_option maxRecDepth 20000 in
theorem ggX6_toBook_X6_at : GoodIn wsX6_toBook wsX6_at := goodIn_r _ [18, 19, 6, 7, 8, 9, 10, 11, 12, 13, 14, 29, 30, 31] (by decide +kernel) (by decide +kernel)
set_option maxRecDepth 20000 in
theorem gX6_toBook_X6_at : GoodIn wsX6_toBook (wsV RX6 50 RX6 yX6_at wsX6_at) := goodIn_app (goodIn_of _ (by decide +kernel)) ggX6_toBook_X6_at
set_option maxRecDepth 20000 in
theorem ggX6_toBook_X0_put : GoodIn wsX6_toBook wsX0_put := goodIn_r _ [24, 25, 26, 27, 23, 28, 32] (by decide +kernel) (by decide +kernel)
set_option maxRecDepth 20000 in
theorem gX6_toBook_X0_put : GoodIn wsX6_toBook (wsV RX6 58 RX0 yX0_put wsX0_put) := goodIn_app (goodIn_of _ (by decide +kernel)) ggX6_toBook_X0_put
theorem dX6_toBook_0 : decode cX6_toBook 0 = .ok (.iconst 0, 1) := by decide +kernel
theorem dX6_toBook_1 : decode cX6_toBook 1 = .ok (.istore_n 3, 1) := by decide +kernel
theorem dX6_toBook_2 : decode cX6_toBook 2 = .ok (.aload_n 0, 1) := by decide +kernel
theorem dX6_toBook_3 : decode cX6_toBook 3 = .ok (.iload_n 1, 1) := by decide +kernel
theorem dX6_toBook_4 : decode cX6_toBook 4 = .ok (.invokevirtual 24, 3) := by decide +kernel
theorem dX6_toBook_7 : decode cX6_toBook 7 = .ok (.bipush 26, 2) := by decide +kernel
theorem dX6_toBook_9 : decode cX6_toBook 9 = .ok (.invokestatic 44, 3) := by decide +kernel
theorem dX6_toBook_12 : decode cX6_toBook 12 = .ok (.istore 4, 2) := by decide +kernel
theorem dX6_toBook_14 : decode cX6_toBook 14 = .ok (.iconst 0, 1) := by decide +kernel
theorem dX6_toBook_15 : decode cX6_toBook 15 = .ok (.istore 5, 2) := by decide +kernel
theorem dX6_toBook_17 : decode cX6_toBook 17 = .ok (.iload 5, 2) := by decide +kernel
theorem dX6_toBook_19 : decode cX6_toBook 19 = .ok (.iload 4, 2) := by decide +kernel
theorem dX6_toBook_21 : decode cX6_toBook 21 = .ok (.if_icmp .ge 46, 3) := by decide +kernel
theorem dX6_toBook_24 : decode cX6_toBook 24 = .ok (.aload_n 0, 1) := by decide +kernel
theorem dX6_toBook_25 : decode cX6_toBook 25 = .ok (.iload_n 1, 1) := by decide +kernel
theorem dX6_toBook_26 : decode cX6_toBook 26 = .ok (.iload 5, 2) := by decide +kernel
theorem dX6_toBook_28 : decode cX6_toBook 28 = .ok (.invokevirtual 50, 3) := by decide +kernel
theorem dX6_toBook_31 : decode cX6_toBook 31 = .ok (.lstore 6, 2) := by decide +kernel
theorem dX6_toBook_33 : decode cX6_toBook 33 = .ok (.lload 6, 2) := by decide +kernel
theorem dX6_toBook_35 : decode cX6_toBook 35 = .ok (.lconst 0, 1) := by decide +kernel
theorem dX6_toBook_36 : decode cX6_toBook 36 = .ok (.lcmp, 1) := by decide +kernel
theorem dX6_toBook_37 : decode cX6_toBook 37 = .ok (.ifCond .lt 24, 3) := by decide +kernel
theorem dX6_toBook_40 : decode cX6_toBook 40 = .ok (.lload 6, 2) := by decide +kernel
theorem dX6_toBook_42 : decode cX6_toBook 42 = .ok (.ldc2_w 56, 3) := by decide +kernel
theorem dX6_toBook_45 : decode cX6_toBook 45 = .ok (.lcmp, 1) := by decide +kernel
theorem dX6_toBook_46 : decode cX6_toBook 46 = .ok (.ifCond .gt 15, 3) := by decide +kernel
theorem dX6_toBook_49 : decode cX6_toBook 49 = .ok (.aload_n 2, 1) := by decide +kernel
theorem dX6_toBook_50 : decode cX6_toBook 50 = .ok (.iload 5, 2) := by decide +kernel
theorem dX6_toBook_52 : decode cX6_toBook 52 = .ok (.lload 6, 2) := by decide +kernel
theorem dX6_toBook_54 : decode cX6_toBook 54 = .ok (.l2i, 1) := by decide +kernel
theorem dX6_toBook_55 : decode cX6_toBook 55 = .ok (.invokevirtual 58, 3) := by decide +kernel
theorem dX6_toBook_58 : decode cX6_toBook 58 = .ok (.iinc 3 1, 3) := by decide +kernel
theorem dX6_toBook_61 : decode cX6_toBook 61 = .ok (.iinc 5 1, 3) := by decide +kernel
theorem dX6_toBook_64 : decode cX6_toBook 64 = .ok (.goto (-47), 3) := by decide +kernel
theorem dX6_toBook_67 : decode cX6_toBook 67 = .ok (.iload_n 3, 1) := by decide +kernel
theorem dX6_toBook_68 : decode cX6_toBook 68 = .ok (.ireturn, 1) := by decide +kernel
set_option maxRecDepth 20000 in
theorem ggX6_walkOver_X6_sizeOf : GoodIn wsX6_walkOver wsX6_sizeOf := goodIn_r _ [5, 6, 7, 8, 4, 9, 31, 32, 33] (by decide +kernel) (by decide +kernel)
set_option maxRecDepth 20000 in
theorem gX6_walkOver_X6_sizeOf : GoodIn wsX6_walkOver (wsV RX6 24 RX6 yX6_sizeOf wsX6_sizeOf) := goodIn_app (goodIn_of _ (by decide +kernel)) ggX6_walkOver_X6_sizeOf
set_option maxRecDepth 20000 in
theorem ggX6_walkOver_X6_at : GoodIn wsX6_walkOver wsX6_at := goodIn_r _ [13, 14, 1, 2, 3, 4, 5, 6, 7, 8, 9, 31, 32, 33] (by decide +kernel) (by decide +kernel)
set_option maxRecDepth 20000 in
theorem gX6_walkOver_X6_at : GoodIn wsX6_walkOver (wsV RX6 50 RX6 yX6_at wsX6_at) := goodIn_app (goodIn_of _ (by decide +kernel)) ggX6_walkOver_X6_at
set_option maxRecDepth 20000 in
theorem ggX6_walkOver_X3_isPoint : GoodIn wsX6_walkOver wsX3_isPoint := goodIn_r _ [18, 19] (by decide +kernel) (by decide +kernel)
set_option maxRecDepth 20000 in
theorem gX6_walkOver_X3_isPoint : GoodIn wsX6_walkOver (va_wsS RX6 62 yX3_isPoint wsX3_isPoint) := goodIn_app (goodIn_of _ (by decide +kernel)) ggX6_walkOver_X3_isPoint
set_option maxRecDepth 20000 in
theorem ggX6_walkOver_X3_between : GoodIn wsX6_walkOver wsX3_between := goodIn_r _ [22, 23, 24, 17, 25, 26, 27] (by decide +kernel) (by decide +kernel)
set_option maxRecDepth 20000 in
theorem gX6_walkOver_X3_between : GoodIn wsX6_walkOver (va_wsS RX6 66 yX3_between wsX3_between) := goodIn_app (goodIn_of _ (by decide +kernel)) ggX6_walkOver_X3_between
set_option maxRecDepth 20000 in
theorem ggX6_walkOver_X3_hasStroke : GoodIn wsX6_walkOver wsX3_hasStroke := goodIn_r _ [30] (by decide +kernel) (by decide +kernel)
set_option maxRecDepth 20000 in
theorem gX6_walkOver_X3_hasStroke : GoodIn wsX6_walkOver (va_wsS RX6 69 yX3_hasStroke wsX3_hasStroke) := goodIn_app (goodIn_of _ (by decide +kernel)) ggX6_walkOver_X3_hasStroke
theorem dX6_walkOver_0 : decode cX6_walkOver 0 = .ok (.aload_n 0, 1) := by decide +kernel
theorem dX6_walkOver_1 : decode cX6_walkOver 1 = .ok (.iload_n 1, 1) := by decide +kernel
theorem dX6_walkOver_2 : decode cX6_walkOver 2 = .ok (.invokevirtual 24, 3) := by decide +kernel
theorem dX6_walkOver_5 : decode cX6_walkOver 5 = .ok (.istore_n 3, 1) := by decide +kernel
theorem dX6_walkOver_6 : decode cX6_walkOver 6 = .ok (.iload_n 2, 1) := by decide +kernel
theorem dX6_walkOver_7 : decode cX6_walkOver 7 = .ok (.istore 4, 2) := by decide +kernel
theorem dX6_walkOver_9 : decode cX6_walkOver 9 = .ok (.iconst 0, 1) := by decide +kernel
theorem dX6_walkOver_10 : decode cX6_walkOver 10 = .ok (.istore 5, 2) := by decide +kernel
theorem dX6_walkOver_12 : decode cX6_walkOver 12 = .ok (.iload 5, 2) := by decide +kernel
theorem dX6_walkOver_14 : decode cX6_walkOver 14 = .ok (.iload_n 3, 1) := by decide +kernel
theorem dX6_walkOver_15 : decode cX6_walkOver 15 = .ok (.if_icmp .ge 86, 3) := by decide +kernel
theorem dX6_walkOver_18 : decode cX6_walkOver 18 = .ok (.aload_n 0, 1) := by decide +kernel
theorem dX6_walkOver_19 : decode cX6_walkOver 19 = .ok (.iload_n 1, 1) := by decide +kernel
theorem dX6_walkOver_20 : decode cX6_walkOver 20 = .ok (.iload 5, 2) := by decide +kernel
theorem dX6_walkOver_22 : decode cX6_walkOver 22 = .ok (.invokevirtual 50, 3) := by decide +kernel
theorem dX6_walkOver_25 : decode cX6_walkOver 25 = .ok (.invokestatic 62, 3) := by decide +kernel
theorem dX6_walkOver_28 : decode cX6_walkOver 28 = .ok (.ifCond .ne 8, 3) := by decide +kernel
theorem dX6_walkOver_31 : decode cX6_walkOver 31 = .ok (.iconst 1, 1) := by decide +kernel
theorem dX6_walkOver_32 : decode cX6_walkOver 32 = .ok (.iload 5, 2) := by decide +kernel
theorem dX6_walkOver_34 : decode cX6_walkOver 34 = .ok (.iadd, 1) := by decide +kernel
theorem dX6_walkOver_35 : decode cX6_walkOver 35 = .ok (.ireturn, 1) := by decide +kernel
theorem dX6_walkOver_36 : decode cX6_walkOver 36 = .ok (.iload 5, 2) := by decide +kernel
theorem dX6_walkOver_38 : decode cX6_walkOver 38 = .ok (.ifCond .le 57, 3) := by decide +kernel
theorem dX6_walkOver_41 : decode cX6_walkOver 41 = .ok (.aload_n 0, 1) := by decide +kernel
theorem dX6_walkOver_42 : decode cX6_walkOver 42 = .ok (.iload_n 1, 1) := by decide +kernel
theorem dX6_walkOver_43 : decode cX6_walkOver 43 = .ok (.iload 5, 2) := by decide +kernel
theorem dX6_walkOver_45 : decode cX6_walkOver 45 = .ok (.iconst 1, 1) := by decide +kernel
theorem dX6_walkOver_46 : decode cX6_walkOver 46 = .ok (.isub, 1) := by decide +kernel
theorem dX6_walkOver_47 : decode cX6_walkOver 47 = .ok (.invokevirtual 50, 3) := by decide +kernel
theorem dX6_walkOver_50 : decode cX6_walkOver 50 = .ok (.l2i, 1) := by decide +kernel
theorem dX6_walkOver_51 : decode cX6_walkOver 51 = .ok (.aload_n 0, 1) := by decide +kernel
theorem dX6_walkOver_52 : decode cX6_walkOver 52 = .ok (.iload_n 1, 1) := by decide +kernel
theorem dX6_walkOver_53 : decode cX6_walkOver 53 = .ok (.iload 5, 2) := by decide +kernel
theorem dX6_walkOver_55 : decode cX6_walkOver 55 = .ok (.invokevirtual 50, 3) := by decide +kernel
theorem dX6_walkOver_58 : decode cX6_walkOver 58 = .ok (.l2i, 1) := by decide +kernel
theorem dX6_walkOver_59 : decode cX6_walkOver 59 = .ok (.invokestatic 66, 3) := by decide +kernel
theorem dX6_walkOver_62 : decode cX6_walkOver 62 = .ok (.istore 6, 2) := by decide +kernel
theorem dX6_walkOver_64 : decode cX6_walkOver 64 = .ok (.iload 6, 2) := by decide +kernel
theorem dX6_walkOver_66 : decode cX6_walkOver 66 = .ok (.ifCond .lt 13, 3) := by decide +kernel
theorem dX6_walkOver_69 : decode cX6_walkOver 69 = .ok (.iload 4, 2) := by decide +kernel
theorem dX6_walkOver_71 : decode cX6_walkOver 71 = .ok (.iload 6, 2) := by decide +kernel
theorem dX6_walkOver_73 : decode cX6_walkOver 73 = .ok (.invokestatic 69, 3) := by decide +kernel
theorem dX6_walkOver_76 : decode cX6_walkOver 76 = .ok (.ifCond .ne 8, 3) := by decide +kernel
theorem dX6_walkOver_79 : decode cX6_walkOver 79 = .ok (.iconst 1, 1) := by decide +kernel
theorem dX6_walkOver_80 : decode cX6_walkOver 80 = .ok (.iload 5, 2) := by decide +kernel
theorem dX6_walkOver_82 : decode cX6_walkOver 82 = .ok (.iadd, 1) := by decide +kernel
theorem dX6_walkOver_83 : decode cX6_walkOver 83 = .ok (.ireturn, 1) := by decide +kernel
theorem dX6_walkOver_84 : decode cX6_walkOver 84 = .ok (.iload 4, 2) := by decide +kernel
theorem dX6_walkOver_86 : decode cX6_walkOver 86 = .ok (.iconst 1, 1) := by decide +kernel
theorem dX6_walkOver_87 : decode cX6_walkOver 87 = .ok (.iload 6, 2) := by decide +kernel
theorem dX6_walkOver_89 : decode cX6_walkOver 89 = .ok (.ishl, 1) := by decide +kernel
theorem dX6_walkOver_90 : decode cX6_walkOver 90 = .ok (.iconst (-1), 1) := by decide +kernel
theorem dX6_walkOver_91 : decode cX6_walkOver 91 = .ok (.ixor, 1) := by decide +kernel
theorem dX6_walkOver_92 : decode cX6_walkOver 92 = .ok (.iand, 1) := by decide +kernel
theorem dX6_walkOver_93 : decode cX6_walkOver 93 = .ok (.istore 4, 2) := by decide +kernel
theorem dX6_walkOver_95 : decode cX6_walkOver 95 = .ok (.iinc 5 1, 3) := by decide +kernel
theorem dX6_walkOver_98 : decode cX6_walkOver 98 = .ok (.goto (-86), 3) := by decide +kernel
theorem dX6_walkOver_101 : decode cX6_walkOver 101 = .ok (.iload 4, 2) := by decide +kernel
theorem dX6_walkOver_103 : decode cX6_walkOver 103 = .ok (.ifCond .ne 7, 3) := by decide +kernel
theorem dX6_walkOver_106 : decode cX6_walkOver 106 = .ok (.iconst 0, 1) := by decide +kernel
theorem dX6_walkOver_107 : decode cX6_walkOver 107 = .ok (.goto 6, 3) := by decide +kernel
theorem dX6_walkOver_110 : decode cX6_walkOver 110 = .ok (.iconst 1, 1) := by decide +kernel
theorem dX6_walkOver_111 : decode cX6_walkOver 111 = .ok (.iload_n 3, 1) := by decide +kernel
theorem dX6_walkOver_112 : decode cX6_walkOver 112 = .ok (.iadd, 1) := by decide +kernel
theorem dX6_walkOver_113 : decode cX6_walkOver 113 = .ok (.ireturn, 1) := by decide +kernel
theorem dX7_init_0 : decode cX7_init 0 = .ok (.aload_n 0, 1) := by decide +kernel
theorem dX7_init_1 : decode cX7_init 1 = .ok (.invokespecial 1, 3) := by decide +kernel
theorem dX7_init_4 : decode cX7_init 4 = .ok (.aload_n 0, 1) := by decide +kernel
theorem dX7_init_5 : decode cX7_init 5 = .ok (.bipush 120, 2) := by decide +kernel
theorem dX7_init_7 : decode cX7_init 7 = .ok (.newarray .byte, 2) := by decide +kernel
theorem dX7_init_9 : decode cX7_init 9 = .ok (.putfield 9, 3) := by decide +kernel
theorem dX7_init_12 : decode cX7_init 12 = .ok (.return_, 1) := by decide +kernel
theorem dX7_hasRoomFor_0 : decode cX7_hasRoomFor 0 = .ok (.iload_n 1, 1) := by decide +kernel
theorem dX7_hasRoomFor_1 : decode cX7_hasRoomFor 1 = .ok (.bipush 120, 2) := by decide +kernel
theorem dX7_hasRoomFor_3 : decode cX7_hasRoomFor 3 = .ok (.aload_n 0, 1) := by decide +kernel
theorem dX7_hasRoomFor_4 : decode cX7_hasRoomFor 4 = .ok (.getfield 13, 3) := by decide +kernel
theorem dX7_hasRoomFor_7 : decode cX7_hasRoomFor 7 = .ok (.isub, 1) := by decide +kernel
theorem dX7_hasRoomFor_8 : decode cX7_hasRoomFor 8 = .ok (.if_icmp .gt 7, 3) := by decide +kernel
theorem dX7_hasRoomFor_11 : decode cX7_hasRoomFor 11 = .ok (.iconst 1, 1) := by decide +kernel
theorem dX7_hasRoomFor_12 : decode cX7_hasRoomFor 12 = .ok (.goto 4, 3) := by decide +kernel
theorem dX7_hasRoomFor_15 : decode cX7_hasRoomFor 15 = .ok (.iconst 0, 1) := by decide +kernel
theorem dX7_hasRoomFor_16 : decode cX7_hasRoomFor 16 = .ok (.ireturn, 1) := by decide +kernel
theorem dX7_append_0 : decode cX7_append 0 = .ok (.iload_n 2, 1) := by decide +kernel
theorem dX7_append_1 : decode cX7_append 1 = .ok (.iconst 1, 1) := by decide +kernel
theorem dX7_append_2 : decode cX7_append 2 = .ok (.isub, 1) := by decide +kernel
theorem dX7_append_3 : decode cX7_append 3 = .ok (.istore_n 3, 1) := by decide +kernel
theorem dX7_append_4 : decode cX7_append 4 = .ok (.iload_n 3, 1) := by decide +kernel
theorem dX7_append_5 : decode cX7_append 5 = .ok (.ifCond .lt 44, 3) := by decide +kernel
theorem dX7_append_8 : decode cX7_append 8 = .ok (.aload_n 0, 1) := by decide +kernel
theorem dX7_append_9 : decode cX7_append 9 = .ok (.getfield 13, 3) := by decide +kernel
theorem dX7_append_12 : decode cX7_append 12 = .ok (.bipush 120, 2) := by decide +kernel
theorem dX7_append_14 : decode cX7_append 14 = .ok (.if_icmp .ge 35, 3) := by decide +kernel
theorem dX7_append_17 : decode cX7_append 17 = .ok (.aload_n 0, 1) := by decide +kernel
theorem dX7_append_18 : decode cX7_append 18 = .ok (.getfield 9, 3) := by decide +kernel
theorem dX7_append_21 : decode cX7_append 21 = .ok (.aload_n 0, 1) := by decide +kernel
theorem dX7_append_22 : decode cX7_append 22 = .ok (.getfield 13, 3) := by decide +kernel
theorem dX7_append_25 : decode cX7_append 25 = .ok (.iload_n 1, 1) := by decide +kernel
theorem dX7_append_26 : decode cX7_append 26 = .ok (.bipush 8, 2) := by decide +kernel
theorem dX7_append_28 : decode cX7_append 28 = .ok (.iload_n 3, 1) := by decide +kernel
theorem dX7_append_29 : decode cX7_append 29 = .ok (.imul, 1) := by decide +kernel
theorem dX7_append_30 : decode cX7_append 30 = .ok (.ishr, 1) := by decide +kernel
theorem dX7_append_31 : decode cX7_append 31 = .ok (.i2b, 1) := by decide +kernel
theorem dX7_append_32 : decode cX7_append 32 = .ok (.bastore, 1) := by decide +kernel
theorem dX7_append_33 : decode cX7_append 33 = .ok (.aload_n 0, 1) := by decide +kernel
theorem dX7_append_34 : decode cX7_append 34 = .ok (.dup, 1) := by decide +kernel
theorem dX7_append_35 : decode cX7_append 35 = .ok (.getfield 13, 3) := by decide +kernel
theorem dX7_append_38 : decode cX7_append 38 = .ok (.iconst 1, 1) := by decide +kernel
theorem dX7_append_39 : decode cX7_append 39 = .ok (.iadd, 1) := by decide +kernel
theorem dX7_append_40 : decode cX7_append 40 = .ok (.putfield 13, 3) := by decide +kernel
theorem dX7_append_43 : decode cX7_append 43 = .ok (.iinc 3 (-1), 3) := by decide +kernel
theorem dX7_append_46 : decode cX7_append 46 = .ok (.goto (-42), 3) := by decide +kernel
theorem dX7_append_49 : decode cX7_append 49 = .ok (.return_, 1) := by decide +kernel
theorem dX7_empty_0 : decode cX7_empty 0 = .ok (.aload_n 0, 1) := by decide +kernel
theorem dX7_empty_1 : decode cX7_empty 1 = .ok (.getfield 13, 3) := by decide +kernel
theorem dX7_empty_4 : decode cX7_empty 4 = .ok (.istore_n 1, 1) := by decide +kernel
theorem dX7_empty_5 : decode cX7_empty 5 = .ok (.aload_n 0, 1) := by decide +kernel
theorem dX7_empty_6 : decode cX7_empty 6 = .ok (.iconst 0, 1) := by decide +kernel
theorem dX7_empty_7 : decode cX7_empty 7 = .ok (.putfield 13, 3) := by decide +kernel
theorem dX7_empty_10 : decode cX7_empty 10 = .ok (.iload_n 1, 1) := by decide +kernel
theorem dX7_empty_11 : decode cX7_empty 11 = .ok (.ireturn, 1) := by decide +kernel
theorem dX7_byteAt_0 : decode cX7_byteAt 0 = .ok (.iload_n 1, 1) := by decide +kernel
theorem dX7_byteAt_1 : decode cX7_byteAt 1 = .ok (.ifCond .lt 24, 3) := by decide +kernel
theorem dX7_byteAt_4 : decode cX7_byteAt 4 = .ok (.iload_n 1, 1) := by decide +kernel
theorem dX7_byteAt_5 : decode cX7_byteAt 5 = .ok (.aload_n 0, 1) := by decide +kernel
theorem dX7_byteAt_6 : decode cX7_byteAt 6 = .ok (.getfield 13, 3) := by decide +kernel
theorem dX7_byteAt_9 : decode cX7_byteAt 9 = .ok (.if_icmp .ge 16, 3) := by decide +kernel
theorem dX7_byteAt_12 : decode cX7_byteAt 12 = .ok (.aload_n 0, 1) := by decide +kernel
theorem dX7_byteAt_13 : decode cX7_byteAt 13 = .ok (.getfield 9, 3) := by decide +kernel
theorem dX7_byteAt_16 : decode cX7_byteAt 16 = .ok (.iload_n 1, 1) := by decide +kernel
theorem dX7_byteAt_17 : decode cX7_byteAt 17 = .ok (.baload, 1) := by decide +kernel
theorem dX7_byteAt_18 : decode cX7_byteAt 18 = .ok (.sipush 255, 3) := by decide +kernel
theorem dX7_byteAt_21 : decode cX7_byteAt 21 = .ok (.iand, 1) := by decide +kernel
theorem dX7_byteAt_22 : decode cX7_byteAt 22 = .ok (.goto 4, 3) := by decide +kernel
theorem dX7_byteAt_25 : decode cX7_byteAt 25 = .ok (.iconst 0, 1) := by decide +kernel
theorem dX7_byteAt_26 : decode cX7_byteAt 26 = .ok (.ireturn, 1) := by decide +kernel
theorem dX8_init_0 : decode cX8_init 0 = .ok (.aload_n 0, 1) := by decide +kernel
theorem dX8_init_1 : decode cX8_init 1 = .ok (.invokespecial 1, 3) := by decide +kernel
theorem dX8_init_4 : decode cX8_init 4 = .ok (.aload_n 0, 1) := by decide +kernel
theorem dX8_init_5 : decode cX8_init 5 = .ok (.bipush 120, 2) := by decide +kernel
theorem dX8_init_7 : decode cX8_init 7 = .ok (.newarray .int, 2) := by decide +kernel
theorem dX8_init_9 : decode cX8_init 9 = .ok (.putfield 9, 3) := by decide +kernel
theorem dX8_init_12 : decode cX8_init 12 = .ok (.aload_n 0, 1) := by decide +kernel
theorem dX8_init_13 : decode cX8_init 13 = .ok (.bipush 120, 2) := by decide +kernel
theorem dX8_init_15 : decode cX8_init 15 = .ok (.newarray .int, 2) := by decide +kernel
theorem dX8_init_17 : decode cX8_init 17 = .ok (.putfield 15, 3) := by decide +kernel
theorem dX8_init_20 : decode cX8_init 20 = .ok (.aload_n 0, 1) := by decide +kernel
theorem dX8_init_21 : decode cX8_init 21 = .ok (.bipush 120, 2) := by decide +kernel
theorem dX8_init_23 : decode cX8_init 23 = .ok (.newarray .int, 2) := by decide +kernel
theorem dX8_init_25 : decode cX8_init 25 = .ok (.putfield 18, 3) := by decide +kernel
theorem dX8_init_28 : decode cX8_init 28 = .ok (.return_, 1) := by decide +kernel
set_option maxRecDepth 20000 in
theorem ggX8_cut_X7_byteAt : GoodIn wsX8_cut wsX7_byteAt := goodIn_r _ [10, 11, 12, 90, 91] (by decide +kernel) (by decide +kernel)
set_option maxRecDepth 20000 in
theorem gX8_cut_X7_byteAt : GoodIn wsX8_cut (wsV RX8 29 RX7 yX7_byteAt wsX7_byteAt) := goodIn_app (goodIn_of _ (by decide +kernel)) ggX8_cut_X7_byteAt
set_option maxRecDepth 20000 in
theorem ggX8_cut_X8_typeOf : GoodIn wsX8_cut wsX8_typeOf := goodIn_r _ [16] (by decide +kernel) (by decide +kernel)
set_option maxRecDepth 20000 in
theorem gX8_cut_X8_typeOf : GoodIn wsX8_cut (va_wsS RX8 33 yX8_typeOf wsX8_typeOf) := goodIn_app (goodIn_of _ (by decide +kernel)) ggX8_cut_X8_typeOf
set_option maxRecDepth 20000 in
theorem ggX8_cut_X8_endOf : GoodIn wsX8_cut wsX8_endOf := goodIn_r _ [19, 6, 7, 8, 9, 10, 11, 12, 13, 14, 15, 16, 90, 91] (by decide +kernel) (by decide +kernel)
set_option maxRecDepth 20000 in
theorem gX8_cut_X8_endOf : GoodIn wsX8_cut (va_wsS RX8 36 yX8_endOf wsX8_endOf) := goodIn_app (goodIn_of _ (by decide +kernel)) ggX8_cut_X8_endOf
set_option maxRecDepth 20000 in
theorem ggX8_cut_X8_wordIn : GoodIn wsX8_cut wsX8_wordIn := goodIn_r _ [22, 23, 24, 15, 25, 26, 27, 28, 29, 30, 31, 32, 33, 34, 35, 36, 37, 38, 39, 40, 6, 7, 8, 9, 10, 11, 12, 41, 42, 43, 44, 45, 46, 47, 48, 49, 50, 51, 52, 53, 54, 55, 56, 57, 58, 59, 60, 61, 62, 63, 64, 65, 66, 67, 68, 69, 70, 71, 72, 73, 74, 75, 76, 77, 90, 91] (by decide +kernel) (by decide +kernel)
set_option maxRecDepth 20000 in
theorem gX8_cut_X8_wordIn : GoodIn wsX8_cut (va_wsS RX8 40 yX8_wordIn wsX8_wordIn) := goodIn_app (goodIn_of _ (by decide +kernel)) ggX8_cut_X8_wordIn
set_option maxRecDepth 20000 in
theorem ggX8_cut_X8_numberIn : GoodIn wsX8_cut wsX8_numberIn := goodIn_r _ [80, 81, 82, 83, 84, 6, 7, 8, 9, 10, 11, 12, 90, 91] (by decide +kernel) (by decide +kernel)
set_option maxRecDepth 20000 in
theorem gX8_cut_X8_numberIn : GoodIn wsX8_cut (va_wsS RX8 43 yX8_numberIn wsX8_numberIn) := goodIn_app (goodIn_of _ (by decide +kernel)) ggX8_cut_X8_numberIn
