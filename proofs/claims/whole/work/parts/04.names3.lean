theorem dX8_cut_0 : decode cX8_cut 0 = .ok (.aload_n 0, 1) := by decide +kernel
theorem dX8_cut_1 : decode cX8_cut 1 = .ok (.iconst 0, 1) := by decide +kernel
theorem dX8_cut_2 : decode cX8_cut 2 = .ok (.putfield 21, 3) := by decide +kernel
theorem dX8_cut_5 : decode cX8_cut 5 = .ok (.aload_n 0, 1) := by decide +kernel
theorem dX8_cut_6 : decode cX8_cut 6 = .ok (.aload_n 1, 1) := by decide +kernel
theorem dX8_cut_7 : decode cX8_cut 7 = .ok (.getfield 25, 3) := by decide +kernel
theorem dX8_cut_10 : decode cX8_cut 10 = .ok (.putfield 28, 3) := by decide +kernel
theorem dX8_cut_13 : decode cX8_cut 13 = .ok (.iconst 0, 1) := by decide +kernel
theorem dX8_cut_14 : decode cX8_cut 14 = .ok (.istore_n 2, 1) := by decide +kernel
theorem dX8_cut_15 : decode cX8_cut 15 = .ok (.iload_n 2, 1) := by decide +kernel
theorem dX8_cut_16 : decode cX8_cut 16 = .ok (.aload_n 0, 1) := by decide +kernel
theorem dX8_cut_17 : decode cX8_cut 17 = .ok (.getfield 28, 3) := by decide +kernel
theorem dX8_cut_20 : decode cX8_cut 20 = .ok (.if_icmp .ge 100, 3) := by decide +kernel
theorem dX8_cut_23 : decode cX8_cut 23 = .ok (.aload_n 0, 1) := by decide +kernel
theorem dX8_cut_24 : decode cX8_cut 24 = .ok (.getfield 21, 3) := by decide +kernel
theorem dX8_cut_27 : decode cX8_cut 27 = .ok (.bipush 120, 2) := by decide +kernel
theorem dX8_cut_29 : decode cX8_cut 29 = .ok (.if_icmp .ge 91, 3) := by decide +kernel
theorem dX8_cut_32 : decode cX8_cut 32 = .ok (.aload_n 1, 1) := by decide +kernel
theorem dX8_cut_33 : decode cX8_cut 33 = .ok (.iload_n 2, 1) := by decide +kernel
theorem dX8_cut_34 : decode cX8_cut 34 = .ok (.invokevirtual 29, 3) := by decide +kernel
theorem dX8_cut_37 : decode cX8_cut 37 = .ok (.invokestatic 33, 3) := by decide +kernel
theorem dX8_cut_40 : decode cX8_cut 40 = .ok (.istore_n 3, 1) := by decide +kernel
theorem dX8_cut_41 : decode cX8_cut 41 = .ok (.aload_n 1, 1) := by decide +kernel
theorem dX8_cut_42 : decode cX8_cut 42 = .ok (.iload_n 2, 1) := by decide +kernel
theorem dX8_cut_43 : decode cX8_cut 43 = .ok (.iload_n 3, 1) := by decide +kernel
theorem dX8_cut_44 : decode cX8_cut 44 = .ok (.invokestatic 36, 3) := by decide +kernel
theorem dX8_cut_47 : decode cX8_cut 47 = .ok (.istore 4, 2) := by decide +kernel
theorem dX8_cut_49 : decode cX8_cut 49 = .ok (.iload_n 3, 1) := by decide +kernel
theorem dX8_cut_50 : decode cX8_cut 50 = .ok (.ifCond .eq 64, 3) := by decide +kernel
theorem dX8_cut_53 : decode cX8_cut 53 = .ok (.aload_n 0, 1) := by decide +kernel
theorem dX8_cut_54 : decode cX8_cut 54 = .ok (.getfield 9, 3) := by decide +kernel
theorem dX8_cut_57 : decode cX8_cut 57 = .ok (.aload_n 0, 1) := by decide +kernel
theorem dX8_cut_58 : decode cX8_cut 58 = .ok (.getfield 21, 3) := by decide +kernel
theorem dX8_cut_61 : decode cX8_cut 61 = .ok (.iload_n 3, 1) := by decide +kernel
theorem dX8_cut_62 : decode cX8_cut 62 = .ok (.iastore, 1) := by decide +kernel
theorem dX8_cut_63 : decode cX8_cut 63 = .ok (.aload_n 0, 1) := by decide +kernel
theorem dX8_cut_64 : decode cX8_cut 64 = .ok (.getfield 15, 3) := by decide +kernel
theorem dX8_cut_67 : decode cX8_cut 67 = .ok (.aload_n 0, 1) := by decide +kernel
theorem dX8_cut_68 : decode cX8_cut 68 = .ok (.getfield 21, 3) := by decide +kernel
theorem dX8_cut_71 : decode cX8_cut 71 = .ok (.iload_n 2, 1) := by decide +kernel
theorem dX8_cut_72 : decode cX8_cut 72 = .ok (.iastore, 1) := by decide +kernel
theorem dX8_cut_73 : decode cX8_cut 73 = .ok (.aload_n 0, 1) := by decide +kernel
theorem dX8_cut_74 : decode cX8_cut 74 = .ok (.getfield 18, 3) := by decide +kernel
theorem dX8_cut_77 : decode cX8_cut 77 = .ok (.aload_n 0, 1) := by decide +kernel
theorem dX8_cut_78 : decode cX8_cut 78 = .ok (.getfield 21, 3) := by decide +kernel
theorem dX8_cut_81 : decode cX8_cut 81 = .ok (.iload_n 3, 1) := by decide +kernel
theorem dX8_cut_82 : decode cX8_cut 82 = .ok (.iconst 1, 1) := by decide +kernel
theorem dX8_cut_83 : decode cX8_cut 83 = .ok (.if_icmp .ne 13, 3) := by decide +kernel
theorem dX8_cut_86 : decode cX8_cut 86 = .ok (.aload_n 1, 1) := by decide +kernel
theorem dX8_cut_87 : decode cX8_cut 87 = .ok (.iload_n 2, 1) := by decide +kernel
theorem dX8_cut_88 : decode cX8_cut 88 = .ok (.iload 4, 2) := by decide +kernel
theorem dX8_cut_90 : decode cX8_cut 90 = .ok (.invokestatic 40, 3) := by decide +kernel
theorem dX8_cut_93 : decode cX8_cut 93 = .ok (.goto 10, 3) := by decide +kernel
theorem dX8_cut_96 : decode cX8_cut 96 = .ok (.aload_n 1, 1) := by decide +kernel
theorem dX8_cut_97 : decode cX8_cut 97 = .ok (.iload_n 2, 1) := by decide +kernel
theorem dX8_cut_98 : decode cX8_cut 98 = .ok (.iload 4, 2) := by decide +kernel
theorem dX8_cut_100 : decode cX8_cut 100 = .ok (.invokestatic 43, 3) := by decide +kernel
theorem dX8_cut_103 : decode cX8_cut 103 = .ok (.iastore, 1) := by decide +kernel
theorem dX8_cut_104 : decode cX8_cut 104 = .ok (.aload_n 0, 1) := by decide +kernel
theorem dX8_cut_105 : decode cX8_cut 105 = .ok (.dup, 1) := by decide +kernel
theorem dX8_cut_106 : decode cX8_cut 106 = .ok (.getfield 21, 3) := by decide +kernel
theorem dX8_cut_109 : decode cX8_cut 109 = .ok (.iconst 1, 1) := by decide +kernel
theorem dX8_cut_110 : decode cX8_cut 110 = .ok (.iadd, 1) := by decide +kernel
theorem dX8_cut_111 : decode cX8_cut 111 = .ok (.putfield 21, 3) := by decide +kernel
theorem dX8_cut_114 : decode cX8_cut 114 = .ok (.iload 4, 2) := by decide +kernel
theorem dX8_cut_116 : decode cX8_cut 116 = .ok (.istore_n 2, 1) := by decide +kernel
theorem dX8_cut_117 : decode cX8_cut 117 = .ok (.goto (-102), 3) := by decide +kernel
theorem dX8_cut_120 : decode cX8_cut 120 = .ok (.return_, 1) := by decide +kernel
theorem dX8_typeOf_0 : decode cX8_typeOf 0 = .ok (.iload_n 0, 1) := by decide +kernel
theorem dX8_typeOf_1 : decode cX8_typeOf 1 = .ok (.bipush 97, 2) := by decide +kernel
theorem dX8_typeOf_3 : decode cX8_typeOf 3 = .ok (.if_icmp .lt 11, 3) := by decide +kernel
theorem dX8_typeOf_6 : decode cX8_typeOf 6 = .ok (.iload_n 0, 1) := by decide +kernel
theorem dX8_typeOf_7 : decode cX8_typeOf 7 = .ok (.bipush 122, 2) := by decide +kernel
theorem dX8_typeOf_9 : decode cX8_typeOf 9 = .ok (.if_icmp .gt 5, 3) := by decide +kernel
theorem dX8_typeOf_12 : decode cX8_typeOf 12 = .ok (.iconst 1, 1) := by decide +kernel
theorem dX8_typeOf_13 : decode cX8_typeOf 13 = .ok (.ireturn, 1) := by decide +kernel
theorem dX8_typeOf_14 : decode cX8_typeOf 14 = .ok (.iload_n 0, 1) := by decide +kernel
theorem dX8_typeOf_15 : decode cX8_typeOf 15 = .ok (.bipush 48, 2) := by decide +kernel
theorem dX8_typeOf_17 : decode cX8_typeOf 17 = .ok (.if_icmp .lt 11, 3) := by decide +kernel
theorem dX8_typeOf_20 : decode cX8_typeOf 20 = .ok (.iload_n 0, 1) := by decide +kernel
theorem dX8_typeOf_21 : decode cX8_typeOf 21 = .ok (.bipush 57, 2) := by decide +kernel
theorem dX8_typeOf_23 : decode cX8_typeOf 23 = .ok (.if_icmp .gt 5, 3) := by decide +kernel
theorem dX8_typeOf_26 : decode cX8_typeOf 26 = .ok (.iconst 2, 1) := by decide +kernel
theorem dX8_typeOf_27 : decode cX8_typeOf 27 = .ok (.ireturn, 1) := by decide +kernel
theorem dX8_typeOf_28 : decode cX8_typeOf 28 = .ok (.iload_n 0, 1) := by decide +kernel
theorem dX8_typeOf_29 : decode cX8_typeOf 29 = .ok (.bipush 59, 2) := by decide +kernel
theorem dX8_typeOf_31 : decode cX8_typeOf 31 = .ok (.if_icmp .ne 5, 3) := by decide +kernel
theorem dX8_typeOf_34 : decode cX8_typeOf 34 = .ok (.iconst 3, 1) := by decide +kernel
theorem dX8_typeOf_35 : decode cX8_typeOf 35 = .ok (.ireturn, 1) := by decide +kernel
theorem dX8_typeOf_36 : decode cX8_typeOf 36 = .ok (.iload_n 0, 1) := by decide +kernel
theorem dX8_typeOf_37 : decode cX8_typeOf 37 = .ok (.bipush 32, 2) := by decide +kernel
theorem dX8_typeOf_39 : decode cX8_typeOf 39 = .ok (.if_icmp .ne 7, 3) := by decide +kernel
theorem dX8_typeOf_42 : decode cX8_typeOf 42 = .ok (.iconst 0, 1) := by decide +kernel
theorem dX8_typeOf_43 : decode cX8_typeOf 43 = .ok (.goto 4, 3) := by decide +kernel
theorem dX8_typeOf_46 : decode cX8_typeOf 46 = .ok (.iconst 4, 1) := by decide +kernel
theorem dX8_typeOf_47 : decode cX8_typeOf 47 = .ok (.ireturn, 1) := by decide +kernel
set_option maxRecDepth 20000 in
theorem ggX8_endOf_X7_byteAt : GoodIn wsX8_endOf wsX7_byteAt := goodIn_r _ [5, 6, 7, 12, 13] (by decide +kernel) (by decide +kernel)
set_option maxRecDepth 20000 in
theorem gX8_endOf_X7_byteAt : GoodIn wsX8_endOf (wsV RX8 29 RX7 yX7_byteAt wsX7_byteAt) := goodIn_app (goodIn_of _ (by decide +kernel)) ggX8_endOf_X7_byteAt
set_option maxRecDepth 20000 in
theorem ggX8_endOf_X8_typeOf : GoodIn wsX8_endOf wsX8_typeOf := goodIn_r _ [11] (by decide +kernel) (by decide +kernel)
set_option maxRecDepth 20000 in
theorem gX8_endOf_X8_typeOf : GoodIn wsX8_endOf (va_wsS RX8 33 yX8_typeOf wsX8_typeOf) := goodIn_app (goodIn_of _ (by decide +kernel)) ggX8_endOf_X8_typeOf
theorem dX8_endOf_0 : decode cX8_endOf 0 = .ok (.iload_n 1, 1) := by decide +kernel
theorem dX8_endOf_1 : decode cX8_endOf 1 = .ok (.iconst 1, 1) := by decide +kernel
theorem dX8_endOf_2 : decode cX8_endOf 2 = .ok (.iadd, 1) := by decide +kernel
theorem dX8_endOf_3 : decode cX8_endOf 3 = .ok (.istore_n 3, 1) := by decide +kernel
theorem dX8_endOf_4 : decode cX8_endOf 4 = .ok (.iload_n 2, 1) := by decide +kernel
theorem dX8_endOf_5 : decode cX8_endOf 5 = .ok (.iconst 1, 1) := by decide +kernel
theorem dX8_endOf_6 : decode cX8_endOf 6 = .ok (.if_icmp .eq 8, 3) := by decide +kernel
theorem dX8_endOf_9 : decode cX8_endOf 9 = .ok (.iload_n 2, 1) := by decide +kernel
theorem dX8_endOf_10 : decode cX8_endOf 10 = .ok (.iconst 2, 1) := by decide +kernel
theorem dX8_endOf_11 : decode cX8_endOf 11 = .ok (.if_icmp .ne 7, 3) := by decide +kernel
theorem dX8_endOf_14 : decode cX8_endOf 14 = .ok (.iconst 1, 1) := by decide +kernel
theorem dX8_endOf_15 : decode cX8_endOf 15 = .ok (.goto 4, 3) := by decide +kernel
theorem dX8_endOf_18 : decode cX8_endOf 18 = .ok (.iconst 0, 1) := by decide +kernel
theorem dX8_endOf_19 : decode cX8_endOf 19 = .ok (.istore 4, 2) := by decide +kernel
theorem dX8_endOf_21 : decode cX8_endOf 21 = .ok (.iload 4, 2) := by decide +kernel
theorem dX8_endOf_23 : decode cX8_endOf 23 = .ok (.ifCond .eq 29, 3) := by decide +kernel
theorem dX8_endOf_26 : decode cX8_endOf 26 = .ok (.iload_n 3, 1) := by decide +kernel
theorem dX8_endOf_27 : decode cX8_endOf 27 = .ok (.aload_n 0, 1) := by decide +kernel
theorem dX8_endOf_28 : decode cX8_endOf 28 = .ok (.getfield 25, 3) := by decide +kernel
theorem dX8_endOf_31 : decode cX8_endOf 31 = .ok (.if_icmp .ge 21, 3) := by decide +kernel
theorem dX8_endOf_34 : decode cX8_endOf 34 = .ok (.aload_n 0, 1) := by decide +kernel
theorem dX8_endOf_35 : decode cX8_endOf 35 = .ok (.iload_n 3, 1) := by decide +kernel
theorem dX8_endOf_36 : decode cX8_endOf 36 = .ok (.invokevirtual 29, 3) := by decide +kernel
theorem dX8_endOf_39 : decode cX8_endOf 39 = .ok (.invokestatic 33, 3) := by decide +kernel
theorem dX8_endOf_42 : decode cX8_endOf 42 = .ok (.iload_n 2, 1) := by decide +kernel
theorem dX8_endOf_43 : decode cX8_endOf 43 = .ok (.if_icmp .ne 9, 3) := by decide +kernel
theorem dX8_endOf_46 : decode cX8_endOf 46 = .ok (.iinc 3 1, 3) := by decide +kernel
theorem dX8_endOf_49 : decode cX8_endOf 49 = .ok (.goto (-28), 3) := by decide +kernel
theorem dX8_endOf_52 : decode cX8_endOf 52 = .ok (.iload_n 3, 1) := by decide +kernel
theorem dX8_endOf_53 : decode cX8_endOf 53 = .ok (.ireturn, 1) := by decide +kernel
set_option maxRecDepth 20000 in
theorem ggX8_wordIn_X8_spellingOf : GoodIn wsX8_wordIn wsX8_spellingOf := goodIn_r _ [4] (by decide +kernel) (by decide +kernel)
set_option maxRecDepth 20000 in
theorem gX8_wordIn_X8_spellingOf : GoodIn wsX8_wordIn (va_wsS RX8 46 yX8_spellingOf wsX8_spellingOf) := goodIn_app (goodIn_of _ (by decide +kernel)) ggX8_wordIn_X8_spellingOf
set_option maxRecDepth 20000 in
theorem ggX8_wordIn_X8_isSpelt : GoodIn wsX8_wordIn wsX8_isSpelt := goodIn_r _ [7, 8, 9, 10, 11, 12, 13, 14, 15, 16, 17, 18, 19, 20, 21, 22, 23, 24, 25, 26, 27, 28, 29, 30, 31, 32, 33, 34, 35, 36, 37, 38, 39, 40, 41, 42, 43, 44, 45, 46, 47, 48, 49, 50, 51, 52, 53, 54, 55, 56, 57, 58, 59, 60, 61, 62, 63, 64, 65] (by decide +kernel) (by decide +kernel)
set_option maxRecDepth 20000 in
theorem gX8_wordIn_X8_isSpelt : GoodIn wsX8_wordIn (va_wsS RX8 50 yX8_isSpelt wsX8_isSpelt) := goodIn_app (goodIn_of _ (by decide +kernel)) ggX8_wordIn_X8_isSpelt
theorem dX8_wordIn_0 : decode cX8_wordIn 0 = .ok (.iconst 0, 1) := by decide +kernel
theorem dX8_wordIn_1 : decode cX8_wordIn 1 = .ok (.istore_n 3, 1) := by decide +kernel
theorem dX8_wordIn_2 : decode cX8_wordIn 2 = .ok (.iload_n 3, 1) := by decide +kernel
theorem dX8_wordIn_3 : decode cX8_wordIn 3 = .ok (.bipush 11, 2) := by decide +kernel
theorem dX8_wordIn_5 : decode cX8_wordIn 5 = .ok (.if_icmp .ge 24, 3) := by decide +kernel
theorem dX8_wordIn_8 : decode cX8_wordIn 8 = .ok (.aload_n 0, 1) := by decide +kernel
theorem dX8_wordIn_9 : decode cX8_wordIn 9 = .ok (.iload_n 1, 1) := by decide +kernel
theorem dX8_wordIn_10 : decode cX8_wordIn 10 = .ok (.iload_n 2, 1) := by decide +kernel
theorem dX8_wordIn_11 : decode cX8_wordIn 11 = .ok (.iload_n 3, 1) := by decide +kernel
theorem dX8_wordIn_12 : decode cX8_wordIn 12 = .ok (.invokestatic 46, 3) := by decide +kernel
theorem dX8_wordIn_15 : decode cX8_wordIn 15 = .ok (.invokestatic 50, 3) := by decide +kernel
theorem dX8_wordIn_18 : decode cX8_wordIn 18 = .ok (.ifCond .eq 5, 3) := by decide +kernel
theorem dX8_wordIn_21 : decode cX8_wordIn 21 = .ok (.iload_n 3, 1) := by decide +kernel
theorem dX8_wordIn_22 : decode cX8_wordIn 22 = .ok (.ireturn, 1) := by decide +kernel
theorem dX8_wordIn_23 : decode cX8_wordIn 23 = .ok (.iinc 3 1, 3) := by decide +kernel
theorem dX8_wordIn_26 : decode cX8_wordIn 26 = .ok (.goto (-24), 3) := by decide +kernel
theorem dX8_wordIn_29 : decode cX8_wordIn 29 = .ok (.iconst (-1), 1) := by decide +kernel
theorem dX8_wordIn_30 : decode cX8_wordIn 30 = .ok (.ireturn, 1) := by decide +kernel
set_option maxRecDepth 20000 in
theorem ggX8_isSpelt_J0_length_8abf5 : GoodIn wsX8_isSpelt wsJ0_length_8abf5 := goodIn_r _ [5, 6, 7, 8, 9, 4, 10, 11, 12] (by decide +kernel) (by decide +kernel)
set_option maxRecDepth 20000 in
theorem gX8_isSpelt_J0_length_8abf5 : GoodIn wsX8_isSpelt (wsV RX8 54 RJ0 yJ0_length_8abf5 wsJ0_length_8abf5) := goodIn_app (goodIn_of _ (by decide +kernel)) ggX8_isSpelt_J0_length_8abf5
set_option maxRecDepth 20000 in
theorem ggX8_isSpelt_X7_byteAt : GoodIn wsX8_isSpelt wsX7_byteAt := goodIn_r _ [17, 18, 19, 57, 58] (by decide +kernel) (by decide +kernel)
set_option maxRecDepth 20000 in
theorem gX8_isSpelt_X7_byteAt : GoodIn wsX8_isSpelt (wsV RX8 29 RX7 yX7_byteAt wsX7_byteAt) := goodIn_app (goodIn_of _ (by decide +kernel)) ggX8_isSpelt_X7_byteAt
set_option maxRecDepth 20000 in
theorem ggX8_isSpelt_J0_charAt_5068e : GoodIn wsX8_isSpelt wsJ0_charAt_5068e := goodIn_r _ [23, 6, 24, 25, 26, 4, 27, 11, 12, 28, 29, 30, 31, 32, 33, 34, 35, 36, 37, 38, 39, 40, 41, 42, 43, 44, 45, 46, 47, 48, 49, 50, 51, 52, 53, 54, 55, 56] (by decide +kernel) (by decide +kernel)
set_option maxRecDepth 20000 in
theorem gX8_isSpelt_J0_charAt_5068e : GoodIn wsX8_isSpelt (wsV RX8 59 RJ0 yJ0_charAt_5068e wsJ0_charAt_5068e) := goodIn_app (goodIn_of _ (by decide +kernel)) ggX8_isSpelt_J0_charAt_5068e
theorem dX8_isSpelt_0 : decode cX8_isSpelt 0 = .ok (.iload_n 2, 1) := by decide +kernel
theorem dX8_isSpelt_1 : decode cX8_isSpelt 1 = .ok (.iload_n 1, 1) := by decide +kernel
theorem dX8_isSpelt_2 : decode cX8_isSpelt 2 = .ok (.isub, 1) := by decide +kernel
theorem dX8_isSpelt_3 : decode cX8_isSpelt 3 = .ok (.aload_n 3, 1) := by decide +kernel
theorem dX8_isSpelt_4 : decode cX8_isSpelt 4 = .ok (.invokevirtual 54, 3) := by decide +kernel
theorem dX8_isSpelt_7 : decode cX8_isSpelt 7 = .ok (.if_icmp .eq 5, 3) := by decide +kernel
theorem dX8_isSpelt_10 : decode cX8_isSpelt 10 = .ok (.iconst 0, 1) := by decide +kernel
theorem dX8_isSpelt_11 : decode cX8_isSpelt 11 = .ok (.ireturn, 1) := by decide +kernel
theorem dX8_isSpelt_12 : decode cX8_isSpelt 12 = .ok (.iconst 0, 1) := by decide +kernel
theorem dX8_isSpelt_13 : decode cX8_isSpelt 13 = .ok (.istore 4, 2) := by decide +kernel
theorem dX8_isSpelt_15 : decode cX8_isSpelt 15 = .ok (.iload 4, 2) := by decide +kernel
theorem dX8_isSpelt_17 : decode cX8_isSpelt 17 = .ok (.aload_n 3, 1) := by decide +kernel
theorem dX8_isSpelt_18 : decode cX8_isSpelt 18 = .ok (.invokevirtual 54, 3) := by decide +kernel
theorem dX8_isSpelt_21 : decode cX8_isSpelt 21 = .ok (.if_icmp .ge 28, 3) := by decide +kernel
theorem dX8_isSpelt_24 : decode cX8_isSpelt 24 = .ok (.aload_n 0, 1) := by decide +kernel
theorem dX8_isSpelt_25 : decode cX8_isSpelt 25 = .ok (.iload_n 1, 1) := by decide +kernel
theorem dX8_isSpelt_26 : decode cX8_isSpelt 26 = .ok (.iload 4, 2) := by decide +kernel
theorem dX8_isSpelt_28 : decode cX8_isSpelt 28 = .ok (.iadd, 1) := by decide +kernel
theorem dX8_isSpelt_29 : decode cX8_isSpelt 29 = .ok (.invokevirtual 29, 3) := by decide +kernel
theorem dX8_isSpelt_32 : decode cX8_isSpelt 32 = .ok (.aload_n 3, 1) := by decide +kernel
theorem dX8_isSpelt_33 : decode cX8_isSpelt 33 = .ok (.iload 4, 2) := by decide +kernel
theorem dX8_isSpelt_35 : decode cX8_isSpelt 35 = .ok (.invokevirtual 59, 3) := by decide +kernel
theorem dX8_isSpelt_38 : decode cX8_isSpelt 38 = .ok (.if_icmp .eq 5, 3) := by decide +kernel
theorem dX8_isSpelt_41 : decode cX8_isSpelt 41 = .ok (.iconst 0, 1) := by decide +kernel
theorem dX8_isSpelt_42 : decode cX8_isSpelt 42 = .ok (.ireturn, 1) := by decide +kernel
theorem dX8_isSpelt_43 : decode cX8_isSpelt 43 = .ok (.iinc 4 1, 3) := by decide +kernel
theorem dX8_isSpelt_46 : decode cX8_isSpelt 46 = .ok (.goto (-31), 3) := by decide +kernel
theorem dX8_isSpelt_49 : decode cX8_isSpelt 49 = .ok (.iconst 1, 1) := by decide +kernel
theorem dX8_isSpelt_50 : decode cX8_isSpelt 50 = .ok (.ireturn, 1) := by decide +kernel
theorem dX8_spellingOf_0 : decode cX8_spellingOf 0 = .ok (.iload_n 0, 1) := by decide +kernel
theorem dX8_spellingOf_1 : decode cX8_spellingOf 1 = .ok (.tableswitch 92 0 10 #[59, 62, 65, 68, 71, 74, 77, 80, 83, 86, 89], 59) := by decide +kernel
theorem dX8_spellingOf_60 : decode cX8_spellingOf 60 = .ok (.ldc 63, 2) := by decide +kernel
theorem dX8_spellingOf_62 : decode cX8_spellingOf 62 = .ok (.areturn, 1) := by decide +kernel
theorem dX8_spellingOf_63 : decode cX8_spellingOf 63 = .ok (.ldc 65, 2) := by decide +kernel
theorem dX8_spellingOf_65 : decode cX8_spellingOf 65 = .ok (.areturn, 1) := by decide +kernel
theorem dX8_spellingOf_66 : decode cX8_spellingOf 66 = .ok (.ldc 67, 2) := by decide +kernel
theorem dX8_spellingOf_68 : decode cX8_spellingOf 68 = .ok (.areturn, 1) := by decide +kernel
theorem dX8_spellingOf_69 : decode cX8_spellingOf 69 = .ok (.ldc 69, 2) := by decide +kernel
theorem dX8_spellingOf_71 : decode cX8_spellingOf 71 = .ok (.areturn, 1) := by decide +kernel
theorem dX8_spellingOf_72 : decode cX8_spellingOf 72 = .ok (.ldc 71, 2) := by decide +kernel
theorem dX8_spellingOf_74 : decode cX8_spellingOf 74 = .ok (.areturn, 1) := by decide +kernel
theorem dX8_spellingOf_75 : decode cX8_spellingOf 75 = .ok (.ldc 73, 2) := by decide +kernel
theorem dX8_spellingOf_77 : decode cX8_spellingOf 77 = .ok (.areturn, 1) := by decide +kernel
theorem dX8_spellingOf_78 : decode cX8_spellingOf 78 = .ok (.ldc 75, 2) := by decide +kernel
theorem dX8_spellingOf_80 : decode cX8_spellingOf 80 = .ok (.areturn, 1) := by decide +kernel
theorem dX8_spellingOf_81 : decode cX8_spellingOf 81 = .ok (.ldc 77, 2) := by decide +kernel
theorem dX8_spellingOf_83 : decode cX8_spellingOf 83 = .ok (.areturn, 1) := by decide +kernel
theorem dX8_spellingOf_84 : decode cX8_spellingOf 84 = .ok (.ldc 79, 2) := by decide +kernel
theorem dX8_spellingOf_86 : decode cX8_spellingOf 86 = .ok (.areturn, 1) := by decide +kernel
theorem dX8_spellingOf_87 : decode cX8_spellingOf 87 = .ok (.ldc 81, 2) := by decide +kernel
theorem dX8_spellingOf_89 : decode cX8_spellingOf 89 = .ok (.areturn, 1) := by decide +kernel
theorem dX8_spellingOf_90 : decode cX8_spellingOf 90 = .ok (.ldc 83, 2) := by decide +kernel
theorem dX8_spellingOf_92 : decode cX8_spellingOf 92 = .ok (.areturn, 1) := by decide +kernel
theorem dX8_spellingOf_93 : decode cX8_spellingOf 93 = .ok (.ldc 85, 2) := by decide +kernel
theorem dX8_spellingOf_95 : decode cX8_spellingOf 95 = .ok (.areturn, 1) := by decide +kernel
set_option maxRecDepth 20000 in
theorem ggX8_numberIn_X7_byteAt : GoodIn wsX8_numberIn wsX7_byteAt := goodIn_r _ [9, 10, 11, 12, 13] (by decide +kernel) (by decide +kernel)
set_option maxRecDepth 20000 in
theorem gX8_numberIn_X7_byteAt : GoodIn wsX8_numberIn (wsV RX8 29 RX7 yX7_byteAt wsX7_byteAt) := goodIn_app (goodIn_of _ (by decide +kernel)) ggX8_numberIn_X7_byteAt
theorem dX8_numberIn_0 : decode cX8_numberIn 0 = .ok (.iconst 0, 1) := by decide +kernel
theorem dX8_numberIn_1 : decode cX8_numberIn 1 = .ok (.istore_n 3, 1) := by decide +kernel
theorem dX8_numberIn_2 : decode cX8_numberIn 2 = .ok (.iload_n 1, 1) := by decide +kernel
theorem dX8_numberIn_3 : decode cX8_numberIn 3 = .ok (.istore 4, 2) := by decide +kernel
theorem dX8_numberIn_5 : decode cX8_numberIn 5 = .ok (.iload 4, 2) := by decide +kernel
theorem dX8_numberIn_7 : decode cX8_numberIn 7 = .ok (.iload_n 2, 1) := by decide +kernel
theorem dX8_numberIn_8 : decode cX8_numberIn 8 = .ok (.if_icmp .ge 30, 3) := by decide +kernel
theorem dX8_numberIn_11 : decode cX8_numberIn 11 = .ok (.sipush 4096, 3) := by decide +kernel
theorem dX8_numberIn_14 : decode cX8_numberIn 14 = .ok (.iload_n 3, 1) := by decide +kernel
theorem dX8_numberIn_15 : decode cX8_numberIn 15 = .ok (.bipush 10, 2) := by decide +kernel
theorem dX8_numberIn_17 : decode cX8_numberIn 17 = .ok (.imul, 1) := by decide +kernel
theorem dX8_numberIn_18 : decode cX8_numberIn 18 = .ok (.aload_n 0, 1) := by decide +kernel
theorem dX8_numberIn_19 : decode cX8_numberIn 19 = .ok (.iload 4, 2) := by decide +kernel
theorem dX8_numberIn_21 : decode cX8_numberIn 21 = .ok (.invokevirtual 29, 3) := by decide +kernel
theorem dX8_numberIn_24 : decode cX8_numberIn 24 = .ok (.iadd, 1) := by decide +kernel
theorem dX8_numberIn_25 : decode cX8_numberIn 25 = .ok (.bipush 48, 2) := by decide +kernel
theorem dX8_numberIn_27 : decode cX8_numberIn 27 = .ok (.isub, 1) := by decide +kernel
theorem dX8_numberIn_28 : decode cX8_numberIn 28 = .ok (.invokestatic 87, 3) := by decide +kernel
theorem dX8_numberIn_31 : decode cX8_numberIn 31 = .ok (.istore_n 3, 1) := by decide +kernel
theorem dX8_numberIn_32 : decode cX8_numberIn 32 = .ok (.iinc 4 1, 3) := by decide +kernel
theorem dX8_numberIn_35 : decode cX8_numberIn 35 = .ok (.goto (-30), 3) := by decide +kernel
theorem dX8_numberIn_38 : decode cX8_numberIn 38 = .ok (.iload_n 3, 1) := by decide +kernel
theorem dX8_numberIn_39 : decode cX8_numberIn 39 = .ok (.ireturn, 1) := by decide +kernel
theorem dX8_typeAt_0 : decode cX8_typeAt 0 = .ok (.iload_n 1, 1) := by decide +kernel
theorem dX8_typeAt_1 : decode cX8_typeAt 1 = .ok (.ifCond .lt 20, 3) := by decide +kernel
theorem dX8_typeAt_4 : decode cX8_typeAt 4 = .ok (.iload_n 1, 1) := by decide +kernel
theorem dX8_typeAt_5 : decode cX8_typeAt 5 = .ok (.aload_n 0, 1) := by decide +kernel
theorem dX8_typeAt_6 : decode cX8_typeAt 6 = .ok (.getfield 21, 3) := by decide +kernel
theorem dX8_typeAt_9 : decode cX8_typeAt 9 = .ok (.if_icmp .ge 12, 3) := by decide +kernel
theorem dX8_typeAt_12 : decode cX8_typeAt 12 = .ok (.aload_n 0, 1) := by decide +kernel
theorem dX8_typeAt_13 : decode cX8_typeAt 13 = .ok (.getfield 9, 3) := by decide +kernel
theorem dX8_typeAt_16 : decode cX8_typeAt 16 = .ok (.iload_n 1, 1) := by decide +kernel
theorem dX8_typeAt_17 : decode cX8_typeAt 17 = .ok (.iaload, 1) := by decide +kernel
theorem dX8_typeAt_18 : decode cX8_typeAt 18 = .ok (.goto 4, 3) := by decide +kernel
theorem dX8_typeAt_21 : decode cX8_typeAt 21 = .ok (.iconst 0, 1) := by decide +kernel
theorem dX8_typeAt_22 : decode cX8_typeAt 22 = .ok (.ireturn, 1) := by decide +kernel
theorem dX8_placeAt_0 : decode cX8_placeAt 0 = .ok (.iload_n 1, 1) := by decide +kernel
theorem dX8_placeAt_1 : decode cX8_placeAt 1 = .ok (.ifCond .lt 20, 3) := by decide +kernel
theorem dX8_placeAt_4 : decode cX8_placeAt 4 = .ok (.iload_n 1, 1) := by decide +kernel
theorem dX8_placeAt_5 : decode cX8_placeAt 5 = .ok (.aload_n 0, 1) := by decide +kernel
theorem dX8_placeAt_6 : decode cX8_placeAt 6 = .ok (.getfield 21, 3) := by decide +kernel
theorem dX8_placeAt_9 : decode cX8_placeAt 9 = .ok (.if_icmp .ge 12, 3) := by decide +kernel
theorem dX8_placeAt_12 : decode cX8_placeAt 12 = .ok (.aload_n 0, 1) := by decide +kernel
theorem dX8_placeAt_13 : decode cX8_placeAt 13 = .ok (.getfield 15, 3) := by decide +kernel
theorem dX8_placeAt_16 : decode cX8_placeAt 16 = .ok (.iload_n 1, 1) := by decide +kernel
theorem dX8_placeAt_17 : decode cX8_placeAt 17 = .ok (.iaload, 1) := by decide +kernel
theorem dX8_placeAt_18 : decode cX8_placeAt 18 = .ok (.goto 7, 3) := by decide +kernel
theorem dX8_placeAt_21 : decode cX8_placeAt 21 = .ok (.aload_n 0, 1) := by decide +kernel
theorem dX8_placeAt_22 : decode cX8_placeAt 22 = .ok (.getfield 28, 3) := by decide +kernel
theorem dX8_placeAt_25 : decode cX8_placeAt 25 = .ok (.ireturn, 1) := by decide +kernel
theorem dX8_valueAt_0 : decode cX8_valueAt 0 = .ok (.iload_n 1, 1) := by decide +kernel
theorem dX8_valueAt_1 : decode cX8_valueAt 1 = .ok (.ifCond .lt 30, 3) := by decide +kernel
theorem dX8_valueAt_4 : decode cX8_valueAt 4 = .ok (.iload_n 1, 1) := by decide +kernel
theorem dX8_valueAt_5 : decode cX8_valueAt 5 = .ok (.aload_n 0, 1) := by decide +kernel
theorem dX8_valueAt_6 : decode cX8_valueAt 6 = .ok (.getfield 21, 3) := by decide +kernel
theorem dX8_valueAt_9 : decode cX8_valueAt 9 = .ok (.if_icmp .ge 22, 3) := by decide +kernel
theorem dX8_valueAt_12 : decode cX8_valueAt 12 = .ok (.aload_n 0, 1) := by decide +kernel
theorem dX8_valueAt_13 : decode cX8_valueAt 13 = .ok (.getfield 9, 3) := by decide +kernel
theorem dX8_valueAt_16 : decode cX8_valueAt 16 = .ok (.iload_n 1, 1) := by decide +kernel
theorem dX8_valueAt_17 : decode cX8_valueAt 17 = .ok (.iaload, 1) := by decide +kernel
theorem dX8_valueAt_18 : decode cX8_valueAt 18 = .ok (.iload_n 2, 1) := by decide +kernel
theorem dX8_valueAt_19 : decode cX8_valueAt 19 = .ok (.if_icmp .ne 12, 3) := by decide +kernel
theorem dX8_valueAt_22 : decode cX8_valueAt 22 = .ok (.aload_n 0, 1) := by decide +kernel
theorem dX8_valueAt_23 : decode cX8_valueAt 23 = .ok (.getfield 18, 3) := by decide +kernel
theorem dX8_valueAt_26 : decode cX8_valueAt 26 = .ok (.iload_n 1, 1) := by decide +kernel
theorem dX8_valueAt_27 : decode cX8_valueAt 27 = .ok (.iaload, 1) := by decide +kernel
theorem dX8_valueAt_28 : decode cX8_valueAt 28 = .ok (.goto 4, 3) := by decide +kernel
theorem dX8_valueAt_31 : decode cX8_valueAt 31 = .ok (.iconst (-1), 1) := by decide +kernel
theorem dX8_valueAt_32 : decode cX8_valueAt 32 = .ok (.ireturn, 1) := by decide +kernel
set_option maxRecDepth 20000 in
theorem ggX9_init_X5_init : GoodIn wsX9_init wsX5_init := goodIn_r _ [30, 31, 2, 3, 32, 33, 34, 35, 26, 36, 37, 38, 39, 40, 41, 42, 100, 73, 74, 75, 76, 77, 78, 79] (by decide +kernel) (by decide +kernel)
set_option maxRecDepth 20000 in
theorem gX9_init_X5_init_n9 : GoodIn wsX9_init (wsX5_init) := ggX9_init_X5_init
set_option maxRecDepth 20000 in
theorem ggX9_init_X7_init : GoodIn wsX9_init wsX7_init := goodIn_r _ [44, 45, 2, 3, 46, 47, 89, 90] (by decide +kernel) (by decide +kernel)
set_option maxRecDepth 20000 in
theorem gX9_init_X7_init_n24 : GoodIn wsX9_init (wsX7_init) := ggX9_init_X7_init
set_option maxRecDepth 20000 in
theorem ggX9_init_X2_init : GoodIn wsX9_init wsX2_init := goodIn_r _ [49, 50, 2, 3, 51, 52, 53, 54, 55, 56, 57, 26, 58, 59, 60, 101, 102, 103, 104, 105, 91, 92] (by decide +kernel) (by decide +kernel)
set_option maxRecDepth 20000 in
theorem gX9_init_X2_init_n31 : GoodIn wsX9_init (wsX2_init) := ggX9_init_X2_init
set_option maxRecDepth 20000 in
theorem ggX9_init_X6_init : GoodIn wsX9_init wsX6_init := goodIn_r _ [62, 63, 2, 3, 26, 64, 65, 66, 67, 93, 94, 95] (by decide +kernel) (by decide +kernel)
set_option maxRecDepth 20000 in
theorem gX9_init_X6_init_n38 : GoodIn wsX9_init (wsX6_init) := ggX9_init_X6_init
set_option maxRecDepth 20000 in
theorem ggX9_init_X1_init : GoodIn wsX9_init wsX1_init := goodIn_r _ [69, 70, 2, 3, 26, 71, 72, 96, 97, 98, 99] (by decide +kernel) (by decide +kernel)
set_option maxRecDepth 20000 in
theorem gX9_init_X1_init_n45 : GoodIn wsX9_init (wsX1_init) := ggX9_init_X1_init
theorem dX9_init_0 : decode cX9_init 0 = .ok (.aload_n 0, 1) := by decide +kernel
theorem dX9_init_1 : decode cX9_init 1 = .ok (.invokespecial 1, 3) := by decide +kernel
theorem dX9_init_4 : decode cX9_init 4 = .ok (.aload_n 0, 1) := by decide +kernel
theorem dX9_init_5 : decode cX9_init 5 = .ok (.new 7, 3) := by decide +kernel
theorem dX9_init_8 : decode cX9_init 8 = .ok (.dup, 1) := by decide +kernel
theorem dX9_init_9 : decode cX9_init 9 = .ok (.invokespecial 9, 3) := by decide +kernel
theorem dX9_init_12 : decode cX9_init 12 = .ok (.putfield 10, 3) := by decide +kernel
theorem dX9_init_15 : decode cX9_init 15 = .ok (.aload_n 0, 1) := by decide +kernel
theorem dX9_init_16 : decode cX9_init 16 = .ok (.new 7, 3) := by decide +kernel
theorem dX9_init_19 : decode cX9_init 19 = .ok (.dup, 1) := by decide +kernel
theorem dX9_init_20 : decode cX9_init 20 = .ok (.invokespecial 9, 3) := by decide +kernel
theorem dX9_init_23 : decode cX9_init 23 = .ok (.putfield 16, 3) := by decide +kernel
theorem dX9_init_26 : decode cX9_init 26 = .ok (.aload_n 0, 1) := by decide +kernel
theorem dX9_init_27 : decode cX9_init 27 = .ok (.new 7, 3) := by decide +kernel
theorem dX9_init_30 : decode cX9_init 30 = .ok (.dup, 1) := by decide +kernel
theorem dX9_init_31 : decode cX9_init 31 = .ok (.invokespecial 9, 3) := by decide +kernel
theorem dX9_init_34 : decode cX9_init 34 = .ok (.putfield 19, 3) := by decide +kernel
theorem dX9_init_37 : decode cX9_init 37 = .ok (.aload_n 0, 1) := by decide +kernel
theorem dX9_init_38 : decode cX9_init 38 = .ok (.new 22, 3) := by decide +kernel
theorem dX9_init_41 : decode cX9_init 41 = .ok (.dup, 1) := by decide +kernel
theorem dX9_init_42 : decode cX9_init 42 = .ok (.invokespecial 24, 3) := by decide +kernel
theorem dX9_init_45 : decode cX9_init 45 = .ok (.putfield 25, 3) := by decide +kernel
theorem dX9_init_48 : decode cX9_init 48 = .ok (.aload_n 0, 1) := by decide +kernel
theorem dX9_init_49 : decode cX9_init 49 = .ok (.new 29, 3) := by decide +kernel
theorem dX9_init_52 : decode cX9_init 52 = .ok (.dup, 1) := by decide +kernel
theorem dX9_init_53 : decode cX9_init 53 = .ok (.invokespecial 31, 3) := by decide +kernel
theorem dX9_init_56 : decode cX9_init 56 = .ok (.putfield 32, 3) := by decide +kernel
theorem dX9_init_59 : decode cX9_init 59 = .ok (.aload_n 0, 1) := by decide +kernel
theorem dX9_init_60 : decode cX9_init 60 = .ok (.new 36, 3) := by decide +kernel
theorem dX9_init_63 : decode cX9_init 63 = .ok (.dup, 1) := by decide +kernel
theorem dX9_init_64 : decode cX9_init 64 = .ok (.invokespecial 38, 3) := by decide +kernel
theorem dX9_init_67 : decode cX9_init 67 = .ok (.putfield 39, 3) := by decide +kernel
theorem dX9_init_70 : decode cX9_init 70 = .ok (.aload_n 0, 1) := by decide +kernel
theorem dX9_init_71 : decode cX9_init 71 = .ok (.new 43, 3) := by decide +kernel
theorem dX9_init_74 : decode cX9_init 74 = .ok (.dup, 1) := by decide +kernel
theorem dX9_init_75 : decode cX9_init 75 = .ok (.invokespecial 45, 3) := by decide +kernel
theorem dX9_init_78 : decode cX9_init 78 = .ok (.putfield 46, 3) := by decide +kernel
theorem dX9_init_81 : decode cX9_init 81 = .ok (.aload_n 0, 1) := by decide +kernel
theorem dX9_init_82 : decode cX9_init 82 = .ok (.bipush 7, 2) := by decide +kernel
theorem dX9_init_84 : decode cX9_init 84 = .ok (.newarray .int, 2) := by decide +kernel
theorem dX9_init_86 : decode cX9_init 86 = .ok (.putfield 50, 3) := by decide +kernel
theorem dX9_init_89 : decode cX9_init 89 = .ok (.aload_n 0, 1) := by decide +kernel
theorem dX9_init_90 : decode cX9_init 90 = .ok (.iconst 0, 1) := by decide +kernel
theorem dX9_init_91 : decode cX9_init 91 = .ok (.putfield 54, 3) := by decide +kernel
theorem dX9_init_94 : decode cX9_init 94 = .ok (.return_, 1) := by decide +kernel
set_option maxRecDepth 20000 in
theorem ggX9_odd_X3_isForm : GoodIn wsX9_odd wsX3_isForm := goodIn_r _ [5] (by decide +kernel) (by decide +kernel)
set_option maxRecDepth 20000 in
theorem gX9_odd_X3_isForm : GoodIn wsX9_odd (va_wsS RX9 58 yX3_isForm wsX3_isForm) := goodIn_app (goodIn_of _ (by decide +kernel)) ggX9_odd_X3_isForm
set_option maxRecDepth 20000 in
theorem ggX9_odd_X9_finding : GoodIn wsX9_odd wsX9_finding := goodIn_r _ [10, 1, 11, 16, 17, 18, 19, 20, 21, 22, 23, 24] (by decide +kernel) (by decide +kernel)
set_option maxRecDepth 20000 in
theorem gX9_odd_X9_finding : GoodIn wsX9_odd (wsV RX9 65 RX9 yX9_finding wsX9_finding) := goodIn_app (goodIn_of _ (by decide +kernel)) ggX9_odd_X9_finding
set_option maxRecDepth 20000 in
theorem ggX9_odd_X3_oddPoints : GoodIn wsX9_odd wsX3_oddPoints := goodIn_r _ [14, 15] (by decide +kernel) (by decide +kernel)
set_option maxRecDepth 20000 in
theorem gX9_odd_X3_oddPoints : GoodIn wsX9_odd (va_wsS RX9 69 yX3_oddPoints wsX3_oddPoints) := goodIn_app (goodIn_of _ (by decide +kernel)) ggX9_odd_X3_oddPoints
theorem dX9_odd_0 : decode cX9_odd 0 = .ok (.iload_n 1, 1) := by decide +kernel
theorem dX9_odd_1 : decode cX9_odd 1 = .ok (.invokestatic 58, 3) := by decide +kernel
theorem dX9_odd_4 : decode cX9_odd 4 = .ok (.ifCond .ne 10, 3) := by decide +kernel
theorem dX9_odd_7 : decode cX9_odd 7 = .ok (.aload_n 0, 1) := by decide +kernel
theorem dX9_odd_8 : decode cX9_odd 8 = .ok (.ldc 64, 2) := by decide +kernel
theorem dX9_odd_10 : decode cX9_odd 10 = .ok (.invokevirtual 65, 3) := by decide +kernel
theorem dX9_odd_13 : decode cX9_odd 13 = .ok (.ireturn, 1) := by decide +kernel
theorem dX9_odd_14 : decode cX9_odd 14 = .ok (.iload_n 1, 1) := by decide +kernel
theorem dX9_odd_15 : decode cX9_odd 15 = .ok (.invokestatic 69, 3) := by decide +kernel
theorem dX9_odd_18 : decode cX9_odd 18 = .ok (.ireturn, 1) := by decide +kernel
set_option maxRecDepth 20000 in
theorem ggX9_pieces_X3_isForm : GoodIn wsX9_pieces wsX3_isForm := goodIn_r _ [5] (by decide +kernel) (by decide +kernel)
set_option maxRecDepth 20000 in
theorem gX9_pieces_X3_isForm : GoodIn wsX9_pieces (va_wsS RX9 58 yX3_isForm wsX3_isForm) := goodIn_app (goodIn_of _ (by decide +kernel)) ggX9_pieces_X3_isForm
set_option maxRecDepth 20000 in
theorem ggX9_pieces_X9_finding : GoodIn wsX9_pieces wsX9_finding := goodIn_r _ [10, 1, 11, 19, 20, 21, 22, 23, 24, 25, 26, 27] (by decide +kernel) (by decide +kernel)
set_option maxRecDepth 20000 in
theorem gX9_pieces_X9_finding : GoodIn wsX9_pieces (wsV RX9 65 RX9 yX9_finding wsX9_finding) := goodIn_app (goodIn_of _ (by decide +kernel)) ggX9_pieces_X9_finding
set_option maxRecDepth 20000 in
theorem ggX9_pieces_X3_countPieces : GoodIn wsX9_pieces wsX3_countPieces := goodIn_r _ [14, 15, 16, 4, 17, 18] (by decide +kernel) (by decide +kernel)
set_option maxRecDepth 20000 in
theorem gX9_pieces_X3_countPieces : GoodIn wsX9_pieces (va_wsS RX9 72 yX3_countPieces wsX3_countPieces) := goodIn_app (goodIn_of _ (by decide +kernel)) ggX9_pieces_X3_countPieces
theorem dX9_pieces_0 : decode cX9_pieces 0 = .ok (.iload_n 1, 1) := by decide +kernel
theorem dX9_pieces_1 : decode cX9_pieces 1 = .ok (.invokestatic 58, 3) := by decide +kernel
theorem dX9_pieces_4 : decode cX9_pieces 4 = .ok (.ifCond .ne 10, 3) := by decide +kernel
theorem dX9_pieces_7 : decode cX9_pieces 7 = .ok (.aload_n 0, 1) := by decide +kernel
theorem dX9_pieces_8 : decode cX9_pieces 8 = .ok (.ldc 64, 2) := by decide +kernel
theorem dX9_pieces_10 : decode cX9_pieces 10 = .ok (.invokevirtual 65, 3) := by decide +kernel
theorem dX9_pieces_13 : decode cX9_pieces 13 = .ok (.ireturn, 1) := by decide +kernel
theorem dX9_pieces_14 : decode cX9_pieces 14 = .ok (.iload_n 1, 1) := by decide +kernel
theorem dX9_pieces_15 : decode cX9_pieces 15 = .ok (.invokestatic 72, 3) := by decide +kernel
theorem dX9_pieces_18 : decode cX9_pieces 18 = .ok (.ireturn, 1) := by decide +kernel
set_option maxRecDepth 20000 in
theorem ggX9_lines_X3_isForm : GoodIn wsX9_lines wsX3_isForm := goodIn_r _ [5] (by decide +kernel) (by decide +kernel)
set_option maxRecDepth 20000 in
theorem gX9_lines_X3_isForm : GoodIn wsX9_lines (va_wsS RX9 58 yX3_isForm wsX3_isForm) := goodIn_app (goodIn_of _ (by decide +kernel)) ggX9_lines_X3_isForm
set_option maxRecDepth 20000 in
theorem ggX9_lines_X9_finding : GoodIn wsX9_lines wsX9_finding := goodIn_r _ [10, 1, 11, 33, 34, 35, 36, 37, 38, 39, 40, 41] (by decide +kernel) (by decide +kernel)
set_option maxRecDepth 20000 in
theorem gX9_lines_X9_finding : GoodIn wsX9_lines (wsV RX9 65 RX9 yX9_finding wsX9_finding) := goodIn_app (goodIn_of _ (by decide +kernel)) ggX9_lines_X9_finding
set_option maxRecDepth 20000 in
theorem ggX9_lines_X3_countLines : GoodIn wsX9_lines wsX3_countLines := goodIn_r _ [14, 15, 16, 17, 18, 19, 20, 4, 21, 22, 23, 24, 25, 26, 27, 28, 29, 30, 31, 32] (by decide +kernel) (by decide +kernel)
set_option maxRecDepth 20000 in
theorem gX9_lines_X3_countLines : GoodIn wsX9_lines (va_wsS RX9 75 yX3_countLines wsX3_countLines) := goodIn_app (goodIn_of _ (by decide +kernel)) ggX9_lines_X3_countLines
theorem dX9_lines_0 : decode cX9_lines 0 = .ok (.iload_n 1, 1) := by decide +kernel
theorem dX9_lines_1 : decode cX9_lines 1 = .ok (.invokestatic 58, 3) := by decide +kernel
theorem dX9_lines_4 : decode cX9_lines 4 = .ok (.ifCond .ne 10, 3) := by decide +kernel
theorem dX9_lines_7 : decode cX9_lines 7 = .ok (.aload_n 0, 1) := by decide +kernel
theorem dX9_lines_8 : decode cX9_lines 8 = .ok (.ldc 64, 2) := by decide +kernel
theorem dX9_lines_10 : decode cX9_lines 10 = .ok (.invokevirtual 65, 3) := by decide +kernel
theorem dX9_lines_13 : decode cX9_lines 13 = .ok (.ireturn, 1) := by decide +kernel
theorem dX9_lines_14 : decode cX9_lines 14 = .ok (.iload_n 1, 1) := by decide +kernel
theorem dX9_lines_15 : decode cX9_lines 15 = .ok (.invokestatic 75, 3) := by decide +kernel
theorem dX9_lines_18 : decode cX9_lines 18 = .ok (.ireturn, 1) := by decide +kernel
set_option maxRecDepth 20000 in
theorem ggX9_strays_X3_isForm : GoodIn wsX9_strays wsX3_isForm := goodIn_r _ [5] (by decide +kernel) (by decide +kernel)
set_option maxRecDepth 20000 in
theorem gX9_strays_X3_isForm : GoodIn wsX9_strays (va_wsS RX9 58 yX3_isForm wsX3_isForm) := goodIn_app (goodIn_of _ (by decide +kernel)) ggX9_strays_X3_isForm
set_option maxRecDepth 20000 in
theorem ggX9_strays_X9_finding : GoodIn wsX9_strays wsX9_finding := goodIn_r _ [10, 1, 11, 36, 37, 38, 39, 40, 41, 42, 43, 44] (by decide +kernel) (by decide +kernel)
set_option maxRecDepth 20000 in
theorem gX9_strays_X9_finding : GoodIn wsX9_strays (wsV RX9 65 RX9 yX9_finding wsX9_finding) := goodIn_app (goodIn_of _ (by decide +kernel)) ggX9_strays_X9_finding
set_option maxRecDepth 20000 in
theorem ggX9_strays_X3_countStrays : GoodIn wsX9_strays wsX3_countStrays := goodIn_r _ [14, 15, 16, 17, 18, 19, 20, 4, 21, 22, 23, 24, 25, 26, 27, 28, 29, 30, 31, 32, 33, 34, 35] (by decide +kernel) (by decide +kernel)
set_option maxRecDepth 20000 in
theorem gX9_strays_X3_countStrays : GoodIn wsX9_strays (va_wsS RX9 78 yX3_countStrays wsX3_countStrays) := goodIn_app (goodIn_of _ (by decide +kernel)) ggX9_strays_X3_countStrays
theorem dX9_strays_0 : decode cX9_strays 0 = .ok (.iload_n 1, 1) := by decide +kernel
theorem dX9_strays_1 : decode cX9_strays 1 = .ok (.invokestatic 58, 3) := by decide +kernel
theorem dX9_strays_4 : decode cX9_strays 4 = .ok (.ifCond .ne 10, 3) := by decide +kernel
theorem dX9_strays_7 : decode cX9_strays 7 = .ok (.aload_n 0, 1) := by decide +kernel
theorem dX9_strays_8 : decode cX9_strays 8 = .ok (.ldc 64, 2) := by decide +kernel
theorem dX9_strays_10 : decode cX9_strays 10 = .ok (.invokevirtual 65, 3) := by decide +kernel
theorem dX9_strays_13 : decode cX9_strays 13 = .ok (.ireturn, 1) := by decide +kernel
theorem dX9_strays_14 : decode cX9_strays 14 = .ok (.iload_n 1, 1) := by decide +kernel
theorem dX9_strays_15 : decode cX9_strays 15 = .ok (.invokestatic 78, 3) := by decide +kernel
theorem dX9_strays_18 : decode cX9_strays 18 = .ok (.ireturn, 1) := by decide +kernel
set_option maxRecDepth 20000 in
theorem ggX9_ways_X3_isForm : GoodIn wsX9_ways wsX3_isForm := goodIn_r _ [5] (by decide +kernel) (by decide +kernel)
set_option maxRecDepth 20000 in
theorem gX9_ways_X3_isForm : GoodIn wsX9_ways (va_wsS RX9 58 yX3_isForm wsX3_isForm) := goodIn_app (goodIn_of _ (by decide +kernel)) ggX9_ways_X3_isForm
set_option maxRecDepth 20000 in
theorem ggX9_ways_X3_isPoint : GoodIn wsX9_ways wsX3_isPoint := goodIn_r _ [8, 9] (by decide +kernel) (by decide +kernel)
set_option maxRecDepth 20000 in
theorem gX9_ways_X3_isPoint : GoodIn wsX9_ways (va_wsS RX9 81 yX3_isPoint wsX3_isPoint) := goodIn_app (goodIn_of _ (by decide +kernel)) ggX9_ways_X3_isPoint
set_option maxRecDepth 20000 in
theorem ggX9_ways_X9_finding : GoodIn wsX9_ways wsX9_finding := goodIn_r _ [14, 1, 15, 51, 52, 53, 54, 55, 56, 57, 58, 59] (by decide +kernel) (by decide +kernel)
set_option maxRecDepth 20000 in
theorem gX9_ways_X9_finding : GoodIn wsX9_ways (wsV RX9 65 RX9 yX9_finding wsX9_finding) := goodIn_app (goodIn_of _ (by decide +kernel)) ggX9_ways_X9_finding
set_option maxRecDepth 20000 in
theorem ggX9_ways_X3_canBeTrodden : GoodIn wsX9_ways wsX3_canBeTrodden := goodIn_r _ [18, 19, 20, 4, 21, 22, 23, 24, 25, 26, 27, 28, 29, 30, 31, 32, 33, 34, 35, 36, 37, 38, 39, 40, 41, 42, 43, 44, 45, 46] (by decide +kernel) (by decide +kernel)
set_option maxRecDepth 20000 in
theorem gX9_ways_X3_canBeTrodden : GoodIn wsX9_ways (va_wsS RX9 85 yX3_canBeTrodden wsX3_canBeTrodden) := goodIn_app (goodIn_of _ (by decide +kernel)) ggX9_ways_X3_canBeTrodden
set_option maxRecDepth 20000 in
theorem ggX9_ways_X3_countWays : GoodIn wsX9_ways wsX3_countWays := goodIn_r _ [49, 25, 26, 4, 27, 28, 29, 22, 23, 24, 50, 48] (by decide +kernel) (by decide +kernel)
set_option maxRecDepth 20000 in
theorem gX9_ways_X3_countWays : GoodIn wsX9_ways (va_wsS RX9 89 yX3_countWays wsX3_countWays) := goodIn_app (goodIn_of _ (by decide +kernel)) ggX9_ways_X3_countWays
theorem dX9_ways_0 : decode cX9_ways 0 = .ok (.iload_n 1, 1) := by decide +kernel
theorem dX9_ways_1 : decode cX9_ways 1 = .ok (.invokestatic 58, 3) := by decide +kernel
theorem dX9_ways_4 : decode cX9_ways 4 = .ok (.ifCond .eq 11, 3) := by decide +kernel
theorem dX9_ways_7 : decode cX9_ways 7 = .ok (.iload_n 2, 1) := by decide +kernel
theorem dX9_ways_8 : decode cX9_ways 8 = .ok (.i2l, 1) := by decide +kernel
theorem dX9_ways_9 : decode cX9_ways 9 = .ok (.invokestatic 81, 3) := by decide +kernel
theorem dX9_ways_12 : decode cX9_ways 12 = .ok (.ifCond .ne 11, 3) := by decide +kernel
theorem dX9_ways_15 : decode cX9_ways 15 = .ok (.aload_n 0, 1) := by decide +kernel
theorem dX9_ways_16 : decode cX9_ways 16 = .ok (.ldc 64, 2) := by decide +kernel
theorem dX9_ways_18 : decode cX9_ways 18 = .ok (.invokevirtual 65, 3) := by decide +kernel
theorem dX9_ways_21 : decode cX9_ways 21 = .ok (.i2l, 1) := by decide +kernel
theorem dX9_ways_22 : decode cX9_ways 22 = .ok (.lreturn, 1) := by decide +kernel
theorem dX9_ways_23 : decode cX9_ways 23 = .ok (.iload_n 1, 1) := by decide +kernel
theorem dX9_ways_24 : decode cX9_ways 24 = .ok (.iload_n 2, 1) := by decide +kernel
theorem dX9_ways_25 : decode cX9_ways 25 = .ok (.invokestatic 85, 3) := by decide +kernel
theorem dX9_ways_28 : decode cX9_ways 28 = .ok (.ifCond .ne 5, 3) := by decide +kernel
theorem dX9_ways_31 : decode cX9_ways 31 = .ok (.lconst 0, 1) := by decide +kernel
theorem dX9_ways_32 : decode cX9_ways 32 = .ok (.lreturn, 1) := by decide +kernel
theorem dX9_ways_33 : decode cX9_ways 33 = .ok (.iload_n 1, 1) := by decide +kernel
theorem dX9_ways_34 : decode cX9_ways 34 = .ok (.iload_n 2, 1) := by decide +kernel
theorem dX9_ways_35 : decode cX9_ways 35 = .ok (.iconst 0, 1) := by decide +kernel
theorem dX9_ways_36 : decode cX9_ways 36 = .ok (.invokestatic 89, 3) := by decide +kernel
theorem dX9_ways_39 : decode cX9_ways 39 = .ok (.lreturn, 1) := by decide +kernel
set_option maxRecDepth 20000 in
theorem ggX9_ith_X3_isForm : GoodIn wsX9_ith wsX3_isForm := goodIn_r _ [6] (by decide +kernel) (by decide +kernel)
set_option maxRecDepth 20000 in
theorem gX9_ith_X3_isForm : GoodIn wsX9_ith (va_wsS RX9 58 yX3_isForm wsX3_isForm) := goodIn_app (goodIn_of _ (by decide +kernel)) ggX9_ith_X3_isForm
set_option maxRecDepth 20000 in
theorem ggX9_ith_X3_isPoint : GoodIn wsX9_ith wsX3_isPoint := goodIn_r _ [9, 10] (by decide +kernel) (by decide +kernel)
set_option maxRecDepth 20000 in
theorem gX9_ith_X3_isPoint : GoodIn wsX9_ith (va_wsS RX9 81 yX3_isPoint wsX3_isPoint) := goodIn_app (goodIn_of _ (by decide +kernel)) ggX9_ith_X3_isPoint
set_option maxRecDepth 20000 in
theorem ggX9_ith_X9_isWithin : GoodIn wsX9_ith wsX9_isWithin := goodIn_r _ [14] (by decide +kernel) (by decide +kernel)
set_option maxRecDepth 20000 in
theorem gX9_ith_X9_isWithin : GoodIn wsX9_ith (va_wsS RX9 93 yX9_isWithin wsX9_isWithin) := goodIn_app (goodIn_of _ (by decide +kernel)) ggX9_ith_X9_isWithin
set_option maxRecDepth 20000 in
theorem ggX9_ith_X9_finding : GoodIn wsX9_ith wsX9_finding := goodIn_r _ [18, 1, 19, 57, 58, 59, 60, 61, 62, 63, 64, 65] (by decide +kernel) (by decide +kernel)
set_option maxRecDepth 20000 in
theorem gX9_ith_X9_finding : GoodIn wsX9_ith (wsV RX9 65 RX9 yX9_finding wsX9_finding) := goodIn_app (goodIn_of _ (by decide +kernel)) ggX9_ith_X9_finding
set_option maxRecDepth 20000 in
theorem ggX9_ith_X3_strokeOfFirstWay : GoodIn wsX9_ith wsX3_strokeOfFirstWay := goodIn_r _ [22, 23, 24, 25, 26, 27, 28, 29, 30, 31, 5, 32, 33, 34, 35, 36, 37, 38, 39, 40, 41, 42, 43, 44, 45, 46, 47, 48, 49, 50, 51, 52, 53, 54, 55, 56] (by decide +kernel) (by decide +kernel)
set_option maxRecDepth 20000 in
theorem gX9_ith_X3_strokeOfFirstWay : GoodIn wsX9_ith (va_wsS RX9 96 yX3_strokeOfFirstWay wsX3_strokeOfFirstWay) := goodIn_app (goodIn_of _ (by decide +kernel)) ggX9_ith_X3_strokeOfFirstWay
theorem dX9_ith_0 : decode cX9_ith 0 = .ok (.iload_n 1, 1) := by decide +kernel
theorem dX9_ith_1 : decode cX9_ith 1 = .ok (.invokestatic 58, 3) := by decide +kernel
theorem dX9_ith_4 : decode cX9_ith 4 = .ok (.ifCond .eq 20, 3) := by decide +kernel
theorem dX9_ith_7 : decode cX9_ith 7 = .ok (.iload_n 2, 1) := by decide +kernel
theorem dX9_ith_8 : decode cX9_ith 8 = .ok (.i2l, 1) := by decide +kernel
theorem dX9_ith_9 : decode cX9_ith 9 = .ok (.invokestatic 81, 3) := by decide +kernel
theorem dX9_ith_12 : decode cX9_ith 12 = .ok (.ifCond .eq 12, 3) := by decide +kernel
theorem dX9_ith_15 : decode cX9_ith 15 = .ok (.iload_n 3, 1) := by decide +kernel
theorem dX9_ith_16 : decode cX9_ith 16 = .ok (.bipush 11, 2) := by decide +kernel
theorem dX9_ith_18 : decode cX9_ith 18 = .ok (.invokestatic 93, 3) := by decide +kernel
theorem dX9_ith_21 : decode cX9_ith 21 = .ok (.ifCond .ne 10, 3) := by decide +kernel
theorem dX9_ith_24 : decode cX9_ith 24 = .ok (.aload_n 0, 1) := by decide +kernel
theorem dX9_ith_25 : decode cX9_ith 25 = .ok (.ldc 64, 2) := by decide +kernel
theorem dX9_ith_27 : decode cX9_ith 27 = .ok (.invokevirtual 65, 3) := by decide +kernel
theorem dX9_ith_30 : decode cX9_ith 30 = .ok (.ireturn, 1) := by decide +kernel
theorem dX9_ith_31 : decode cX9_ith 31 = .ok (.iload_n 1, 1) := by decide +kernel
theorem dX9_ith_32 : decode cX9_ith 32 = .ok (.iload_n 2, 1) := by decide +kernel
theorem dX9_ith_33 : decode cX9_ith 33 = .ok (.iload_n 3, 1) := by decide +kernel
theorem dX9_ith_34 : decode cX9_ith 34 = .ok (.invokestatic 96, 3) := by decide +kernel
theorem dX9_ith_37 : decode cX9_ith 37 = .ok (.istore 4, 2) := by decide +kernel
theorem dX9_ith_39 : decode cX9_ith 39 = .ok (.iload 4, 2) := by decide +kernel
theorem dX9_ith_41 : decode cX9_ith 41 = .ok (.ifCond .ge 12, 3) := by decide +kernel
theorem dX9_ith_44 : decode cX9_ith 44 = .ok (.aload_n 0, 1) := by decide +kernel
theorem dX9_ith_45 : decode cX9_ith 45 = .ok (.ldc 100, 2) := by decide +kernel
theorem dX9_ith_47 : decode cX9_ith 47 = .ok (.invokevirtual 65, 3) := by decide +kernel
theorem dX9_ith_50 : decode cX9_ith 50 = .ok (.goto 5, 3) := by decide +kernel
theorem dX9_ith_53 : decode cX9_ith 53 = .ok (.iload 4, 2) := by decide +kernel
theorem dX9_ith_55 : decode cX9_ith 55 = .ok (.ireturn, 1) := by decide +kernel
set_option maxRecDepth 20000 in
theorem ggX9_again_X3_isForm : GoodIn wsX9_again wsX3_isForm := goodIn_r _ [6] (by decide +kernel) (by decide +kernel)
set_option maxRecDepth 20000 in
theorem gX9_again_X3_isForm : GoodIn wsX9_again (va_wsS RX9 58 yX3_isForm wsX3_isForm) := goodIn_app (goodIn_of _ (by decide +kernel)) ggX9_again_X3_isForm
set_option maxRecDepth 20000 in
theorem ggX9_again_X9_finding : GoodIn wsX9_again wsX9_finding := goodIn_r _ [11, 1, 12, 36, 37, 38, 39, 40, 41, 42, 43, 44] (by decide +kernel) (by decide +kernel)
set_option maxRecDepth 20000 in
theorem gX9_again_X9_finding : GoodIn wsX9_again (wsV RX9 65 RX9 yX9_finding wsX9_finding) := goodIn_app (goodIn_of _ (by decide +kernel)) ggX9_again_X9_finding
set_option maxRecDepth 20000 in
theorem ggX9_again_X3_countPieces : GoodIn wsX9_again wsX3_countPieces := goodIn_r _ [15, 16, 17, 5, 18, 19] (by decide +kernel) (by decide +kernel)
set_option maxRecDepth 20000 in
theorem gX9_again_X3_countPieces : GoodIn wsX9_again (va_wsS RX9 72 yX3_countPieces wsX3_countPieces) := goodIn_app (goodIn_of _ (by decide +kernel)) ggX9_again_X3_countPieces
set_option maxRecDepth 20000 in
theorem ggX9_again_X3_fewestToClose : GoodIn wsX9_again wsX3_fewestToClose := goodIn_r _ [22, 23, 24, 5, 25, 19, 26, 27, 28, 29, 30, 31, 32, 33, 34, 35] (by decide +kernel) (by decide +kernel)
set_option maxRecDepth 20000 in
theorem gX9_again_X3_fewestToClose : GoodIn wsX9_again (va_wsS RX9 101 yX3_fewestToClose wsX3_fewestToClose) := goodIn_app (goodIn_of _ (by decide +kernel)) ggX9_again_X3_fewestToClose
theorem dX9_again_0 : decode cX9_again 0 = .ok (.iload_n 1, 1) := by decide +kernel
theorem dX9_again_1 : decode cX9_again 1 = .ok (.invokestatic 58, 3) := by decide +kernel
theorem dX9_again_4 : decode cX9_again 4 = .ok (.ifCond .ne 10, 3) := by decide +kernel
theorem dX9_again_7 : decode cX9_again 7 = .ok (.aload_n 0, 1) := by decide +kernel
theorem dX9_again_8 : decode cX9_again 8 = .ok (.ldc 64, 2) := by decide +kernel
theorem dX9_again_10 : decode cX9_again 10 = .ok (.invokevirtual 65, 3) := by decide +kernel
theorem dX9_again_13 : decode cX9_again 13 = .ok (.ireturn, 1) := by decide +kernel
theorem dX9_again_14 : decode cX9_again 14 = .ok (.iload_n 1, 1) := by decide +kernel
theorem dX9_again_15 : decode cX9_again 15 = .ok (.invokestatic 72, 3) := by decide +kernel
theorem dX9_again_18 : decode cX9_again 18 = .ok (.iconst 1, 1) := by decide +kernel
theorem dX9_again_19 : decode cX9_again 19 = .ok (.if_icmp .le 10, 3) := by decide +kernel
theorem dX9_again_22 : decode cX9_again 22 = .ok (.aload_n 0, 1) := by decide +kernel
theorem dX9_again_23 : decode cX9_again 23 = .ok (.ldc 100, 2) := by decide +kernel
theorem dX9_again_25 : decode cX9_again 25 = .ok (.invokevirtual 65, 3) := by decide +kernel
theorem dX9_again_28 : decode cX9_again 28 = .ok (.ireturn, 1) := by decide +kernel
theorem dX9_again_29 : decode cX9_again 29 = .ok (.iload_n 1, 1) := by decide +kernel
theorem dX9_again_30 : decode cX9_again 30 = .ok (.invokestatic 101, 3) := by decide +kernel
theorem dX9_again_33 : decode cX9_again 33 = .ok (.ireturn, 1) := by decide +kernel
set_option maxRecDepth 20000 in
theorem ggX9_turned_X3_isForm : GoodIn wsX9_turned wsX3_isForm := goodIn_r _ [5] (by decide +kernel) (by decide +kernel)
set_option maxRecDepth 20000 in
theorem gX9_turned_X3_isForm : GoodIn wsX9_turned (va_wsS RX9 58 yX3_isForm wsX3_isForm) := goodIn_app (goodIn_of _ (by decide +kernel)) ggX9_turned_X3_isForm
set_option maxRecDepth 20000 in
theorem ggX9_turned_X9_isWithin : GoodIn wsX9_turned wsX9_isWithin := goodIn_r _ [9] (by decide +kernel) (by decide +kernel)
set_option maxRecDepth 20000 in
theorem gX9_turned_X9_isWithin : GoodIn wsX9_turned (va_wsS RX9 93 yX9_isWithin wsX9_isWithin) := goodIn_app (goodIn_of _ (by decide +kernel)) ggX9_turned_X9_isWithin
set_option maxRecDepth 20000 in
theorem ggX9_turned_X9_finding : GoodIn wsX9_turned wsX9_finding := goodIn_r _ [13, 1, 14, 22, 23, 24, 25, 26, 27, 28, 29, 30] (by decide +kernel) (by decide +kernel)
set_option maxRecDepth 20000 in
theorem gX9_turned_X9_finding : GoodIn wsX9_turned (wsV RX9 65 RX9 yX9_finding wsX9_finding) := goodIn_app (goodIn_of _ (by decide +kernel)) ggX9_turned_X9_finding
set_option maxRecDepth 20000 in
theorem ggX9_turned_X3_byAQuarter : GoodIn wsX9_turned wsX3_byAQuarter := goodIn_r _ [17, 18, 19, 20, 4, 21] (by decide +kernel) (by decide +kernel)
set_option maxRecDepth 20000 in
theorem gX9_turned_X3_byAQuarter : GoodIn wsX9_turned (va_wsS RX9 104 yX3_byAQuarter wsX3_byAQuarter) := goodIn_app (goodIn_of _ (by decide +kernel)) ggX9_turned_X3_byAQuarter
theorem dX9_turned_0 : decode cX9_turned 0 = .ok (.iload_n 1, 1) := by decide +kernel
theorem dX9_turned_1 : decode cX9_turned 1 = .ok (.invokestatic 58, 3) := by decide +kernel
theorem dX9_turned_4 : decode cX9_turned 4 = .ok (.ifCond .eq 11, 3) := by decide +kernel
theorem dX9_turned_7 : decode cX9_turned 7 = .ok (.iload_n 2, 1) := by decide +kernel
theorem dX9_turned_8 : decode cX9_turned 8 = .ok (.iconst 3, 1) := by decide +kernel
theorem dX9_turned_9 : decode cX9_turned 9 = .ok (.invokestatic 93, 3) := by decide +kernel
theorem dX9_turned_12 : decode cX9_turned 12 = .ok (.ifCond .ne 10, 3) := by decide +kernel
theorem dX9_turned_15 : decode cX9_turned 15 = .ok (.aload_n 0, 1) := by decide +kernel
theorem dX9_turned_16 : decode cX9_turned 16 = .ok (.ldc 64, 2) := by decide +kernel
theorem dX9_turned_18 : decode cX9_turned 18 = .ok (.invokevirtual 65, 3) := by decide +kernel
theorem dX9_turned_21 : decode cX9_turned 21 = .ok (.ireturn, 1) := by decide +kernel
theorem dX9_turned_22 : decode cX9_turned 22 = .ok (.iload_n 1, 1) := by decide +kernel
theorem dX9_turned_23 : decode cX9_turned 23 = .ok (.istore_n 3, 1) := by decide +kernel
theorem dX9_turned_24 : decode cX9_turned 24 = .ok (.iconst 0, 1) := by decide +kernel
theorem dX9_turned_25 : decode cX9_turned 25 = .ok (.istore 4, 2) := by decide +kernel
theorem dX9_turned_27 : decode cX9_turned 27 = .ok (.iload 4, 2) := by decide +kernel
theorem dX9_turned_29 : decode cX9_turned 29 = .ok (.iload_n 2, 1) := by decide +kernel
theorem dX9_turned_30 : decode cX9_turned 30 = .ok (.if_icmp .ge 14, 3) := by decide +kernel
theorem dX9_turned_33 : decode cX9_turned 33 = .ok (.iload_n 3, 1) := by decide +kernel
theorem dX9_turned_34 : decode cX9_turned 34 = .ok (.invokestatic 104, 3) := by decide +kernel
theorem dX9_turned_37 : decode cX9_turned 37 = .ok (.istore_n 3, 1) := by decide +kernel
theorem dX9_turned_38 : decode cX9_turned 38 = .ok (.iinc 4 1, 3) := by decide +kernel
theorem dX9_turned_41 : decode cX9_turned 41 = .ok (.goto (-14), 3) := by decide +kernel
theorem dX9_turned_44 : decode cX9_turned 44 = .ok (.iload_n 3, 1) := by decide +kernel
theorem dX9_turned_45 : decode cX9_turned 45 = .ok (.ireturn, 1) := by decide +kernel
set_option maxRecDepth 20000 in
theorem ggX9_sign_X0_isSign : GoodIn wsX9_sign wsX0_isSign := goodIn_r _ [6] (by decide +kernel) (by decide +kernel)
set_option maxRecDepth 20000 in
theorem gX9_sign_X0_isSign : GoodIn wsX9_sign (va_wsS RX9 107 yX0_isSign wsX0_isSign) := goodIn_app (goodIn_of _ (by decide +kernel)) ggX9_sign_X0_isSign
set_option maxRecDepth 20000 in
theorem ggX9_sign_X3_isForm : GoodIn wsX9_sign wsX3_isForm := goodIn_r _ [10] (by decide +kernel) (by decide +kernel)
set_option maxRecDepth 20000 in
theorem gX9_sign_X3_isForm : GoodIn wsX9_sign (va_wsS RX9 58 yX3_isForm wsX3_isForm) := goodIn_app (goodIn_of _ (by decide +kernel)) ggX9_sign_X3_isForm
set_option maxRecDepth 20000 in
theorem ggX9_sign_X9_finding : GoodIn wsX9_sign wsX9_finding := goodIn_r _ [15, 1, 16, 27, 28, 29, 30, 31, 32, 33, 34, 35] (by decide +kernel) (by decide +kernel)
set_option maxRecDepth 20000 in
theorem gX9_sign_X9_finding : GoodIn wsX9_sign (wsV RX9 65 RX9 yX9_finding wsX9_finding) := goodIn_app (goodIn_of _ (by decide +kernel)) ggX9_sign_X9_finding
set_option maxRecDepth 20000 in
theorem ggX9_sign_X0_formAt : GoodIn wsX9_sign wsX0_formAt := goodIn_r _ [20, 21, 22, 4, 5, 6, 43] (by decide +kernel) (by decide +kernel)
set_option maxRecDepth 20000 in
theorem gX9_sign_X0_formAt : GoodIn wsX9_sign (wsV RX9 116 RX0 yX0_formAt wsX0_formAt) := goodIn_app (goodIn_of _ (by decide +kernel)) ggX9_sign_X0_formAt
set_option maxRecDepth 20000 in
theorem ggX9_sign_X0_put : GoodIn wsX9_sign wsX0_put := goodIn_r _ [26, 21, 22, 4, 5, 6, 43] (by decide +kernel) (by decide +kernel)
set_option maxRecDepth 20000 in
theorem gX9_sign_X0_put : GoodIn wsX9_sign (wsV RX9 119 RX0 yX0_put wsX0_put) := goodIn_app (goodIn_of _ (by decide +kernel)) ggX9_sign_X0_put
theorem dX9_sign_0 : decode cX9_sign 0 = .ok (.iload_n 1, 1) := by decide +kernel
theorem dX9_sign_1 : decode cX9_sign 1 = .ok (.invokestatic 107, 3) := by decide +kernel
theorem dX9_sign_4 : decode cX9_sign 4 = .ok (.ifCond .eq 10, 3) := by decide +kernel
theorem dX9_sign_7 : decode cX9_sign 7 = .ok (.iload_n 2, 1) := by decide +kernel
theorem dX9_sign_8 : decode cX9_sign 8 = .ok (.invokestatic 58, 3) := by decide +kernel
theorem dX9_sign_11 : decode cX9_sign 11 = .ok (.ifCond .ne 10, 3) := by decide +kernel
theorem dX9_sign_14 : decode cX9_sign 14 = .ok (.aload_n 0, 1) := by decide +kernel
theorem dX9_sign_15 : decode cX9_sign 15 = .ok (.ldc 64, 2) := by decide +kernel
theorem dX9_sign_17 : decode cX9_sign 17 = .ok (.invokevirtual 65, 3) := by decide +kernel
theorem dX9_sign_20 : decode cX9_sign 20 = .ok (.ireturn, 1) := by decide +kernel
theorem dX9_sign_21 : decode cX9_sign 21 = .ok (.aload_n 0, 1) := by decide +kernel
theorem dX9_sign_22 : decode cX9_sign 22 = .ok (.getfield 10, 3) := by decide +kernel
theorem dX9_sign_25 : decode cX9_sign 25 = .ok (.getfield 112, 3) := by decide +kernel
theorem dX9_sign_28 : decode cX9_sign 28 = .ok (.iload_n 1, 1) := by decide +kernel
theorem dX9_sign_29 : decode cX9_sign 29 = .ok (.invokevirtual 116, 3) := by decide +kernel
theorem dX9_sign_32 : decode cX9_sign 32 = .ok (.istore_n 3, 1) := by decide +kernel
theorem dX9_sign_33 : decode cX9_sign 33 = .ok (.aload_n 0, 1) := by decide +kernel
theorem dX9_sign_34 : decode cX9_sign 34 = .ok (.getfield 10, 3) := by decide +kernel
theorem dX9_sign_37 : decode cX9_sign 37 = .ok (.getfield 112, 3) := by decide +kernel
theorem dX9_sign_40 : decode cX9_sign 40 = .ok (.iload_n 1, 1) := by decide +kernel
theorem dX9_sign_41 : decode cX9_sign 41 = .ok (.iload_n 2, 1) := by decide +kernel
theorem dX9_sign_42 : decode cX9_sign 42 = .ok (.invokevirtual 119, 3) := by decide +kernel
theorem dX9_sign_45 : decode cX9_sign 45 = .ok (.iload_n 3, 1) := by decide +kernel
theorem dX9_sign_46 : decode cX9_sign 46 = .ok (.ireturn, 1) := by decide +kernel
set_option maxRecDepth 20000 in
theorem ggX9_form_X0_isSign : GoodIn wsX9_form wsX0_isSign := goodIn_r _ [6] (by decide +kernel) (by decide +kernel)
set_option maxRecDepth 20000 in
theorem gX9_form_X0_isSign : GoodIn wsX9_form (va_wsS RX9 107 yX0_isSign wsX0_isSign) := goodIn_app (goodIn_of _ (by decide +kernel)) ggX9_form_X0_isSign
set_option maxRecDepth 20000 in
theorem ggX9_form_X9_finding : GoodIn wsX9_form wsX9_finding := goodIn_r _ [11, 1, 12, 19, 20, 21, 22, 23, 24, 25, 26, 27] (by decide +kernel) (by decide +kernel)
set_option maxRecDepth 20000 in
theorem gX9_form_X9_finding : GoodIn wsX9_form (wsV RX9 65 RX9 yX9_finding wsX9_finding) := goodIn_app (goodIn_of _ (by decide +kernel)) ggX9_form_X9_finding
set_option maxRecDepth 20000 in
theorem ggX9_form_X0_formAt : GoodIn wsX9_form wsX0_formAt := goodIn_r _ [16, 17, 18, 4, 5, 6, 35] (by decide +kernel) (by decide +kernel)
set_option maxRecDepth 20000 in
theorem gX9_form_X0_formAt : GoodIn wsX9_form (wsV RX9 116 RX0 yX0_formAt wsX0_formAt) := goodIn_app (goodIn_of _ (by decide +kernel)) ggX9_form_X0_formAt
theorem dX9_form_0 : decode cX9_form 0 = .ok (.iload_n 1, 1) := by decide +kernel
theorem dX9_form_1 : decode cX9_form 1 = .ok (.invokestatic 107, 3) := by decide +kernel
theorem dX9_form_4 : decode cX9_form 4 = .ok (.ifCond .ne 10, 3) := by decide +kernel
theorem dX9_form_7 : decode cX9_form 7 = .ok (.aload_n 0, 1) := by decide +kernel
theorem dX9_form_8 : decode cX9_form 8 = .ok (.ldc 64, 2) := by decide +kernel
theorem dX9_form_10 : decode cX9_form 10 = .ok (.invokevirtual 65, 3) := by decide +kernel
theorem dX9_form_13 : decode cX9_form 13 = .ok (.ireturn, 1) := by decide +kernel
theorem dX9_form_14 : decode cX9_form 14 = .ok (.aload_n 0, 1) := by decide +kernel
theorem dX9_form_15 : decode cX9_form 15 = .ok (.getfield 10, 3) := by decide +kernel
theorem dX9_form_18 : decode cX9_form 18 = .ok (.getfield 112, 3) := by decide +kernel
theorem dX9_form_21 : decode cX9_form 21 = .ok (.iload_n 1, 1) := by decide +kernel
theorem dX9_form_22 : decode cX9_form 22 = .ok (.invokevirtual 116, 3) := by decide +kernel
theorem dX9_form_25 : decode cX9_form 25 = .ok (.ireturn, 1) := by decide +kernel
set_option maxRecDepth 20000 in
theorem ggX9_read_X3_isForm : GoodIn wsX9_read wsX3_isForm := goodIn_r _ [7] (by decide +kernel) (by decide +kernel)
set_option maxRecDepth 20000 in
theorem gX9_read_X3_isForm : GoodIn wsX9_read (va_wsS RX9 58 yX3_isForm wsX3_isForm) := goodIn_app (goodIn_of _ (by decide +kernel)) ggX9_read_X3_isForm
set_option maxRecDepth 20000 in
theorem ggX9_read_X9_finding : GoodIn wsX9_read wsX9_finding := goodIn_r _ [12, 1, 13, 30, 31, 32, 33, 34, 35, 36, 37, 38] (by decide +kernel) (by decide +kernel)
set_option maxRecDepth 20000 in
theorem gX9_read_X9_finding : GoodIn wsX9_read (wsV RX9 65 RX9 yX9_finding wsX9_finding) := goodIn_app (goodIn_of _ (by decide +kernel)) ggX9_read_X9_finding
set_option maxRecDepth 20000 in
theorem ggX9_read_X0_nearest : GoodIn wsX9_read wsX0_nearest := goodIn_r _ [18, 19, 20, 21, 6, 22, 23, 24, 25, 26, 27, 28, 29, 46] (by decide +kernel) (by decide +kernel)
set_option maxRecDepth 20000 in
theorem gX9_read_X0_nearest : GoodIn wsX9_read (wsV RX9 123 RX0 yX0_nearest wsX0_nearest) := goodIn_app (goodIn_of _ (by decide +kernel)) ggX9_read_X0_nearest
theorem dX9_read_0 : decode cX9_read 0 = .ok (.iload_n 1, 1) := by decide +kernel
theorem dX9_read_1 : decode cX9_read 1 = .ok (.invokestatic 58, 3) := by decide +kernel
theorem dX9_read_4 : decode cX9_read 4 = .ok (.ifCond .ne 10, 3) := by decide +kernel
theorem dX9_read_7 : decode cX9_read 7 = .ok (.aload_n 0, 1) := by decide +kernel
theorem dX9_read_8 : decode cX9_read 8 = .ok (.ldc 64, 2) := by decide +kernel
theorem dX9_read_10 : decode cX9_read 10 = .ok (.invokevirtual 65, 3) := by decide +kernel
theorem dX9_read_13 : decode cX9_read 13 = .ok (.ireturn, 1) := by decide +kernel
theorem dX9_read_14 : decode cX9_read 14 = .ok (.aload_n 0, 1) := by decide +kernel
theorem dX9_read_15 : decode cX9_read 15 = .ok (.getfield 10, 3) := by decide +kernel
theorem dX9_read_18 : decode cX9_read 18 = .ok (.getfield 112, 3) := by decide +kernel
theorem dX9_read_21 : decode cX9_read 21 = .ok (.iload_n 1, 1) := by decide +kernel
theorem dX9_read_22 : decode cX9_read 22 = .ok (.invokevirtual 123, 3) := by decide +kernel
theorem dX9_read_25 : decode cX9_read 25 = .ok (.istore_n 2, 1) := by decide +kernel
theorem dX9_read_26 : decode cX9_read 26 = .ok (.iload_n 2, 1) := by decide +kernel
theorem dX9_read_27 : decode cX9_read 27 = .ok (.ifCond .ge 12, 3) := by decide +kernel
theorem dX9_read_30 : decode cX9_read 30 = .ok (.aload_n 0, 1) := by decide +kernel
theorem dX9_read_31 : decode cX9_read 31 = .ok (.ldc 100, 2) := by decide +kernel
theorem dX9_read_33 : decode cX9_read 33 = .ok (.invokevirtual 65, 3) := by decide +kernel
theorem dX9_read_36 : decode cX9_read 36 = .ok (.goto 4, 3) := by decide +kernel
theorem dX9_read_39 : decode cX9_read 39 = .ok (.iload_n 2, 1) := by decide +kernel
theorem dX9_read_40 : decode cX9_read 40 = .ok (.ireturn, 1) := by decide +kernel
set_option maxRecDepth 20000 in
theorem ggX9_doubts_X3_isForm : GoodIn wsX9_doubts wsX3_isForm := goodIn_r _ [7] (by decide +kernel) (by decide +kernel)
set_option maxRecDepth 20000 in
theorem gX9_doubts_X3_isForm : GoodIn wsX9_doubts (va_wsS RX9 58 yX3_isForm wsX3_isForm) := goodIn_app (goodIn_of _ (by decide +kernel)) ggX9_doubts_X3_isForm
set_option maxRecDepth 20000 in
theorem ggX9_doubts_X9_finding : GoodIn wsX9_doubts wsX9_finding := goodIn_r _ [12, 1, 13, 41, 42, 43, 44, 45, 46, 47, 48, 49] (by decide +kernel) (by decide +kernel)
set_option maxRecDepth 20000 in
theorem gX9_doubts_X9_finding : GoodIn wsX9_doubts (wsV RX9 65 RX9 yX9_finding wsX9_finding) := goodIn_app (goodIn_of _ (by decide +kernel)) ggX9_doubts_X9_finding
set_option maxRecDepth 20000 in
theorem ggX9_doubts_X0_nearest : GoodIn wsX9_doubts wsX0_nearest := goodIn_r _ [18, 19, 20, 21, 6, 22, 23, 24, 25, 26, 27, 28, 29, 57] (by decide +kernel) (by decide +kernel)
set_option maxRecDepth 20000 in
theorem gX9_doubts_X0_nearest : GoodIn wsX9_doubts (wsV RX9 123 RX0 yX0_nearest wsX0_nearest) := goodIn_app (goodIn_of _ (by decide +kernel)) ggX9_doubts_X0_nearest
set_option maxRecDepth 20000 in
theorem ggX9_doubts_X0_countAsNear : GoodIn wsX9_doubts wsX0_countAsNear := goodIn_r _ [33, 19, 34, 35, 36, 17, 37, 38, 39, 40, 20, 21, 6, 22, 23, 24, 25, 26, 27, 28, 29, 57] (by decide +kernel) (by decide +kernel)
set_option maxRecDepth 20000 in
theorem gX9_doubts_X0_countAsNear : GoodIn wsX9_doubts (wsV RX9 126 RX0 yX0_countAsNear wsX0_countAsNear) := goodIn_app (goodIn_of _ (by decide +kernel)) ggX9_doubts_X0_countAsNear
theorem dX9_doubts_0 : decode cX9_doubts 0 = .ok (.iload_n 1, 1) := by decide +kernel
theorem dX9_doubts_1 : decode cX9_doubts 1 = .ok (.invokestatic 58, 3) := by decide +kernel
theorem dX9_doubts_4 : decode cX9_doubts 4 = .ok (.ifCond .ne 10, 3) := by decide +kernel
theorem dX9_doubts_7 : decode cX9_doubts 7 = .ok (.aload_n 0, 1) := by decide +kernel
theorem dX9_doubts_8 : decode cX9_doubts 8 = .ok (.ldc 64, 2) := by decide +kernel
theorem dX9_doubts_10 : decode cX9_doubts 10 = .ok (.invokevirtual 65, 3) := by decide +kernel
theorem dX9_doubts_13 : decode cX9_doubts 13 = .ok (.ireturn, 1) := by decide +kernel
theorem dX9_doubts_14 : decode cX9_doubts 14 = .ok (.aload_n 0, 1) := by decide +kernel
theorem dX9_doubts_15 : decode cX9_doubts 15 = .ok (.getfield 10, 3) := by decide +kernel
theorem dX9_doubts_18 : decode cX9_doubts 18 = .ok (.getfield 112, 3) := by decide +kernel
theorem dX9_doubts_21 : decode cX9_doubts 21 = .ok (.iload_n 1, 1) := by decide +kernel
theorem dX9_doubts_22 : decode cX9_doubts 22 = .ok (.invokevirtual 123, 3) := by decide +kernel
theorem dX9_doubts_25 : decode cX9_doubts 25 = .ok (.istore_n 2, 1) := by decide +kernel
theorem dX9_doubts_26 : decode cX9_doubts 26 = .ok (.iload_n 2, 1) := by decide +kernel
theorem dX9_doubts_27 : decode cX9_doubts 27 = .ok (.ifCond .ge 12, 3) := by decide +kernel
theorem dX9_doubts_30 : decode cX9_doubts 30 = .ok (.aload_n 0, 1) := by decide +kernel
theorem dX9_doubts_31 : decode cX9_doubts 31 = .ok (.ldc 100, 2) := by decide +kernel
theorem dX9_doubts_33 : decode cX9_doubts 33 = .ok (.invokevirtual 65, 3) := by decide +kernel
theorem dX9_doubts_36 : decode cX9_doubts 36 = .ok (.goto 15, 3) := by decide +kernel
theorem dX9_doubts_39 : decode cX9_doubts 39 = .ok (.aload_n 0, 1) := by decide +kernel
theorem dX9_doubts_40 : decode cX9_doubts 40 = .ok (.getfield 10, 3) := by decide +kernel
theorem dX9_doubts_43 : decode cX9_doubts 43 = .ok (.getfield 112, 3) := by decide +kernel
theorem dX9_doubts_46 : decode cX9_doubts 46 = .ok (.iload_n 1, 1) := by decide +kernel
theorem dX9_doubts_47 : decode cX9_doubts 47 = .ok (.iload_n 2, 1) := by decide +kernel
theorem dX9_doubts_48 : decode cX9_doubts 48 = .ok (.invokevirtual 126, 3) := by decide +kernel
theorem dX9_doubts_51 : decode cX9_doubts 51 = .ok (.ireturn, 1) := by decide +kernel
set_option maxRecDepth 20000 in
theorem ggX9_apart_X0_leastBetweenTwo : GoodIn wsX9_apart wsX0_leastBetweenTwo := goodIn_r _ [7, 8, 9, 10, 11, 12, 13, 14, 15, 16, 17, 18, 19, 43] (by decide +kernel) (by decide +kernel)
set_option maxRecDepth 20000 in
theorem gX9_apart_X0_leastBetweenTwo : GoodIn wsX9_apart (wsV RX9 130 RX0 yX0_leastBetweenTwo wsX0_leastBetweenTwo) := goodIn_app (goodIn_of _ (by decide +kernel)) ggX9_apart_X0_leastBetweenTwo
set_option maxRecDepth 20000 in
theorem ggX9_apart_X9_finding : GoodIn wsX9_apart wsX9_finding := goodIn_r _ [24, 25, 26, 27, 28, 29, 30, 31, 32, 33, 34, 35] (by decide +kernel) (by decide +kernel)
set_option maxRecDepth 20000 in
theorem gX9_apart_X9_finding : GoodIn wsX9_apart (wsV RX9 65 RX9 yX9_finding wsX9_finding) := goodIn_app (goodIn_of _ (by decide +kernel)) ggX9_apart_X9_finding
theorem dX9_apart_0 : decode cX9_apart 0 = .ok (.aload_n 0, 1) := by decide +kernel
theorem dX9_apart_1 : decode cX9_apart 1 = .ok (.getfield 10, 3) := by decide +kernel
theorem dX9_apart_4 : decode cX9_apart 4 = .ok (.getfield 112, 3) := by decide +kernel
theorem dX9_apart_7 : decode cX9_apart 7 = .ok (.invokevirtual 130, 3) := by decide +kernel
theorem dX9_apart_10 : decode cX9_apart 10 = .ok (.istore_n 1, 1) := by decide +kernel
theorem dX9_apart_11 : decode cX9_apart 11 = .ok (.iload_n 1, 1) := by decide +kernel
theorem dX9_apart_12 : decode cX9_apart 12 = .ok (.ifCond .ge 12, 3) := by decide +kernel
theorem dX9_apart_15 : decode cX9_apart 15 = .ok (.aload_n 0, 1) := by decide +kernel
theorem dX9_apart_16 : decode cX9_apart 16 = .ok (.ldc 100, 2) := by decide +kernel
theorem dX9_apart_18 : decode cX9_apart 18 = .ok (.invokevirtual 65, 3) := by decide +kernel
theorem dX9_apart_21 : decode cX9_apart 21 = .ok (.goto 4, 3) := by decide +kernel
theorem dX9_apart_24 : decode cX9_apart 24 = .ok (.iload_n 1, 1) := by decide +kernel
theorem dX9_apart_25 : decode cX9_apart 25 = .ok (.ireturn, 1) := by decide +kernel
set_option maxRecDepth 20000 in
theorem ggX9_stay_X0_signsThatStay : GoodIn wsX9_stay wsX0_signsThatStay := goodIn_r _ [6, 7, 8, 9, 10, 5, 11, 12, 13, 14, 15, 16, 17, 18, 19, 20, 21, 22, 39] (by decide +kernel) (by decide +kernel)
set_option maxRecDepth 20000 in
theorem gX9_stay_X0_signsThatStay : GoodIn wsX9_stay (wsV RX9 138 RX0 yX0_signsThatStay wsX0_signsThatStay) := goodIn_app (goodIn_of _ (by decide +kernel)) ggX9_stay_X0_signsThatStay
theorem dX9_stay_0 : decode cX9_stay 0 = .ok (.aload_n 0, 1) := by decide +kernel
theorem dX9_stay_1 : decode cX9_stay 1 = .ok (.getfield 10, 3) := by decide +kernel
theorem dX9_stay_4 : decode cX9_stay 4 = .ok (.getfield 112, 3) := by decide +kernel
theorem dX9_stay_7 : decode cX9_stay 7 = .ok (.aload_n 0, 1) := by decide +kernel
theorem dX9_stay_8 : decode cX9_stay 8 = .ok (.getfield 10, 3) := by decide +kernel
theorem dX9_stay_11 : decode cX9_stay 11 = .ok (.getfield 134, 3) := by decide +kernel
theorem dX9_stay_14 : decode cX9_stay 14 = .ok (.invokevirtual 138, 3) := by decide +kernel
theorem dX9_stay_17 : decode cX9_stay 17 = .ok (.ireturn, 1) := by decide +kernel
set_option maxRecDepth 20000 in
theorem ggX9_forge_X0_isSign : GoodIn wsX9_forge wsX0_isSign := goodIn_r _ [8] (by decide +kernel) (by decide +kernel)
set_option maxRecDepth 20000 in
theorem gX9_forge_X0_isSign : GoodIn wsX9_forge (va_wsS RX9 107 yX0_isSign wsX0_isSign) := goodIn_app (goodIn_of _ (by decide +kernel)) ggX9_forge_X0_isSign
set_option maxRecDepth 20000 in
theorem ggX9_forge_X9_finding : GoodIn wsX9_forge wsX9_finding := goodIn_r _ [13, 1, 14, 49, 50, 51, 52, 53, 54, 55, 56, 57] (by decide +kernel) (by decide +kernel)
set_option maxRecDepth 20000 in
theorem gX9_forge_X9_finding : GoodIn wsX9_forge (wsV RX9 65 RX9 yX9_finding wsX9_finding) := goodIn_app (goodIn_of _ (by decide +kernel)) ggX9_forge_X9_finding
set_option maxRecDepth 20000 in
theorem ggX9_forge_X0_formAt : GoodIn wsX9_forge wsX0_formAt := goodIn_r _ [18, 19, 20, 6, 7, 8, 65] (by decide +kernel) (by decide +kernel)
set_option maxRecDepth 20000 in
theorem gX9_forge_X0_formAt : GoodIn wsX9_forge (wsV RX9 116 RX0 yX0_formAt wsX0_formAt) := goodIn_app (goodIn_of _ (by decide +kernel)) ggX9_forge_X0_formAt
set_option maxRecDepth 20000 in
theorem ggX9_forge_X0_fewestToForge : GoodIn wsX9_forge wsX0_fewestToForge := goodIn_r _ [24, 25, 16, 17, 7, 18, 19, 20, 6, 8, 26, 27, 28, 29, 30, 31, 32, 33, 34, 35, 36, 37, 38, 39, 40, 41, 42, 43, 44, 45, 46, 47, 48, 65] (by decide +kernel) (by decide +kernel)
set_option maxRecDepth 20000 in
theorem gX9_forge_X0_fewestToForge : GoodIn wsX9_forge (wsV RX9 142 RX0 yX0_fewestToForge wsX0_fewestToForge) := goodIn_app (goodIn_of _ (by decide +kernel)) ggX9_forge_X0_fewestToForge
theorem dX9_forge_0 : decode cX9_forge 0 = .ok (.iload_n 1, 1) := by decide +kernel
theorem dX9_forge_1 : decode cX9_forge 1 = .ok (.invokestatic 107, 3) := by decide +kernel
theorem dX9_forge_4 : decode cX9_forge 4 = .ok (.ifCond .eq 15, 3) := by decide +kernel
theorem dX9_forge_7 : decode cX9_forge 7 = .ok (.iload_n 2, 1) := by decide +kernel
theorem dX9_forge_8 : decode cX9_forge 8 = .ok (.invokestatic 107, 3) := by decide +kernel
theorem dX9_forge_11 : decode cX9_forge 11 = .ok (.ifCond .eq 8, 3) := by decide +kernel
theorem dX9_forge_14 : decode cX9_forge 14 = .ok (.iload_n 1, 1) := by decide +kernel
theorem dX9_forge_15 : decode cX9_forge 15 = .ok (.iload_n 2, 1) := by decide +kernel
theorem dX9_forge_16 : decode cX9_forge 16 = .ok (.if_icmp .ne 10, 3) := by decide +kernel
theorem dX9_forge_19 : decode cX9_forge 19 = .ok (.aload_n 0, 1) := by decide +kernel
theorem dX9_forge_20 : decode cX9_forge 20 = .ok (.ldc 64, 2) := by decide +kernel
theorem dX9_forge_22 : decode cX9_forge 22 = .ok (.invokevirtual 65, 3) := by decide +kernel
theorem dX9_forge_25 : decode cX9_forge 25 = .ok (.ireturn, 1) := by decide +kernel
theorem dX9_forge_26 : decode cX9_forge 26 = .ok (.aload_n 0, 1) := by decide +kernel
theorem dX9_forge_27 : decode cX9_forge 27 = .ok (.getfield 10, 3) := by decide +kernel
theorem dX9_forge_30 : decode cX9_forge 30 = .ok (.getfield 112, 3) := by decide +kernel
theorem dX9_forge_33 : decode cX9_forge 33 = .ok (.iload_n 1, 1) := by decide +kernel
theorem dX9_forge_34 : decode cX9_forge 34 = .ok (.invokevirtual 116, 3) := by decide +kernel
theorem dX9_forge_37 : decode cX9_forge 37 = .ok (.ifCond .eq 17, 3) := by decide +kernel
theorem dX9_forge_40 : decode cX9_forge 40 = .ok (.aload_n 0, 1) := by decide +kernel
theorem dX9_forge_41 : decode cX9_forge 41 = .ok (.getfield 10, 3) := by decide +kernel
theorem dX9_forge_44 : decode cX9_forge 44 = .ok (.getfield 112, 3) := by decide +kernel
theorem dX9_forge_47 : decode cX9_forge 47 = .ok (.iload_n 2, 1) := by decide +kernel
theorem dX9_forge_48 : decode cX9_forge 48 = .ok (.invokevirtual 116, 3) := by decide +kernel
theorem dX9_forge_51 : decode cX9_forge 51 = .ok (.ifCond .ne 10, 3) := by decide +kernel
theorem dX9_forge_54 : decode cX9_forge 54 = .ok (.aload_n 0, 1) := by decide +kernel
theorem dX9_forge_55 : decode cX9_forge 55 = .ok (.ldc 141, 2) := by decide +kernel
theorem dX9_forge_57 : decode cX9_forge 57 = .ok (.invokevirtual 65, 3) := by decide +kernel
theorem dX9_forge_60 : decode cX9_forge 60 = .ok (.ireturn, 1) := by decide +kernel
theorem dX9_forge_61 : decode cX9_forge 61 = .ok (.aload_n 0, 1) := by decide +kernel
theorem dX9_forge_62 : decode cX9_forge 62 = .ok (.getfield 10, 3) := by decide +kernel
theorem dX9_forge_65 : decode cX9_forge 65 = .ok (.getfield 112, 3) := by decide +kernel
theorem dX9_forge_68 : decode cX9_forge 68 = .ok (.iload_n 1, 1) := by decide +kernel
theorem dX9_forge_69 : decode cX9_forge 69 = .ok (.iload_n 2, 1) := by decide +kernel
theorem dX9_forge_70 : decode cX9_forge 70 = .ok (.invokevirtual 142, 3) := by decide +kernel
theorem dX9_forge_73 : decode cX9_forge 73 = .ok (.istore_n 3, 1) := by decide +kernel
theorem dX9_forge_74 : decode cX9_forge 74 = .ok (.iload_n 3, 1) := by decide +kernel
theorem dX9_forge_75 : decode cX9_forge 75 = .ok (.ifCond .ge 12, 3) := by decide +kernel
theorem dX9_forge_78 : decode cX9_forge 78 = .ok (.aload_n 0, 1) := by decide +kernel
theorem dX9_forge_79 : decode cX9_forge 79 = .ok (.ldc 100, 2) := by decide +kernel
theorem dX9_forge_81 : decode cX9_forge 81 = .ok (.invokevirtual 65, 3) := by decide +kernel
theorem dX9_forge_84 : decode cX9_forge 84 = .ok (.goto 4, 3) := by decide +kernel
theorem dX9_forge_87 : decode cX9_forge 87 = .ok (.iload_n 3, 1) := by decide +kernel
theorem dX9_forge_88 : decode cX9_forge 88 = .ok (.ireturn, 1) := by decide +kernel
set_option maxRecDepth 20000 in
theorem ggX9_letter_X4_isKind : GoodIn wsX9_letter wsX4_isKind := goodIn_r _ [7] (by decide +kernel) (by decide +kernel)
set_option maxRecDepth 20000 in
theorem gX9_letter_X4_isKind : GoodIn wsX9_letter (va_wsS RX9 145 yX4_isKind wsX4_isKind) := goodIn_app (goodIn_of _ (by decide +kernel)) ggX9_letter_X4_isKind
set_option maxRecDepth 20000 in
theorem ggX9_letter_X3_isForm : GoodIn wsX9_letter wsX3_isForm := goodIn_r _ [11] (by decide +kernel) (by decide +kernel)
set_option maxRecDepth 20000 in
theorem gX9_letter_X3_isForm : GoodIn wsX9_letter (va_wsS RX9 58 yX3_isForm wsX3_isForm) := goodIn_app (goodIn_of _ (by decide +kernel)) ggX9_letter_X3_isForm
set_option maxRecDepth 20000 in
theorem ggX9_letter_X9_finding : GoodIn wsX9_letter wsX9_finding := goodIn_r _ [16, 1, 17, 32, 33, 34, 35, 36, 37, 38, 39, 40] (by decide +kernel) (by decide +kernel)
set_option maxRecDepth 20000 in
theorem gX9_letter_X9_finding : GoodIn wsX9_letter (wsV RX9 65 RX9 yX9_finding wsX9_finding) := goodIn_app (goodIn_of _ (by decide +kernel)) ggX9_letter_X9_finding
set_option maxRecDepth 20000 in
theorem ggX9_letter_X5_isFull : GoodIn wsX9_letter wsX5_isFull := goodIn_r _ [22, 23, 41, 42, 43, 44, 45, 46, 47] (by decide +kernel) (by decide +kernel)
set_option maxRecDepth 20000 in
theorem gX9_letter_X5_isFull : GoodIn wsX9_letter (wsV RX9 150 RX5 yX5_isFull wsX5_isFull) := goodIn_app (goodIn_of _ (by decide +kernel)) ggX9_letter_X5_isFull
set_option maxRecDepth 20000 in
theorem ggX9_letter_X5_add : GoodIn wsX9_letter wsX5_add := goodIn_r _ [27, 28, 23, 29, 30, 31, 19, 20, 21, 22, 41, 42, 43, 44, 45, 46, 47] (by decide +kernel) (by decide +kernel)
set_option maxRecDepth 20000 in
theorem gX9_letter_X5_add : GoodIn wsX9_letter (wsV RX9 155 RX5 yX5_add wsX5_add) := goodIn_app (goodIn_of _ (by decide +kernel)) ggX9_letter_X5_add
theorem dX9_letter_0 : decode cX9_letter 0 = .ok (.iload_n 1, 1) := by decide +kernel
theorem dX9_letter_1 : decode cX9_letter 1 = .ok (.invokestatic 145, 3) := by decide +kernel
theorem dX9_letter_4 : decode cX9_letter 4 = .ok (.ifCond .eq 10, 3) := by decide +kernel
theorem dX9_letter_7 : decode cX9_letter 7 = .ok (.iload_n 2, 1) := by decide +kernel
theorem dX9_letter_8 : decode cX9_letter 8 = .ok (.invokestatic 58, 3) := by decide +kernel
theorem dX9_letter_11 : decode cX9_letter 11 = .ok (.ifCond .ne 10, 3) := by decide +kernel
theorem dX9_letter_14 : decode cX9_letter 14 = .ok (.aload_n 0, 1) := by decide +kernel
theorem dX9_letter_15 : decode cX9_letter 15 = .ok (.ldc 64, 2) := by decide +kernel
theorem dX9_letter_17 : decode cX9_letter 17 = .ok (.invokevirtual 65, 3) := by decide +kernel
theorem dX9_letter_20 : decode cX9_letter 20 = .ok (.ireturn, 1) := by decide +kernel
theorem dX9_letter_21 : decode cX9_letter 21 = .ok (.aload_n 0, 1) := by decide +kernel
theorem dX9_letter_22 : decode cX9_letter 22 = .ok (.getfield 10, 3) := by decide +kernel
theorem dX9_letter_25 : decode cX9_letter 25 = .ok (.invokevirtual 150, 3) := by decide +kernel
theorem dX9_letter_28 : decode cX9_letter 28 = .ok (.ifCond .eq 10, 3) := by decide +kernel
theorem dX9_letter_31 : decode cX9_letter 31 = .ok (.aload_n 0, 1) := by decide +kernel
theorem dX9_letter_32 : decode cX9_letter 32 = .ok (.ldc 154, 2) := by decide +kernel
theorem dX9_letter_34 : decode cX9_letter 34 = .ok (.invokevirtual 65, 3) := by decide +kernel
theorem dX9_letter_37 : decode cX9_letter 37 = .ok (.ireturn, 1) := by decide +kernel
theorem dX9_letter_38 : decode cX9_letter 38 = .ok (.aload_n 0, 1) := by decide +kernel
theorem dX9_letter_39 : decode cX9_letter 39 = .ok (.getfield 10, 3) := by decide +kernel
theorem dX9_letter_42 : decode cX9_letter 42 = .ok (.iload_n 1, 1) := by decide +kernel
theorem dX9_letter_43 : decode cX9_letter 43 = .ok (.iload_n 2, 1) := by decide +kernel
theorem dX9_letter_44 : decode cX9_letter 44 = .ok (.bipush 6, 2) := by decide +kernel
theorem dX9_letter_46 : decode cX9_letter 46 = .ok (.invokevirtual 155, 3) := by decide +kernel
theorem dX9_letter_49 : decode cX9_letter 49 = .ok (.ireturn, 1) := by decide +kernel
set_option maxRecDepth 20000 in
theorem ggX9_of_X5_has : GoodIn wsX9_of wsX5_has := goodIn_r _ [7, 8, 94, 95, 96, 97, 98, 99, 100] (by decide +kernel) (by decide +kernel)
set_option maxRecDepth 20000 in
theorem gX9_of_X5_has : GoodIn wsX9_of (wsV RX9 158 RX5 yX5_has wsX5_has) := goodIn_app (goodIn_of _ (by decide +kernel)) ggX9_of_X5_has
set_option maxRecDepth 20000 in
theorem ggX9_of_X9_finding : GoodIn wsX9_of wsX9_finding := goodIn_r _ [13, 2, 14, 85, 86, 87, 88, 89, 90, 91, 92, 93] (by decide +kernel) (by decide +kernel)
set_option maxRecDepth 20000 in
theorem gX9_of_X9_finding : GoodIn wsX9_of (wsV RX9 65 RX9 yX9_finding wsX9_finding) := goodIn_app (goodIn_of _ (by decide +kernel)) ggX9_of_X9_finding
set_option maxRecDepth 20000 in
theorem ggX9_of_X5_lastsOf : GoodIn wsX9_of wsX5_lastsOf := goodIn_r _ [18, 19, 20, 21, 22, 23, 24, 94, 95, 96, 97, 98, 99, 100] (by decide +kernel) (by decide +kernel)
set_option maxRecDepth 20000 in
theorem gX9_of_X5_lastsOf : GoodIn wsX9_of (wsV RX9 170 RX5 yX5_lastsOf wsX5_lastsOf) := goodIn_app (goodIn_of _ (by decide +kernel)) ggX9_of_X5_lastsOf
set_option maxRecDepth 20000 in
theorem ggX9_of_X5_shownAt : GoodIn wsX9_of wsX5_shownAt := goodIn_r _ [28, 29, 30, 19, 31, 16, 17, 6, 18, 20, 21, 22, 23, 24, 32, 33, 34, 94, 95, 96, 97, 98, 99, 100] (by decide +kernel) (by decide +kernel)
set_option maxRecDepth 20000 in
theorem gX9_of_X5_shownAt : GoodIn wsX9_of (wsV RX9 176 RX5 yX5_shownAt wsX5_shownAt) := goodIn_app (goodIn_of _ (by decide +kernel)) ggX9_of_X5_shownAt
set_option maxRecDepth 20000 in
theorem ggX9_of_X5_feetOf : GoodIn wsX9_of wsX5_feetOf := goodIn_r _ [38, 19, 29, 39, 40, 23, 41, 42, 43, 44, 45, 46, 47, 48, 49, 50, 51, 52, 53, 54, 55, 56, 57, 58, 59, 60, 61, 62, 63, 64, 65, 66, 67, 94, 95, 96, 97, 98, 99, 100] (by decide +kernel) (by decide +kernel)
set_option maxRecDepth 20000 in
theorem gX9_of_X5_feetOf : GoodIn wsX9_of (wsV RX9 179 RX5 yX5_feetOf wsX5_feetOf) := goodIn_app (goodIn_of _ (by decide +kernel)) ggX9_of_X5_feetOf
set_option maxRecDepth 20000 in
theorem ggX9_of_X0_nearest : GoodIn wsX9_of wsX0_nearest := goodIn_r _ [72, 73, 74, 75, 51, 76, 67, 43, 44, 45, 46, 47, 48, 101] (by decide +kernel) (by decide +kernel)
set_option maxRecDepth 20000 in
theorem gX9_of_X0_nearest : GoodIn wsX9_of (wsV RX9 123 RX0 yX0_nearest wsX0_nearest) := goodIn_app (goodIn_of _ (by decide +kernel)) ggX9_of_X0_nearest
set_option maxRecDepth 20000 in
theorem ggX9_of_X5_seenAs : GoodIn wsX9_of wsX5_seenAs := goodIn_r _ [80, 81, 82, 83, 26, 27, 6, 28, 29, 30, 19, 31, 16, 17, 18, 20, 21, 22, 23, 24, 32, 33, 34, 84, 69, 70, 71, 72, 73, 74, 75, 51, 76, 67, 43, 44, 45, 46, 47, 48, 94, 95, 96, 97, 98, 99, 100, 101] (by decide +kernel) (by decide +kernel)
set_option maxRecDepth 20000 in
theorem gX9_of_X5_seenAs : GoodIn wsX9_of (wsV RX9 182 RX5 yX5_seenAs wsX5_seenAs) := goodIn_app (goodIn_of _ (by decide +kernel)) ggX9_of_X5_seenAs
theorem dX9_of_0 : decode cX9_of 0 = .ok (.aload_n 0, 1) := by decide +kernel
theorem dX9_of_1 : decode cX9_of 1 = .ok (.getfield 10, 3) := by decide +kernel
theorem dX9_of_4 : decode cX9_of 4 = .ok (.iload_n 1, 1) := by decide +kernel
theorem dX9_of_5 : decode cX9_of 5 = .ok (.invokevirtual 158, 3) := by decide +kernel
theorem dX9_of_8 : decode cX9_of 8 = .ok (.ifCond .ne 10, 3) := by decide +kernel
theorem dX9_of_11 : decode cX9_of 11 = .ok (.aload_n 0, 1) := by decide +kernel
theorem dX9_of_12 : decode cX9_of 12 = .ok (.ldc 64, 2) := by decide +kernel
theorem dX9_of_14 : decode cX9_of 14 = .ok (.invokevirtual 65, 3) := by decide +kernel
theorem dX9_of_17 : decode cX9_of 17 = .ok (.ireturn, 1) := by decide +kernel
theorem dX9_of_18 : decode cX9_of 18 = .ok (.iload_n 2, 1) := by decide +kernel
theorem dX9_of_19 : decode cX9_of 19 = .ok (.tableswitch 138 0 7 #[45, 55, 65, 75, 84, 100, 109, 129], 45) := by decide +kernel
theorem dX9_of_64 : decode cX9_of 64 = .ok (.aload_n 0, 1) := by decide +kernel
theorem dX9_of_65 : decode cX9_of 65 = .ok (.getfield 10, 3) := by decide +kernel
theorem dX9_of_68 : decode cX9_of 68 = .ok (.getfield 161, 3) := by decide +kernel
theorem dX9_of_71 : decode cX9_of 71 = .ok (.iload_n 1, 1) := by decide +kernel
theorem dX9_of_72 : decode cX9_of 72 = .ok (.iaload, 1) := by decide +kernel
theorem dX9_of_73 : decode cX9_of 73 = .ok (.ireturn, 1) := by decide +kernel
theorem dX9_of_74 : decode cX9_of 74 = .ok (.aload_n 0, 1) := by decide +kernel
theorem dX9_of_75 : decode cX9_of 75 = .ok (.getfield 10, 3) := by decide +kernel
theorem dX9_of_78 : decode cX9_of 78 = .ok (.getfield 164, 3) := by decide +kernel
theorem dX9_of_81 : decode cX9_of 81 = .ok (.iload_n 1, 1) := by decide +kernel
theorem dX9_of_82 : decode cX9_of 82 = .ok (.iaload, 1) := by decide +kernel
theorem dX9_of_83 : decode cX9_of 83 = .ok (.ireturn, 1) := by decide +kernel
theorem dX9_of_84 : decode cX9_of 84 = .ok (.aload_n 0, 1) := by decide +kernel
theorem dX9_of_85 : decode cX9_of 85 = .ok (.getfield 10, 3) := by decide +kernel
theorem dX9_of_88 : decode cX9_of 88 = .ok (.getfield 167, 3) := by decide +kernel
theorem dX9_of_91 : decode cX9_of 91 = .ok (.iload_n 1, 1) := by decide +kernel
theorem dX9_of_92 : decode cX9_of 92 = .ok (.iaload, 1) := by decide +kernel
theorem dX9_of_93 : decode cX9_of 93 = .ok (.ireturn, 1) := by decide +kernel
theorem dX9_of_94 : decode cX9_of 94 = .ok (.aload_n 0, 1) := by decide +kernel
theorem dX9_of_95 : decode cX9_of 95 = .ok (.getfield 10, 3) := by decide +kernel
theorem dX9_of_98 : decode cX9_of 98 = .ok (.iload_n 1, 1) := by decide +kernel
theorem dX9_of_99 : decode cX9_of 99 = .ok (.invokevirtual 170, 3) := by decide +kernel
theorem dX9_of_102 : decode cX9_of 102 = .ok (.ireturn, 1) := by decide +kernel
theorem dX9_of_103 : decode cX9_of 103 = .ok (.aload_n 0, 1) := by decide +kernel
theorem dX9_of_104 : decode cX9_of 104 = .ok (.getfield 10, 3) := by decide +kernel
theorem dX9_of_107 : decode cX9_of 107 = .ok (.iload_n 1, 1) := by decide +kernel
theorem dX9_of_108 : decode cX9_of 108 = .ok (.aload_n 0, 1) := by decide +kernel
theorem dX9_of_109 : decode cX9_of 109 = .ok (.getfield 10, 3) := by decide +kernel
theorem dX9_of_112 : decode cX9_of 112 = .ok (.getfield 173, 3) := by decide +kernel
theorem dX9_of_115 : decode cX9_of 115 = .ok (.invokevirtual 176, 3) := by decide +kernel
theorem dX9_of_118 : decode cX9_of 118 = .ok (.ireturn, 1) := by decide +kernel
theorem dX9_of_119 : decode cX9_of 119 = .ok (.aload_n 0, 1) := by decide +kernel
theorem dX9_of_120 : decode cX9_of 120 = .ok (.getfield 10, 3) := by decide +kernel
theorem dX9_of_123 : decode cX9_of 123 = .ok (.iload_n 1, 1) := by decide +kernel
theorem dX9_of_124 : decode cX9_of 124 = .ok (.invokevirtual 179, 3) := by decide +kernel
theorem dX9_of_127 : decode cX9_of 127 = .ok (.ireturn, 1) := by decide +kernel
theorem dX9_of_128 : decode cX9_of 128 = .ok (.aload_n 0, 1) := by decide +kernel
theorem dX9_of_129 : decode cX9_of 129 = .ok (.getfield 10, 3) := by decide +kernel
theorem dX9_of_132 : decode cX9_of 132 = .ok (.getfield 112, 3) := by decide +kernel
theorem dX9_of_135 : decode cX9_of 135 = .ok (.aload_n 0, 1) := by decide +kernel
theorem dX9_of_136 : decode cX9_of 136 = .ok (.getfield 10, 3) := by decide +kernel
theorem dX9_of_139 : decode cX9_of 139 = .ok (.getfield 164, 3) := by decide +kernel
theorem dX9_of_142 : decode cX9_of 142 = .ok (.iload_n 1, 1) := by decide +kernel
theorem dX9_of_143 : decode cX9_of 143 = .ok (.iaload, 1) := by decide +kernel
theorem dX9_of_144 : decode cX9_of 144 = .ok (.invokevirtual 123, 3) := by decide +kernel
theorem dX9_of_147 : decode cX9_of 147 = .ok (.ireturn, 1) := by decide +kernel
theorem dX9_of_148 : decode cX9_of 148 = .ok (.aload_n 0, 1) := by decide +kernel
theorem dX9_of_149 : decode cX9_of 149 = .ok (.getfield 10, 3) := by decide +kernel
theorem dX9_of_152 : decode cX9_of 152 = .ok (.iload_n 1, 1) := by decide +kernel
theorem dX9_of_153 : decode cX9_of 153 = .ok (.invokevirtual 182, 3) := by decide +kernel
theorem dX9_of_156 : decode cX9_of 156 = .ok (.ireturn, 1) := by decide +kernel
theorem dX9_of_157 : decode cX9_of 157 = .ok (.aload_n 0, 1) := by decide +kernel
theorem dX9_of_158 : decode cX9_of 158 = .ok (.ldc 64, 2) := by decide +kernel
theorem dX9_of_160 : decode cX9_of 160 = .ok (.invokevirtual 65, 3) := by decide +kernel
theorem dX9_of_163 : decode cX9_of 163 = .ok (.ireturn, 1) := by decide +kernel
set_option maxRecDepth 20000 in
theorem ggX9_set_X5_has : GoodIn wsX9_set wsX5_has := goodIn_r _ [7, 8, 31, 32, 33, 34, 35, 36, 37] (by decide +kernel) (by decide +kernel)
set_option maxRecDepth 20000 in
theorem gX9_set_X5_has : GoodIn wsX9_set (wsV RX9 158 RX5 yX5_has wsX5_has) := goodIn_app (goodIn_of _ (by decide +kernel)) ggX9_set_X5_has
set_option maxRecDepth 20000 in
theorem ggX9_set_X9_finding : GoodIn wsX9_set wsX9_finding := goodIn_r _ [13, 2, 14, 22, 23, 24, 25, 26, 27, 28, 29, 30] (by decide +kernel) (by decide +kernel)
set_option maxRecDepth 20000 in
theorem gX9_set_X9_finding : GoodIn wsX9_set (wsV RX9 65 RX9 yX9_finding wsX9_finding) := goodIn_app (goodIn_of _ (by decide +kernel)) ggX9_set_X9_finding
set_option maxRecDepth 20000 in
theorem ggX9_set_X3_isForm : GoodIn wsX9_set wsX3_isForm := goodIn_r _ [18] (by decide +kernel) (by decide +kernel)
set_option maxRecDepth 20000 in
theorem gX9_set_X3_isForm : GoodIn wsX9_set (va_wsS RX9 58 yX3_isForm wsX3_isForm) := goodIn_app (goodIn_of _ (by decide +kernel)) ggX9_set_X3_isForm
set_option maxRecDepth 20000 in
theorem ggX9_set_X9_isWithin : GoodIn wsX9_set wsX9_isWithin := goodIn_r _ [21] (by decide +kernel) (by decide +kernel)
set_option maxRecDepth 20000 in
theorem gX9_set_X9_isWithin : GoodIn wsX9_set (va_wsS RX9 93 yX9_isWithin wsX9_isWithin) := goodIn_app (goodIn_of _ (by decide +kernel)) ggX9_set_X9_isWithin
theorem dX9_set_0 : decode cX9_set 0 = .ok (.aload_n 0, 1) := by decide +kernel
theorem dX9_set_1 : decode cX9_set 1 = .ok (.getfield 10, 3) := by decide +kernel
theorem dX9_set_4 : decode cX9_set 4 = .ok (.iload_n 1, 1) := by decide +kernel
theorem dX9_set_5 : decode cX9_set 5 = .ok (.invokevirtual 158, 3) := by decide +kernel
theorem dX9_set_8 : decode cX9_set 8 = .ok (.ifCond .ne 10, 3) := by decide +kernel
theorem dX9_set_11 : decode cX9_set 11 = .ok (.aload_n 0, 1) := by decide +kernel
theorem dX9_set_12 : decode cX9_set 12 = .ok (.ldc 64, 2) := by decide +kernel
theorem dX9_set_14 : decode cX9_set 14 = .ok (.invokevirtual 65, 3) := by decide +kernel
theorem dX9_set_17 : decode cX9_set 17 = .ok (.ireturn, 1) := by decide +kernel
theorem dX9_set_18 : decode cX9_set 18 = .ok (.iload_n 2, 1) := by decide +kernel
theorem dX9_set_19 : decode cX9_set 19 = .ok (.iconst 1, 1) := by decide +kernel
theorem dX9_set_20 : decode cX9_set 20 = .ok (.if_icmp .ne 34, 3) := by decide +kernel
theorem dX9_set_23 : decode cX9_set 23 = .ok (.iload_n 3, 1) := by decide +kernel
theorem dX9_set_24 : decode cX9_set 24 = .ok (.invokestatic 58, 3) := by decide +kernel
theorem dX9_set_27 : decode cX9_set 27 = .ok (.ifCond .eq 27, 3) := by decide +kernel
theorem dX9_set_30 : decode cX9_set 30 = .ok (.aload_n 0, 1) := by decide +kernel
theorem dX9_set_31 : decode cX9_set 31 = .ok (.getfield 10, 3) := by decide +kernel
theorem dX9_set_34 : decode cX9_set 34 = .ok (.getfield 164, 3) := by decide +kernel
theorem dX9_set_37 : decode cX9_set 37 = .ok (.iload_n 1, 1) := by decide +kernel
theorem dX9_set_38 : decode cX9_set 38 = .ok (.iaload, 1) := by decide +kernel
theorem dX9_set_39 : decode cX9_set 39 = .ok (.istore 4, 2) := by decide +kernel
theorem dX9_set_41 : decode cX9_set 41 = .ok (.aload_n 0, 1) := by decide +kernel
theorem dX9_set_42 : decode cX9_set 42 = .ok (.getfield 10, 3) := by decide +kernel
theorem dX9_set_45 : decode cX9_set 45 = .ok (.getfield 164, 3) := by decide +kernel
theorem dX9_set_48 : decode cX9_set 48 = .ok (.iload_n 1, 1) := by decide +kernel
theorem dX9_set_49 : decode cX9_set 49 = .ok (.iload_n 3, 1) := by decide +kernel
theorem dX9_set_50 : decode cX9_set 50 = .ok (.iastore, 1) := by decide +kernel
theorem dX9_set_51 : decode cX9_set 51 = .ok (.iload 4, 2) := by decide +kernel
theorem dX9_set_53 : decode cX9_set 53 = .ok (.ireturn, 1) := by decide +kernel
theorem dX9_set_54 : decode cX9_set 54 = .ok (.iload_n 2, 1) := by decide +kernel
theorem dX9_set_55 : decode cX9_set 55 = .ok (.iconst 2, 1) := by decide +kernel
theorem dX9_set_56 : decode cX9_set 56 = .ok (.if_icmp .ne 36, 3) := by decide +kernel
theorem dX9_set_59 : decode cX9_set 59 = .ok (.iload_n 3, 1) := by decide +kernel
theorem dX9_set_60 : decode cX9_set 60 = .ok (.bipush 99, 2) := by decide +kernel
theorem dX9_set_62 : decode cX9_set 62 = .ok (.invokestatic 93, 3) := by decide +kernel
theorem dX9_set_65 : decode cX9_set 65 = .ok (.ifCond .eq 27, 3) := by decide +kernel
theorem dX9_set_68 : decode cX9_set 68 = .ok (.aload_n 0, 1) := by decide +kernel
theorem dX9_set_69 : decode cX9_set 69 = .ok (.getfield 10, 3) := by decide +kernel
theorem dX9_set_72 : decode cX9_set 72 = .ok (.getfield 167, 3) := by decide +kernel
theorem dX9_set_75 : decode cX9_set 75 = .ok (.iload_n 1, 1) := by decide +kernel
theorem dX9_set_76 : decode cX9_set 76 = .ok (.iaload, 1) := by decide +kernel
theorem dX9_set_77 : decode cX9_set 77 = .ok (.istore 4, 2) := by decide +kernel
theorem dX9_set_79 : decode cX9_set 79 = .ok (.aload_n 0, 1) := by decide +kernel
theorem dX9_set_80 : decode cX9_set 80 = .ok (.getfield 10, 3) := by decide +kernel
theorem dX9_set_83 : decode cX9_set 83 = .ok (.getfield 167, 3) := by decide +kernel
theorem dX9_set_86 : decode cX9_set 86 = .ok (.iload_n 1, 1) := by decide +kernel
theorem dX9_set_87 : decode cX9_set 87 = .ok (.iload_n 3, 1) := by decide +kernel
theorem dX9_set_88 : decode cX9_set 88 = .ok (.iastore, 1) := by decide +kernel
theorem dX9_set_89 : decode cX9_set 89 = .ok (.iload 4, 2) := by decide +kernel
theorem dX9_set_91 : decode cX9_set 91 = .ok (.ireturn, 1) := by decide +kernel
theorem dX9_set_92 : decode cX9_set 92 = .ok (.aload_n 0, 1) := by decide +kernel
theorem dX9_set_93 : decode cX9_set 93 = .ok (.ldc 64, 2) := by decide +kernel
theorem dX9_set_95 : decode cX9_set 95 = .ok (.invokevirtual 65, 3) := by decide +kernel
theorem dX9_set_98 : decode cX9_set 98 = .ok (.ireturn, 1) := by decide +kernel
set_option maxRecDepth 20000 in
theorem ggX9_turn_X5_has : GoodIn wsX9_turn wsX5_has := goodIn_r _ [7, 8, 28, 29, 30, 31, 32, 33, 34] (by decide +kernel) (by decide +kernel)
set_option maxRecDepth 20000 in
theorem gX9_turn_X5_has : GoodIn wsX9_turn (wsV RX9 158 RX5 yX5_has wsX5_has) := goodIn_app (goodIn_of _ (by decide +kernel)) ggX9_turn_X5_has
set_option maxRecDepth 20000 in
theorem ggX9_turn_X4_isKind : GoodIn wsX9_turn wsX4_isKind := goodIn_r _ [12] (by decide +kernel) (by decide +kernel)
set_option maxRecDepth 20000 in
theorem gX9_turn_X4_isKind : GoodIn wsX9_turn (va_wsS RX9 145 yX4_isKind wsX4_isKind) := goodIn_app (goodIn_of _ (by decide +kernel)) ggX9_turn_X4_isKind
set_option maxRecDepth 20000 in
theorem ggX9_turn_X9_finding : GoodIn wsX9_turn wsX9_finding := goodIn_r _ [17, 2, 18, 19, 20, 21, 22, 23, 24, 25, 26, 27] (by decide +kernel) (by decide +kernel)
set_option maxRecDepth 20000 in
theorem gX9_turn_X9_finding : GoodIn wsX9_turn (wsV RX9 65 RX9 yX9_finding wsX9_finding) := goodIn_app (goodIn_of _ (by decide +kernel)) ggX9_turn_X9_finding
theorem dX9_turn_0 : decode cX9_turn 0 = .ok (.aload_n 0, 1) := by decide +kernel
theorem dX9_turn_1 : decode cX9_turn 1 = .ok (.getfield 10, 3) := by decide +kernel
theorem dX9_turn_4 : decode cX9_turn 4 = .ok (.iload_n 1, 1) := by decide +kernel
theorem dX9_turn_5 : decode cX9_turn 5 = .ok (.invokevirtual 158, 3) := by decide +kernel
theorem dX9_turn_8 : decode cX9_turn 8 = .ok (.ifCond .eq 10, 3) := by decide +kernel
theorem dX9_turn_11 : decode cX9_turn 11 = .ok (.iload_n 2, 1) := by decide +kernel
theorem dX9_turn_12 : decode cX9_turn 12 = .ok (.invokestatic 145, 3) := by decide +kernel
theorem dX9_turn_15 : decode cX9_turn 15 = .ok (.ifCond .ne 10, 3) := by decide +kernel
theorem dX9_turn_18 : decode cX9_turn 18 = .ok (.aload_n 0, 1) := by decide +kernel
theorem dX9_turn_19 : decode cX9_turn 19 = .ok (.ldc 64, 2) := by decide +kernel
theorem dX9_turn_21 : decode cX9_turn 21 = .ok (.invokevirtual 65, 3) := by decide +kernel
theorem dX9_turn_24 : decode cX9_turn 24 = .ok (.ireturn, 1) := by decide +kernel
theorem dX9_turn_25 : decode cX9_turn 25 = .ok (.aload_n 0, 1) := by decide +kernel
theorem dX9_turn_26 : decode cX9_turn 26 = .ok (.getfield 10, 3) := by decide +kernel
theorem dX9_turn_29 : decode cX9_turn 29 = .ok (.getfield 161, 3) := by decide +kernel
theorem dX9_turn_32 : decode cX9_turn 32 = .ok (.iload_n 1, 1) := by decide +kernel
theorem dX9_turn_33 : decode cX9_turn 33 = .ok (.iaload, 1) := by decide +kernel
theorem dX9_turn_34 : decode cX9_turn 34 = .ok (.istore_n 3, 1) := by decide +kernel
theorem dX9_turn_35 : decode cX9_turn 35 = .ok (.aload_n 0, 1) := by decide +kernel
theorem dX9_turn_36 : decode cX9_turn 36 = .ok (.getfield 10, 3) := by decide +kernel
theorem dX9_turn_39 : decode cX9_turn 39 = .ok (.getfield 161, 3) := by decide +kernel
theorem dX9_turn_42 : decode cX9_turn 42 = .ok (.iload_n 1, 1) := by decide +kernel
theorem dX9_turn_43 : decode cX9_turn 43 = .ok (.iload_n 2, 1) := by decide +kernel
theorem dX9_turn_44 : decode cX9_turn 44 = .ok (.iastore, 1) := by decide +kernel
theorem dX9_turn_45 : decode cX9_turn 45 = .ok (.iload_n 3, 1) := by decide +kernel
theorem dX9_turn_46 : decode cX9_turn 46 = .ok (.ireturn, 1) := by decide +kernel
set_option maxRecDepth 20000 in
theorem ggX9_as_X5_has : GoodIn wsX9_as wsX5_has := goodIn_r _ [8, 9, 35, 36, 37, 38, 39, 40, 41] (by decide +kernel) (by decide +kernel)
set_option maxRecDepth 20000 in
theorem gX9_as_X5_has : GoodIn wsX9_as (wsV RX9 158 RX5 yX5_has wsX5_has) := goodIn_app (goodIn_of _ (by decide +kernel)) ggX9_as_X5_has
set_option maxRecDepth 20000 in
theorem ggX9_as_X4_isKind : GoodIn wsX9_as wsX4_isKind := goodIn_r _ [13] (by decide +kernel) (by decide +kernel)
set_option maxRecDepth 20000 in
theorem gX9_as_X4_isKind : GoodIn wsX9_as (va_wsS RX9 145 yX4_isKind wsX4_isKind) := goodIn_app (goodIn_of _ (by decide +kernel)) ggX9_as_X4_isKind
set_option maxRecDepth 20000 in
theorem ggX9_as_X9_finding : GoodIn wsX9_as wsX9_finding := goodIn_r _ [18, 2, 19, 26, 27, 28, 29, 30, 31, 32, 33, 34] (by decide +kernel) (by decide +kernel)
set_option maxRecDepth 20000 in
theorem gX9_as_X9_finding : GoodIn wsX9_as (wsV RX9 65 RX9 yX9_finding wsX9_finding) := goodIn_app (goodIn_of _ (by decide +kernel)) ggX9_as_X9_finding
set_option maxRecDepth 20000 in
theorem ggX9_as_X4_isUnder : GoodIn wsX9_as wsX4_isUnder := goodIn_r _ [22, 23, 24, 12, 25] (by decide +kernel) (by decide +kernel)
set_option maxRecDepth 20000 in
theorem gX9_as_X4_isUnder : GoodIn wsX9_as (va_wsS RX9 185 yX4_isUnder wsX4_isUnder) := goodIn_app (goodIn_of _ (by decide +kernel)) ggX9_as_X4_isUnder
theorem dX9_as_0 : decode cX9_as 0 = .ok (.aload_n 0, 1) := by decide +kernel
theorem dX9_as_1 : decode cX9_as 1 = .ok (.getfield 10, 3) := by decide +kernel
theorem dX9_as_4 : decode cX9_as 4 = .ok (.iload_n 1, 1) := by decide +kernel
theorem dX9_as_5 : decode cX9_as 5 = .ok (.invokevirtual 158, 3) := by decide +kernel
theorem dX9_as_8 : decode cX9_as 8 = .ok (.ifCond .eq 10, 3) := by decide +kernel
theorem dX9_as_11 : decode cX9_as 11 = .ok (.iload_n 2, 1) := by decide +kernel
theorem dX9_as_12 : decode cX9_as 12 = .ok (.invokestatic 145, 3) := by decide +kernel
theorem dX9_as_15 : decode cX9_as 15 = .ok (.ifCond .ne 10, 3) := by decide +kernel
theorem dX9_as_18 : decode cX9_as 18 = .ok (.aload_n 0, 1) := by decide +kernel
theorem dX9_as_19 : decode cX9_as 19 = .ok (.ldc 64, 2) := by decide +kernel
theorem dX9_as_21 : decode cX9_as 21 = .ok (.invokevirtual 65, 3) := by decide +kernel
theorem dX9_as_24 : decode cX9_as 24 = .ok (.ireturn, 1) := by decide +kernel
theorem dX9_as_25 : decode cX9_as 25 = .ok (.aload_n 0, 1) := by decide +kernel
theorem dX9_as_26 : decode cX9_as 26 = .ok (.getfield 10, 3) := by decide +kernel
theorem dX9_as_29 : decode cX9_as 29 = .ok (.getfield 161, 3) := by decide +kernel
theorem dX9_as_32 : decode cX9_as 32 = .ok (.iload_n 1, 1) := by decide +kernel
theorem dX9_as_33 : decode cX9_as 33 = .ok (.iaload, 1) := by decide +kernel
theorem dX9_as_34 : decode cX9_as 34 = .ok (.iload_n 2, 1) := by decide +kernel
theorem dX9_as_35 : decode cX9_as 35 = .ok (.invokestatic 185, 3) := by decide +kernel
theorem dX9_as_38 : decode cX9_as 38 = .ok (.ifCond .ne 10, 3) := by decide +kernel
theorem dX9_as_41 : decode cX9_as 41 = .ok (.aload_n 0, 1) := by decide +kernel
theorem dX9_as_42 : decode cX9_as 42 = .ok (.ldc 188, 2) := by decide +kernel
theorem dX9_as_44 : decode cX9_as 44 = .ok (.invokevirtual 65, 3) := by decide +kernel
theorem dX9_as_47 : decode cX9_as 47 = .ok (.ireturn, 1) := by decide +kernel
theorem dX9_as_48 : decode cX9_as 48 = .ok (.aload_n 0, 1) := by decide +kernel
theorem dX9_as_49 : decode cX9_as 49 = .ok (.getfield 10, 3) := by decide +kernel
theorem dX9_as_52 : decode cX9_as 52 = .ok (.getfield 167, 3) := by decide +kernel
theorem dX9_as_55 : decode cX9_as 55 = .ok (.iload_n 1, 1) := by decide +kernel
theorem dX9_as_56 : decode cX9_as 56 = .ok (.iaload, 1) := by decide +kernel
theorem dX9_as_57 : decode cX9_as 57 = .ok (.ireturn, 1) := by decide +kernel
set_option maxRecDepth 20000 in
theorem ggX9_sun_X3_isForm : GoodIn wsX9_sun wsX3_isForm := goodIn_r _ [6] (by decide +kernel) (by decide +kernel)
set_option maxRecDepth 20000 in
theorem gX9_sun_X3_isForm : GoodIn wsX9_sun (va_wsS RX9 58 yX3_isForm wsX3_isForm) := goodIn_app (goodIn_of _ (by decide +kernel)) ggX9_sun_X3_isForm
set_option maxRecDepth 20000 in
theorem ggX9_sun_X9_finding : GoodIn wsX9_sun wsX9_finding := goodIn_r _ [11, 1, 12, 13, 14, 15, 16, 17, 18, 19, 20, 21] (by decide +kernel) (by decide +kernel)
set_option maxRecDepth 20000 in
theorem gX9_sun_X9_finding : GoodIn wsX9_sun (wsV RX9 65 RX9 yX9_finding wsX9_finding) := goodIn_app (goodIn_of _ (by decide +kernel)) ggX9_sun_X9_finding
theorem dX9_sun_0 : decode cX9_sun 0 = .ok (.iload_n 1, 1) := by decide +kernel
theorem dX9_sun_1 : decode cX9_sun 1 = .ok (.invokestatic 58, 3) := by decide +kernel
theorem dX9_sun_4 : decode cX9_sun 4 = .ok (.ifCond .ne 10, 3) := by decide +kernel
theorem dX9_sun_7 : decode cX9_sun 7 = .ok (.aload_n 0, 1) := by decide +kernel
theorem dX9_sun_8 : decode cX9_sun 8 = .ok (.ldc 64, 2) := by decide +kernel
theorem dX9_sun_10 : decode cX9_sun 10 = .ok (.invokevirtual 65, 3) := by decide +kernel
theorem dX9_sun_13 : decode cX9_sun 13 = .ok (.ireturn, 1) := by decide +kernel
theorem dX9_sun_14 : decode cX9_sun 14 = .ok (.aload_n 0, 1) := by decide +kernel
theorem dX9_sun_15 : decode cX9_sun 15 = .ok (.getfield 10, 3) := by decide +kernel
theorem dX9_sun_18 : decode cX9_sun 18 = .ok (.getfield 134, 3) := by decide +kernel
theorem dX9_sun_21 : decode cX9_sun 21 = .ok (.istore_n 2, 1) := by decide +kernel
theorem dX9_sun_22 : decode cX9_sun 22 = .ok (.aload_n 0, 1) := by decide +kernel
theorem dX9_sun_23 : decode cX9_sun 23 = .ok (.getfield 10, 3) := by decide +kernel
theorem dX9_sun_26 : decode cX9_sun 26 = .ok (.iload_n 1, 1) := by decide +kernel
theorem dX9_sun_27 : decode cX9_sun 27 = .ok (.putfield 134, 3) := by decide +kernel
theorem dX9_sun_30 : decode cX9_sun 30 = .ok (.iload_n 2, 1) := by decide +kernel
theorem dX9_sun_31 : decode cX9_sun 31 = .ok (.ireturn, 1) := by decide +kernel
set_option maxRecDepth 20000 in
theorem ggX9_hours_X9_finding : GoodIn wsX9_hours wsX9_finding := goodIn_r _ [8, 1, 9, 36, 37, 38, 39, 40, 41, 42, 43, 44] (by decide +kernel) (by decide +kernel)
set_option maxRecDepth 20000 in
theorem gX9_hours_X9_finding : GoodIn wsX9_hours (wsV RX9 65 RX9 yX9_finding wsX9_finding) := goodIn_app (goodIn_of _ (by decide +kernel)) ggX9_hours_X9_finding
set_option maxRecDepth 20000 in
theorem ggX9_hours_X5_countChanged : GoodIn wsX9_hours wsX5_countChanged := goodIn_r _ [14, 15, 16, 17, 18, 19, 13, 20, 21, 22, 23, 24, 25, 26, 27, 28, 29, 30, 31, 32, 33, 34, 35, 45, 46, 47, 48, 49, 50, 51] (by decide +kernel) (by decide +kernel)
set_option maxRecDepth 20000 in
theorem gX9_hours_X5_countChanged : GoodIn wsX9_hours (wsV RX9 189 RX5 yX5_countChanged wsX5_countChanged) := goodIn_app (goodIn_of _ (by decide +kernel)) ggX9_hours_X5_countChanged
theorem dX9_hours_0 : decode cX9_hours 0 = .ok (.iload_n 1, 1) := by decide +kernel
theorem dX9_hours_1 : decode cX9_hours 1 = .ok (.iconst 1, 1) := by decide +kernel
theorem dX9_hours_2 : decode cX9_hours 2 = .ok (.if_icmp .lt 9, 3) := by decide +kernel
theorem dX9_hours_5 : decode cX9_hours 5 = .ok (.iload_n 1, 1) := by decide +kernel
theorem dX9_hours_6 : decode cX9_hours 6 = .ok (.bipush 99, 2) := by decide +kernel
theorem dX9_hours_8 : decode cX9_hours 8 = .ok (.if_icmp .le 10, 3) := by decide +kernel
theorem dX9_hours_11 : decode cX9_hours 11 = .ok (.aload_n 0, 1) := by decide +kernel
theorem dX9_hours_12 : decode cX9_hours 12 = .ok (.ldc 64, 2) := by decide +kernel
theorem dX9_hours_14 : decode cX9_hours 14 = .ok (.invokevirtual 65, 3) := by decide +kernel
theorem dX9_hours_17 : decode cX9_hours 17 = .ok (.ireturn, 1) := by decide +kernel
theorem dX9_hours_18 : decode cX9_hours 18 = .ok (.aload_n 0, 1) := by decide +kernel
theorem dX9_hours_19 : decode cX9_hours 19 = .ok (.getfield 10, 3) := by decide +kernel
theorem dX9_hours_22 : decode cX9_hours 22 = .ok (.getfield 173, 3) := by decide +kernel
theorem dX9_hours_25 : decode cX9_hours 25 = .ok (.iload_n 1, 1) := by decide +kernel
theorem dX9_hours_26 : decode cX9_hours 26 = .ok (.iadd, 1) := by decide +kernel
theorem dX9_hours_27 : decode cX9_hours 27 = .ok (.sipush 999, 3) := by decide +kernel
theorem dX9_hours_30 : decode cX9_hours 30 = .ok (.if_icmp .le 10, 3) := by decide +kernel
theorem dX9_hours_33 : decode cX9_hours 33 = .ok (.aload_n 0, 1) := by decide +kernel
theorem dX9_hours_34 : decode cX9_hours 34 = .ok (.ldc 141, 2) := by decide +kernel
theorem dX9_hours_36 : decode cX9_hours 36 = .ok (.invokevirtual 65, 3) := by decide +kernel
theorem dX9_hours_39 : decode cX9_hours 39 = .ok (.ireturn, 1) := by decide +kernel
theorem dX9_hours_40 : decode cX9_hours 40 = .ok (.aload_n 0, 1) := by decide +kernel
theorem dX9_hours_41 : decode cX9_hours 41 = .ok (.getfield 10, 3) := by decide +kernel
theorem dX9_hours_44 : decode cX9_hours 44 = .ok (.aload_n 0, 1) := by decide +kernel
theorem dX9_hours_45 : decode cX9_hours 45 = .ok (.getfield 10, 3) := by decide +kernel
theorem dX9_hours_48 : decode cX9_hours 48 = .ok (.getfield 173, 3) := by decide +kernel
theorem dX9_hours_51 : decode cX9_hours 51 = .ok (.iload_n 1, 1) := by decide +kernel
theorem dX9_hours_52 : decode cX9_hours 52 = .ok (.iadd, 1) := by decide +kernel
theorem dX9_hours_53 : decode cX9_hours 53 = .ok (.invokevirtual 189, 3) := by decide +kernel
theorem dX9_hours_56 : decode cX9_hours 56 = .ok (.istore_n 2, 1) := by decide +kernel
theorem dX9_hours_57 : decode cX9_hours 57 = .ok (.aload_n 0, 1) := by decide +kernel
theorem dX9_hours_58 : decode cX9_hours 58 = .ok (.getfield 10, 3) := by decide +kernel
theorem dX9_hours_61 : decode cX9_hours 61 = .ok (.dup, 1) := by decide +kernel
theorem dX9_hours_62 : decode cX9_hours 62 = .ok (.getfield 173, 3) := by decide +kernel
theorem dX9_hours_65 : decode cX9_hours 65 = .ok (.iload_n 1, 1) := by decide +kernel
theorem dX9_hours_66 : decode cX9_hours 66 = .ok (.iadd, 1) := by decide +kernel
theorem dX9_hours_67 : decode cX9_hours 67 = .ok (.putfield 173, 3) := by decide +kernel
theorem dX9_hours_70 : decode cX9_hours 70 = .ok (.iload_n 2, 1) := by decide +kernel
theorem dX9_hours_71 : decode cX9_hours 71 = .ok (.ireturn, 1) := by decide +kernel
set_option maxRecDepth 20000 in
theorem ggX9_now_X5_feetOfAll : GoodIn wsX9_now wsX5_feetOfAll := goodIn_r _ [7, 8, 9, 10, 11, 6, 12, 13, 14, 15, 16, 17, 18, 19, 20, 21, 22, 23, 24, 25, 26, 27, 28, 29, 30, 31, 32, 33, 34, 35, 36, 37, 38, 39, 40, 41, 42, 43, 44, 95, 96, 97, 98, 99, 100, 101] (by decide +kernel) (by decide +kernel)
set_option maxRecDepth 20000 in
theorem gX9_now_X5_feetOfAll : GoodIn wsX9_now (wsV RX9 192 RX5 yX5_feetOfAll wsX5_feetOfAll) := goodIn_app (goodIn_of _ (by decide +kernel)) ggX9_now_X5_feetOfAll
set_option maxRecDepth 20000 in
theorem ggX9_now_X5_lettersMisread : GoodIn wsX9_now wsX5_lettersMisread := goodIn_r _ [48, 8, 49, 50, 51, 52, 6, 53, 54, 14, 55, 56, 57, 58, 59, 13, 60, 61, 62, 63, 64, 65, 66, 17, 67, 68, 69, 70, 71, 72, 73, 74, 75, 76, 77, 78, 28, 79, 44, 20, 21, 22, 23, 24, 25, 95, 96, 97, 98, 99, 100, 101, 102] (by decide +kernel) (by decide +kernel)
set_option maxRecDepth 20000 in
theorem gX9_now_X5_lettersMisread : GoodIn wsX9_now (wsV RX9 195 RX5 yX5_lettersMisread wsX5_lettersMisread) := goodIn_app (goodIn_of _ (by decide +kernel)) ggX9_now_X5_lettersMisread
set_option maxRecDepth 20000 in
theorem ggX9_now_X9_finding : GoodIn wsX9_now wsX9_finding := goodIn_r _ [84, 2, 85, 86, 87, 88, 89, 90, 91, 92, 93, 94] (by decide +kernel) (by decide +kernel)
set_option maxRecDepth 20000 in
theorem gX9_now_X9_finding : GoodIn wsX9_now (wsV RX9 65 RX9 yX9_finding wsX9_finding) := goodIn_app (goodIn_of _ (by decide +kernel)) ggX9_now_X9_finding
theorem dX9_now_0 : decode cX9_now 0 = .ok (.iload_n 1, 1) := by decide +kernel
theorem dX9_now_1 : decode cX9_now 1 = .ok (.tableswitch 63 0 3 #[31, 39, 47, 55], 31) := by decide +kernel
theorem dX9_now_32 : decode cX9_now 32 = .ok (.aload_n 0, 1) := by decide +kernel
theorem dX9_now_33 : decode cX9_now 33 = .ok (.getfield 10, 3) := by decide +kernel
theorem dX9_now_36 : decode cX9_now 36 = .ok (.getfield 173, 3) := by decide +kernel
theorem dX9_now_39 : decode cX9_now 39 = .ok (.ireturn, 1) := by decide +kernel
theorem dX9_now_40 : decode cX9_now 40 = .ok (.aload_n 0, 1) := by decide +kernel
theorem dX9_now_41 : decode cX9_now 41 = .ok (.getfield 10, 3) := by decide +kernel
theorem dX9_now_44 : decode cX9_now 44 = .ok (.getfield 134, 3) := by decide +kernel
theorem dX9_now_47 : decode cX9_now 47 = .ok (.ireturn, 1) := by decide +kernel
theorem dX9_now_48 : decode cX9_now 48 = .ok (.aload_n 0, 1) := by decide +kernel
theorem dX9_now_49 : decode cX9_now 49 = .ok (.getfield 10, 3) := by decide +kernel
theorem dX9_now_52 : decode cX9_now 52 = .ok (.invokevirtual 192, 3) := by decide +kernel
theorem dX9_now_55 : decode cX9_now 55 = .ok (.ireturn, 1) := by decide +kernel
theorem dX9_now_56 : decode cX9_now 56 = .ok (.aload_n 0, 1) := by decide +kernel
theorem dX9_now_57 : decode cX9_now 57 = .ok (.getfield 10, 3) := by decide +kernel
theorem dX9_now_60 : decode cX9_now 60 = .ok (.invokevirtual 195, 3) := by decide +kernel
theorem dX9_now_63 : decode cX9_now 63 = .ok (.ireturn, 1) := by decide +kernel
theorem dX9_now_64 : decode cX9_now 64 = .ok (.aload_n 0, 1) := by decide +kernel
theorem dX9_now_65 : decode cX9_now 65 = .ok (.ldc 64, 2) := by decide +kernel
theorem dX9_now_67 : decode cX9_now 67 = .ok (.invokevirtual 65, 3) := by decide +kernel
theorem dX9_now_70 : decode cX9_now 70 = .ok (.ireturn, 1) := by decide +kernel
set_option maxRecDepth 20000 in
theorem ggX9_on_X5_has : GoodIn wsX9_on wsX5_has := goodIn_r _ [8, 9, 47, 48, 49, 50, 51, 52, 53] (by decide +kernel) (by decide +kernel)
set_option maxRecDepth 20000 in
theorem gX9_on_X5_has : GoodIn wsX9_on (wsV RX9 158 RX5 yX5_has wsX5_has) := goodIn_app (goodIn_of _ (by decide +kernel)) ggX9_on_X5_has
set_option maxRecDepth 20000 in
theorem ggX9_on_X9_isWithin : GoodIn wsX9_on wsX9_isWithin := goodIn_r _ [13] (by decide +kernel) (by decide +kernel)
set_option maxRecDepth 20000 in
theorem gX9_on_X9_isWithin : GoodIn wsX9_on (va_wsS RX9 93 yX9_isWithin wsX9_isWithin) := goodIn_app (goodIn_of _ (by decide +kernel)) ggX9_on_X9_isWithin
set_option maxRecDepth 20000 in
theorem ggX9_on_X9_finding : GoodIn wsX9_on wsX9_finding := goodIn_r _ [17, 2, 18, 38, 39, 40, 41, 42, 43, 44, 45, 46] (by decide +kernel) (by decide +kernel)
set_option maxRecDepth 20000 in
theorem gX9_on_X9_finding : GoodIn wsX9_on (wsV RX9 65 RX9 yX9_finding wsX9_finding) := goodIn_app (goodIn_of _ (by decide +kernel)) ggX9_on_X9_finding
set_option maxRecDepth 20000 in
theorem ggX9_on_X5_shownAt : GoodIn wsX9_on wsX5_shownAt := goodIn_r _ [22, 23, 24, 25, 26, 27, 28, 7, 29, 30, 31, 32, 33, 34, 35, 36, 37, 47, 48, 49, 50, 51, 52, 53] (by decide +kernel) (by decide +kernel)
set_option maxRecDepth 20000 in
theorem gX9_on_X5_shownAt : GoodIn wsX9_on (wsV RX9 176 RX5 yX5_shownAt wsX5_shownAt) := goodIn_app (goodIn_of _ (by decide +kernel)) ggX9_on_X5_shownAt
theorem dX9_on_0 : decode cX9_on 0 = .ok (.aload_n 0, 1) := by decide +kernel
theorem dX9_on_1 : decode cX9_on 1 = .ok (.getfield 10, 3) := by decide +kernel
theorem dX9_on_4 : decode cX9_on 4 = .ok (.iload_n 1, 1) := by decide +kernel
theorem dX9_on_5 : decode cX9_on 5 = .ok (.invokevirtual 158, 3) := by decide +kernel
theorem dX9_on_8 : decode cX9_on 8 = .ok (.ifCond .eq 12, 3) := by decide +kernel
theorem dX9_on_11 : decode cX9_on 11 = .ok (.iload_n 2, 1) := by decide +kernel
theorem dX9_on_12 : decode cX9_on 12 = .ok (.bipush 99, 2) := by decide +kernel
theorem dX9_on_14 : decode cX9_on 14 = .ok (.invokestatic 93, 3) := by decide +kernel
theorem dX9_on_17 : decode cX9_on 17 = .ok (.ifCond .ne 10, 3) := by decide +kernel
theorem dX9_on_20 : decode cX9_on 20 = .ok (.aload_n 0, 1) := by decide +kernel
theorem dX9_on_21 : decode cX9_on 21 = .ok (.ldc 64, 2) := by decide +kernel
theorem dX9_on_23 : decode cX9_on 23 = .ok (.invokevirtual 65, 3) := by decide +kernel
theorem dX9_on_26 : decode cX9_on 26 = .ok (.ireturn, 1) := by decide +kernel
theorem dX9_on_27 : decode cX9_on 27 = .ok (.aload_n 0, 1) := by decide +kernel
theorem dX9_on_28 : decode cX9_on 28 = .ok (.getfield 10, 3) := by decide +kernel
theorem dX9_on_31 : decode cX9_on 31 = .ok (.getfield 173, 3) := by decide +kernel
theorem dX9_on_34 : decode cX9_on 34 = .ok (.iload_n 2, 1) := by decide +kernel
theorem dX9_on_35 : decode cX9_on 35 = .ok (.iadd, 1) := by decide +kernel
theorem dX9_on_36 : decode cX9_on 36 = .ok (.sipush 999, 3) := by decide +kernel
theorem dX9_on_39 : decode cX9_on 39 = .ok (.if_icmp .le 10, 3) := by decide +kernel
theorem dX9_on_42 : decode cX9_on 42 = .ok (.aload_n 0, 1) := by decide +kernel
theorem dX9_on_43 : decode cX9_on 43 = .ok (.ldc 141, 2) := by decide +kernel
theorem dX9_on_45 : decode cX9_on 45 = .ok (.invokevirtual 65, 3) := by decide +kernel
theorem dX9_on_48 : decode cX9_on 48 = .ok (.ireturn, 1) := by decide +kernel
theorem dX9_on_49 : decode cX9_on 49 = .ok (.aload_n 0, 1) := by decide +kernel
theorem dX9_on_50 : decode cX9_on 50 = .ok (.getfield 10, 3) := by decide +kernel
theorem dX9_on_53 : decode cX9_on 53 = .ok (.iload_n 1, 1) := by decide +kernel
theorem dX9_on_54 : decode cX9_on 54 = .ok (.aload_n 0, 1) := by decide +kernel
theorem dX9_on_55 : decode cX9_on 55 = .ok (.getfield 10, 3) := by decide +kernel
theorem dX9_on_58 : decode cX9_on 58 = .ok (.getfield 173, 3) := by decide +kernel
theorem dX9_on_61 : decode cX9_on 61 = .ok (.iload_n 2, 1) := by decide +kernel
theorem dX9_on_62 : decode cX9_on 62 = .ok (.iadd, 1) := by decide +kernel
theorem dX9_on_63 : decode cX9_on 63 = .ok (.invokevirtual 176, 3) := by decide +kernel
theorem dX9_on_66 : decode cX9_on 66 = .ok (.ireturn, 1) := by decide +kernel
set_option maxRecDepth 20000 in
theorem ggX9_when_X5_has : GoodIn wsX9_when wsX5_has := goodIn_r _ [9, 10, 67, 68, 69, 70, 71, 72, 73] (by decide +kernel) (by decide +kernel)
set_option maxRecDepth 20000 in
theorem gX9_when_X5_has : GoodIn wsX9_when (wsV RX9 158 RX5 yX5_has wsX5_has) := goodIn_app (goodIn_of _ (by decide +kernel)) ggX9_when_X5_has
set_option maxRecDepth 20000 in
theorem ggX9_when_X9_finding : GoodIn wsX9_when wsX9_finding := goodIn_r _ [15, 2, 16, 58, 59, 60, 61, 62, 63, 64, 65, 66] (by decide +kernel) (by decide +kernel)
set_option maxRecDepth 20000 in
theorem gX9_when_X9_finding : GoodIn wsX9_when (wsV RX9 65 RX9 yX9_finding wsX9_finding) := goodIn_app (goodIn_of _ (by decide +kernel)) ggX9_when_X9_finding
set_option maxRecDepth 20000 in
theorem ggX9_when_X5_isMisreadAt : GoodIn wsX9_when wsX5_isMisreadAt := goodIn_r _ [20, 21, 22, 23, 24, 25, 8, 26, 27, 28, 29, 30, 31, 32, 33, 34, 35, 36, 37, 38, 39, 40, 41, 42, 43, 44, 45, 46, 47, 48, 49, 50, 51, 52, 53, 54, 55, 56, 57, 67, 68, 69, 70, 71, 72, 73, 74] (by decide +kernel) (by decide +kernel)
set_option maxRecDepth 20000 in
theorem gX9_when_X5_isMisreadAt : GoodIn wsX9_when (wsV RX9 198 RX5 yX5_isMisreadAt wsX5_isMisreadAt) := goodIn_app (goodIn_of _ (by decide +kernel)) ggX9_when_X5_isMisreadAt
theorem dX9_when_0 : decode cX9_when 0 = .ok (.aload_n 0, 1) := by decide +kernel
theorem dX9_when_1 : decode cX9_when 1 = .ok (.getfield 10, 3) := by decide +kernel
theorem dX9_when_4 : decode cX9_when 4 = .ok (.iload_n 1, 1) := by decide +kernel
theorem dX9_when_5 : decode cX9_when 5 = .ok (.invokevirtual 158, 3) := by decide +kernel
theorem dX9_when_8 : decode cX9_when 8 = .ok (.ifCond .ne 10, 3) := by decide +kernel
theorem dX9_when_11 : decode cX9_when 11 = .ok (.aload_n 0, 1) := by decide +kernel
theorem dX9_when_12 : decode cX9_when 12 = .ok (.ldc 64, 2) := by decide +kernel
theorem dX9_when_14 : decode cX9_when 14 = .ok (.invokevirtual 65, 3) := by decide +kernel
theorem dX9_when_17 : decode cX9_when 17 = .ok (.ireturn, 1) := by decide +kernel
theorem dX9_when_18 : decode cX9_when 18 = .ok (.aload_n 0, 1) := by decide +kernel
theorem dX9_when_19 : decode cX9_when 19 = .ok (.getfield 10, 3) := by decide +kernel
theorem dX9_when_22 : decode cX9_when 22 = .ok (.getfield 173, 3) := by decide +kernel
theorem dX9_when_25 : decode cX9_when 25 = .ok (.sipush 900, 3) := by decide +kernel
theorem dX9_when_28 : decode cX9_when 28 = .ok (.if_icmp .le 10, 3) := by decide +kernel
theorem dX9_when_31 : decode cX9_when 31 = .ok (.aload_n 0, 1) := by decide +kernel
theorem dX9_when_32 : decode cX9_when 32 = .ok (.ldc 141, 2) := by decide +kernel
theorem dX9_when_34 : decode cX9_when 34 = .ok (.invokevirtual 65, 3) := by decide +kernel
theorem dX9_when_37 : decode cX9_when 37 = .ok (.ireturn, 1) := by decide +kernel
theorem dX9_when_38 : decode cX9_when 38 = .ok (.iconst 0, 1) := by decide +kernel
theorem dX9_when_39 : decode cX9_when 39 = .ok (.istore_n 2, 1) := by decide +kernel
theorem dX9_when_40 : decode cX9_when 40 = .ok (.iload_n 2, 1) := by decide +kernel
theorem dX9_when_41 : decode cX9_when 41 = .ok (.bipush 99, 2) := by decide +kernel
theorem dX9_when_43 : decode cX9_when 43 = .ok (.if_icmp .gt 31, 3) := by decide +kernel
theorem dX9_when_46 : decode cX9_when 46 = .ok (.aload_n 0, 1) := by decide +kernel
theorem dX9_when_47 : decode cX9_when 47 = .ok (.getfield 10, 3) := by decide +kernel
theorem dX9_when_50 : decode cX9_when 50 = .ok (.iload_n 1, 1) := by decide +kernel
theorem dX9_when_51 : decode cX9_when 51 = .ok (.aload_n 0, 1) := by decide +kernel
theorem dX9_when_52 : decode cX9_when 52 = .ok (.getfield 10, 3) := by decide +kernel
theorem dX9_when_55 : decode cX9_when 55 = .ok (.getfield 173, 3) := by decide +kernel
theorem dX9_when_58 : decode cX9_when 58 = .ok (.iload_n 2, 1) := by decide +kernel
theorem dX9_when_59 : decode cX9_when 59 = .ok (.iadd, 1) := by decide +kernel
theorem dX9_when_60 : decode cX9_when 60 = .ok (.invokevirtual 198, 3) := by decide +kernel
theorem dX9_when_63 : decode cX9_when 63 = .ok (.ifCond .eq 5, 3) := by decide +kernel
theorem dX9_when_66 : decode cX9_when 66 = .ok (.iload_n 2, 1) := by decide +kernel
theorem dX9_when_67 : decode cX9_when 67 = .ok (.ireturn, 1) := by decide +kernel
theorem dX9_when_68 : decode cX9_when 68 = .ok (.iinc 2 1, 3) := by decide +kernel
theorem dX9_when_71 : decode cX9_when 71 = .ok (.goto (-31), 3) := by decide +kernel
theorem dX9_when_74 : decode cX9_when 74 = .ok (.aload_n 0, 1) := by decide +kernel
theorem dX9_when_75 : decode cX9_when 75 = .ok (.ldc 100, 2) := by decide +kernel
theorem dX9_when_77 : decode cX9_when 77 = .ok (.invokevirtual 65, 3) := by decide +kernel
theorem dX9_when_80 : decode cX9_when 80 = .ok (.ireturn, 1) := by decide +kernel
set_option maxRecDepth 20000 in
theorem ggX9_kind_X5_has : GoodIn wsX9_kind wsX5_has := goodIn_r _ [7, 8, 63, 64, 65, 66, 67, 68, 69] (by decide +kernel) (by decide +kernel)
set_option maxRecDepth 20000 in
theorem gX9_kind_X5_has : GoodIn wsX9_kind (wsV RX9 158 RX5 yX5_has wsX5_has) := goodIn_app (goodIn_of _ (by decide +kernel)) ggX9_kind_X5_has
set_option maxRecDepth 20000 in
theorem ggX9_kind_X9_finding : GoodIn wsX9_kind wsX9_finding := goodIn_r _ [13, 2, 14, 54, 55, 56, 57, 58, 59, 60, 61, 62] (by decide +kernel) (by decide +kernel)
set_option maxRecDepth 20000 in
theorem gX9_kind_X9_finding : GoodIn wsX9_kind (wsV RX9 65 RX9 yX9_finding wsX9_finding) := goodIn_app (goodIn_of _ (by decide +kernel)) ggX9_kind_X9_finding
set_option maxRecDepth 20000 in
theorem ggX9_kind_X4_longestForFeet : GoodIn wsX9_kind wsX4_longestForFeet := goodIn_r _ [18, 19, 20, 17, 21, 22, 23, 24, 25, 26, 27, 28, 29, 30, 31, 32, 33, 34, 35, 36, 37, 38, 39, 40, 41, 42, 43, 44, 45, 46, 47, 48, 49, 50, 51, 52, 53] (by decide +kernel) (by decide +kernel)
set_option maxRecDepth 20000 in
theorem gX9_kind_X4_longestForFeet : GoodIn wsX9_kind (va_wsS RX9 201 yX4_longestForFeet wsX4_longestForFeet) := goodIn_app (goodIn_of _ (by decide +kernel)) ggX9_kind_X4_longestForFeet
theorem dX9_kind_0 : decode cX9_kind 0 = .ok (.aload_n 0, 1) := by decide +kernel
theorem dX9_kind_1 : decode cX9_kind 1 = .ok (.getfield 10, 3) := by decide +kernel
theorem dX9_kind_4 : decode cX9_kind 4 = .ok (.iload_n 1, 1) := by decide +kernel
theorem dX9_kind_5 : decode cX9_kind 5 = .ok (.invokevirtual 158, 3) := by decide +kernel
theorem dX9_kind_8 : decode cX9_kind 8 = .ok (.ifCond .ne 10, 3) := by decide +kernel
theorem dX9_kind_11 : decode cX9_kind 11 = .ok (.aload_n 0, 1) := by decide +kernel
theorem dX9_kind_12 : decode cX9_kind 12 = .ok (.ldc 64, 2) := by decide +kernel
theorem dX9_kind_14 : decode cX9_kind 14 = .ok (.invokevirtual 65, 3) := by decide +kernel
theorem dX9_kind_17 : decode cX9_kind 17 = .ok (.ireturn, 1) := by decide +kernel
theorem dX9_kind_18 : decode cX9_kind 18 = .ok (.aload_n 0, 1) := by decide +kernel
theorem dX9_kind_19 : decode cX9_kind 19 = .ok (.getfield 10, 3) := by decide +kernel
theorem dX9_kind_22 : decode cX9_kind 22 = .ok (.getfield 164, 3) := by decide +kernel
theorem dX9_kind_25 : decode cX9_kind 25 = .ok (.iload_n 1, 1) := by decide +kernel
theorem dX9_kind_26 : decode cX9_kind 26 = .ok (.iaload, 1) := by decide +kernel
theorem dX9_kind_27 : decode cX9_kind 27 = .ok (.aload_n 0, 1) := by decide +kernel
theorem dX9_kind_28 : decode cX9_kind 28 = .ok (.getfield 10, 3) := by decide +kernel
theorem dX9_kind_31 : decode cX9_kind 31 = .ok (.getfield 167, 3) := by decide +kernel
theorem dX9_kind_34 : decode cX9_kind 34 = .ok (.iload_n 1, 1) := by decide +kernel
theorem dX9_kind_35 : decode cX9_kind 35 = .ok (.iaload, 1) := by decide +kernel
theorem dX9_kind_36 : decode cX9_kind 36 = .ok (.invokestatic 201, 3) := by decide +kernel
theorem dX9_kind_39 : decode cX9_kind 39 = .ok (.ireturn, 1) := by decide +kernel
set_option maxRecDepth 20000 in
theorem ggX9_best_X9_isWithin : GoodIn wsX9_best wsX9_isWithin := goodIn_r _ [7] (by decide +kernel) (by decide +kernel)
set_option maxRecDepth 20000 in
theorem gX9_best_X9_isWithin : GoodIn wsX9_best (va_wsS RX9 93 yX9_isWithin wsX9_isWithin) := goodIn_app (goodIn_of _ (by decide +kernel)) ggX9_best_X9_isWithin
set_option maxRecDepth 20000 in
theorem ggX9_best_X9_finding : GoodIn wsX9_best wsX9_finding := goodIn_r _ [11, 1, 12, 99, 100, 101, 102, 103, 104, 105, 106, 107] (by decide +kernel) (by decide +kernel)
set_option maxRecDepth 20000 in
theorem gX9_best_X9_finding : GoodIn wsX9_best (wsV RX9 65 RX9 yX9_finding wsX9_finding) := goodIn_app (goodIn_of _ (by decide +kernel)) ggX9_best_X9_finding
set_option maxRecDepth 20000 in
theorem ggX9_best_X1_choose : GoodIn wsX9_best wsX1_choose := goodIn_r _ [17, 18, 19, 20, 21, 22, 23, 24, 25, 26, 27, 28, 29, 30, 31, 32, 33, 34, 35, 36, 37, 38, 39, 40, 41, 42, 43, 44, 45, 46, 47, 48, 49, 50, 51, 52, 53, 54, 55, 56, 57, 58, 59, 60, 61, 62, 63, 64, 65, 66, 67, 68, 69, 70, 71, 72, 73, 74, 75, 76, 77, 78, 79, 80, 81, 82, 83, 84, 85, 86, 87, 88, 89, 90, 91, 92, 93, 94, 95, 96, 97, 16, 98, 112, 113, 114, 115, 116, 117, 118, 108, 109, 110, 111, 119] (by decide +kernel) (by decide +kernel)
set_option maxRecDepth 20000 in
theorem gX9_best_X1_choose : GoodIn wsX9_best (wsV RX9 204 RX1 yX1_choose wsX1_choose) := goodIn_app (goodIn_of _ (by decide +kernel)) ggX9_best_X1_choose
theorem dX9_best_0 : decode cX9_best 0 = .ok (.iload_n 1, 1) := by decide +kernel
theorem dX9_best_1 : decode cX9_best 1 = .ok (.sipush 9999, 3) := by decide +kernel
theorem dX9_best_4 : decode cX9_best 4 = .ok (.invokestatic 93, 3) := by decide +kernel
theorem dX9_best_7 : decode cX9_best 7 = .ok (.ifCond .ne 10, 3) := by decide +kernel
theorem dX9_best_10 : decode cX9_best 10 = .ok (.aload_n 0, 1) := by decide +kernel
theorem dX9_best_11 : decode cX9_best 11 = .ok (.ldc 64, 2) := by decide +kernel
theorem dX9_best_13 : decode cX9_best 13 = .ok (.invokevirtual 65, 3) := by decide +kernel
theorem dX9_best_16 : decode cX9_best 16 = .ok (.ireturn, 1) := by decide +kernel
theorem dX9_best_17 : decode cX9_best 17 = .ok (.aload_n 0, 1) := by decide +kernel
theorem dX9_best_18 : decode cX9_best 18 = .ok (.getfield 46, 3) := by decide +kernel
theorem dX9_best_21 : decode cX9_best 21 = .ok (.aload_n 0, 1) := by decide +kernel
theorem dX9_best_22 : decode cX9_best 22 = .ok (.getfield 10, 3) := by decide +kernel
theorem dX9_best_25 : decode cX9_best 25 = .ok (.iload_n 1, 1) := by decide +kernel
theorem dX9_best_26 : decode cX9_best 26 = .ok (.invokevirtual 204, 3) := by decide +kernel
theorem dX9_best_29 : decode cX9_best 29 = .ok (.aload_n 0, 1) := by decide +kernel
theorem dX9_best_30 : decode cX9_best 30 = .ok (.getfield 46, 3) := by decide +kernel
theorem dX9_best_33 : decode cX9_best 33 = .ok (.getfield 208, 3) := by decide +kernel
theorem dX9_best_36 : decode cX9_best 36 = .ok (.ireturn, 1) := by decide +kernel
set_option maxRecDepth 20000 in
theorem ggX9_worth_X9_isWithin : GoodIn wsX9_worth wsX9_isWithin := goodIn_r _ [7] (by decide +kernel) (by decide +kernel)
set_option maxRecDepth 20000 in
theorem gX9_worth_X9_isWithin : GoodIn wsX9_worth (va_wsS RX9 93 yX9_isWithin wsX9_isWithin) := goodIn_app (goodIn_of _ (by decide +kernel)) ggX9_worth_X9_isWithin
set_option maxRecDepth 20000 in
theorem ggX9_worth_X9_finding : GoodIn wsX9_worth wsX9_finding := goodIn_r _ [11, 1, 12, 99, 100, 101, 102, 103, 104, 105, 106, 107] (by decide +kernel) (by decide +kernel)
set_option maxRecDepth 20000 in
theorem gX9_worth_X9_finding : GoodIn wsX9_worth (wsV RX9 65 RX9 yX9_finding wsX9_finding) := goodIn_app (goodIn_of _ (by decide +kernel)) ggX9_worth_X9_finding
set_option maxRecDepth 20000 in
theorem ggX9_worth_X1_choose : GoodIn wsX9_worth wsX1_choose := goodIn_r _ [17, 18, 19, 20, 21, 22, 23, 24, 25, 26, 27, 28, 29, 30, 31, 32, 33, 34, 35, 36, 37, 38, 39, 40, 41, 42, 43, 44, 45, 46, 47, 48, 49, 50, 51, 52, 53, 54, 55, 56, 57, 58, 59, 60, 61, 62, 63, 64, 65, 66, 67, 68, 69, 70, 71, 72, 73, 74, 75, 76, 77, 78, 79, 80, 81, 82, 83, 84, 85, 86, 87, 88, 89, 90, 91, 92, 93, 94, 95, 96, 97, 16, 98, 112, 113, 114, 115, 116, 117, 118, 108, 109, 110, 111, 119] (by decide +kernel) (by decide +kernel)
set_option maxRecDepth 20000 in
theorem gX9_worth_X1_choose : GoodIn wsX9_worth (wsV RX9 204 RX1 yX1_choose wsX1_choose) := goodIn_app (goodIn_of _ (by decide +kernel)) ggX9_worth_X1_choose
theorem dX9_worth_0 : decode cX9_worth 0 = .ok (.iload_n 1, 1) := by decide +kernel
theorem dX9_worth_1 : decode cX9_worth 1 = .ok (.sipush 9999, 3) := by decide +kernel
theorem dX9_worth_4 : decode cX9_worth 4 = .ok (.invokestatic 93, 3) := by decide +kernel
theorem dX9_worth_7 : decode cX9_worth 7 = .ok (.ifCond .ne 10, 3) := by decide +kernel
theorem dX9_worth_10 : decode cX9_worth 10 = .ok (.aload_n 0, 1) := by decide +kernel
theorem dX9_worth_11 : decode cX9_worth 11 = .ok (.ldc 64, 2) := by decide +kernel
theorem dX9_worth_13 : decode cX9_worth 13 = .ok (.invokevirtual 65, 3) := by decide +kernel
theorem dX9_worth_16 : decode cX9_worth 16 = .ok (.ireturn, 1) := by decide +kernel
theorem dX9_worth_17 : decode cX9_worth 17 = .ok (.aload_n 0, 1) := by decide +kernel
theorem dX9_worth_18 : decode cX9_worth 18 = .ok (.getfield 46, 3) := by decide +kernel
theorem dX9_worth_21 : decode cX9_worth 21 = .ok (.aload_n 0, 1) := by decide +kernel
theorem dX9_worth_22 : decode cX9_worth 22 = .ok (.getfield 10, 3) := by decide +kernel
theorem dX9_worth_25 : decode cX9_worth 25 = .ok (.iload_n 1, 1) := by decide +kernel
theorem dX9_worth_26 : decode cX9_worth 26 = .ok (.invokevirtual 204, 3) := by decide +kernel
theorem dX9_worth_29 : decode cX9_worth 29 = .ok (.aload_n 0, 1) := by decide +kernel
theorem dX9_worth_30 : decode cX9_worth 30 = .ok (.getfield 46, 3) := by decide +kernel
theorem dX9_worth_33 : decode cX9_worth 33 = .ok (.getfield 211, 3) := by decide +kernel
theorem dX9_worth_36 : decode cX9_worth 36 = .ok (.ireturn, 1) := by decide +kernel
set_option maxRecDepth 20000 in
theorem ggX9_meant_X5_has : GoodIn wsX9_meant wsX5_has := goodIn_r _ [7, 8, 49, 50, 51, 52, 53, 54, 55] (by decide +kernel) (by decide +kernel)
set_option maxRecDepth 20000 in
theorem gX9_meant_X5_has : GoodIn wsX9_meant (wsV RX9 158 RX5 yX5_has wsX5_has) := goodIn_app (goodIn_of _ (by decide +kernel)) ggX9_meant_X5_has
set_option maxRecDepth 20000 in
theorem ggX9_meant_X9_finding : GoodIn wsX9_meant wsX9_finding := goodIn_r _ [13, 2, 14, 40, 41, 42, 43, 44, 45, 46, 47, 48] (by decide +kernel) (by decide +kernel)
set_option maxRecDepth 20000 in
theorem gX9_meant_X9_finding : GoodIn wsX9_meant (wsV RX9 65 RX9 yX9_finding wsX9_finding) := goodIn_app (goodIn_of _ (by decide +kernel)) ggX9_meant_X9_finding
set_option maxRecDepth 20000 in
theorem ggX9_meant_X5_shownAt : GoodIn wsX9_meant wsX5_shownAt := goodIn_r _ [18, 19, 20, 21, 22, 23, 24, 6, 25, 26, 27, 28, 29, 30, 31, 32, 33, 49, 50, 51, 52, 53, 54, 55] (by decide +kernel) (by decide +kernel)
set_option maxRecDepth 20000 in
theorem gX9_meant_X5_shownAt : GoodIn wsX9_meant (wsV RX9 176 RX5 yX5_shownAt wsX5_shownAt) := goodIn_app (goodIn_of _ (by decide +kernel)) ggX9_meant_X5_shownAt
set_option maxRecDepth 20000 in
theorem ggX9_meant_X0_signsLeftAs : GoodIn wsX9_meant wsX0_signsLeftAs := goodIn_r _ [38, 39, 56] (by decide +kernel) (by decide +kernel)
set_option maxRecDepth 20000 in
theorem gX9_meant_X0_signsLeftAs : GoodIn wsX9_meant (wsV RX9 214 RX0 yX0_signsLeftAs wsX0_signsLeftAs) := goodIn_app (goodIn_of _ (by decide +kernel)) ggX9_meant_X0_signsLeftAs
theorem dX9_meant_0 : decode cX9_meant 0 = .ok (.aload_n 0, 1) := by decide +kernel
theorem dX9_meant_1 : decode cX9_meant 1 = .ok (.getfield 10, 3) := by decide +kernel
theorem dX9_meant_4 : decode cX9_meant 4 = .ok (.iload_n 1, 1) := by decide +kernel
theorem dX9_meant_5 : decode cX9_meant 5 = .ok (.invokevirtual 158, 3) := by decide +kernel
theorem dX9_meant_8 : decode cX9_meant 8 = .ok (.ifCond .ne 10, 3) := by decide +kernel
theorem dX9_meant_11 : decode cX9_meant 11 = .ok (.aload_n 0, 1) := by decide +kernel
theorem dX9_meant_12 : decode cX9_meant 12 = .ok (.ldc 64, 2) := by decide +kernel
theorem dX9_meant_14 : decode cX9_meant 14 = .ok (.invokevirtual 65, 3) := by decide +kernel
theorem dX9_meant_17 : decode cX9_meant 17 = .ok (.ireturn, 1) := by decide +kernel
theorem dX9_meant_18 : decode cX9_meant 18 = .ok (.aload_n 0, 1) := by decide +kernel
theorem dX9_meant_19 : decode cX9_meant 19 = .ok (.getfield 10, 3) := by decide +kernel
theorem dX9_meant_22 : decode cX9_meant 22 = .ok (.getfield 112, 3) := by decide +kernel
theorem dX9_meant_25 : decode cX9_meant 25 = .ok (.aload_n 0, 1) := by decide +kernel
theorem dX9_meant_26 : decode cX9_meant 26 = .ok (.getfield 10, 3) := by decide +kernel
theorem dX9_meant_29 : decode cX9_meant 29 = .ok (.iload_n 1, 1) := by decide +kernel
theorem dX9_meant_30 : decode cX9_meant 30 = .ok (.aload_n 0, 1) := by decide +kernel
theorem dX9_meant_31 : decode cX9_meant 31 = .ok (.getfield 10, 3) := by decide +kernel
theorem dX9_meant_34 : decode cX9_meant 34 = .ok (.getfield 173, 3) := by decide +kernel
theorem dX9_meant_37 : decode cX9_meant 37 = .ok (.invokevirtual 176, 3) := by decide +kernel
theorem dX9_meant_40 : decode cX9_meant 40 = .ok (.aload_n 0, 1) := by decide +kernel
theorem dX9_meant_41 : decode cX9_meant 41 = .ok (.getfield 10, 3) := by decide +kernel
theorem dX9_meant_44 : decode cX9_meant 44 = .ok (.getfield 134, 3) := by decide +kernel
theorem dX9_meant_47 : decode cX9_meant 47 = .ok (.invokevirtual 214, 3) := by decide +kernel
theorem dX9_meant_50 : decode cX9_meant 50 = .ok (.ireturn, 1) := by decide +kernel
set_option maxRecDepth 20000 in
theorem ggX9_cheap_X4_isKind : GoodIn wsX9_cheap wsX4_isKind := goodIn_r _ [7] (by decide +kernel) (by decide +kernel)
set_option maxRecDepth 20000 in
theorem gX9_cheap_X4_isKind : GoodIn wsX9_cheap (va_wsS RX9 145 yX4_isKind wsX4_isKind) := goodIn_app (goodIn_of _ (by decide +kernel)) ggX9_cheap_X4_isKind
set_option maxRecDepth 20000 in
theorem ggX9_cheap_X9_finding : GoodIn wsX9_cheap wsX9_finding := goodIn_r _ [12, 1, 13, 49, 50, 51, 52, 53, 54, 55, 56, 57] (by decide +kernel) (by decide +kernel)
set_option maxRecDepth 20000 in
theorem gX9_cheap_X9_finding : GoodIn wsX9_cheap (wsV RX9 65 RX9 yX9_finding wsX9_finding) := goodIn_app (goodIn_of _ (by decide +kernel)) ggX9_cheap_X9_finding
set_option maxRecDepth 20000 in
theorem ggX9_cheap_X0_cheapest : GoodIn wsX9_cheap wsX0_cheapest := goodIn_r _ [18, 19, 20, 21, 6, 22, 23, 24, 25, 26, 27, 28, 29, 30, 31, 32, 33, 34, 35, 36, 37, 38, 39, 40, 41, 42, 43, 44, 45, 46, 47, 48, 65] (by decide +kernel) (by decide +kernel)
set_option maxRecDepth 20000 in
theorem gX9_cheap_X0_cheapest : GoodIn wsX9_cheap (wsV RX9 217 RX0 yX0_cheapest wsX0_cheapest) := goodIn_app (goodIn_of _ (by decide +kernel)) ggX9_cheap_X0_cheapest
theorem dX9_cheap_0 : decode cX9_cheap 0 = .ok (.iload_n 1, 1) := by decide +kernel
theorem dX9_cheap_1 : decode cX9_cheap 1 = .ok (.invokestatic 145, 3) := by decide +kernel
theorem dX9_cheap_4 : decode cX9_cheap 4 = .ok (.ifCond .ne 10, 3) := by decide +kernel
theorem dX9_cheap_7 : decode cX9_cheap 7 = .ok (.aload_n 0, 1) := by decide +kernel
theorem dX9_cheap_8 : decode cX9_cheap 8 = .ok (.ldc 64, 2) := by decide +kernel
theorem dX9_cheap_10 : decode cX9_cheap 10 = .ok (.invokevirtual 65, 3) := by decide +kernel
theorem dX9_cheap_13 : decode cX9_cheap 13 = .ok (.ireturn, 1) := by decide +kernel
theorem dX9_cheap_14 : decode cX9_cheap 14 = .ok (.aload_n 0, 1) := by decide +kernel
theorem dX9_cheap_15 : decode cX9_cheap 15 = .ok (.getfield 10, 3) := by decide +kernel
theorem dX9_cheap_18 : decode cX9_cheap 18 = .ok (.getfield 112, 3) := by decide +kernel
theorem dX9_cheap_21 : decode cX9_cheap 21 = .ok (.iload_n 1, 1) := by decide +kernel
theorem dX9_cheap_22 : decode cX9_cheap 22 = .ok (.invokevirtual 217, 3) := by decide +kernel
theorem dX9_cheap_25 : decode cX9_cheap 25 = .ok (.istore_n 2, 1) := by decide +kernel
theorem dX9_cheap_26 : decode cX9_cheap 26 = .ok (.iload_n 2, 1) := by decide +kernel
theorem dX9_cheap_27 : decode cX9_cheap 27 = .ok (.ifCond .ge 12, 3) := by decide +kernel
theorem dX9_cheap_30 : decode cX9_cheap 30 = .ok (.aload_n 0, 1) := by decide +kernel
theorem dX9_cheap_31 : decode cX9_cheap 31 = .ok (.ldc 100, 2) := by decide +kernel
theorem dX9_cheap_33 : decode cX9_cheap 33 = .ok (.invokevirtual 65, 3) := by decide +kernel
theorem dX9_cheap_36 : decode cX9_cheap 36 = .ok (.goto 4, 3) := by decide +kernel
theorem dX9_cheap_39 : decode cX9_cheap 39 = .ok (.iload_n 2, 1) := by decide +kernel
theorem dX9_cheap_40 : decode cX9_cheap 40 = .ok (.ireturn, 1) := by decide +kernel
set_option maxRecDepth 20000 in
theorem ggX9_feed_X9_finding : GoodIn wsX9_feed wsX9_finding := goodIn_r _ [8, 1, 9, 21, 22, 23, 24, 25, 26, 27, 28, 29] (by decide +kernel) (by decide +kernel)
set_option maxRecDepth 20000 in
theorem gX9_feed_X9_finding : GoodIn wsX9_feed (wsV RX9 65 RX9 yX9_finding wsX9_finding) := goodIn_app (goodIn_of _ (by decide +kernel)) ggX9_feed_X9_finding
set_option maxRecDepth 20000 in
theorem ggX9_feed_X7_hasRoomFor : GoodIn wsX9_feed wsX7_hasRoomFor := goodIn_r _ [14, 15, 30, 31] (by decide +kernel) (by decide +kernel)
set_option maxRecDepth 20000 in
theorem gX9_feed_X7_hasRoomFor : GoodIn wsX9_feed (wsV RX9 220 RX7 yX7_hasRoomFor wsX7_hasRoomFor) := goodIn_app (goodIn_of _ (by decide +kernel)) ggX9_feed_X7_hasRoomFor
set_option maxRecDepth 20000 in
theorem ggX9_feed_X7_append : GoodIn wsX9_feed wsX7_append := goodIn_r _ [19, 15, 20, 30, 31] (by decide +kernel) (by decide +kernel)
set_option maxRecDepth 20000 in
theorem gX9_feed_X7_append : GoodIn wsX9_feed (wsV RX9 223 RX7 yX7_append wsX7_append) := goodIn_app (goodIn_of _ (by decide +kernel)) ggX9_feed_X7_append
theorem dX9_feed_0 : decode cX9_feed 0 = .ok (.iload_n 2, 1) := by decide +kernel
theorem dX9_feed_1 : decode cX9_feed 1 = .ok (.iconst 1, 1) := by decide +kernel
theorem dX9_feed_2 : decode cX9_feed 2 = .ok (.if_icmp .lt 8, 3) := by decide +kernel
theorem dX9_feed_5 : decode cX9_feed 5 = .ok (.iload_n 2, 1) := by decide +kernel
theorem dX9_feed_6 : decode cX9_feed 6 = .ok (.iconst 4, 1) := by decide +kernel
theorem dX9_feed_7 : decode cX9_feed 7 = .ok (.if_icmp .le 10, 3) := by decide +kernel
theorem dX9_feed_10 : decode cX9_feed 10 = .ok (.aload_n 0, 1) := by decide +kernel
theorem dX9_feed_11 : decode cX9_feed 11 = .ok (.ldc 64, 2) := by decide +kernel
theorem dX9_feed_13 : decode cX9_feed 13 = .ok (.invokevirtual 65, 3) := by decide +kernel
theorem dX9_feed_16 : decode cX9_feed 16 = .ok (.ireturn, 1) := by decide +kernel
theorem dX9_feed_17 : decode cX9_feed 17 = .ok (.aload_n 0, 1) := by decide +kernel
theorem dX9_feed_18 : decode cX9_feed 18 = .ok (.getfield 25, 3) := by decide +kernel
theorem dX9_feed_21 : decode cX9_feed 21 = .ok (.iload_n 2, 1) := by decide +kernel
theorem dX9_feed_22 : decode cX9_feed 22 = .ok (.invokevirtual 220, 3) := by decide +kernel
theorem dX9_feed_25 : decode cX9_feed 25 = .ok (.ifCond .ne 10, 3) := by decide +kernel
theorem dX9_feed_28 : decode cX9_feed 28 = .ok (.aload_n 0, 1) := by decide +kernel
theorem dX9_feed_29 : decode cX9_feed 29 = .ok (.ldc 154, 2) := by decide +kernel
theorem dX9_feed_31 : decode cX9_feed 31 = .ok (.invokevirtual 65, 3) := by decide +kernel
theorem dX9_feed_34 : decode cX9_feed 34 = .ok (.ireturn, 1) := by decide +kernel
theorem dX9_feed_35 : decode cX9_feed 35 = .ok (.aload_n 0, 1) := by decide +kernel
theorem dX9_feed_36 : decode cX9_feed 36 = .ok (.getfield 25, 3) := by decide +kernel
theorem dX9_feed_39 : decode cX9_feed 39 = .ok (.iload_n 1, 1) := by decide +kernel
theorem dX9_feed_40 : decode cX9_feed 40 = .ok (.iload_n 2, 1) := by decide +kernel
theorem dX9_feed_41 : decode cX9_feed 41 = .ok (.invokevirtual 223, 3) := by decide +kernel
theorem dX9_feed_44 : decode cX9_feed 44 = .ok (.aload_n 0, 1) := by decide +kernel
theorem dX9_feed_45 : decode cX9_feed 45 = .ok (.getfield 25, 3) := by decide +kernel
theorem dX9_feed_48 : decode cX9_feed 48 = .ok (.getfield 226, 3) := by decide +kernel
theorem dX9_feed_51 : decode cX9_feed 51 = .ok (.ireturn, 1) := by decide +kernel
set_option maxRecDepth 20000 in
theorem ggX9_wipe_X7_empty : GoodIn wsX9_wipe wsX7_empty := goodIn_r _ [6, 7, 17, 18] (by decide +kernel) (by decide +kernel)
set_option maxRecDepth 20000 in
theorem gX9_wipe_X7_empty : GoodIn wsX9_wipe (wsV RX9 229 RX7 yX7_empty wsX7_empty) := goodIn_app (goodIn_of _ (by decide +kernel)) ggX9_wipe_X7_empty
theorem dX9_wipe_0 : decode cX9_wipe 0 = .ok (.aload_n 0, 1) := by decide +kernel
theorem dX9_wipe_1 : decode cX9_wipe 1 = .ok (.getfield 25, 3) := by decide +kernel
theorem dX9_wipe_4 : decode cX9_wipe 4 = .ok (.invokevirtual 229, 3) := by decide +kernel
theorem dX9_wipe_7 : decode cX9_wipe 7 = .ok (.ireturn, 1) := by decide +kernel
set_option maxRecDepth 20000 in
theorem ggX9_field_X5_become : GoodIn wsX9_field wsX5_become := goodIn_r _ [9, 10, 11, 12, 13, 14, 15, 16, 17, 18, 19, 20, 21, 22, 23, 24, 25, 26, 27, 200, 201, 202, 203, 204, 205, 206, 207] (by decide +kernel) (by decide +kernel)
set_option maxRecDepth 20000 in
theorem gX9_field_X5_become : GoodIn wsX9_field (wsV RX9 232 RX5 yX5_become wsX5_become) := goodIn_app (goodIn_of _ (by decide +kernel)) ggX9_field_X5_become
set_option maxRecDepth 20000 in
theorem ggX9_field_X2_tell : GoodIn wsX9_field wsX2_tell := goodIn_r _ [32, 33, 34, 35, 36, 37, 38, 39, 40, 41, 42, 43, 44, 45, 46, 47, 48, 49, 50, 51, 52, 53, 54, 55, 56, 57, 58, 59, 60, 61, 62, 63, 64, 65, 66, 67, 68, 69, 70, 71, 72, 73, 74, 75, 76, 77, 78, 79, 80, 81, 82, 83, 84, 85, 86, 87, 88, 89, 90, 91, 92, 93, 94, 95, 96, 97, 98, 99, 100, 101, 102, 103, 104, 105, 106, 107, 108, 109, 110, 111, 112, 113, 114, 115, 116, 117, 118, 119, 120, 121, 122, 123, 124, 125, 31, 126, 127, 128, 129, 130, 131, 132, 133, 134, 135, 136, 137, 138, 139, 140, 141, 142, 143, 144, 145, 24, 146, 26, 147, 148, 149, 150, 151, 152, 153, 154, 155, 156, 157, 158, 159, 160, 8, 161, 18, 162, 163, 164, 165, 166, 167, 168, 169, 170, 171, 172, 173, 174, 175, 176, 177, 11, 16, 17, 178, 179, 180, 181, 182, 183, 184, 185, 186, 208, 209, 210, 211, 212, 213, 214, 215, 216, 200, 201, 202, 203, 204, 205, 206, 207] (by decide +kernel) (by decide +kernel)
set_option maxRecDepth 20000 in
theorem gX9_field_X2_tell : GoodIn wsX9_field (wsV RX9 236 RX2 yX2_tell wsX2_tell) := goodIn_app (goodIn_of _ (by decide +kernel)) ggX9_field_X2_tell
set_option maxRecDepth 20000 in
theorem ggX9_field_X7_empty : GoodIn wsX9_field wsX7_empty := goodIn_r _ [190, 50, 215, 216] (by decide +kernel) (by decide +kernel)
set_option maxRecDepth 20000 in
theorem gX9_field_X7_empty : GoodIn wsX9_field (wsV RX9 229 RX7 yX7_empty wsX7_empty) := goodIn_app (goodIn_of _ (by decide +kernel)) ggX9_field_X7_empty
theorem dX9_field_0 : decode cX9_field 0 = .ok (.aload_n 0, 1) := by decide +kernel
theorem dX9_field_1 : decode cX9_field 1 = .ok (.getfield 19, 3) := by decide +kernel
theorem dX9_field_4 : decode cX9_field 4 = .ok (.aload_n 0, 1) := by decide +kernel
theorem dX9_field_5 : decode cX9_field 5 = .ok (.getfield 10, 3) := by decide +kernel
theorem dX9_field_8 : decode cX9_field 8 = .ok (.invokevirtual 232, 3) := by decide +kernel
theorem dX9_field_11 : decode cX9_field 11 = .ok (.aload_n 0, 1) := by decide +kernel
theorem dX9_field_12 : decode cX9_field 12 = .ok (.getfield 32, 3) := by decide +kernel
theorem dX9_field_15 : decode cX9_field 15 = .ok (.aload_n 0, 1) := by decide +kernel
theorem dX9_field_16 : decode cX9_field 16 = .ok (.getfield 25, 3) := by decide +kernel
theorem dX9_field_19 : decode cX9_field 19 = .ok (.aload_n 0, 1) := by decide +kernel
theorem dX9_field_20 : decode cX9_field 20 = .ok (.getfield 19, 3) := by decide +kernel
theorem dX9_field_23 : decode cX9_field 23 = .ok (.invokevirtual 236, 3) := by decide +kernel
theorem dX9_field_26 : decode cX9_field 26 = .ok (.istore_n 1, 1) := by decide +kernel
theorem dX9_field_27 : decode cX9_field 27 = .ok (.iload_n 1, 1) := by decide +kernel
theorem dX9_field_28 : decode cX9_field 28 = .ok (.ifCond .lt 14, 3) := by decide +kernel
theorem dX9_field_31 : decode cX9_field 31 = .ok (.aload_n 0, 1) := by decide +kernel
theorem dX9_field_32 : decode cX9_field 32 = .ok (.getfield 10, 3) := by decide +kernel
theorem dX9_field_35 : decode cX9_field 35 = .ok (.aload_n 0, 1) := by decide +kernel
theorem dX9_field_36 : decode cX9_field 36 = .ok (.getfield 19, 3) := by decide +kernel
theorem dX9_field_39 : decode cX9_field 39 = .ok (.invokevirtual 232, 3) := by decide +kernel
theorem dX9_field_42 : decode cX9_field 42 = .ok (.aload_n 0, 1) := by decide +kernel
theorem dX9_field_43 : decode cX9_field 43 = .ok (.getfield 25, 3) := by decide +kernel
theorem dX9_field_46 : decode cX9_field 46 = .ok (.invokevirtual 229, 3) := by decide +kernel
theorem dX9_field_49 : decode cX9_field 49 = .ok (.pop, 1) := by decide +kernel
theorem dX9_field_50 : decode cX9_field 50 = .ok (.iload_n 1, 1) := by decide +kernel
theorem dX9_field_51 : decode cX9_field 51 = .ok (.ireturn, 1) := by decide +kernel
set_option maxRecDepth 20000 in
theorem ggX9_sheet_X6_isSheet : GoodIn wsX9_sheet wsX6_isSheet := goodIn_r _ [7] (by decide +kernel) (by decide +kernel)
set_option maxRecDepth 20000 in
theorem gX9_sheet_X6_isSheet : GoodIn wsX9_sheet (va_wsS RX9 240 yX6_isSheet wsX6_isSheet) := goodIn_app (goodIn_of _ (by decide +kernel)) ggX9_sheet_X6_isSheet
set_option maxRecDepth 20000 in
theorem ggX9_sheet_X6_isWidth : GoodIn wsX9_sheet wsX6_isWidth := goodIn_r _ [10] (by decide +kernel) (by decide +kernel)
set_option maxRecDepth 20000 in
theorem gX9_sheet_X6_isWidth : GoodIn wsX9_sheet (va_wsS RX9 243 yX6_isWidth wsX6_isWidth) := goodIn_app (goodIn_of _ (by decide +kernel)) ggX9_sheet_X6_isWidth
set_option maxRecDepth 20000 in
theorem ggX9_sheet_X9_finding : GoodIn wsX9_sheet wsX9_finding := goodIn_r _ [15, 1, 16, 25, 26, 27, 28, 29, 30, 31, 32, 33] (by decide +kernel) (by decide +kernel)
set_option maxRecDepth 20000 in
theorem gX9_sheet_X9_finding : GoodIn wsX9_sheet (wsV RX9 65 RX9 yX9_finding wsX9_finding) := goodIn_app (goodIn_of _ (by decide +kernel)) ggX9_sheet_X9_finding
set_option maxRecDepth 20000 in
theorem ggX9_sheet_X6_lay : GoodIn wsX9_sheet wsX6_lay := goodIn_r _ [20, 21, 22, 23, 24, 5, 6, 7, 34, 35, 36] (by decide +kernel) (by decide +kernel)
set_option maxRecDepth 20000 in
theorem gX9_sheet_X6_lay : GoodIn wsX9_sheet (wsV RX9 247 RX6 yX6_lay wsX6_lay) := goodIn_app (goodIn_of _ (by decide +kernel)) ggX9_sheet_X6_lay
theorem dX9_sheet_0 : decode cX9_sheet 0 = .ok (.iload_n 1, 1) := by decide +kernel
theorem dX9_sheet_1 : decode cX9_sheet 1 = .ok (.invokestatic 240, 3) := by decide +kernel
theorem dX9_sheet_4 : decode cX9_sheet 4 = .ok (.ifCond .eq 10, 3) := by decide +kernel
theorem dX9_sheet_7 : decode cX9_sheet 7 = .ok (.iload_n 2, 1) := by decide +kernel
theorem dX9_sheet_8 : decode cX9_sheet 8 = .ok (.invokestatic 243, 3) := by decide +kernel
theorem dX9_sheet_11 : decode cX9_sheet 11 = .ok (.ifCond .ne 10, 3) := by decide +kernel
theorem dX9_sheet_14 : decode cX9_sheet 14 = .ok (.aload_n 0, 1) := by decide +kernel
theorem dX9_sheet_15 : decode cX9_sheet 15 = .ok (.ldc 64, 2) := by decide +kernel
theorem dX9_sheet_17 : decode cX9_sheet 17 = .ok (.invokevirtual 65, 3) := by decide +kernel
theorem dX9_sheet_20 : decode cX9_sheet 20 = .ok (.ireturn, 1) := by decide +kernel
theorem dX9_sheet_21 : decode cX9_sheet 21 = .ok (.iload_n 3, 1) := by decide +kernel
theorem dX9_sheet_22 : decode cX9_sheet 22 = .ok (.ifCond .ge 10, 3) := by decide +kernel
theorem dX9_sheet_25 : decode cX9_sheet 25 = .ok (.aload_n 0, 1) := by decide +kernel
theorem dX9_sheet_26 : decode cX9_sheet 26 = .ok (.ldc 246, 2) := by decide +kernel
theorem dX9_sheet_28 : decode cX9_sheet 28 = .ok (.invokevirtual 65, 3) := by decide +kernel
theorem dX9_sheet_31 : decode cX9_sheet 31 = .ok (.ireturn, 1) := by decide +kernel
theorem dX9_sheet_32 : decode cX9_sheet 32 = .ok (.iload_n 3, 1) := by decide +kernel
theorem dX9_sheet_33 : decode cX9_sheet 33 = .ok (.bipush 40, 2) := by decide +kernel
theorem dX9_sheet_35 : decode cX9_sheet 35 = .ok (.if_icmp .le 10, 3) := by decide +kernel
theorem dX9_sheet_38 : decode cX9_sheet 38 = .ok (.aload_n 0, 1) := by decide +kernel
theorem dX9_sheet_39 : decode cX9_sheet 39 = .ok (.ldc 64, 2) := by decide +kernel
theorem dX9_sheet_41 : decode cX9_sheet 41 = .ok (.invokevirtual 65, 3) := by decide +kernel
theorem dX9_sheet_44 : decode cX9_sheet 44 = .ok (.ireturn, 1) := by decide +kernel
theorem dX9_sheet_45 : decode cX9_sheet 45 = .ok (.aload_n 0, 1) := by decide +kernel
theorem dX9_sheet_46 : decode cX9_sheet 46 = .ok (.getfield 39, 3) := by decide +kernel
theorem dX9_sheet_49 : decode cX9_sheet 49 = .ok (.iload_n 1, 1) := by decide +kernel
theorem dX9_sheet_50 : decode cX9_sheet 50 = .ok (.iload_n 2, 1) := by decide +kernel
theorem dX9_sheet_51 : decode cX9_sheet 51 = .ok (.iload_n 3, 1) := by decide +kernel
theorem dX9_sheet_52 : decode cX9_sheet 52 = .ok (.invokevirtual 247, 3) := by decide +kernel
theorem dX9_sheet_55 : decode cX9_sheet 55 = .ok (.ireturn, 1) := by decide +kernel
set_option maxRecDepth 20000 in
theorem ggX9_write_X6_isSheet : GoodIn wsX9_write wsX6_isSheet := goodIn_r _ [7] (by decide +kernel) (by decide +kernel)
set_option maxRecDepth 20000 in
theorem gX9_write_X6_isSheet : GoodIn wsX9_write (va_wsS RX9 240 yX6_isSheet wsX6_isSheet) := goodIn_app (goodIn_of _ (by decide +kernel)) ggX9_write_X6_isSheet
set_option maxRecDepth 20000 in
theorem ggX9_write_X9_finding : GoodIn wsX9_write wsX9_finding := goodIn_r _ [12, 1, 13, 38, 39, 40, 41, 42, 43, 44, 45, 46] (by decide +kernel) (by decide +kernel)
set_option maxRecDepth 20000 in
theorem gX9_write_X9_finding : GoodIn wsX9_write (wsV RX9 65 RX9 yX9_finding wsX9_finding) := goodIn_app (goodIn_of _ (by decide +kernel)) ggX9_write_X9_finding
set_option maxRecDepth 20000 in
theorem ggX9_write_X6_isMissing : GoodIn wsX9_write wsX6_isMissing := goodIn_r _ [17, 18, 19, 5, 6, 7, 47, 48, 49] (by decide +kernel) (by decide +kernel)
set_option maxRecDepth 20000 in
theorem gX9_write_X6_isMissing : GoodIn wsX9_write (wsV RX9 250 RX6 yX6_isMissing wsX6_isMissing) := goodIn_app (goodIn_of _ (by decide +kernel)) ggX9_write_X6_isMissing
set_option maxRecDepth 20000 in
theorem ggX9_write_X6_sizeOf : GoodIn wsX9_write wsX6_sizeOf := goodIn_r _ [23, 24, 19, 5, 6, 7, 47, 48, 49] (by decide +kernel) (by decide +kernel)
set_option maxRecDepth 20000 in
theorem gX9_write_X6_sizeOf : GoodIn wsX9_write (wsV RX9 254 RX6 yX6_sizeOf wsX6_sizeOf) := goodIn_app (goodIn_of _ (by decide +kernel)) ggX9_write_X6_sizeOf
set_option maxRecDepth 20000 in
theorem ggX9_write_X6_at : GoodIn wsX9_write wsX6_at := goodIn_r _ [28, 29, 30, 21, 22, 6, 23, 24, 19, 5, 7, 47, 48, 49] (by decide +kernel) (by decide +kernel)
set_option maxRecDepth 20000 in
theorem gX9_write_X6_at : GoodIn wsX9_write (wsV RX9 257 RX6 yX6_at wsX6_at) := goodIn_app (goodIn_of _ (by decide +kernel)) ggX9_write_X6_at
set_option maxRecDepth 20000 in
theorem ggX9_write_X6_put : GoodIn wsX9_write wsX6_put := goodIn_r _ [34, 29, 18, 30, 21, 22, 6, 23, 24, 19, 5, 7, 35, 36, 37, 47, 48, 49] (by decide +kernel) (by decide +kernel)
set_option maxRecDepth 20000 in
theorem gX9_write_X6_put : GoodIn wsX9_write (wsV RX9 261 RX6 yX6_put wsX6_put) := goodIn_app (goodIn_of _ (by decide +kernel)) ggX9_write_X6_put
theorem dX9_write_0 : decode cX9_write 0 = .ok (.iload_n 1, 1) := by decide +kernel
theorem dX9_write_1 : decode cX9_write 1 = .ok (.invokestatic 240, 3) := by decide +kernel
theorem dX9_write_4 : decode cX9_write 4 = .ok (.ifCond .ne 11, 3) := by decide +kernel
theorem dX9_write_7 : decode cX9_write 7 = .ok (.aload_n 0, 1) := by decide +kernel
theorem dX9_write_8 : decode cX9_write 8 = .ok (.ldc 64, 2) := by decide +kernel
theorem dX9_write_10 : decode cX9_write 10 = .ok (.invokevirtual 65, 3) := by decide +kernel
theorem dX9_write_13 : decode cX9_write 13 = .ok (.i2l, 1) := by decide +kernel
theorem dX9_write_14 : decode cX9_write 14 = .ok (.lreturn, 1) := by decide +kernel
theorem dX9_write_15 : decode cX9_write 15 = .ok (.aload_n 0, 1) := by decide +kernel
theorem dX9_write_16 : decode cX9_write 16 = .ok (.getfield 39, 3) := by decide +kernel
theorem dX9_write_19 : decode cX9_write 19 = .ok (.iload_n 1, 1) := by decide +kernel
theorem dX9_write_20 : decode cX9_write 20 = .ok (.invokevirtual 250, 3) := by decide +kernel
theorem dX9_write_23 : decode cX9_write 23 = .ok (.ifCond .eq 11, 3) := by decide +kernel
theorem dX9_write_26 : decode cX9_write 26 = .ok (.aload_n 0, 1) := by decide +kernel
theorem dX9_write_27 : decode cX9_write 27 = .ok (.ldc 253, 2) := by decide +kernel
theorem dX9_write_29 : decode cX9_write 29 = .ok (.invokevirtual 65, 3) := by decide +kernel
theorem dX9_write_32 : decode cX9_write 32 = .ok (.i2l, 1) := by decide +kernel
theorem dX9_write_33 : decode cX9_write 33 = .ok (.lreturn, 1) := by decide +kernel
theorem dX9_write_34 : decode cX9_write 34 = .ok (.iload_n 2, 1) := by decide +kernel
theorem dX9_write_35 : decode cX9_write 35 = .ok (.ifCond .lt 15, 3) := by decide +kernel
theorem dX9_write_38 : decode cX9_write 38 = .ok (.iload_n 2, 1) := by decide +kernel
theorem dX9_write_39 : decode cX9_write 39 = .ok (.aload_n 0, 1) := by decide +kernel
theorem dX9_write_40 : decode cX9_write 40 = .ok (.getfield 39, 3) := by decide +kernel
theorem dX9_write_43 : decode cX9_write 43 = .ok (.iload_n 1, 1) := by decide +kernel
theorem dX9_write_44 : decode cX9_write 44 = .ok (.invokevirtual 254, 3) := by decide +kernel
theorem dX9_write_47 : decode cX9_write 47 = .ok (.if_icmp .lt 11, 3) := by decide +kernel
theorem dX9_write_50 : decode cX9_write 50 = .ok (.aload_n 0, 1) := by decide +kernel
theorem dX9_write_51 : decode cX9_write 51 = .ok (.ldc 64, 2) := by decide +kernel
theorem dX9_write_53 : decode cX9_write 53 = .ok (.invokevirtual 65, 3) := by decide +kernel
theorem dX9_write_56 : decode cX9_write 56 = .ok (.i2l, 1) := by decide +kernel
theorem dX9_write_57 : decode cX9_write 57 = .ok (.lreturn, 1) := by decide +kernel
theorem dX9_write_58 : decode cX9_write 58 = .ok (.aload_n 0, 1) := by decide +kernel
theorem dX9_write_59 : decode cX9_write 59 = .ok (.getfield 39, 3) := by decide +kernel
theorem dX9_write_62 : decode cX9_write 62 = .ok (.iload_n 1, 1) := by decide +kernel
theorem dX9_write_63 : decode cX9_write 63 = .ok (.iload_n 2, 1) := by decide +kernel
theorem dX9_write_64 : decode cX9_write 64 = .ok (.invokevirtual 257, 3) := by decide +kernel
theorem dX9_write_67 : decode cX9_write 67 = .ok (.lstore 5, 2) := by decide +kernel
theorem dX9_write_69 : decode cX9_write 69 = .ok (.aload_n 0, 1) := by decide +kernel
theorem dX9_write_70 : decode cX9_write 70 = .ok (.getfield 39, 3) := by decide +kernel
theorem dX9_write_73 : decode cX9_write 73 = .ok (.iload_n 1, 1) := by decide +kernel
theorem dX9_write_74 : decode cX9_write 74 = .ok (.iload_n 2, 1) := by decide +kernel
theorem dX9_write_75 : decode cX9_write 75 = .ok (.lload_n 3, 1) := by decide +kernel
theorem dX9_write_76 : decode cX9_write 76 = .ok (.invokevirtual 261, 3) := by decide +kernel
theorem dX9_write_79 : decode cX9_write 79 = .ok (.lload 5, 2) := by decide +kernel
theorem dX9_write_81 : decode cX9_write 81 = .ok (.lreturn, 1) := by decide +kernel
set_option maxRecDepth 20000 in
theorem ggX9_copy_X6_isSheet : GoodIn wsX9_copy wsX6_isSheet := goodIn_r _ [8] (by decide +kernel) (by decide +kernel)
set_option maxRecDepth 20000 in
theorem gX9_copy_X6_isSheet : GoodIn wsX9_copy (va_wsS RX9 240 yX6_isSheet wsX6_isSheet) := goodIn_app (goodIn_of _ (by decide +kernel)) ggX9_copy_X6_isSheet
set_option maxRecDepth 20000 in
theorem ggX9_copy_X9_finding : GoodIn wsX9_copy wsX9_finding := goodIn_r _ [13, 1, 14, 44, 45, 46, 47, 48, 49, 50, 51, 52] (by decide +kernel) (by decide +kernel)
set_option maxRecDepth 20000 in
theorem gX9_copy_X9_finding : GoodIn wsX9_copy (wsV RX9 65 RX9 yX9_finding wsX9_finding) := goodIn_app (goodIn_of _ (by decide +kernel)) ggX9_copy_X9_finding
set_option maxRecDepth 20000 in
theorem ggX9_copy_X6_isMissing : GoodIn wsX9_copy wsX6_isMissing := goodIn_r _ [18, 19, 20, 6, 7, 8, 53, 54, 55] (by decide +kernel) (by decide +kernel)
set_option maxRecDepth 20000 in
theorem gX9_copy_X6_isMissing : GoodIn wsX9_copy (wsV RX9 250 RX6 yX6_isMissing wsX6_isMissing) := goodIn_app (goodIn_of _ (by decide +kernel)) ggX9_copy_X6_isMissing
set_option maxRecDepth 20000 in
theorem ggX9_copy_X6_areAlike : GoodIn wsX9_copy wsX6_areAlike := goodIn_r _ [24, 19, 20, 6, 7, 8, 53, 54, 55] (by decide +kernel) (by decide +kernel)
set_option maxRecDepth 20000 in
theorem gX9_copy_X6_areAlike : GoodIn wsX9_copy (wsV RX9 264 RX6 yX6_areAlike wsX6_areAlike) := goodIn_app (goodIn_of _ (by decide +kernel)) ggX9_copy_X6_areAlike
set_option maxRecDepth 20000 in
theorem ggX9_copy_X6_holds : GoodIn wsX9_copy wsX6_holds := goodIn_r _ [28, 29, 30, 31, 7, 32, 33, 20, 6, 8, 53, 54, 55] (by decide +kernel) (by decide +kernel)
set_option maxRecDepth 20000 in
theorem gX9_copy_X6_holds : GoodIn wsX9_copy (wsV RX9 267 RX6 yX6_holds wsX6_holds) := goodIn_app (goodIn_of _ (by decide +kernel)) ggX9_copy_X6_holds
set_option maxRecDepth 20000 in
theorem ggX9_copy_X6_move : GoodIn wsX9_copy wsX6_move := goodIn_r _ [37, 38, 39, 40, 41, 42, 43, 26, 27, 7, 28, 29, 30, 31, 32, 33, 20, 6, 8, 53, 54, 55] (by decide +kernel) (by decide +kernel)
set_option maxRecDepth 20000 in
theorem gX9_copy_X6_move : GoodIn wsX9_copy (wsV RX9 271 RX6 yX6_move wsX6_move) := goodIn_app (goodIn_of _ (by decide +kernel)) ggX9_copy_X6_move
theorem dX9_copy_0 : decode cX9_copy 0 = .ok (.iload_n 1, 1) := by decide +kernel
theorem dX9_copy_1 : decode cX9_copy 1 = .ok (.invokestatic 240, 3) := by decide +kernel
theorem dX9_copy_4 : decode cX9_copy 4 = .ok (.ifCond .eq 10, 3) := by decide +kernel
theorem dX9_copy_7 : decode cX9_copy 7 = .ok (.iload_n 3, 1) := by decide +kernel
theorem dX9_copy_8 : decode cX9_copy 8 = .ok (.invokestatic 240, 3) := by decide +kernel
theorem dX9_copy_11 : decode cX9_copy 11 = .ok (.ifCond .ne 10, 3) := by decide +kernel
theorem dX9_copy_14 : decode cX9_copy 14 = .ok (.aload_n 0, 1) := by decide +kernel
theorem dX9_copy_15 : decode cX9_copy 15 = .ok (.ldc 64, 2) := by decide +kernel
theorem dX9_copy_17 : decode cX9_copy 17 = .ok (.invokevirtual 65, 3) := by decide +kernel
theorem dX9_copy_20 : decode cX9_copy 20 = .ok (.ireturn, 1) := by decide +kernel
theorem dX9_copy_21 : decode cX9_copy 21 = .ok (.aload_n 0, 1) := by decide +kernel
theorem dX9_copy_22 : decode cX9_copy 22 = .ok (.getfield 39, 3) := by decide +kernel
theorem dX9_copy_25 : decode cX9_copy 25 = .ok (.iload_n 1, 1) := by decide +kernel
theorem dX9_copy_26 : decode cX9_copy 26 = .ok (.invokevirtual 250, 3) := by decide +kernel
theorem dX9_copy_29 : decode cX9_copy 29 = .ok (.ifCond .ne 14, 3) := by decide +kernel
theorem dX9_copy_32 : decode cX9_copy 32 = .ok (.aload_n 0, 1) := by decide +kernel
theorem dX9_copy_33 : decode cX9_copy 33 = .ok (.getfield 39, 3) := by decide +kernel
theorem dX9_copy_36 : decode cX9_copy 36 = .ok (.iload_n 3, 1) := by decide +kernel
theorem dX9_copy_37 : decode cX9_copy 37 = .ok (.invokevirtual 250, 3) := by decide +kernel
theorem dX9_copy_40 : decode cX9_copy 40 = .ok (.ifCond .eq 10, 3) := by decide +kernel
theorem dX9_copy_43 : decode cX9_copy 43 = .ok (.aload_n 0, 1) := by decide +kernel
theorem dX9_copy_44 : decode cX9_copy 44 = .ok (.ldc 253, 2) := by decide +kernel
theorem dX9_copy_46 : decode cX9_copy 46 = .ok (.invokevirtual 65, 3) := by decide +kernel
theorem dX9_copy_49 : decode cX9_copy 49 = .ok (.ireturn, 1) := by decide +kernel
theorem dX9_copy_50 : decode cX9_copy 50 = .ok (.aload_n 0, 1) := by decide +kernel
theorem dX9_copy_51 : decode cX9_copy 51 = .ok (.getfield 39, 3) := by decide +kernel
theorem dX9_copy_54 : decode cX9_copy 54 = .ok (.iload_n 1, 1) := by decide +kernel
theorem dX9_copy_55 : decode cX9_copy 55 = .ok (.iload_n 3, 1) := by decide +kernel
theorem dX9_copy_56 : decode cX9_copy 56 = .ok (.invokevirtual 264, 3) := by decide +kernel
theorem dX9_copy_59 : decode cX9_copy 59 = .ok (.ifCond .ne 10, 3) := by decide +kernel
theorem dX9_copy_62 : decode cX9_copy 62 = .ok (.aload_n 0, 1) := by decide +kernel
theorem dX9_copy_63 : decode cX9_copy 63 = .ok (.ldc 188, 2) := by decide +kernel
theorem dX9_copy_65 : decode cX9_copy 65 = .ok (.invokevirtual 65, 3) := by decide +kernel
theorem dX9_copy_68 : decode cX9_copy 68 = .ok (.ireturn, 1) := by decide +kernel
theorem dX9_copy_69 : decode cX9_copy 69 = .ok (.aload_n 0, 1) := by decide +kernel
theorem dX9_copy_70 : decode cX9_copy 70 = .ok (.getfield 39, 3) := by decide +kernel
theorem dX9_copy_73 : decode cX9_copy 73 = .ok (.iload_n 1, 1) := by decide +kernel
theorem dX9_copy_74 : decode cX9_copy 74 = .ok (.iload_n 2, 1) := by decide +kernel
theorem dX9_copy_75 : decode cX9_copy 75 = .ok (.iload 5, 2) := by decide +kernel
theorem dX9_copy_77 : decode cX9_copy 77 = .ok (.invokevirtual 267, 3) := by decide +kernel
theorem dX9_copy_80 : decode cX9_copy 80 = .ok (.ifCond .eq 18, 3) := by decide +kernel
theorem dX9_copy_83 : decode cX9_copy 83 = .ok (.aload_n 0, 1) := by decide +kernel
theorem dX9_copy_84 : decode cX9_copy 84 = .ok (.getfield 39, 3) := by decide +kernel
theorem dX9_copy_87 : decode cX9_copy 87 = .ok (.iload_n 3, 1) := by decide +kernel
theorem dX9_copy_88 : decode cX9_copy 88 = .ok (.iload 4, 2) := by decide +kernel
theorem dX9_copy_90 : decode cX9_copy 90 = .ok (.iload 5, 2) := by decide +kernel
theorem dX9_copy_92 : decode cX9_copy 92 = .ok (.invokevirtual 267, 3) := by decide +kernel
theorem dX9_copy_95 : decode cX9_copy 95 = .ok (.ifCond .ne 10, 3) := by decide +kernel
theorem dX9_copy_98 : decode cX9_copy 98 = .ok (.aload_n 0, 1) := by decide +kernel
theorem dX9_copy_99 : decode cX9_copy 99 = .ok (.ldc 64, 2) := by decide +kernel
theorem dX9_copy_101 : decode cX9_copy 101 = .ok (.invokevirtual 65, 3) := by decide +kernel
theorem dX9_copy_104 : decode cX9_copy 104 = .ok (.ireturn, 1) := by decide +kernel
theorem dX9_copy_105 : decode cX9_copy 105 = .ok (.aload_n 0, 1) := by decide +kernel
theorem dX9_copy_106 : decode cX9_copy 106 = .ok (.getfield 39, 3) := by decide +kernel
theorem dX9_copy_109 : decode cX9_copy 109 = .ok (.iload_n 1, 1) := by decide +kernel
theorem dX9_copy_110 : decode cX9_copy 110 = .ok (.iload_n 2, 1) := by decide +kernel
theorem dX9_copy_111 : decode cX9_copy 111 = .ok (.iload_n 3, 1) := by decide +kernel
theorem dX9_copy_112 : decode cX9_copy 112 = .ok (.iload 4, 2) := by decide +kernel
theorem dX9_copy_114 : decode cX9_copy 114 = .ok (.iload 5, 2) := by decide +kernel
theorem dX9_copy_116 : decode cX9_copy 116 = .ok (.invokevirtual 271, 3) := by decide +kernel
theorem dX9_copy_119 : decode cX9_copy 119 = .ok (.iload 5, 2) := by decide +kernel
theorem dX9_copy_121 : decode cX9_copy 121 = .ok (.ireturn, 1) := by decide +kernel
set_option maxRecDepth 20000 in
theorem ggX9_lays_X6_isSheet : GoodIn wsX9_lays wsX6_isSheet := goodIn_r _ [8] (by decide +kernel) (by decide +kernel)
set_option maxRecDepth 20000 in
theorem gX9_lays_X6_isSheet : GoodIn wsX9_lays (va_wsS RX9 240 yX6_isSheet wsX6_isSheet) := goodIn_app (goodIn_of _ (by decide +kernel)) ggX9_lays_X6_isSheet
set_option maxRecDepth 20000 in
theorem ggX9_lays_X9_finding : GoodIn wsX9_lays wsX9_finding := goodIn_r _ [13, 1, 14, 49, 50, 51, 52, 53, 54, 55, 56, 57] (by decide +kernel) (by decide +kernel)
set_option maxRecDepth 20000 in
theorem gX9_lays_X9_finding : GoodIn wsX9_lays (wsV RX9 65 RX9 yX9_finding wsX9_finding) := goodIn_app (goodIn_of _ (by decide +kernel)) ggX9_lays_X9_finding
set_option maxRecDepth 20000 in
theorem ggX9_lays_X6_isMissing : GoodIn wsX9_lays wsX6_isMissing := goodIn_r _ [18, 19, 20, 6, 7, 8, 65, 66, 67] (by decide +kernel) (by decide +kernel)
set_option maxRecDepth 20000 in
theorem gX9_lays_X6_isMissing : GoodIn wsX9_lays (wsV RX9 250 RX6 yX6_isMissing wsX6_isMissing) := goodIn_app (goodIn_of _ (by decide +kernel)) ggX9_lays_X6_isMissing
set_option maxRecDepth 20000 in
theorem ggX9_lays_X6_toBook : GoodIn wsX9_lays wsX6_toBook := goodIn_r _ [24, 25, 26, 27, 28, 29, 30, 31, 32, 7, 33, 34, 20, 6, 8, 35, 36, 37, 38, 39, 40, 41, 42, 43, 44, 45, 46, 47, 48, 65, 66, 67, 68] (by decide +kernel) (by decide +kernel)
set_option maxRecDepth 20000 in
theorem gX9_lays_X6_toBook : GoodIn wsX9_lays (wsV RX9 275 RX6 yX6_toBook wsX6_toBook) := goodIn_app (goodIn_of _ (by decide +kernel)) ggX9_lays_X6_toBook
theorem dX9_lays_0 : decode cX9_lays 0 = .ok (.iload_n 1, 1) := by decide +kernel
theorem dX9_lays_1 : decode cX9_lays 1 = .ok (.invokestatic 240, 3) := by decide +kernel
theorem dX9_lays_4 : decode cX9_lays 4 = .ok (.ifCond .ne 10, 3) := by decide +kernel
theorem dX9_lays_7 : decode cX9_lays 7 = .ok (.aload_n 0, 1) := by decide +kernel
theorem dX9_lays_8 : decode cX9_lays 8 = .ok (.ldc 64, 2) := by decide +kernel
theorem dX9_lays_10 : decode cX9_lays 10 = .ok (.invokevirtual 65, 3) := by decide +kernel
theorem dX9_lays_13 : decode cX9_lays 13 = .ok (.ireturn, 1) := by decide +kernel
theorem dX9_lays_14 : decode cX9_lays 14 = .ok (.aload_n 0, 1) := by decide +kernel
theorem dX9_lays_15 : decode cX9_lays 15 = .ok (.getfield 39, 3) := by decide +kernel
theorem dX9_lays_18 : decode cX9_lays 18 = .ok (.iload_n 1, 1) := by decide +kernel
theorem dX9_lays_19 : decode cX9_lays 19 = .ok (.invokevirtual 250, 3) := by decide +kernel
theorem dX9_lays_22 : decode cX9_lays 22 = .ok (.ifCond .eq 10, 3) := by decide +kernel
theorem dX9_lays_25 : decode cX9_lays 25 = .ok (.aload_n 0, 1) := by decide +kernel
theorem dX9_lays_26 : decode cX9_lays 26 = .ok (.ldc 253, 2) := by decide +kernel
theorem dX9_lays_28 : decode cX9_lays 28 = .ok (.invokevirtual 65, 3) := by decide +kernel
theorem dX9_lays_31 : decode cX9_lays 31 = .ok (.ireturn, 1) := by decide +kernel
theorem dX9_lays_32 : decode cX9_lays 32 = .ok (.aload_n 0, 1) := by decide +kernel
theorem dX9_lays_33 : decode cX9_lays 33 = .ok (.getfield 39, 3) := by decide +kernel
theorem dX9_lays_36 : decode cX9_lays 36 = .ok (.iload_n 1, 1) := by decide +kernel
theorem dX9_lays_37 : decode cX9_lays 37 = .ok (.aload_n 0, 1) := by decide +kernel
theorem dX9_lays_38 : decode cX9_lays 38 = .ok (.getfield 10, 3) := by decide +kernel
theorem dX9_lays_41 : decode cX9_lays 41 = .ok (.getfield 112, 3) := by decide +kernel
theorem dX9_lays_44 : decode cX9_lays 44 = .ok (.invokevirtual 275, 3) := by decide +kernel
theorem dX9_lays_47 : decode cX9_lays 47 = .ok (.ireturn, 1) := by decide +kernel
set_option maxRecDepth 20000 in
theorem ggX9_show_X6_isSheet : GoodIn wsX9_show wsX6_isSheet := goodIn_r _ [12] (by decide +kernel) (by decide +kernel)
set_option maxRecDepth 20000 in
theorem gX9_show_X6_isSheet : GoodIn wsX9_show (va_wsS RX9 240 yX6_isSheet wsX6_isSheet) := goodIn_app (goodIn_of _ (by decide +kernel)) ggX9_show_X6_isSheet
set_option maxRecDepth 20000 in
theorem ggX9_show_X9_finding : GoodIn wsX9_show wsX9_finding := goodIn_r _ [17, 1, 18, 82, 83, 84, 85, 86, 87, 88, 89, 90] (by decide +kernel) (by decide +kernel)
set_option maxRecDepth 20000 in
theorem gX9_show_X9_finding : GoodIn wsX9_show (wsV RX9 65 RX9 yX9_finding wsX9_finding) := goodIn_app (goodIn_of _ (by decide +kernel)) ggX9_show_X9_finding
set_option maxRecDepth 20000 in
theorem ggX9_show_X6_isMissing : GoodIn wsX9_show wsX6_isMissing := goodIn_r _ [22, 23, 24, 10, 11, 12, 98, 99, 100] (by decide +kernel) (by decide +kernel)
set_option maxRecDepth 20000 in
theorem gX9_show_X6_isMissing : GoodIn wsX9_show (wsV RX9 250 RX6 yX6_isMissing wsX6_isMissing) := goodIn_app (goodIn_of _ (by decide +kernel)) ggX9_show_X6_isMissing
set_option maxRecDepth 20000 in
theorem ggX9_show_X6_sizeOf : GoodIn wsX9_show wsX6_sizeOf := goodIn_r _ [28, 29, 24, 10, 11, 12, 98, 99, 100] (by decide +kernel) (by decide +kernel)
set_option maxRecDepth 20000 in
theorem gX9_show_X6_sizeOf : GoodIn wsX9_show (wsV RX9 254 RX6 yX6_sizeOf wsX6_sizeOf) := goodIn_app (goodIn_of _ (by decide +kernel)) ggX9_show_X6_sizeOf
set_option maxRecDepth 20000 in
theorem ggX9_show_X5_seenAs : GoodIn wsX9_show wsX5_seenAs := goodIn_r _ [34, 35, 36, 37, 38, 39, 33, 40, 41, 42, 43, 44, 45, 46, 47, 48, 49, 50, 51, 52, 53, 54, 55, 56, 57, 58, 59, 60, 61, 62, 63, 64, 65, 66, 67, 68, 69, 70, 71, 72, 91, 92, 93, 94, 95, 96, 97, 101] (by decide +kernel) (by decide +kernel)
set_option maxRecDepth 20000 in
theorem gX9_show_X5_seenAs : GoodIn wsX9_show (wsV RX9 182 RX5 yX5_seenAs wsX5_seenAs) := goodIn_app (goodIn_of _ (by decide +kernel)) ggX9_show_X5_seenAs
set_option maxRecDepth 20000 in
theorem ggX9_show_X6_put : GoodIn wsX9_show wsX6_put := goodIn_r _ [76, 77, 23, 78, 26, 27, 11, 28, 29, 24, 10, 12, 79, 80, 81, 98, 99, 100] (by decide +kernel) (by decide +kernel)
set_option maxRecDepth 20000 in
theorem gX9_show_X6_put : GoodIn wsX9_show (wsV RX9 261 RX6 yX6_put wsX6_put) := goodIn_app (goodIn_of _ (by decide +kernel)) ggX9_show_X6_put
theorem dX9_show_0 : decode cX9_show 0 = .ok (.iload_n 1, 1) := by decide +kernel
theorem dX9_show_1 : decode cX9_show 1 = .ok (.invokestatic 240, 3) := by decide +kernel
theorem dX9_show_4 : decode cX9_show 4 = .ok (.ifCond .ne 10, 3) := by decide +kernel
theorem dX9_show_7 : decode cX9_show 7 = .ok (.aload_n 0, 1) := by decide +kernel
theorem dX9_show_8 : decode cX9_show 8 = .ok (.ldc 64, 2) := by decide +kernel
theorem dX9_show_10 : decode cX9_show 10 = .ok (.invokevirtual 65, 3) := by decide +kernel
theorem dX9_show_13 : decode cX9_show 13 = .ok (.ireturn, 1) := by decide +kernel
theorem dX9_show_14 : decode cX9_show 14 = .ok (.aload_n 0, 1) := by decide +kernel
theorem dX9_show_15 : decode cX9_show 15 = .ok (.getfield 39, 3) := by decide +kernel
theorem dX9_show_18 : decode cX9_show 18 = .ok (.iload_n 1, 1) := by decide +kernel
theorem dX9_show_19 : decode cX9_show 19 = .ok (.invokevirtual 250, 3) := by decide +kernel
theorem dX9_show_22 : decode cX9_show 22 = .ok (.ifCond .eq 10, 3) := by decide +kernel
theorem dX9_show_25 : decode cX9_show 25 = .ok (.aload_n 0, 1) := by decide +kernel
theorem dX9_show_26 : decode cX9_show 26 = .ok (.ldc 253, 2) := by decide +kernel
theorem dX9_show_28 : decode cX9_show 28 = .ok (.invokevirtual 65, 3) := by decide +kernel
theorem dX9_show_31 : decode cX9_show 31 = .ok (.ireturn, 1) := by decide +kernel
theorem dX9_show_32 : decode cX9_show 32 = .ok (.aload_n 0, 1) := by decide +kernel
theorem dX9_show_33 : decode cX9_show 33 = .ok (.getfield 10, 3) := by decide +kernel
theorem dX9_show_36 : decode cX9_show 36 = .ok (.getfield 279, 3) := by decide +kernel
theorem dX9_show_39 : decode cX9_show 39 = .ok (.aload_n 0, 1) := by decide +kernel
theorem dX9_show_40 : decode cX9_show 40 = .ok (.getfield 39, 3) := by decide +kernel
theorem dX9_show_43 : decode cX9_show 43 = .ok (.iload_n 1, 1) := by decide +kernel
theorem dX9_show_44 : decode cX9_show 44 = .ok (.invokevirtual 254, 3) := by decide +kernel
theorem dX9_show_47 : decode cX9_show 47 = .ok (.invokestatic 282, 3) := by decide +kernel
theorem dX9_show_50 : decode cX9_show 50 = .ok (.istore_n 2, 1) := by decide +kernel
theorem dX9_show_51 : decode cX9_show 51 = .ok (.iconst 0, 1) := by decide +kernel
theorem dX9_show_52 : decode cX9_show 52 = .ok (.istore_n 3, 1) := by decide +kernel
theorem dX9_show_53 : decode cX9_show 53 = .ok (.iload_n 3, 1) := by decide +kernel
theorem dX9_show_54 : decode cX9_show 54 = .ok (.iload_n 2, 1) := by decide +kernel
theorem dX9_show_55 : decode cX9_show 55 = .ok (.if_icmp .ge 27, 3) := by decide +kernel
theorem dX9_show_58 : decode cX9_show 58 = .ok (.aload_n 0, 1) := by decide +kernel
theorem dX9_show_59 : decode cX9_show 59 = .ok (.getfield 39, 3) := by decide +kernel
theorem dX9_show_62 : decode cX9_show 62 = .ok (.iload_n 1, 1) := by decide +kernel
theorem dX9_show_63 : decode cX9_show 63 = .ok (.iload_n 3, 1) := by decide +kernel
theorem dX9_show_64 : decode cX9_show 64 = .ok (.aload_n 0, 1) := by decide +kernel
theorem dX9_show_65 : decode cX9_show 65 = .ok (.getfield 10, 3) := by decide +kernel
theorem dX9_show_68 : decode cX9_show 68 = .ok (.iload_n 3, 1) := by decide +kernel
theorem dX9_show_69 : decode cX9_show 69 = .ok (.invokevirtual 182, 3) := by decide +kernel
theorem dX9_show_72 : decode cX9_show 72 = .ok (.i2l, 1) := by decide +kernel
theorem dX9_show_73 : decode cX9_show 73 = .ok (.invokevirtual 261, 3) := by decide +kernel
theorem dX9_show_76 : decode cX9_show 76 = .ok (.iinc 3 1, 3) := by decide +kernel
theorem dX9_show_79 : decode cX9_show 79 = .ok (.goto (-26), 3) := by decide +kernel
theorem dX9_show_82 : decode cX9_show 82 = .ok (.iload_n 2, 1) := by decide +kernel
theorem dX9_show_83 : decode cX9_show 83 = .ok (.ireturn, 1) := by decide +kernel
set_option maxRecDepth 20000 in
theorem ggX9_walk_X6_isSheet : GoodIn wsX9_walk wsX6_isSheet := goodIn_r _ [7] (by decide +kernel) (by decide +kernel)
set_option maxRecDepth 20000 in
theorem gX9_walk_X6_isSheet : GoodIn wsX9_walk (va_wsS RX9 240 yX6_isSheet wsX6_isSheet) := goodIn_app (goodIn_of _ (by decide +kernel)) ggX9_walk_X6_isSheet
set_option maxRecDepth 20000 in
theorem ggX9_walk_X9_finding : GoodIn wsX9_walk wsX9_finding := goodIn_r _ [12, 1, 13, 53, 54, 55, 56, 57, 58, 59, 60, 61] (by decide +kernel) (by decide +kernel)
set_option maxRecDepth 20000 in
theorem gX9_walk_X9_finding : GoodIn wsX9_walk (wsV RX9 65 RX9 yX9_finding wsX9_finding) := goodIn_app (goodIn_of _ (by decide +kernel)) ggX9_walk_X9_finding
set_option maxRecDepth 20000 in
theorem ggX9_walk_X6_isMissing : GoodIn wsX9_walk wsX6_isMissing := goodIn_r _ [17, 18, 19, 5, 6, 7, 62, 63, 64] (by decide +kernel) (by decide +kernel)
set_option maxRecDepth 20000 in
theorem gX9_walk_X6_isMissing : GoodIn wsX9_walk (wsV RX9 250 RX6 yX6_isMissing wsX6_isMissing) := goodIn_app (goodIn_of _ (by decide +kernel)) ggX9_walk_X6_isMissing
set_option maxRecDepth 20000 in
theorem ggX9_walk_X3_isForm : GoodIn wsX9_walk wsX3_isForm := goodIn_r _ [23] (by decide +kernel) (by decide +kernel)
set_option maxRecDepth 20000 in
theorem gX9_walk_X3_isForm : GoodIn wsX9_walk (va_wsS RX9 58 yX3_isForm wsX3_isForm) := goodIn_app (goodIn_of _ (by decide +kernel)) ggX9_walk_X3_isForm
set_option maxRecDepth 20000 in
theorem ggX9_walk_X6_walkOver : GoodIn wsX9_walk wsX6_walkOver := goodIn_r _ [27, 28, 29, 30, 6, 31, 32, 19, 5, 7, 33, 34, 35, 36, 37, 38, 39, 22, 40, 41, 42, 43, 44, 45, 46, 47, 48, 49, 50, 51, 52, 62, 63, 64] (by decide +kernel) (by decide +kernel)
set_option maxRecDepth 20000 in
theorem gX9_walk_X6_walkOver : GoodIn wsX9_walk (wsV RX9 287 RX6 yX6_walkOver wsX6_walkOver) := goodIn_app (goodIn_of _ (by decide +kernel)) ggX9_walk_X6_walkOver
