theorem dX10_set_42 : decode cX10_set 42 = .ok (.iload 4, 2) := by decide +kernel
theorem dX10_set_44 : decode cX10_set 44 = .ok (.ifCond .eq 17, 3) := by decide +kernel
theorem dX10_set_47 : decode cX10_set 47 = .ok (.aload_n 0, 1) := by decide +kernel
theorem dX10_set_48 : decode cX10_set 48 = .ok (.aload_n 0, 1) := by decide +kernel
theorem dX10_set_49 : decode cX10_set 49 = .ok (.iload_n 1, 1) := by decide +kernel
theorem dX10_set_50 : decode cX10_set 50 = .ok (.iload_n 2, 1) := by decide +kernel
theorem dX10_set_51 : decode cX10_set 51 = .ok (.invokevirtual 126, 3) := by decide +kernel
theorem dX10_set_54 : decode cX10_set 54 = .ok (.iload_n 3, 1) := by decide +kernel
theorem dX10_set_55 : decode cX10_set 55 = .ok (.invokevirtual 117, 3) := by decide +kernel
theorem dX10_set_58 : decode cX10_set 58 = .ok (.goto 8, 3) := by decide +kernel
theorem dX10_set_61 : decode cX10_set 61 = .ok (.aload_n 0, 1) := by decide +kernel
theorem dX10_set_62 : decode cX10_set 62 = .ok (.iconst 0, 1) := by decide +kernel
theorem dX10_set_63 : decode cX10_set 63 = .ok (.invokevirtual 89, 3) := by decide +kernel
theorem dX10_set_66 : decode cX10_set 66 = .ok (.ireturn, 1) := by decide +kernel
set_option maxRecDepth 20000 in
theorem ggX10_turn_X10_isLetter : GoodIn wsX10_turn wsX10_isLetter := goodIn_r _ [5, 6, 7, 8, 4, 9, 27, 28, 29, 30, 31, 32, 33, 34, 35, 36, 37, 38, 39, 40, 41, 42, 43, 44] (by decide +kernel) (by decide +kernel)
set_option maxRecDepth 20000 in
theorem gX10_turn_X10_isLetter : GoodIn wsX10_turn (wsV RX10 145 RX10 yX10_isLetter wsX10_isLetter) := goodIn_app (goodIn_of _ (by decide +kernel)) ggX10_turn_X10_isLetter
set_option maxRecDepth 20000 in
theorem ggX10_turn_X10_isKind : GoodIn wsX10_turn wsX10_isKind := goodIn_r _ [12, 7, 8, 4, 9] (by decide +kernel) (by decide +kernel)
set_option maxRecDepth 20000 in
theorem gX10_turn_X10_isKind : GoodIn wsX10_turn (va_wsS RX10 129 yX10_isKind wsX10_isKind) := goodIn_app (goodIn_of _ (by decide +kernel)) ggX10_turn_X10_isKind
set_option maxRecDepth 20000 in
theorem ggX10_turn_X10_at : GoodIn wsX10_turn wsX10_at := goodIn_r _ [16] (by decide +kernel) (by decide +kernel)
set_option maxRecDepth 20000 in
theorem gX10_turn_X10_at : GoodIn wsX10_turn (wsV RX10 126 RX10 yX10_at wsX10_at) := goodIn_app (goodIn_of _ (by decide +kernel)) ggX10_turn_X10_at
set_option maxRecDepth 20000 in
theorem ggX10_turn_X10_puts : GoodIn wsX10_turn wsX10_puts := goodIn_r _ [20, 6, 27, 28, 29, 30, 31, 32, 33, 34, 35, 36, 37, 38, 39, 40, 41, 42, 43, 44] (by decide +kernel) (by decide +kernel)
set_option maxRecDepth 20000 in
theorem gX10_turn_X10_puts : GoodIn wsX10_turn (wsV RX10 117 RX10 yX10_puts wsX10_puts) := goodIn_app (goodIn_of _ (by decide +kernel)) ggX10_turn_X10_puts
set_option maxRecDepth 20000 in
theorem ggX10_turn_X10_no : GoodIn wsX10_turn wsX10_no := goodIn_r _ [24, 25, 26, 27, 28, 29, 30, 31, 32, 33, 34, 35, 36, 37, 38, 39, 40, 41, 42, 43, 44] (by decide +kernel) (by decide +kernel)
set_option maxRecDepth 20000 in
theorem gX10_turn_X10_no : GoodIn wsX10_turn (wsV RX10 89 RX10 yX10_no wsX10_no) := goodIn_app (goodIn_of _ (by decide +kernel)) ggX10_turn_X10_no
theorem dX10_turn_0 : decode cX10_turn 0 = .ok (.aload_n 0, 1) := by decide +kernel
theorem dX10_turn_1 : decode cX10_turn 1 = .ok (.iload_n 1, 1) := by decide +kernel
theorem dX10_turn_2 : decode cX10_turn 2 = .ok (.invokevirtual 145, 3) := by decide +kernel
theorem dX10_turn_5 : decode cX10_turn 5 = .ok (.ifCond .eq 24, 3) := by decide +kernel
theorem dX10_turn_8 : decode cX10_turn 8 = .ok (.iload_n 2, 1) := by decide +kernel
theorem dX10_turn_9 : decode cX10_turn 9 = .ok (.invokestatic 129, 3) := by decide +kernel
theorem dX10_turn_12 : decode cX10_turn 12 = .ok (.ifCond .eq 17, 3) := by decide +kernel
theorem dX10_turn_15 : decode cX10_turn 15 = .ok (.aload_n 0, 1) := by decide +kernel
theorem dX10_turn_16 : decode cX10_turn 16 = .ok (.aload_n 0, 1) := by decide +kernel
theorem dX10_turn_17 : decode cX10_turn 17 = .ok (.iload_n 1, 1) := by decide +kernel
theorem dX10_turn_18 : decode cX10_turn 18 = .ok (.iconst 0, 1) := by decide +kernel
theorem dX10_turn_19 : decode cX10_turn 19 = .ok (.invokevirtual 126, 3) := by decide +kernel
theorem dX10_turn_22 : decode cX10_turn 22 = .ok (.iload_n 2, 1) := by decide +kernel
theorem dX10_turn_23 : decode cX10_turn 23 = .ok (.invokevirtual 117, 3) := by decide +kernel
theorem dX10_turn_26 : decode cX10_turn 26 = .ok (.goto 8, 3) := by decide +kernel
theorem dX10_turn_29 : decode cX10_turn 29 = .ok (.aload_n 0, 1) := by decide +kernel
theorem dX10_turn_30 : decode cX10_turn 30 = .ok (.iconst 0, 1) := by decide +kernel
theorem dX10_turn_31 : decode cX10_turn 31 = .ok (.invokevirtual 89, 3) := by decide +kernel
theorem dX10_turn_34 : decode cX10_turn 34 = .ok (.ireturn, 1) := by decide +kernel
theorem dX10_isUnder_0 : decode cX10_isUnder 0 = .ok (.iload_n 1, 1) := by decide +kernel
theorem dX10_isUnder_1 : decode cX10_isUnder 1 = .ok (.ifCond .eq 28, 3) := by decide +kernel
theorem dX10_isUnder_4 : decode cX10_isUnder 4 = .ok (.iload_n 0, 1) := by decide +kernel
theorem dX10_isUnder_5 : decode cX10_isUnder 5 = .ok (.iload_n 1, 1) := by decide +kernel
theorem dX10_isUnder_6 : decode cX10_isUnder 6 = .ok (.if_icmp .eq 23, 3) := by decide +kernel
theorem dX10_isUnder_9 : decode cX10_isUnder 9 = .ok (.iload_n 0, 1) := by decide +kernel
theorem dX10_isUnder_10 : decode cX10_isUnder 10 = .ok (.iconst 4, 1) := by decide +kernel
theorem dX10_isUnder_11 : decode cX10_isUnder 11 = .ok (.if_icmp .ne 8, 3) := by decide +kernel
theorem dX10_isUnder_14 : decode cX10_isUnder 14 = .ok (.iload_n 1, 1) := by decide +kernel
theorem dX10_isUnder_15 : decode cX10_isUnder 15 = .ok (.iconst 1, 1) := by decide +kernel
theorem dX10_isUnder_16 : decode cX10_isUnder 16 = .ok (.if_icmp .eq 13, 3) := by decide +kernel
theorem dX10_isUnder_19 : decode cX10_isUnder 19 = .ok (.iload_n 0, 1) := by decide +kernel
theorem dX10_isUnder_20 : decode cX10_isUnder 20 = .ok (.iconst 5, 1) := by decide +kernel
theorem dX10_isUnder_21 : decode cX10_isUnder 21 = .ok (.if_icmp .ne 12, 3) := by decide +kernel
theorem dX10_isUnder_24 : decode cX10_isUnder 24 = .ok (.iload_n 1, 1) := by decide +kernel
theorem dX10_isUnder_25 : decode cX10_isUnder 25 = .ok (.iconst 2, 1) := by decide +kernel
theorem dX10_isUnder_26 : decode cX10_isUnder 26 = .ok (.if_icmp .ne 7, 3) := by decide +kernel
theorem dX10_isUnder_29 : decode cX10_isUnder 29 = .ok (.iconst 1, 1) := by decide +kernel
theorem dX10_isUnder_30 : decode cX10_isUnder 30 = .ok (.goto 4, 3) := by decide +kernel
theorem dX10_isUnder_33 : decode cX10_isUnder 33 = .ok (.iconst 0, 1) := by decide +kernel
theorem dX10_isUnder_34 : decode cX10_isUnder 34 = .ok (.ireturn, 1) := by decide +kernel
set_option maxRecDepth 20000 in
theorem ggX10_as_X10_isLetter : GoodIn wsX10_as wsX10_isLetter := goodIn_r _ [6, 1, 7, 8, 5, 9, 26, 27, 28, 29, 30, 31, 32, 33, 34, 35, 36, 37, 38, 39, 40, 41, 42, 43] (by decide +kernel) (by decide +kernel)
set_option maxRecDepth 20000 in
theorem gX10_as_X10_isLetter : GoodIn wsX10_as (wsV RX10 145 RX10 yX10_isLetter wsX10_isLetter) := goodIn_app (goodIn_of _ (by decide +kernel)) ggX10_as_X10_isLetter
set_option maxRecDepth 20000 in
theorem ggX10_as_X10_isKind : GoodIn wsX10_as wsX10_isKind := goodIn_r _ [12, 7, 8, 5, 9] (by decide +kernel) (by decide +kernel)
set_option maxRecDepth 20000 in
theorem gX10_as_X10_isKind : GoodIn wsX10_as (va_wsS RX10 129 yX10_isKind wsX10_isKind) := goodIn_app (goodIn_of _ (by decide +kernel)) ggX10_as_X10_isKind
set_option maxRecDepth 20000 in
theorem ggX10_as_X10_no : GoodIn wsX10_as wsX10_no := goodIn_r _ [16, 17, 18, 26, 27, 28, 29, 30, 31, 32, 33, 34, 35, 36, 37, 38, 39, 40, 41, 42, 43] (by decide +kernel) (by decide +kernel)
set_option maxRecDepth 20000 in
theorem gX10_as_X10_no : GoodIn wsX10_as (wsV RX10 89 RX10 yX10_no wsX10_no) := goodIn_app (goodIn_of _ (by decide +kernel)) ggX10_as_X10_no
set_option maxRecDepth 20000 in
theorem ggX10_as_X10_at : GoodIn wsX10_as wsX10_at := goodIn_r _ [22] (by decide +kernel) (by decide +kernel)
set_option maxRecDepth 20000 in
theorem gX10_as_X10_at : GoodIn wsX10_as (wsV RX10 126 RX10 yX10_at wsX10_at) := goodIn_app (goodIn_of _ (by decide +kernel)) ggX10_as_X10_at
set_option maxRecDepth 20000 in
theorem ggX10_as_X10_isUnder : GoodIn wsX10_as wsX10_isUnder := goodIn_r _ [25] (by decide +kernel) (by decide +kernel)
set_option maxRecDepth 20000 in
theorem gX10_as_X10_isUnder : GoodIn wsX10_as (va_wsS RX10 154 yX10_isUnder wsX10_isUnder) := goodIn_app (goodIn_of _ (by decide +kernel)) ggX10_as_X10_isUnder
theorem dX10_as_0 : decode cX10_as 0 = .ok (.aload_n 0, 1) := by decide +kernel
theorem dX10_as_1 : decode cX10_as 1 = .ok (.iload_n 1, 1) := by decide +kernel
theorem dX10_as_2 : decode cX10_as 2 = .ok (.invokevirtual 145, 3) := by decide +kernel
theorem dX10_as_5 : decode cX10_as 5 = .ok (.ifCond .eq 10, 3) := by decide +kernel
theorem dX10_as_8 : decode cX10_as 8 = .ok (.iload_n 2, 1) := by decide +kernel
theorem dX10_as_9 : decode cX10_as 9 = .ok (.invokestatic 129, 3) := by decide +kernel
theorem dX10_as_12 : decode cX10_as 12 = .ok (.ifCond .ne 9, 3) := by decide +kernel
theorem dX10_as_15 : decode cX10_as 15 = .ok (.aload_n 0, 1) := by decide +kernel
theorem dX10_as_16 : decode cX10_as 16 = .ok (.iconst 0, 1) := by decide +kernel
theorem dX10_as_17 : decode cX10_as 17 = .ok (.invokevirtual 89, 3) := by decide +kernel
theorem dX10_as_20 : decode cX10_as 20 = .ok (.ireturn, 1) := by decide +kernel
theorem dX10_as_21 : decode cX10_as 21 = .ok (.aload_n 0, 1) := by decide +kernel
theorem dX10_as_22 : decode cX10_as 22 = .ok (.getfield 9, 3) := by decide +kernel
theorem dX10_as_25 : decode cX10_as 25 = .ok (.aload_n 0, 1) := by decide +kernel
theorem dX10_as_26 : decode cX10_as 26 = .ok (.iload_n 1, 1) := by decide +kernel
theorem dX10_as_27 : decode cX10_as 27 = .ok (.iconst 0, 1) := by decide +kernel
theorem dX10_as_28 : decode cX10_as 28 = .ok (.invokevirtual 126, 3) := by decide +kernel
theorem dX10_as_31 : decode cX10_as 31 = .ok (.iaload, 1) := by decide +kernel
theorem dX10_as_32 : decode cX10_as 32 = .ok (.iload_n 2, 1) := by decide +kernel
theorem dX10_as_33 : decode cX10_as 33 = .ok (.invokestatic 154, 3) := by decide +kernel
theorem dX10_as_36 : decode cX10_as 36 = .ok (.ifCond .eq 17, 3) := by decide +kernel
theorem dX10_as_39 : decode cX10_as 39 = .ok (.aload_n 0, 1) := by decide +kernel
theorem dX10_as_40 : decode cX10_as 40 = .ok (.getfield 9, 3) := by decide +kernel
theorem dX10_as_43 : decode cX10_as 43 = .ok (.aload_n 0, 1) := by decide +kernel
theorem dX10_as_44 : decode cX10_as 44 = .ok (.iload_n 1, 1) := by decide +kernel
theorem dX10_as_45 : decode cX10_as 45 = .ok (.iconst 2, 1) := by decide +kernel
theorem dX10_as_46 : decode cX10_as 46 = .ok (.invokevirtual 126, 3) := by decide +kernel
theorem dX10_as_49 : decode cX10_as 49 = .ok (.iaload, 1) := by decide +kernel
theorem dX10_as_50 : decode cX10_as 50 = .ok (.goto 8, 3) := by decide +kernel
theorem dX10_as_53 : decode cX10_as 53 = .ok (.aload_n 0, 1) := by decide +kernel
theorem dX10_as_54 : decode cX10_as 54 = .ok (.iconst 2, 1) := by decide +kernel
theorem dX10_as_55 : decode cX10_as 55 = .ok (.invokevirtual 89, 3) := by decide +kernel
theorem dX10_as_58 : decode cX10_as 58 = .ok (.ireturn, 1) := by decide +kernel
set_option maxRecDepth 20000 in
theorem ggX10_sun_X10_isForm : GoodIn wsX10_sun wsX10_isForm := goodIn_r _ [4, 5, 6, 3, 7] (by decide +kernel) (by decide +kernel)
set_option maxRecDepth 20000 in
theorem gX10_sun_X10_isForm : GoodIn wsX10_sun (va_wsS RX10 85 yX10_isForm wsX10_isForm) := goodIn_app (goodIn_of _ (by decide +kernel)) ggX10_sun_X10_isForm
set_option maxRecDepth 20000 in
theorem ggX10_sun_X10_puts : GoodIn wsX10_sun wsX10_puts := goodIn_r _ [11, 12, 19, 20, 21, 22, 23, 24, 25, 26, 27, 28, 29, 30, 31, 32, 33, 34, 35, 36] (by decide +kernel) (by decide +kernel)
set_option maxRecDepth 20000 in
theorem gX10_sun_X10_puts : GoodIn wsX10_sun (wsV RX10 117 RX10 yX10_puts wsX10_puts) := goodIn_app (goodIn_of _ (by decide +kernel)) ggX10_sun_X10_puts
set_option maxRecDepth 20000 in
theorem ggX10_sun_X10_no : GoodIn wsX10_sun wsX10_no := goodIn_r _ [16, 17, 18, 19, 20, 21, 22, 23, 24, 25, 26, 27, 28, 29, 30, 31, 32, 33, 34, 35, 36] (by decide +kernel) (by decide +kernel)
set_option maxRecDepth 20000 in
theorem gX10_sun_X10_no : GoodIn wsX10_sun (wsV RX10 89 RX10 yX10_no wsX10_no) := goodIn_app (goodIn_of _ (by decide +kernel)) ggX10_sun_X10_no
theorem dX10_sun_0 : decode cX10_sun 0 = .ok (.iload_n 1, 1) := by decide +kernel
theorem dX10_sun_1 : decode cX10_sun 1 = .ok (.invokestatic 85, 3) := by decide +kernel
theorem dX10_sun_4 : decode cX10_sun 4 = .ok (.ifCond .eq 12, 3) := by decide +kernel
theorem dX10_sun_7 : decode cX10_sun 7 = .ok (.aload_n 0, 1) := by decide +kernel
theorem dX10_sun_8 : decode cX10_sun 8 = .ok (.iconst 1, 1) := by decide +kernel
theorem dX10_sun_9 : decode cX10_sun 9 = .ok (.iload_n 1, 1) := by decide +kernel
theorem dX10_sun_10 : decode cX10_sun 10 = .ok (.invokevirtual 117, 3) := by decide +kernel
theorem dX10_sun_13 : decode cX10_sun 13 = .ok (.goto 8, 3) := by decide +kernel
theorem dX10_sun_16 : decode cX10_sun 16 = .ok (.aload_n 0, 1) := by decide +kernel
theorem dX10_sun_17 : decode cX10_sun 17 = .ok (.iconst 0, 1) := by decide +kernel
theorem dX10_sun_18 : decode cX10_sun 18 = .ok (.invokevirtual 89, 3) := by decide +kernel
theorem dX10_sun_21 : decode cX10_sun 21 = .ok (.ireturn, 1) := by decide +kernel
set_option maxRecDepth 20000 in
theorem ggX10_hours_X10_in : GoodIn wsX10_hours wsX10_in := goodIn_r _ [6] (by decide +kernel) (by decide +kernel)
set_option maxRecDepth 20000 in
theorem gX10_hours_X10_in : GoodIn wsX10_hours (va_wsS RX10 48 yX10_in wsX10_in) := goodIn_app (goodIn_of _ (by decide +kernel)) ggX10_hours_X10_in
set_option maxRecDepth 20000 in
theorem ggX10_hours_X10_no : GoodIn wsX10_hours wsX10_no := goodIn_r _ [10, 11, 12, 28, 29, 30, 31, 32, 33, 34, 35, 36, 37, 38, 39, 40, 41, 42, 43, 44, 45] (by decide +kernel) (by decide +kernel)
set_option maxRecDepth 20000 in
theorem gX10_hours_X10_no : GoodIn wsX10_hours (wsV RX10 89 RX10 yX10_no wsX10_no) := goodIn_app (goodIn_of _ (by decide +kernel)) ggX10_hours_X10_no
set_option maxRecDepth 20000 in
theorem ggX10_hours_X10_shows : GoodIn wsX10_hours wsX10_shows := goodIn_r _ [16, 1, 17, 18, 19, 5, 20, 21, 22, 23, 24, 25, 26, 27, 28, 29, 30, 31, 32, 33, 34, 35, 36, 37, 38, 39, 40, 41, 42, 43, 44, 45] (by decide +kernel) (by decide +kernel)
set_option maxRecDepth 20000 in
theorem gX10_hours_X10_shows : GoodIn wsX10_hours (wsV RX10 148 RX10 yX10_shows wsX10_shows) := goodIn_app (goodIn_of _ (by decide +kernel)) ggX10_hours_X10_shows
theorem dX10_hours_0 : decode cX10_hours 0 = .ok (.iload_n 1, 1) := by decide +kernel
theorem dX10_hours_1 : decode cX10_hours 1 = .ok (.iconst 1, 1) := by decide +kernel
theorem dX10_hours_2 : decode cX10_hours 2 = .ok (.bipush 99, 2) := by decide +kernel
theorem dX10_hours_4 : decode cX10_hours 4 = .ok (.invokestatic 48, 3) := by decide +kernel
theorem dX10_hours_7 : decode cX10_hours 7 = .ok (.ifCond .ne 9, 3) := by decide +kernel
theorem dX10_hours_10 : decode cX10_hours 10 = .ok (.aload_n 0, 1) := by decide +kernel
theorem dX10_hours_11 : decode cX10_hours 11 = .ok (.iconst 0, 1) := by decide +kernel
theorem dX10_hours_12 : decode cX10_hours 12 = .ok (.invokevirtual 89, 3) := by decide +kernel
theorem dX10_hours_15 : decode cX10_hours 15 = .ok (.ireturn, 1) := by decide +kernel
theorem dX10_hours_16 : decode cX10_hours 16 = .ok (.aload_n 0, 1) := by decide +kernel
theorem dX10_hours_17 : decode cX10_hours 17 = .ok (.getfield 9, 3) := by decide +kernel
theorem dX10_hours_20 : decode cX10_hours 20 = .ok (.iconst 0, 1) := by decide +kernel
theorem dX10_hours_21 : decode cX10_hours 21 = .ok (.iaload, 1) := by decide +kernel
theorem dX10_hours_22 : decode cX10_hours 22 = .ok (.iload_n 1, 1) := by decide +kernel
theorem dX10_hours_23 : decode cX10_hours 23 = .ok (.iadd, 1) := by decide +kernel
theorem dX10_hours_24 : decode cX10_hours 24 = .ok (.sipush 999, 3) := by decide +kernel
theorem dX10_hours_27 : decode cX10_hours 27 = .ok (.if_icmp .le 9, 3) := by decide +kernel
theorem dX10_hours_30 : decode cX10_hours 30 = .ok (.aload_n 0, 1) := by decide +kernel
theorem dX10_hours_31 : decode cX10_hours 31 = .ok (.iconst 4, 1) := by decide +kernel
theorem dX10_hours_32 : decode cX10_hours 32 = .ok (.invokevirtual 89, 3) := by decide +kernel
theorem dX10_hours_35 : decode cX10_hours 35 = .ok (.ireturn, 1) := by decide +kernel
theorem dX10_hours_36 : decode cX10_hours 36 = .ok (.iconst 0, 1) := by decide +kernel
theorem dX10_hours_37 : decode cX10_hours 37 = .ok (.istore_n 2, 1) := by decide +kernel
theorem dX10_hours_38 : decode cX10_hours 38 = .ok (.iload_n 2, 1) := by decide +kernel
theorem dX10_hours_39 : decode cX10_hours 39 = .ok (.aload_n 0, 1) := by decide +kernel
theorem dX10_hours_40 : decode cX10_hours 40 = .ok (.getfield 9, 3) := by decide +kernel
theorem dX10_hours_43 : decode cX10_hours 43 = .ok (.iconst 2, 1) := by decide +kernel
theorem dX10_hours_44 : decode cX10_hours 44 = .ok (.iaload, 1) := by decide +kernel
theorem dX10_hours_45 : decode cX10_hours 45 = .ok (.if_icmp .ge 20, 3) := by decide +kernel
theorem dX10_hours_48 : decode cX10_hours 48 = .ok (.aload_n 0, 1) := by decide +kernel
theorem dX10_hours_49 : decode cX10_hours 49 = .ok (.getfield 22, 3) := by decide +kernel
theorem dX10_hours_52 : decode cX10_hours 52 = .ok (.iload_n 2, 1) := by decide +kernel
theorem dX10_hours_53 : decode cX10_hours 53 = .ok (.aload_n 0, 1) := by decide +kernel
theorem dX10_hours_54 : decode cX10_hours 54 = .ok (.iload_n 2, 1) := by decide +kernel
theorem dX10_hours_55 : decode cX10_hours 55 = .ok (.invokevirtual 148, 3) := by decide +kernel
theorem dX10_hours_58 : decode cX10_hours 58 = .ok (.iastore, 1) := by decide +kernel
theorem dX10_hours_59 : decode cX10_hours 59 = .ok (.iinc 2 1, 3) := by decide +kernel
theorem dX10_hours_62 : decode cX10_hours 62 = .ok (.goto (-24), 3) := by decide +kernel
theorem dX10_hours_65 : decode cX10_hours 65 = .ok (.aload_n 0, 1) := by decide +kernel
theorem dX10_hours_66 : decode cX10_hours 66 = .ok (.getfield 9, 3) := by decide +kernel
theorem dX10_hours_69 : decode cX10_hours 69 = .ok (.iconst 0, 1) := by decide +kernel
theorem dX10_hours_70 : decode cX10_hours 70 = .ok (.dup2, 1) := by decide +kernel
theorem dX10_hours_71 : decode cX10_hours 71 = .ok (.iaload, 1) := by decide +kernel
theorem dX10_hours_72 : decode cX10_hours 72 = .ok (.iload_n 1, 1) := by decide +kernel
theorem dX10_hours_73 : decode cX10_hours 73 = .ok (.iadd, 1) := by decide +kernel
theorem dX10_hours_74 : decode cX10_hours 74 = .ok (.iastore, 1) := by decide +kernel
theorem dX10_hours_75 : decode cX10_hours 75 = .ok (.iconst 0, 1) := by decide +kernel
theorem dX10_hours_76 : decode cX10_hours 76 = .ok (.istore_n 2, 1) := by decide +kernel
theorem dX10_hours_77 : decode cX10_hours 77 = .ok (.iconst 0, 1) := by decide +kernel
theorem dX10_hours_78 : decode cX10_hours 78 = .ok (.istore_n 3, 1) := by decide +kernel
theorem dX10_hours_79 : decode cX10_hours 79 = .ok (.iload_n 3, 1) := by decide +kernel
theorem dX10_hours_80 : decode cX10_hours 80 = .ok (.aload_n 0, 1) := by decide +kernel
theorem dX10_hours_81 : decode cX10_hours 81 = .ok (.getfield 9, 3) := by decide +kernel
theorem dX10_hours_84 : decode cX10_hours 84 = .ok (.iconst 2, 1) := by decide +kernel
theorem dX10_hours_85 : decode cX10_hours 85 = .ok (.iaload, 1) := by decide +kernel
theorem dX10_hours_86 : decode cX10_hours 86 = .ok (.if_icmp .ge 31, 3) := by decide +kernel
theorem dX10_hours_89 : decode cX10_hours 89 = .ok (.iload_n 2, 1) := by decide +kernel
theorem dX10_hours_90 : decode cX10_hours 90 = .ok (.aload_n 0, 1) := by decide +kernel
theorem dX10_hours_91 : decode cX10_hours 91 = .ok (.iload_n 3, 1) := by decide +kernel
theorem dX10_hours_92 : decode cX10_hours 92 = .ok (.invokevirtual 148, 3) := by decide +kernel
theorem dX10_hours_95 : decode cX10_hours 95 = .ok (.aload_n 0, 1) := by decide +kernel
theorem dX10_hours_96 : decode cX10_hours 96 = .ok (.getfield 22, 3) := by decide +kernel
theorem dX10_hours_99 : decode cX10_hours 99 = .ok (.iload_n 3, 1) := by decide +kernel
theorem dX10_hours_100 : decode cX10_hours 100 = .ok (.iaload, 1) := by decide +kernel
theorem dX10_hours_101 : decode cX10_hours 101 = .ok (.if_icmp .eq 7, 3) := by decide +kernel
theorem dX10_hours_104 : decode cX10_hours 104 = .ok (.iconst 1, 1) := by decide +kernel
theorem dX10_hours_105 : decode cX10_hours 105 = .ok (.goto 4, 3) := by decide +kernel
theorem dX10_hours_108 : decode cX10_hours 108 = .ok (.iconst 0, 1) := by decide +kernel
theorem dX10_hours_109 : decode cX10_hours 109 = .ok (.iadd, 1) := by decide +kernel
theorem dX10_hours_110 : decode cX10_hours 110 = .ok (.istore_n 2, 1) := by decide +kernel
theorem dX10_hours_111 : decode cX10_hours 111 = .ok (.iinc 3 1, 3) := by decide +kernel
theorem dX10_hours_114 : decode cX10_hours 114 = .ok (.goto (-35), 3) := by decide +kernel
theorem dX10_hours_117 : decode cX10_hours 117 = .ok (.iload_n 2, 1) := by decide +kernel
theorem dX10_hours_118 : decode cX10_hours 118 = .ok (.ireturn, 1) := by decide +kernel
set_option maxRecDepth 20000 in
theorem ggX10_isOther_X10_shows : GoodIn wsX10_isOther wsX10_shows := goodIn_r _ [6, 1, 7, 8, 9, 5, 10, 11, 12, 13, 14, 15, 16, 17, 29, 30, 31, 32, 33, 34, 35, 36, 37, 38, 39, 40, 41, 42, 43, 44, 45, 46] (by decide +kernel) (by decide +kernel)
set_option maxRecDepth 20000 in
theorem gX10_isOther_X10_shows : GoodIn wsX10_isOther (wsV RX10 148 RX10 yX10_shows wsX10_shows) := goodIn_app (goodIn_of _ (by decide +kernel)) ggX10_isOther_X10_shows
set_option maxRecDepth 20000 in
theorem ggX10_isOther_X10_readAs : GoodIn wsX10_isOther wsX10_readAs := goodIn_r _ [21, 1, 22, 23, 24, 5, 25, 26, 27, 28, 29, 30, 31, 32, 33, 34, 35, 36, 37, 38, 39, 40, 41, 42, 43, 44, 45, 46] (by decide +kernel) (by decide +kernel)
set_option maxRecDepth 20000 in
theorem gX10_isOther_X10_readAs : GoodIn wsX10_isOther (wsV RX10 123 RX10 yX10_readAs wsX10_readAs) := goodIn_app (goodIn_of _ (by decide +kernel)) ggX10_isOther_X10_readAs
set_option maxRecDepth 20000 in
theorem ggX10_isOther_X10_at : GoodIn wsX10_isOther wsX10_at := goodIn_r _ [14] (by decide +kernel) (by decide +kernel)
set_option maxRecDepth 20000 in
theorem gX10_isOther_X10_at : GoodIn wsX10_isOther (wsV RX10 126 RX10 yX10_at wsX10_at) := goodIn_app (goodIn_of _ (by decide +kernel)) ggX10_isOther_X10_at
theorem dX10_isOther_0 : decode cX10_isOther 0 = .ok (.aload_n 0, 1) := by decide +kernel
theorem dX10_isOther_1 : decode cX10_isOther 1 = .ok (.aload_n 0, 1) := by decide +kernel
theorem dX10_isOther_2 : decode cX10_isOther 2 = .ok (.iload_n 1, 1) := by decide +kernel
theorem dX10_isOther_3 : decode cX10_isOther 3 = .ok (.invokevirtual 148, 3) := by decide +kernel
theorem dX10_isOther_6 : decode cX10_isOther 6 = .ok (.invokevirtual 123, 3) := by decide +kernel
theorem dX10_isOther_9 : decode cX10_isOther 9 = .ok (.aload_n 0, 1) := by decide +kernel
theorem dX10_isOther_10 : decode cX10_isOther 10 = .ok (.aload_n 0, 1) := by decide +kernel
theorem dX10_isOther_11 : decode cX10_isOther 11 = .ok (.getfield 9, 3) := by decide +kernel
theorem dX10_isOther_14 : decode cX10_isOther 14 = .ok (.aload_n 0, 1) := by decide +kernel
theorem dX10_isOther_15 : decode cX10_isOther 15 = .ok (.iload_n 1, 1) := by decide +kernel
theorem dX10_isOther_16 : decode cX10_isOther 16 = .ok (.iconst 1, 1) := by decide +kernel
theorem dX10_isOther_17 : decode cX10_isOther 17 = .ok (.invokevirtual 126, 3) := by decide +kernel
theorem dX10_isOther_20 : decode cX10_isOther 20 = .ok (.iaload, 1) := by decide +kernel
theorem dX10_isOther_21 : decode cX10_isOther 21 = .ok (.invokevirtual 123, 3) := by decide +kernel
theorem dX10_isOther_24 : decode cX10_isOther 24 = .ok (.if_icmp .eq 7, 3) := by decide +kernel
theorem dX10_isOther_27 : decode cX10_isOther 27 = .ok (.iconst 1, 1) := by decide +kernel
theorem dX10_isOther_28 : decode cX10_isOther 28 = .ok (.goto 4, 3) := by decide +kernel
theorem dX10_isOther_31 : decode cX10_isOther 31 = .ok (.iconst 0, 1) := by decide +kernel
theorem dX10_isOther_32 : decode cX10_isOther 32 = .ok (.ireturn, 1) := by decide +kernel
set_option maxRecDepth 20000 in
theorem ggX10_now_X10_in : GoodIn wsX10_now wsX10_in := goodIn_r _ [5] (by decide +kernel) (by decide +kernel)
set_option maxRecDepth 20000 in
theorem gX10_now_X10_in : GoodIn wsX10_now (va_wsS RX10 48 yX10_in wsX10_in) := goodIn_app (goodIn_of _ (by decide +kernel)) ggX10_now_X10_in
set_option maxRecDepth 20000 in
theorem ggX10_now_X10_no : GoodIn wsX10_now wsX10_no := goodIn_r _ [9, 10, 11, 79, 80, 81, 82, 83, 84, 85, 86, 87, 88, 89, 90, 91, 92, 93, 94, 95, 96] (by decide +kernel) (by decide +kernel)
set_option maxRecDepth 20000 in
theorem gX10_now_X10_no : GoodIn wsX10_now (wsV RX10 89 RX10 yX10_no wsX10_no) := goodIn_app (goodIn_of _ (by decide +kernel)) ggX10_now_X10_no
set_option maxRecDepth 20000 in
theorem ggX10_now_X10_feet : GoodIn wsX10_now wsX10_feet := goodIn_r _ [15, 1, 16, 17, 18, 4, 19, 20, 21, 22, 23, 24, 25, 26, 27, 28, 29, 30, 31, 32, 33, 34, 35, 36, 37, 38, 39, 40, 41, 42, 43, 44, 45, 46, 47, 48, 49, 50, 51, 52, 53, 54, 55, 79, 80, 81, 82, 83, 84, 85, 86, 87, 88, 89, 90, 91, 92, 93, 94, 95, 96] (by decide +kernel) (by decide +kernel)
set_option maxRecDepth 20000 in
theorem gX10_now_X10_feet : GoodIn wsX10_now (wsV RX10 151 RX10 yX10_feet wsX10_feet) := goodIn_app (goodIn_of _ (by decide +kernel)) ggX10_now_X10_feet
set_option maxRecDepth 20000 in
theorem ggX10_now_X10_isOther : GoodIn wsX10_now wsX10_isOther := goodIn_r _ [59, 1, 60, 61, 62, 4, 63, 64, 65, 66, 67, 16, 17, 18, 19, 68, 69, 70, 71, 72, 73, 74, 75, 76, 77, 78, 23, 24, 25, 79, 80, 81, 82, 83, 84, 85, 86, 87, 88, 89, 90, 91, 92, 93, 94, 95, 96] (by decide +kernel) (by decide +kernel)
set_option maxRecDepth 20000 in
theorem gX10_now_X10_isOther : GoodIn wsX10_now (wsV RX10 157 RX10 yX10_isOther wsX10_isOther) := goodIn_app (goodIn_of _ (by decide +kernel)) ggX10_now_X10_isOther
theorem dX10_now_0 : decode cX10_now 0 = .ok (.iload_n 1, 1) := by decide +kernel
theorem dX10_now_1 : decode cX10_now 1 = .ok (.iconst 0, 1) := by decide +kernel
theorem dX10_now_2 : decode cX10_now 2 = .ok (.iconst 3, 1) := by decide +kernel
theorem dX10_now_3 : decode cX10_now 3 = .ok (.invokestatic 48, 3) := by decide +kernel
theorem dX10_now_6 : decode cX10_now 6 = .ok (.ifCond .ne 9, 3) := by decide +kernel
theorem dX10_now_9 : decode cX10_now 9 = .ok (.aload_n 0, 1) := by decide +kernel
theorem dX10_now_10 : decode cX10_now 10 = .ok (.iconst 0, 1) := by decide +kernel
theorem dX10_now_11 : decode cX10_now 11 = .ok (.invokevirtual 89, 3) := by decide +kernel
theorem dX10_now_14 : decode cX10_now 14 = .ok (.ireturn, 1) := by decide +kernel
theorem dX10_now_15 : decode cX10_now 15 = .ok (.iconst 0, 1) := by decide +kernel
theorem dX10_now_16 : decode cX10_now 16 = .ok (.istore_n 2, 1) := by decide +kernel
theorem dX10_now_17 : decode cX10_now 17 = .ok (.iconst 0, 1) := by decide +kernel
theorem dX10_now_18 : decode cX10_now 18 = .ok (.istore_n 3, 1) := by decide +kernel
theorem dX10_now_19 : decode cX10_now 19 = .ok (.iconst 0, 1) := by decide +kernel
theorem dX10_now_20 : decode cX10_now 20 = .ok (.istore 4, 2) := by decide +kernel
theorem dX10_now_22 : decode cX10_now 22 = .ok (.iload 4, 2) := by decide +kernel
theorem dX10_now_24 : decode cX10_now 24 = .ok (.aload_n 0, 1) := by decide +kernel
theorem dX10_now_25 : decode cX10_now 25 = .ok (.getfield 9, 3) := by decide +kernel
theorem dX10_now_28 : decode cX10_now 28 = .ok (.iconst 2, 1) := by decide +kernel
theorem dX10_now_29 : decode cX10_now 29 = .ok (.iaload, 1) := by decide +kernel
theorem dX10_now_30 : decode cX10_now 30 = .ok (.if_icmp .ge 38, 3) := by decide +kernel
theorem dX10_now_33 : decode cX10_now 33 = .ok (.iload_n 2, 1) := by decide +kernel
theorem dX10_now_34 : decode cX10_now 34 = .ok (.aload_n 0, 1) := by decide +kernel
theorem dX10_now_35 : decode cX10_now 35 = .ok (.iload 4, 2) := by decide +kernel
theorem dX10_now_37 : decode cX10_now 37 = .ok (.invokevirtual 151, 3) := by decide +kernel
theorem dX10_now_40 : decode cX10_now 40 = .ok (.iadd, 1) := by decide +kernel
theorem dX10_now_41 : decode cX10_now 41 = .ok (.istore_n 2, 1) := by decide +kernel
theorem dX10_now_42 : decode cX10_now 42 = .ok (.iload_n 3, 1) := by decide +kernel
theorem dX10_now_43 : decode cX10_now 43 = .ok (.aload_n 0, 1) := by decide +kernel
theorem dX10_now_44 : decode cX10_now 44 = .ok (.iload 4, 2) := by decide +kernel
theorem dX10_now_46 : decode cX10_now 46 = .ok (.invokevirtual 157, 3) := by decide +kernel
theorem dX10_now_49 : decode cX10_now 49 = .ok (.ifCond .eq 10, 3) := by decide +kernel
theorem dX10_now_52 : decode cX10_now 52 = .ok (.iconst 1, 1) := by decide +kernel
theorem dX10_now_53 : decode cX10_now 53 = .ok (.iload 4, 2) := by decide +kernel
theorem dX10_now_55 : decode cX10_now 55 = .ok (.ishl, 1) := by decide +kernel
theorem dX10_now_56 : decode cX10_now 56 = .ok (.goto 4, 3) := by decide +kernel
theorem dX10_now_59 : decode cX10_now 59 = .ok (.iconst 0, 1) := by decide +kernel
theorem dX10_now_60 : decode cX10_now 60 = .ok (.ior, 1) := by decide +kernel
theorem dX10_now_61 : decode cX10_now 61 = .ok (.istore_n 3, 1) := by decide +kernel
theorem dX10_now_62 : decode cX10_now 62 = .ok (.iinc 4 1, 3) := by decide +kernel
theorem dX10_now_65 : decode cX10_now 65 = .ok (.goto (-43), 3) := by decide +kernel
theorem dX10_now_68 : decode cX10_now 68 = .ok (.iload_n 1, 1) := by decide +kernel
theorem dX10_now_69 : decode cX10_now 69 = .ok (.iconst 2, 1) := by decide +kernel
theorem dX10_now_70 : decode cX10_now 70 = .ok (.if_icmp .ge 12, 3) := by decide +kernel
theorem dX10_now_73 : decode cX10_now 73 = .ok (.aload_n 0, 1) := by decide +kernel
theorem dX10_now_74 : decode cX10_now 74 = .ok (.getfield 9, 3) := by decide +kernel
theorem dX10_now_77 : decode cX10_now 77 = .ok (.iload_n 1, 1) := by decide +kernel
theorem dX10_now_78 : decode cX10_now 78 = .ok (.iaload, 1) := by decide +kernel
theorem dX10_now_79 : decode cX10_now 79 = .ok (.goto 13, 3) := by decide +kernel
theorem dX10_now_82 : decode cX10_now 82 = .ok (.iload_n 1, 1) := by decide +kernel
theorem dX10_now_83 : decode cX10_now 83 = .ok (.iconst 2, 1) := by decide +kernel
theorem dX10_now_84 : decode cX10_now 84 = .ok (.if_icmp .ne 7, 3) := by decide +kernel
theorem dX10_now_87 : decode cX10_now 87 = .ok (.iload_n 2, 1) := by decide +kernel
theorem dX10_now_88 : decode cX10_now 88 = .ok (.goto 4, 3) := by decide +kernel
theorem dX10_now_91 : decode cX10_now 91 = .ok (.iload_n 3, 1) := by decide +kernel
theorem dX10_now_92 : decode cX10_now 92 = .ok (.ireturn, 1) := by decide +kernel
set_option maxRecDepth 20000 in
theorem ggX10_on_X10_isLetter : GoodIn wsX10_on wsX10_isLetter := goodIn_r _ [6, 1, 7, 8, 5, 9, 31, 32, 33, 34, 35, 36, 37, 38, 39, 40, 41, 42, 43, 44, 45, 46, 47, 48] (by decide +kernel) (by decide +kernel)
set_option maxRecDepth 20000 in
theorem gX10_on_X10_isLetter : GoodIn wsX10_on (wsV RX10 145 RX10 yX10_isLetter wsX10_isLetter) := goodIn_app (goodIn_of _ (by decide +kernel)) ggX10_on_X10_isLetter
set_option maxRecDepth 20000 in
theorem ggX10_on_X10_in : GoodIn wsX10_on wsX10_in := goodIn_r _ [9] (by decide +kernel) (by decide +kernel)
set_option maxRecDepth 20000 in
theorem gX10_on_X10_in : GoodIn wsX10_on (va_wsS RX10 48 yX10_in wsX10_in) := goodIn_app (goodIn_of _ (by decide +kernel)) ggX10_on_X10_in
set_option maxRecDepth 20000 in
theorem ggX10_on_X10_no : GoodIn wsX10_on wsX10_no := goodIn_r _ [13, 14, 15, 31, 32, 33, 34, 35, 36, 37, 38, 39, 40, 41, 42, 43, 44, 45, 46, 47, 48] (by decide +kernel) (by decide +kernel)
set_option maxRecDepth 20000 in
theorem gX10_on_X10_no : GoodIn wsX10_on (wsV RX10 89 RX10 yX10_no wsX10_no) := goodIn_app (goodIn_of _ (by decide +kernel)) ggX10_on_X10_no
set_option maxRecDepth 20000 in
theorem ggX10_on_X10_shows : GoodIn wsX10_on wsX10_shows := goodIn_r _ [19, 1, 20, 21, 22, 5, 23, 24, 25, 26, 27, 28, 29, 30, 31, 32, 33, 34, 35, 36, 37, 38, 39, 40, 41, 42, 43, 44, 45, 46, 47, 48] (by decide +kernel) (by decide +kernel)
set_option maxRecDepth 20000 in
theorem gX10_on_X10_shows : GoodIn wsX10_on (wsV RX10 148 RX10 yX10_shows wsX10_shows) := goodIn_app (goodIn_of _ (by decide +kernel)) ggX10_on_X10_shows
theorem dX10_on_0 : decode cX10_on 0 = .ok (.aload_n 0, 1) := by decide +kernel
theorem dX10_on_1 : decode cX10_on 1 = .ok (.iload_n 1, 1) := by decide +kernel
theorem dX10_on_2 : decode cX10_on 2 = .ok (.invokevirtual 145, 3) := by decide +kernel
theorem dX10_on_5 : decode cX10_on 5 = .ok (.ifCond .eq 13, 3) := by decide +kernel
theorem dX10_on_8 : decode cX10_on 8 = .ok (.iload_n 2, 1) := by decide +kernel
theorem dX10_on_9 : decode cX10_on 9 = .ok (.iconst 0, 1) := by decide +kernel
theorem dX10_on_10 : decode cX10_on 10 = .ok (.bipush 99, 2) := by decide +kernel
theorem dX10_on_12 : decode cX10_on 12 = .ok (.invokestatic 48, 3) := by decide +kernel
theorem dX10_on_15 : decode cX10_on 15 = .ok (.ifCond .ne 9, 3) := by decide +kernel
theorem dX10_on_18 : decode cX10_on 18 = .ok (.aload_n 0, 1) := by decide +kernel
theorem dX10_on_19 : decode cX10_on 19 = .ok (.iconst 0, 1) := by decide +kernel
theorem dX10_on_20 : decode cX10_on 20 = .ok (.invokevirtual 89, 3) := by decide +kernel
theorem dX10_on_23 : decode cX10_on 23 = .ok (.ireturn, 1) := by decide +kernel
theorem dX10_on_24 : decode cX10_on 24 = .ok (.aload_n 0, 1) := by decide +kernel
theorem dX10_on_25 : decode cX10_on 25 = .ok (.getfield 9, 3) := by decide +kernel
theorem dX10_on_28 : decode cX10_on 28 = .ok (.iconst 0, 1) := by decide +kernel
theorem dX10_on_29 : decode cX10_on 29 = .ok (.iaload, 1) := by decide +kernel
theorem dX10_on_30 : decode cX10_on 30 = .ok (.iload_n 2, 1) := by decide +kernel
theorem dX10_on_31 : decode cX10_on 31 = .ok (.iadd, 1) := by decide +kernel
theorem dX10_on_32 : decode cX10_on 32 = .ok (.sipush 999, 3) := by decide +kernel
theorem dX10_on_35 : decode cX10_on 35 = .ok (.if_icmp .le 9, 3) := by decide +kernel
theorem dX10_on_38 : decode cX10_on 38 = .ok (.aload_n 0, 1) := by decide +kernel
theorem dX10_on_39 : decode cX10_on 39 = .ok (.iconst 4, 1) := by decide +kernel
theorem dX10_on_40 : decode cX10_on 40 = .ok (.invokevirtual 89, 3) := by decide +kernel
theorem dX10_on_43 : decode cX10_on 43 = .ok (.ireturn, 1) := by decide +kernel
theorem dX10_on_44 : decode cX10_on 44 = .ok (.aload_n 0, 1) := by decide +kernel
theorem dX10_on_45 : decode cX10_on 45 = .ok (.getfield 9, 3) := by decide +kernel
theorem dX10_on_48 : decode cX10_on 48 = .ok (.iconst 0, 1) := by decide +kernel
theorem dX10_on_49 : decode cX10_on 49 = .ok (.dup2, 1) := by decide +kernel
theorem dX10_on_50 : decode cX10_on 50 = .ok (.iaload, 1) := by decide +kernel
theorem dX10_on_51 : decode cX10_on 51 = .ok (.iload_n 2, 1) := by decide +kernel
theorem dX10_on_52 : decode cX10_on 52 = .ok (.iadd, 1) := by decide +kernel
theorem dX10_on_53 : decode cX10_on 53 = .ok (.iastore, 1) := by decide +kernel
theorem dX10_on_54 : decode cX10_on 54 = .ok (.aload_n 0, 1) := by decide +kernel
theorem dX10_on_55 : decode cX10_on 55 = .ok (.iload_n 1, 1) := by decide +kernel
theorem dX10_on_56 : decode cX10_on 56 = .ok (.invokevirtual 148, 3) := by decide +kernel
theorem dX10_on_59 : decode cX10_on 59 = .ok (.istore_n 3, 1) := by decide +kernel
theorem dX10_on_60 : decode cX10_on 60 = .ok (.aload_n 0, 1) := by decide +kernel
theorem dX10_on_61 : decode cX10_on 61 = .ok (.getfield 9, 3) := by decide +kernel
theorem dX10_on_64 : decode cX10_on 64 = .ok (.iconst 0, 1) := by decide +kernel
theorem dX10_on_65 : decode cX10_on 65 = .ok (.dup2, 1) := by decide +kernel
theorem dX10_on_66 : decode cX10_on 66 = .ok (.iaload, 1) := by decide +kernel
theorem dX10_on_67 : decode cX10_on 67 = .ok (.iload_n 2, 1) := by decide +kernel
theorem dX10_on_68 : decode cX10_on 68 = .ok (.isub, 1) := by decide +kernel
theorem dX10_on_69 : decode cX10_on 69 = .ok (.iastore, 1) := by decide +kernel
theorem dX10_on_70 : decode cX10_on 70 = .ok (.iload_n 3, 1) := by decide +kernel
theorem dX10_on_71 : decode cX10_on 71 = .ok (.ireturn, 1) := by decide +kernel
set_option maxRecDepth 20000 in
theorem ggX10_when_X10_isLetter : GoodIn wsX10_when wsX10_isLetter := goodIn_r _ [6, 1, 7, 8, 5, 9, 46, 47, 48, 49, 50, 51, 52, 53, 54, 55, 56, 57, 58, 59, 60, 61, 62, 63] (by decide +kernel) (by decide +kernel)
set_option maxRecDepth 20000 in
theorem gX10_when_X10_isLetter : GoodIn wsX10_when (wsV RX10 145 RX10 yX10_isLetter wsX10_isLetter) := goodIn_app (goodIn_of _ (by decide +kernel)) ggX10_when_X10_isLetter
set_option maxRecDepth 20000 in
theorem ggX10_when_X10_no : GoodIn wsX10_when wsX10_no := goodIn_r _ [13, 14, 15, 46, 47, 48, 49, 50, 51, 52, 53, 54, 55, 56, 57, 58, 59, 60, 61, 62, 63] (by decide +kernel) (by decide +kernel)
set_option maxRecDepth 20000 in
theorem gX10_when_X10_no : GoodIn wsX10_when (wsV RX10 89 RX10 yX10_no wsX10_no) := goodIn_app (goodIn_of _ (by decide +kernel)) ggX10_when_X10_no
set_option maxRecDepth 20000 in
theorem ggX10_when_X10_isOther : GoodIn wsX10_when wsX10_isOther := goodIn_r _ [19, 1, 20, 21, 22, 5, 23, 24, 25, 26, 27, 28, 29, 30, 31, 32, 33, 34, 35, 36, 37, 38, 39, 40, 41, 42, 43, 44, 45, 46, 47, 48, 49, 50, 51, 52, 53, 54, 55, 56, 57, 58, 59, 60, 61, 62, 63] (by decide +kernel) (by decide +kernel)
set_option maxRecDepth 20000 in
theorem gX10_when_X10_isOther : GoodIn wsX10_when (wsV RX10 157 RX10 yX10_isOther wsX10_isOther) := goodIn_app (goodIn_of _ (by decide +kernel)) ggX10_when_X10_isOther
theorem dX10_when_0 : decode cX10_when 0 = .ok (.aload_n 0, 1) := by decide +kernel
theorem dX10_when_1 : decode cX10_when 1 = .ok (.iload_n 1, 1) := by decide +kernel
theorem dX10_when_2 : decode cX10_when 2 = .ok (.invokevirtual 145, 3) := by decide +kernel
theorem dX10_when_5 : decode cX10_when 5 = .ok (.ifCond .ne 9, 3) := by decide +kernel
theorem dX10_when_8 : decode cX10_when 8 = .ok (.aload_n 0, 1) := by decide +kernel
theorem dX10_when_9 : decode cX10_when 9 = .ok (.iconst 0, 1) := by decide +kernel
theorem dX10_when_10 : decode cX10_when 10 = .ok (.invokevirtual 89, 3) := by decide +kernel
theorem dX10_when_13 : decode cX10_when 13 = .ok (.ireturn, 1) := by decide +kernel
theorem dX10_when_14 : decode cX10_when 14 = .ok (.aload_n 0, 1) := by decide +kernel
theorem dX10_when_15 : decode cX10_when 15 = .ok (.getfield 9, 3) := by decide +kernel
theorem dX10_when_18 : decode cX10_when 18 = .ok (.iconst 0, 1) := by decide +kernel
theorem dX10_when_19 : decode cX10_when 19 = .ok (.iaload, 1) := by decide +kernel
theorem dX10_when_20 : decode cX10_when 20 = .ok (.sipush 900, 3) := by decide +kernel
theorem dX10_when_23 : decode cX10_when 23 = .ok (.if_icmp .le 9, 3) := by decide +kernel
theorem dX10_when_26 : decode cX10_when 26 = .ok (.aload_n 0, 1) := by decide +kernel
theorem dX10_when_27 : decode cX10_when 27 = .ok (.iconst 4, 1) := by decide +kernel
theorem dX10_when_28 : decode cX10_when 28 = .ok (.invokevirtual 89, 3) := by decide +kernel
theorem dX10_when_31 : decode cX10_when 31 = .ok (.ireturn, 1) := by decide +kernel
theorem dX10_when_32 : decode cX10_when 32 = .ok (.aload_n 0, 1) := by decide +kernel
theorem dX10_when_33 : decode cX10_when 33 = .ok (.getfield 9, 3) := by decide +kernel
theorem dX10_when_36 : decode cX10_when 36 = .ok (.iconst 0, 1) := by decide +kernel
theorem dX10_when_37 : decode cX10_when 37 = .ok (.iaload, 1) := by decide +kernel
theorem dX10_when_38 : decode cX10_when 38 = .ok (.istore_n 2, 1) := by decide +kernel
theorem dX10_when_39 : decode cX10_when 39 = .ok (.iconst (-1), 1) := by decide +kernel
theorem dX10_when_40 : decode cX10_when 40 = .ok (.istore_n 3, 1) := by decide +kernel
theorem dX10_when_41 : decode cX10_when 41 = .ok (.iconst 0, 1) := by decide +kernel
theorem dX10_when_42 : decode cX10_when 42 = .ok (.istore 4, 2) := by decide +kernel
theorem dX10_when_44 : decode cX10_when 44 = .ok (.iload 4, 2) := by decide +kernel
theorem dX10_when_46 : decode cX10_when 46 = .ok (.bipush 99, 2) := by decide +kernel
theorem dX10_when_48 : decode cX10_when 48 = .ok (.if_icmp .gt 38, 3) := by decide +kernel
theorem dX10_when_51 : decode cX10_when 51 = .ok (.iload_n 3, 1) := by decide +kernel
theorem dX10_when_52 : decode cX10_when 52 = .ok (.ifCond .ge 34, 3) := by decide +kernel
theorem dX10_when_55 : decode cX10_when 55 = .ok (.aload_n 0, 1) := by decide +kernel
theorem dX10_when_56 : decode cX10_when 56 = .ok (.getfield 9, 3) := by decide +kernel
theorem dX10_when_59 : decode cX10_when 59 = .ok (.iconst 0, 1) := by decide +kernel
theorem dX10_when_60 : decode cX10_when 60 = .ok (.iload_n 2, 1) := by decide +kernel
theorem dX10_when_61 : decode cX10_when 61 = .ok (.iload 4, 2) := by decide +kernel
theorem dX10_when_63 : decode cX10_when 63 = .ok (.iadd, 1) := by decide +kernel
theorem dX10_when_64 : decode cX10_when 64 = .ok (.iastore, 1) := by decide +kernel
theorem dX10_when_65 : decode cX10_when 65 = .ok (.aload_n 0, 1) := by decide +kernel
theorem dX10_when_66 : decode cX10_when 66 = .ok (.iload_n 1, 1) := by decide +kernel
theorem dX10_when_67 : decode cX10_when 67 = .ok (.invokevirtual 157, 3) := by decide +kernel
theorem dX10_when_70 : decode cX10_when 70 = .ok (.ifCond .eq 8, 3) := by decide +kernel
theorem dX10_when_73 : decode cX10_when 73 = .ok (.iload 4, 2) := by decide +kernel
theorem dX10_when_75 : decode cX10_when 75 = .ok (.goto 4, 3) := by decide +kernel
theorem dX10_when_78 : decode cX10_when 78 = .ok (.iconst (-1), 1) := by decide +kernel
theorem dX10_when_79 : decode cX10_when 79 = .ok (.istore_n 3, 1) := by decide +kernel
theorem dX10_when_80 : decode cX10_when 80 = .ok (.iinc 4 1, 3) := by decide +kernel
theorem dX10_when_83 : decode cX10_when 83 = .ok (.goto (-39), 3) := by decide +kernel
theorem dX10_when_86 : decode cX10_when 86 = .ok (.aload_n 0, 1) := by decide +kernel
theorem dX10_when_87 : decode cX10_when 87 = .ok (.getfield 9, 3) := by decide +kernel
theorem dX10_when_90 : decode cX10_when 90 = .ok (.iconst 0, 1) := by decide +kernel
theorem dX10_when_91 : decode cX10_when 91 = .ok (.iload_n 2, 1) := by decide +kernel
theorem dX10_when_92 : decode cX10_when 92 = .ok (.iastore, 1) := by decide +kernel
theorem dX10_when_93 : decode cX10_when 93 = .ok (.iload_n 3, 1) := by decide +kernel
theorem dX10_when_94 : decode cX10_when 94 = .ok (.ifCond .ge 11, 3) := by decide +kernel
theorem dX10_when_97 : decode cX10_when 97 = .ok (.aload_n 0, 1) := by decide +kernel
theorem dX10_when_98 : decode cX10_when 98 = .ok (.iconst 3, 1) := by decide +kernel
theorem dX10_when_99 : decode cX10_when 99 = .ok (.invokevirtual 89, 3) := by decide +kernel
theorem dX10_when_102 : decode cX10_when 102 = .ok (.goto 4, 3) := by decide +kernel
theorem dX10_when_105 : decode cX10_when 105 = .ok (.iload_n 3, 1) := by decide +kernel
theorem dX10_when_106 : decode cX10_when 106 = .ok (.ireturn, 1) := by decide +kernel
set_option maxRecDepth 20000 in
theorem ggX10_longest_X10_feetBy : GoodIn wsX10_longest wsX10_feetBy := goodIn_r _ [4, 5, 6, 3, 7, 8, 9, 10, 11, 12, 13, 14, 15, 16, 17, 18, 19, 20, 21, 22, 23, 24, 25, 26, 27, 28, 29, 30, 31, 32, 33, 34, 35, 36, 37] (by decide +kernel) (by decide +kernel)
set_option maxRecDepth 20000 in
theorem gX10_longest_X10_feetBy : GoodIn wsX10_longest (va_wsS RX10 142 yX10_feetBy wsX10_feetBy) := goodIn_app (goodIn_of _ (by decide +kernel)) ggX10_longest_X10_feetBy
set_option maxRecDepth 20000 in
theorem ggX10_longest_X10_lastsBy : GoodIn wsX10_longest wsX10_lastsBy := goodIn_r _ [40] (by decide +kernel) (by decide +kernel)
set_option maxRecDepth 20000 in
theorem gX10_longest_X10_lastsBy : GoodIn wsX10_longest (va_wsS RX10 136 yX10_lastsBy wsX10_lastsBy) := goodIn_app (goodIn_of _ (by decide +kernel)) ggX10_longest_X10_lastsBy
theorem dX10_longest_0 : decode cX10_longest 0 = .ok (.iconst 0, 1) := by decide +kernel
theorem dX10_longest_1 : decode cX10_longest 1 = .ok (.istore_n 2, 1) := by decide +kernel
theorem dX10_longest_2 : decode cX10_longest 2 = .ok (.iconst (-1), 1) := by decide +kernel
theorem dX10_longest_3 : decode cX10_longest 3 = .ok (.istore_n 3, 1) := by decide +kernel
theorem dX10_longest_4 : decode cX10_longest 4 = .ok (.iconst 0, 1) := by decide +kernel
theorem dX10_longest_5 : decode cX10_longest 5 = .ok (.istore 4, 2) := by decide +kernel
theorem dX10_longest_7 : decode cX10_longest 7 = .ok (.iload 4, 2) := by decide +kernel
theorem dX10_longest_9 : decode cX10_longest 9 = .ok (.iconst 5, 1) := by decide +kernel
theorem dX10_longest_10 : decode cX10_longest 10 = .ok (.if_icmp .gt 66, 3) := by decide +kernel
theorem dX10_longest_13 : decode cX10_longest 13 = .ok (.iload 4, 2) := by decide +kernel
theorem dX10_longest_15 : decode cX10_longest 15 = .ok (.iload_n 0, 1) := by decide +kernel
theorem dX10_longest_16 : decode cX10_longest 16 = .ok (.invokestatic 142, 3) := by decide +kernel
theorem dX10_longest_19 : decode cX10_longest 19 = .ok (.istore 5, 2) := by decide +kernel
theorem dX10_longest_21 : decode cX10_longest 21 = .ok (.iload 5, 2) := by decide +kernel
theorem dX10_longest_23 : decode cX10_longest 23 = .ok (.ifCond .ne 7, 3) := by decide +kernel
theorem dX10_longest_26 : decode cX10_longest 26 = .ok (.iconst 0, 1) := by decide +kernel
theorem dX10_longest_27 : decode cX10_longest 27 = .ok (.goto 15, 3) := by decide +kernel
theorem dX10_longest_30 : decode cX10_longest 30 = .ok (.bipush 100, 2) := by decide +kernel
theorem dX10_longest_32 : decode cX10_longest 32 = .ok (.iload 4, 2) := by decide +kernel
theorem dX10_longest_34 : decode cX10_longest 34 = .ok (.iload_n 1, 1) := by decide +kernel
theorem dX10_longest_35 : decode cX10_longest 35 = .ok (.invokestatic 136, 3) := by decide +kernel
theorem dX10_longest_38 : decode cX10_longest 38 = .ok (.imul, 1) := by decide +kernel
theorem dX10_longest_39 : decode cX10_longest 39 = .ok (.iload 5, 2) := by decide +kernel
theorem dX10_longest_41 : decode cX10_longest 41 = .ok (.idiv, 1) := by decide +kernel
theorem dX10_longest_42 : decode cX10_longest 42 = .ok (.istore 6, 2) := by decide +kernel
theorem dX10_longest_44 : decode cX10_longest 44 = .ok (.iload 6, 2) := by decide +kernel
theorem dX10_longest_46 : decode cX10_longest 46 = .ok (.iload_n 3, 1) := by decide +kernel
theorem dX10_longest_47 : decode cX10_longest 47 = .ok (.if_icmp .le 8, 3) := by decide +kernel
theorem dX10_longest_50 : decode cX10_longest 50 = .ok (.iload 4, 2) := by decide +kernel
theorem dX10_longest_52 : decode cX10_longest 52 = .ok (.goto 4, 3) := by decide +kernel
theorem dX10_longest_55 : decode cX10_longest 55 = .ok (.iload_n 2, 1) := by decide +kernel
theorem dX10_longest_56 : decode cX10_longest 56 = .ok (.istore_n 2, 1) := by decide +kernel
theorem dX10_longest_57 : decode cX10_longest 57 = .ok (.iload 6, 2) := by decide +kernel
theorem dX10_longest_59 : decode cX10_longest 59 = .ok (.iload_n 3, 1) := by decide +kernel
theorem dX10_longest_60 : decode cX10_longest 60 = .ok (.if_icmp .le 8, 3) := by decide +kernel
theorem dX10_longest_63 : decode cX10_longest 63 = .ok (.iload 6, 2) := by decide +kernel
theorem dX10_longest_65 : decode cX10_longest 65 = .ok (.goto 4, 3) := by decide +kernel
theorem dX10_longest_68 : decode cX10_longest 68 = .ok (.iload_n 3, 1) := by decide +kernel
theorem dX10_longest_69 : decode cX10_longest 69 = .ok (.istore_n 3, 1) := by decide +kernel
theorem dX10_longest_70 : decode cX10_longest 70 = .ok (.iinc 4 1, 3) := by decide +kernel
theorem dX10_longest_73 : decode cX10_longest 73 = .ok (.goto (-66), 3) := by decide +kernel
theorem dX10_longest_76 : decode cX10_longest 76 = .ok (.iload_n 2, 1) := by decide +kernel
theorem dX10_longest_77 : decode cX10_longest 77 = .ok (.ireturn, 1) := by decide +kernel
set_option maxRecDepth 20000 in
theorem ggX10_kind_X10_isLetter : GoodIn wsX10_kind wsX10_isLetter := goodIn_r _ [6, 1, 7, 8, 5, 9, 62, 63, 64, 65, 66, 67, 68, 69, 70, 71, 72, 73, 74, 75, 76, 77, 78, 79] (by decide +kernel) (by decide +kernel)
set_option maxRecDepth 20000 in
theorem gX10_kind_X10_isLetter : GoodIn wsX10_kind (wsV RX10 145 RX10 yX10_isLetter wsX10_isLetter) := goodIn_app (goodIn_of _ (by decide +kernel)) ggX10_kind_X10_isLetter
set_option maxRecDepth 20000 in
theorem ggX10_kind_X10_at : GoodIn wsX10_kind wsX10_at := goodIn_r _ [13] (by decide +kernel) (by decide +kernel)
set_option maxRecDepth 20000 in
theorem gX10_kind_X10_at : GoodIn wsX10_kind (wsV RX10 126 RX10 yX10_at wsX10_at) := goodIn_app (goodIn_of _ (by decide +kernel)) ggX10_kind_X10_at
set_option maxRecDepth 20000 in
theorem ggX10_kind_X10_longest : GoodIn wsX10_kind wsX10_longest := goodIn_r _ [16, 17, 18, 5, 19, 20, 21, 22, 23, 24, 25, 26, 27, 28, 29, 30, 31, 32, 33, 34, 35, 36, 37, 38, 39, 40, 41, 42, 43, 44, 45, 46, 47, 48, 49, 50, 51, 52, 53, 54, 55] (by decide +kernel) (by decide +kernel)
set_option maxRecDepth 20000 in
theorem gX10_kind_X10_longest : GoodIn wsX10_kind (va_wsS RX10 160 yX10_longest wsX10_longest) := goodIn_app (goodIn_of _ (by decide +kernel)) ggX10_kind_X10_longest
set_option maxRecDepth 20000 in
theorem ggX10_kind_X10_no : GoodIn wsX10_kind wsX10_no := goodIn_r _ [59, 60, 61, 62, 63, 64, 65, 66, 67, 68, 69, 70, 71, 72, 73, 74, 75, 76, 77, 78, 79] (by decide +kernel) (by decide +kernel)
set_option maxRecDepth 20000 in
theorem gX10_kind_X10_no : GoodIn wsX10_kind (wsV RX10 89 RX10 yX10_no wsX10_no) := goodIn_app (goodIn_of _ (by decide +kernel)) ggX10_kind_X10_no
theorem dX10_kind_0 : decode cX10_kind 0 = .ok (.aload_n 0, 1) := by decide +kernel
theorem dX10_kind_1 : decode cX10_kind 1 = .ok (.iload_n 1, 1) := by decide +kernel
theorem dX10_kind_2 : decode cX10_kind 2 = .ok (.invokevirtual 145, 3) := by decide +kernel
theorem dX10_kind_5 : decode cX10_kind 5 = .ok (.ifCond .eq 31, 3) := by decide +kernel
theorem dX10_kind_8 : decode cX10_kind 8 = .ok (.aload_n 0, 1) := by decide +kernel
theorem dX10_kind_9 : decode cX10_kind 9 = .ok (.getfield 9, 3) := by decide +kernel
theorem dX10_kind_12 : decode cX10_kind 12 = .ok (.aload_n 0, 1) := by decide +kernel
theorem dX10_kind_13 : decode cX10_kind 13 = .ok (.iload_n 1, 1) := by decide +kernel
theorem dX10_kind_14 : decode cX10_kind 14 = .ok (.iconst 1, 1) := by decide +kernel
theorem dX10_kind_15 : decode cX10_kind 15 = .ok (.invokevirtual 126, 3) := by decide +kernel
theorem dX10_kind_18 : decode cX10_kind 18 = .ok (.iaload, 1) := by decide +kernel
theorem dX10_kind_19 : decode cX10_kind 19 = .ok (.aload_n 0, 1) := by decide +kernel
theorem dX10_kind_20 : decode cX10_kind 20 = .ok (.getfield 9, 3) := by decide +kernel
theorem dX10_kind_23 : decode cX10_kind 23 = .ok (.aload_n 0, 1) := by decide +kernel
theorem dX10_kind_24 : decode cX10_kind 24 = .ok (.iload_n 1, 1) := by decide +kernel
theorem dX10_kind_25 : decode cX10_kind 25 = .ok (.iconst 2, 1) := by decide +kernel
theorem dX10_kind_26 : decode cX10_kind 26 = .ok (.invokevirtual 126, 3) := by decide +kernel
theorem dX10_kind_29 : decode cX10_kind 29 = .ok (.iaload, 1) := by decide +kernel
theorem dX10_kind_30 : decode cX10_kind 30 = .ok (.invokestatic 160, 3) := by decide +kernel
theorem dX10_kind_33 : decode cX10_kind 33 = .ok (.goto 8, 3) := by decide +kernel
theorem dX10_kind_36 : decode cX10_kind 36 = .ok (.aload_n 0, 1) := by decide +kernel
theorem dX10_kind_37 : decode cX10_kind 37 = .ok (.iconst 0, 1) := by decide +kernel
theorem dX10_kind_38 : decode cX10_kind 38 = .ok (.invokevirtual 89, 3) := by decide +kernel
theorem dX10_kind_41 : decode cX10_kind 41 = .ok (.ireturn, 1) := by decide +kernel
set_option maxRecDepth 20000 in
theorem ggX10_worthOf_X10_shows : GoodIn wsX10_worthOf wsX10_shows := goodIn_r _ [5, 6, 7, 8, 9, 4, 10, 11, 12, 13, 14, 15, 16, 17, 33, 34, 35, 36, 37, 38, 39, 40, 41, 42, 43, 44, 45, 46, 47, 48, 49, 50] (by decide +kernel) (by decide +kernel)
set_option maxRecDepth 20000 in
theorem gX10_worthOf_X10_shows : GoodIn wsX10_worthOf (wsV RX10 148 RX10 yX10_shows wsX10_shows) := goodIn_app (goodIn_of _ (by decide +kernel)) ggX10_worthOf_X10_shows
set_option maxRecDepth 20000 in
theorem ggX10_worthOf_X10_ones : GoodIn wsX10_worthOf wsX10_ones := goodIn_r _ [20] (by decide +kernel) (by decide +kernel)
set_option maxRecDepth 20000 in
theorem gX10_worthOf_X10_ones : GoodIn wsX10_worthOf (va_wsS RX10 79 yX10_ones wsX10_ones) := goodIn_app (goodIn_of _ (by decide +kernel)) ggX10_worthOf_X10_ones
set_option maxRecDepth 20000 in
theorem ggX10_worthOf_X10_readAs : GoodIn wsX10_worthOf wsX10_readAs := goodIn_r _ [24, 6, 25, 26, 27, 4, 28, 18, 19, 20, 33, 34, 35, 36, 37, 38, 39, 40, 41, 42, 43, 44, 45, 46, 47, 48, 49, 50] (by decide +kernel) (by decide +kernel)
set_option maxRecDepth 20000 in
theorem gX10_worthOf_X10_readAs : GoodIn wsX10_worthOf (wsV RX10 123 RX10 yX10_readAs wsX10_readAs) := goodIn_app (goodIn_of _ (by decide +kernel)) ggX10_worthOf_X10_readAs
set_option maxRecDepth 20000 in
theorem ggX10_worthOf_X10_isOther : GoodIn wsX10_worthOf wsX10_isOther := goodIn_r _ [32, 6, 1, 2, 3, 4, 5, 7, 8, 9, 10, 11, 12, 13, 14, 15, 16, 17, 21, 22, 23, 24, 25, 26, 27, 28, 18, 19, 20, 33, 34, 35, 36, 37, 38, 39, 40, 41, 42, 43, 44, 45, 46, 47, 48, 49, 50] (by decide +kernel) (by decide +kernel)
set_option maxRecDepth 20000 in
theorem gX10_worthOf_X10_isOther : GoodIn wsX10_worthOf (wsV RX10 157 RX10 yX10_isOther wsX10_isOther) := goodIn_app (goodIn_of _ (by decide +kernel)) ggX10_worthOf_X10_isOther
theorem dX10_worthOf_0 : decode cX10_worthOf 0 = .ok (.aload_n 0, 1) := by decide +kernel
theorem dX10_worthOf_1 : decode cX10_worthOf 1 = .ok (.iload_n 1, 1) := by decide +kernel
theorem dX10_worthOf_2 : decode cX10_worthOf 2 = .ok (.invokevirtual 148, 3) := by decide +kernel
theorem dX10_worthOf_5 : decode cX10_worthOf 5 = .ok (.istore_n 2, 1) := by decide +kernel
theorem dX10_worthOf_6 : decode cX10_worthOf 6 = .ok (.iload_n 2, 1) := by decide +kernel
theorem dX10_worthOf_7 : decode cX10_worthOf 7 = .ok (.invokestatic 79, 3) := by decide +kernel
theorem dX10_worthOf_10 : decode cX10_worthOf 10 = .ok (.aload_n 0, 1) := by decide +kernel
theorem dX10_worthOf_11 : decode cX10_worthOf 11 = .ok (.iload_n 2, 1) := by decide +kernel
theorem dX10_worthOf_12 : decode cX10_worthOf 12 = .ok (.invokevirtual 123, 3) := by decide +kernel
theorem dX10_worthOf_15 : decode cX10_worthOf 15 = .ok (.ifCond .lt 16, 3) := by decide +kernel
theorem dX10_worthOf_18 : decode cX10_worthOf 18 = .ok (.aload_n 0, 1) := by decide +kernel
theorem dX10_worthOf_19 : decode cX10_worthOf 19 = .ok (.iload_n 1, 1) := by decide +kernel
theorem dX10_worthOf_20 : decode cX10_worthOf 20 = .ok (.invokevirtual 157, 3) := by decide +kernel
theorem dX10_worthOf_23 : decode cX10_worthOf 23 = .ok (.ifCond .ne 8, 3) := by decide +kernel
theorem dX10_worthOf_26 : decode cX10_worthOf 26 = .ok (.bipush 10, 2) := by decide +kernel
theorem dX10_worthOf_28 : decode cX10_worthOf 28 = .ok (.goto 4, 3) := by decide +kernel
theorem dX10_worthOf_31 : decode cX10_worthOf 31 = .ok (.iconst 0, 1) := by decide +kernel
theorem dX10_worthOf_32 : decode cX10_worthOf 32 = .ok (.iadd, 1) := by decide +kernel
theorem dX10_worthOf_33 : decode cX10_worthOf 33 = .ok (.ireturn, 1) := by decide +kernel
set_option maxRecDepth 20000 in
theorem ggX10_bestSet_X10_worthOf : GoodIn wsX10_bestSet wsX10_worthOf := goodIn_r _ [9, 10, 11, 12, 8, 13, 1, 14, 15, 16, 17, 18, 19, 20, 21, 22, 23, 24, 25, 26, 27, 28, 29, 30, 31, 32, 33, 34, 35, 36, 37, 38, 39, 77, 78, 79, 80, 81, 82, 83, 84, 85, 86, 87, 88, 89, 90, 91, 92, 93, 94] (by decide +kernel) (by decide +kernel)
set_option maxRecDepth 20000 in
theorem gX10_bestSet_X10_worthOf : GoodIn wsX10_bestSet (wsV RX10 163 RX10 yX10_worthOf wsX10_worthOf) := goodIn_app (goodIn_of _ (by decide +kernel)) ggX10_bestSet_X10_worthOf
set_option maxRecDepth 20000 in
theorem ggX10_bestSet_X10_feet : GoodIn wsX10_bestSet wsX10_feet := goodIn_r _ [43, 1, 18, 19, 20, 8, 21, 44, 45, 46, 25, 26, 27, 47, 48, 49, 50, 51, 52, 53, 54, 55, 56, 57, 58, 59, 60, 61, 62, 63, 64, 65, 66, 67, 68, 69, 70, 71, 72, 73, 74, 75, 76, 77, 78, 79, 80, 81, 82, 83, 84, 85, 86, 87, 88, 89, 90, 91, 92, 93, 94] (by decide +kernel) (by decide +kernel)
set_option maxRecDepth 20000 in
theorem gX10_bestSet_X10_feet : GoodIn wsX10_bestSet (wsV RX10 151 RX10 yX10_feet wsX10_feet) := goodIn_app (goodIn_of _ (by decide +kernel)) ggX10_bestSet_X10_feet
set_option maxRecDepth 20000 in
theorem ggX10_bestSet_X10_has : GoodIn wsX10_bestSet wsX10_has := goodIn_r _ [58] (by decide +kernel) (by decide +kernel)
set_option maxRecDepth 20000 in
theorem gX10_bestSet_X10_has : GoodIn wsX10_bestSet (va_wsS RX10 59 yX10_has wsX10_has) := goodIn_app (goodIn_of _ (by decide +kernel)) ggX10_bestSet_X10_has
theorem dX10_bestSet_0 : decode cX10_bestSet 0 = .ok (.iconst 0, 1) := by decide +kernel
theorem dX10_bestSet_1 : decode cX10_bestSet 1 = .ok (.istore_n 2, 1) := by decide +kernel
theorem dX10_bestSet_2 : decode cX10_bestSet 2 = .ok (.iload_n 2, 1) := by decide +kernel
theorem dX10_bestSet_3 : decode cX10_bestSet 3 = .ok (.aload_n 0, 1) := by decide +kernel
theorem dX10_bestSet_4 : decode cX10_bestSet 4 = .ok (.getfield 9, 3) := by decide +kernel
theorem dX10_bestSet_7 : decode cX10_bestSet 7 = .ok (.iconst 2, 1) := by decide +kernel
theorem dX10_bestSet_8 : decode cX10_bestSet 8 = .ok (.iaload, 1) := by decide +kernel
theorem dX10_bestSet_9 : decode cX10_bestSet 9 = .ok (.if_icmp .ge 31, 3) := by decide +kernel
theorem dX10_bestSet_12 : decode cX10_bestSet 12 = .ok (.aload_n 0, 1) := by decide +kernel
theorem dX10_bestSet_13 : decode cX10_bestSet 13 = .ok (.getfield 25, 3) := by decide +kernel
theorem dX10_bestSet_16 : decode cX10_bestSet 16 = .ok (.iload_n 2, 1) := by decide +kernel
theorem dX10_bestSet_17 : decode cX10_bestSet 17 = .ok (.aload_n 0, 1) := by decide +kernel
theorem dX10_bestSet_18 : decode cX10_bestSet 18 = .ok (.iload_n 2, 1) := by decide +kernel
theorem dX10_bestSet_19 : decode cX10_bestSet 19 = .ok (.invokevirtual 163, 3) := by decide +kernel
theorem dX10_bestSet_22 : decode cX10_bestSet 22 = .ok (.iastore, 1) := by decide +kernel
theorem dX10_bestSet_23 : decode cX10_bestSet 23 = .ok (.aload_n 0, 1) := by decide +kernel
theorem dX10_bestSet_24 : decode cX10_bestSet 24 = .ok (.getfield 28, 3) := by decide +kernel
theorem dX10_bestSet_27 : decode cX10_bestSet 27 = .ok (.iload_n 2, 1) := by decide +kernel
theorem dX10_bestSet_28 : decode cX10_bestSet 28 = .ok (.aload_n 0, 1) := by decide +kernel
theorem dX10_bestSet_29 : decode cX10_bestSet 29 = .ok (.iload_n 2, 1) := by decide +kernel
theorem dX10_bestSet_30 : decode cX10_bestSet 30 = .ok (.invokevirtual 151, 3) := by decide +kernel
theorem dX10_bestSet_33 : decode cX10_bestSet 33 = .ok (.iastore, 1) := by decide +kernel
theorem dX10_bestSet_34 : decode cX10_bestSet 34 = .ok (.iinc 2 1, 3) := by decide +kernel
theorem dX10_bestSet_37 : decode cX10_bestSet 37 = .ok (.goto (-35), 3) := by decide +kernel
theorem dX10_bestSet_40 : decode cX10_bestSet 40 = .ok (.iconst 0, 1) := by decide +kernel
theorem dX10_bestSet_41 : decode cX10_bestSet 41 = .ok (.istore_n 2, 1) := by decide +kernel
theorem dX10_bestSet_42 : decode cX10_bestSet 42 = .ok (.aload_n 0, 1) := by decide +kernel
theorem dX10_bestSet_43 : decode cX10_bestSet 43 = .ok (.iconst 0, 1) := by decide +kernel
theorem dX10_bestSet_44 : decode cX10_bestSet 44 = .ok (.putfield 166, 3) := by decide +kernel
theorem dX10_bestSet_47 : decode cX10_bestSet 47 = .ok (.iconst 1, 1) := by decide +kernel
theorem dX10_bestSet_48 : decode cX10_bestSet 48 = .ok (.istore_n 3, 1) := by decide +kernel
theorem dX10_bestSet_49 : decode cX10_bestSet 49 = .ok (.iload_n 3, 1) := by decide +kernel
theorem dX10_bestSet_50 : decode cX10_bestSet 50 = .ok (.iconst 1, 1) := by decide +kernel
theorem dX10_bestSet_51 : decode cX10_bestSet 51 = .ok (.aload_n 0, 1) := by decide +kernel
theorem dX10_bestSet_52 : decode cX10_bestSet 52 = .ok (.getfield 9, 3) := by decide +kernel
theorem dX10_bestSet_55 : decode cX10_bestSet 55 = .ok (.iconst 2, 1) := by decide +kernel
theorem dX10_bestSet_56 : decode cX10_bestSet 56 = .ok (.iaload, 1) := by decide +kernel
theorem dX10_bestSet_57 : decode cX10_bestSet 57 = .ok (.ishl, 1) := by decide +kernel
theorem dX10_bestSet_58 : decode cX10_bestSet 58 = .ok (.if_icmp .ge 108, 3) := by decide +kernel
theorem dX10_bestSet_61 : decode cX10_bestSet 61 = .ok (.iconst 0, 1) := by decide +kernel
theorem dX10_bestSet_62 : decode cX10_bestSet 62 = .ok (.istore 4, 2) := by decide +kernel
theorem dX10_bestSet_64 : decode cX10_bestSet 64 = .ok (.iconst 0, 1) := by decide +kernel
theorem dX10_bestSet_65 : decode cX10_bestSet 65 = .ok (.istore 5, 2) := by decide +kernel
theorem dX10_bestSet_67 : decode cX10_bestSet 67 = .ok (.iconst 0, 1) := by decide +kernel
theorem dX10_bestSet_68 : decode cX10_bestSet 68 = .ok (.istore 6, 2) := by decide +kernel
theorem dX10_bestSet_70 : decode cX10_bestSet 70 = .ok (.iload 6, 2) := by decide +kernel
theorem dX10_bestSet_72 : decode cX10_bestSet 72 = .ok (.aload_n 0, 1) := by decide +kernel
theorem dX10_bestSet_73 : decode cX10_bestSet 73 = .ok (.getfield 9, 3) := by decide +kernel
theorem dX10_bestSet_76 : decode cX10_bestSet 76 = .ok (.iconst 2, 1) := by decide +kernel
theorem dX10_bestSet_77 : decode cX10_bestSet 77 = .ok (.iaload, 1) := by decide +kernel
theorem dX10_bestSet_78 : decode cX10_bestSet 78 = .ok (.if_icmp .ge 59, 3) := by decide +kernel
theorem dX10_bestSet_81 : decode cX10_bestSet 81 = .ok (.iload 4, 2) := by decide +kernel
theorem dX10_bestSet_83 : decode cX10_bestSet 83 = .ok (.iload_n 3, 1) := by decide +kernel
theorem dX10_bestSet_84 : decode cX10_bestSet 84 = .ok (.iload 6, 2) := by decide +kernel
theorem dX10_bestSet_86 : decode cX10_bestSet 86 = .ok (.invokestatic 59, 3) := by decide +kernel
theorem dX10_bestSet_89 : decode cX10_bestSet 89 = .ok (.ifCond .eq 13, 3) := by decide +kernel
theorem dX10_bestSet_92 : decode cX10_bestSet 92 = .ok (.aload_n 0, 1) := by decide +kernel
theorem dX10_bestSet_93 : decode cX10_bestSet 93 = .ok (.getfield 25, 3) := by decide +kernel
theorem dX10_bestSet_96 : decode cX10_bestSet 96 = .ok (.iload 6, 2) := by decide +kernel
theorem dX10_bestSet_98 : decode cX10_bestSet 98 = .ok (.iaload, 1) := by decide +kernel
theorem dX10_bestSet_99 : decode cX10_bestSet 99 = .ok (.goto 4, 3) := by decide +kernel
theorem dX10_bestSet_102 : decode cX10_bestSet 102 = .ok (.iconst 0, 1) := by decide +kernel
theorem dX10_bestSet_103 : decode cX10_bestSet 103 = .ok (.iadd, 1) := by decide +kernel
theorem dX10_bestSet_104 : decode cX10_bestSet 104 = .ok (.istore 4, 2) := by decide +kernel
theorem dX10_bestSet_106 : decode cX10_bestSet 106 = .ok (.iload 5, 2) := by decide +kernel
theorem dX10_bestSet_108 : decode cX10_bestSet 108 = .ok (.iload_n 3, 1) := by decide +kernel
theorem dX10_bestSet_109 : decode cX10_bestSet 109 = .ok (.iload 6, 2) := by decide +kernel
theorem dX10_bestSet_111 : decode cX10_bestSet 111 = .ok (.invokestatic 59, 3) := by decide +kernel
theorem dX10_bestSet_114 : decode cX10_bestSet 114 = .ok (.ifCond .eq 13, 3) := by decide +kernel
theorem dX10_bestSet_117 : decode cX10_bestSet 117 = .ok (.aload_n 0, 1) := by decide +kernel
theorem dX10_bestSet_118 : decode cX10_bestSet 118 = .ok (.getfield 28, 3) := by decide +kernel
theorem dX10_bestSet_121 : decode cX10_bestSet 121 = .ok (.iload 6, 2) := by decide +kernel
theorem dX10_bestSet_123 : decode cX10_bestSet 123 = .ok (.iaload, 1) := by decide +kernel
theorem dX10_bestSet_124 : decode cX10_bestSet 124 = .ok (.goto 4, 3) := by decide +kernel
theorem dX10_bestSet_127 : decode cX10_bestSet 127 = .ok (.iconst 0, 1) := by decide +kernel
theorem dX10_bestSet_128 : decode cX10_bestSet 128 = .ok (.iadd, 1) := by decide +kernel
theorem dX10_bestSet_129 : decode cX10_bestSet 129 = .ok (.istore 5, 2) := by decide +kernel
theorem dX10_bestSet_131 : decode cX10_bestSet 131 = .ok (.iinc 6 1, 3) := by decide +kernel
theorem dX10_bestSet_134 : decode cX10_bestSet 134 = .ok (.goto (-64), 3) := by decide +kernel
theorem dX10_bestSet_137 : decode cX10_bestSet 137 = .ok (.iload 5, 2) := by decide +kernel
theorem dX10_bestSet_139 : decode cX10_bestSet 139 = .ok (.iload_n 1, 1) := by decide +kernel
theorem dX10_bestSet_140 : decode cX10_bestSet 140 = .ok (.if_icmp .gt 20, 3) := by decide +kernel
theorem dX10_bestSet_143 : decode cX10_bestSet 143 = .ok (.iload 4, 2) := by decide +kernel
theorem dX10_bestSet_145 : decode cX10_bestSet 145 = .ok (.aload_n 0, 1) := by decide +kernel
theorem dX10_bestSet_146 : decode cX10_bestSet 146 = .ok (.getfield 166, 3) := by decide +kernel
theorem dX10_bestSet_149 : decode cX10_bestSet 149 = .ok (.if_icmp .le 11, 3) := by decide +kernel
theorem dX10_bestSet_152 : decode cX10_bestSet 152 = .ok (.aload_n 0, 1) := by decide +kernel
theorem dX10_bestSet_153 : decode cX10_bestSet 153 = .ok (.iload 4, 2) := by decide +kernel
theorem dX10_bestSet_155 : decode cX10_bestSet 155 = .ok (.putfield 166, 3) := by decide +kernel
theorem dX10_bestSet_158 : decode cX10_bestSet 158 = .ok (.iload_n 3, 1) := by decide +kernel
theorem dX10_bestSet_159 : decode cX10_bestSet 159 = .ok (.istore_n 2, 1) := by decide +kernel
theorem dX10_bestSet_160 : decode cX10_bestSet 160 = .ok (.iinc 3 1, 3) := by decide +kernel
theorem dX10_bestSet_163 : decode cX10_bestSet 163 = .ok (.goto (-114), 3) := by decide +kernel
theorem dX10_bestSet_166 : decode cX10_bestSet 166 = .ok (.iload_n 2, 1) := by decide +kernel
theorem dX10_bestSet_167 : decode cX10_bestSet 167 = .ok (.ireturn, 1) := by decide +kernel
set_option maxRecDepth 20000 in
theorem ggX10_best_X10_in : GoodIn wsX10_best wsX10_in := goodIn_r _ [4] (by decide +kernel) (by decide +kernel)
set_option maxRecDepth 20000 in
theorem gX10_best_X10_in : GoodIn wsX10_best (va_wsS RX10 48 yX10_in wsX10_in) := goodIn_app (goodIn_of _ (by decide +kernel)) ggX10_best_X10_in
set_option maxRecDepth 20000 in
theorem ggX10_best_X10_bestSet : GoodIn wsX10_best wsX10_bestSet := goodIn_r _ [8, 9, 10, 11, 12, 13, 14, 15, 3, 16, 17, 18, 19, 20, 21, 22, 23, 24, 25, 26, 27, 28, 29, 30, 31, 32, 33, 34, 35, 36, 37, 38, 39, 40, 41, 42, 43, 44, 45, 46, 47, 48, 49, 50, 51, 52, 53, 54, 55, 56, 57, 58, 59, 60, 61, 62, 63, 64, 65, 66, 67, 68, 69, 70, 71, 72, 73, 74, 75, 76, 77, 78, 79, 80, 81, 82, 83, 90, 91, 92, 93, 94, 95, 96, 97, 98, 99, 100, 101, 102, 103, 104, 105, 106, 107] (by decide +kernel) (by decide +kernel)
set_option maxRecDepth 20000 in
theorem gX10_best_X10_bestSet : GoodIn wsX10_best (wsV RX10 170 RX10 yX10_bestSet wsX10_bestSet) := goodIn_app (goodIn_of _ (by decide +kernel)) ggX10_best_X10_bestSet
set_option maxRecDepth 20000 in
theorem ggX10_best_X10_no : GoodIn wsX10_best wsX10_no := goodIn_r _ [87, 88, 89, 90, 91, 92, 93, 94, 95, 96, 97, 98, 99, 100, 101, 102, 103, 104, 105, 106, 107] (by decide +kernel) (by decide +kernel)
set_option maxRecDepth 20000 in
theorem gX10_best_X10_no : GoodIn wsX10_best (wsV RX10 89 RX10 yX10_no wsX10_no) := goodIn_app (goodIn_of _ (by decide +kernel)) ggX10_best_X10_no
theorem dX10_best_0 : decode cX10_best 0 = .ok (.iload_n 1, 1) := by decide +kernel
theorem dX10_best_1 : decode cX10_best 1 = .ok (.iconst 0, 1) := by decide +kernel
theorem dX10_best_2 : decode cX10_best 2 = .ok (.sipush 9999, 3) := by decide +kernel
theorem dX10_best_5 : decode cX10_best 5 = .ok (.invokestatic 48, 3) := by decide +kernel
theorem dX10_best_8 : decode cX10_best 8 = .ok (.ifCond .eq 11, 3) := by decide +kernel
theorem dX10_best_11 : decode cX10_best 11 = .ok (.aload_n 0, 1) := by decide +kernel
theorem dX10_best_12 : decode cX10_best 12 = .ok (.iload_n 1, 1) := by decide +kernel
theorem dX10_best_13 : decode cX10_best 13 = .ok (.invokevirtual 170, 3) := by decide +kernel
theorem dX10_best_16 : decode cX10_best 16 = .ok (.goto 8, 3) := by decide +kernel
theorem dX10_best_19 : decode cX10_best 19 = .ok (.aload_n 0, 1) := by decide +kernel
theorem dX10_best_20 : decode cX10_best 20 = .ok (.iconst 0, 1) := by decide +kernel
theorem dX10_best_21 : decode cX10_best 21 = .ok (.invokevirtual 89, 3) := by decide +kernel
theorem dX10_best_24 : decode cX10_best 24 = .ok (.ireturn, 1) := by decide +kernel
set_option maxRecDepth 20000 in
theorem ggX10_worth_X10_in : GoodIn wsX10_worth wsX10_in := goodIn_r _ [5] (by decide +kernel) (by decide +kernel)
set_option maxRecDepth 20000 in
theorem gX10_worth_X10_in : GoodIn wsX10_worth (va_wsS RX10 48 yX10_in wsX10_in) := goodIn_app (goodIn_of _ (by decide +kernel)) ggX10_worth_X10_in
set_option maxRecDepth 20000 in
theorem ggX10_worth_X10_no : GoodIn wsX10_worth wsX10_no := goodIn_r _ [9, 10, 11, 90, 91, 92, 93, 94, 95, 96, 97, 98, 99, 100, 101, 102, 103, 104, 105, 106, 107] (by decide +kernel) (by decide +kernel)
set_option maxRecDepth 20000 in
theorem gX10_worth_X10_no : GoodIn wsX10_worth (wsV RX10 89 RX10 yX10_no wsX10_no) := goodIn_app (goodIn_of _ (by decide +kernel)) ggX10_worth_X10_no
set_option maxRecDepth 20000 in
theorem ggX10_worth_X10_bestSet : GoodIn wsX10_worth wsX10_bestSet := goodIn_r _ [15, 16, 17, 18, 1, 19, 20, 21, 4, 22, 23, 24, 25, 26, 27, 28, 29, 30, 31, 32, 33, 34, 35, 36, 37, 38, 39, 40, 41, 42, 43, 44, 45, 46, 47, 48, 49, 50, 51, 52, 53, 54, 55, 56, 57, 58, 59, 60, 61, 62, 63, 64, 65, 66, 67, 68, 69, 70, 71, 72, 73, 74, 75, 76, 77, 78, 79, 80, 81, 82, 83, 84, 85, 86, 87, 88, 89, 90, 91, 92, 93, 94, 95, 96, 97, 98, 99, 100, 101, 102, 103, 104, 105, 106, 107] (by decide +kernel) (by decide +kernel)
set_option maxRecDepth 20000 in
theorem gX10_worth_X10_bestSet : GoodIn wsX10_worth (wsV RX10 170 RX10 yX10_bestSet wsX10_bestSet) := goodIn_app (goodIn_of _ (by decide +kernel)) ggX10_worth_X10_bestSet
theorem dX10_worth_0 : decode cX10_worth 0 = .ok (.iload_n 1, 1) := by decide +kernel
theorem dX10_worth_1 : decode cX10_worth 1 = .ok (.iconst 0, 1) := by decide +kernel
theorem dX10_worth_2 : decode cX10_worth 2 = .ok (.sipush 9999, 3) := by decide +kernel
theorem dX10_worth_5 : decode cX10_worth 5 = .ok (.invokestatic 48, 3) := by decide +kernel
theorem dX10_worth_8 : decode cX10_worth 8 = .ok (.ifCond .ne 9, 3) := by decide +kernel
theorem dX10_worth_11 : decode cX10_worth 11 = .ok (.aload_n 0, 1) := by decide +kernel
theorem dX10_worth_12 : decode cX10_worth 12 = .ok (.iconst 0, 1) := by decide +kernel
theorem dX10_worth_13 : decode cX10_worth 13 = .ok (.invokevirtual 89, 3) := by decide +kernel
theorem dX10_worth_16 : decode cX10_worth 16 = .ok (.ireturn, 1) := by decide +kernel
theorem dX10_worth_17 : decode cX10_worth 17 = .ok (.aload_n 0, 1) := by decide +kernel
theorem dX10_worth_18 : decode cX10_worth 18 = .ok (.iload_n 1, 1) := by decide +kernel
theorem dX10_worth_19 : decode cX10_worth 19 = .ok (.invokevirtual 170, 3) := by decide +kernel
theorem dX10_worth_22 : decode cX10_worth 22 = .ok (.pop, 1) := by decide +kernel
theorem dX10_worth_23 : decode cX10_worth 23 = .ok (.aload_n 0, 1) := by decide +kernel
theorem dX10_worth_24 : decode cX10_worth 24 = .ok (.getfield 166, 3) := by decide +kernel
theorem dX10_worth_27 : decode cX10_worth 27 = .ok (.ireturn, 1) := by decide +kernel
set_option maxRecDepth 20000 in
theorem ggX10_meant_X10_isLetter : GoodIn wsX10_meant wsX10_isLetter := goodIn_r _ [6, 1, 7, 8, 5, 9, 31, 32, 33, 34, 35, 36, 37, 38, 39, 40, 41, 42, 43, 44, 45, 46, 47, 48] (by decide +kernel) (by decide +kernel)
set_option maxRecDepth 20000 in
theorem gX10_meant_X10_isLetter : GoodIn wsX10_meant (wsV RX10 145 RX10 yX10_isLetter wsX10_isLetter) := goodIn_app (goodIn_of _ (by decide +kernel)) ggX10_meant_X10_isLetter
set_option maxRecDepth 20000 in
theorem ggX10_meant_X10_no : GoodIn wsX10_meant wsX10_no := goodIn_r _ [13, 14, 15, 31, 32, 33, 34, 35, 36, 37, 38, 39, 40, 41, 42, 43, 44, 45, 46, 47, 48] (by decide +kernel) (by decide +kernel)
set_option maxRecDepth 20000 in
theorem gX10_meant_X10_no : GoodIn wsX10_meant (wsV RX10 89 RX10 yX10_no wsX10_no) := goodIn_app (goodIn_of _ (by decide +kernel)) ggX10_meant_X10_no
set_option maxRecDepth 20000 in
theorem ggX10_meant_X10_shows : GoodIn wsX10_meant wsX10_shows := goodIn_r _ [19, 1, 20, 21, 22, 5, 23, 24, 25, 26, 27, 28, 29, 30, 31, 32, 33, 34, 35, 36, 37, 38, 39, 40, 41, 42, 43, 44, 45, 46, 47, 48] (by decide +kernel) (by decide +kernel)
set_option maxRecDepth 20000 in
theorem gX10_meant_X10_shows : GoodIn wsX10_meant (wsV RX10 148 RX10 yX10_shows wsX10_shows) := goodIn_app (goodIn_of _ (by decide +kernel)) ggX10_meant_X10_shows
theorem dX10_meant_0 : decode cX10_meant 0 = .ok (.aload_n 0, 1) := by decide +kernel
theorem dX10_meant_1 : decode cX10_meant 1 = .ok (.iload_n 1, 1) := by decide +kernel
theorem dX10_meant_2 : decode cX10_meant 2 = .ok (.invokevirtual 145, 3) := by decide +kernel
theorem dX10_meant_5 : decode cX10_meant 5 = .ok (.ifCond .ne 9, 3) := by decide +kernel
theorem dX10_meant_8 : decode cX10_meant 8 = .ok (.aload_n 0, 1) := by decide +kernel
theorem dX10_meant_9 : decode cX10_meant 9 = .ok (.iconst 0, 1) := by decide +kernel
theorem dX10_meant_10 : decode cX10_meant 10 = .ok (.invokevirtual 89, 3) := by decide +kernel
theorem dX10_meant_13 : decode cX10_meant 13 = .ok (.ireturn, 1) := by decide +kernel
theorem dX10_meant_14 : decode cX10_meant 14 = .ok (.aload_n 0, 1) := by decide +kernel
theorem dX10_meant_15 : decode cX10_meant 15 = .ok (.iload_n 1, 1) := by decide +kernel
theorem dX10_meant_16 : decode cX10_meant 16 = .ok (.invokevirtual 148, 3) := by decide +kernel
theorem dX10_meant_19 : decode cX10_meant 19 = .ok (.istore_n 2, 1) := by decide +kernel
theorem dX10_meant_20 : decode cX10_meant 20 = .ok (.iconst 0, 1) := by decide +kernel
theorem dX10_meant_21 : decode cX10_meant 21 = .ok (.istore_n 3, 1) := by decide +kernel
theorem dX10_meant_22 : decode cX10_meant 22 = .ok (.iconst 0, 1) := by decide +kernel
theorem dX10_meant_23 : decode cX10_meant 23 = .ok (.istore 4, 2) := by decide +kernel
theorem dX10_meant_25 : decode cX10_meant 25 = .ok (.iload 4, 2) := by decide +kernel
theorem dX10_meant_27 : decode cX10_meant 27 = .ok (.bipush 26, 2) := by decide +kernel
theorem dX10_meant_29 : decode cX10_meant 29 = .ok (.if_icmp .ge 63, 3) := by decide +kernel
theorem dX10_meant_32 : decode cX10_meant 32 = .ok (.aload_n 0, 1) := by decide +kernel
theorem dX10_meant_33 : decode cX10_meant 33 = .ok (.getfield 9, 3) := by decide +kernel
theorem dX10_meant_36 : decode cX10_meant 36 = .ok (.iconst 3, 1) := by decide +kernel
theorem dX10_meant_37 : decode cX10_meant 37 = .ok (.iload 4, 2) := by decide +kernel
theorem dX10_meant_39 : decode cX10_meant 39 = .ok (.iadd, 1) := by decide +kernel
theorem dX10_meant_40 : decode cX10_meant 40 = .ok (.iaload, 1) := by decide +kernel
theorem dX10_meant_41 : decode cX10_meant 41 = .ok (.istore 5, 2) := by decide +kernel
theorem dX10_meant_43 : decode cX10_meant 43 = .ok (.iload_n 3, 1) := by decide +kernel
theorem dX10_meant_44 : decode cX10_meant 44 = .ok (.iload 5, 2) := by decide +kernel
theorem dX10_meant_46 : decode cX10_meant 46 = .ok (.ifCond .eq 37, 3) := by decide +kernel
theorem dX10_meant_49 : decode cX10_meant 49 = .ok (.iload_n 2, 1) := by decide +kernel
theorem dX10_meant_50 : decode cX10_meant 50 = .ok (.iload 5, 2) := by decide +kernel
theorem dX10_meant_52 : decode cX10_meant 52 = .ok (.iconst (-1), 1) := by decide +kernel
theorem dX10_meant_53 : decode cX10_meant 53 = .ok (.ixor, 1) := by decide +kernel
theorem dX10_meant_54 : decode cX10_meant 54 = .ok (.iand, 1) := by decide +kernel
theorem dX10_meant_55 : decode cX10_meant 55 = .ok (.ifCond .ne 28, 3) := by decide +kernel
theorem dX10_meant_58 : decode cX10_meant 58 = .ok (.iload 5, 2) := by decide +kernel
theorem dX10_meant_60 : decode cX10_meant 60 = .ok (.iload_n 2, 1) := by decide +kernel
theorem dX10_meant_61 : decode cX10_meant 61 = .ok (.iconst (-1), 1) := by decide +kernel
theorem dX10_meant_62 : decode cX10_meant 62 = .ok (.ixor, 1) := by decide +kernel
theorem dX10_meant_63 : decode cX10_meant 63 = .ok (.iand, 1) := by decide +kernel
theorem dX10_meant_64 : decode cX10_meant 64 = .ok (.aload_n 0, 1) := by decide +kernel
theorem dX10_meant_65 : decode cX10_meant 65 = .ok (.getfield 9, 3) := by decide +kernel
theorem dX10_meant_68 : decode cX10_meant 68 = .ok (.iconst 1, 1) := by decide +kernel
theorem dX10_meant_69 : decode cX10_meant 69 = .ok (.iaload, 1) := by decide +kernel
theorem dX10_meant_70 : decode cX10_meant 70 = .ok (.iconst (-1), 1) := by decide +kernel
theorem dX10_meant_71 : decode cX10_meant 71 = .ok (.ixor, 1) := by decide +kernel
theorem dX10_meant_72 : decode cX10_meant 72 = .ok (.iand, 1) := by decide +kernel
theorem dX10_meant_73 : decode cX10_meant 73 = .ok (.ifCond .ne 10, 3) := by decide +kernel
theorem dX10_meant_76 : decode cX10_meant 76 = .ok (.iconst 1, 1) := by decide +kernel
theorem dX10_meant_77 : decode cX10_meant 77 = .ok (.iload 4, 2) := by decide +kernel
theorem dX10_meant_79 : decode cX10_meant 79 = .ok (.ishl, 1) := by decide +kernel
theorem dX10_meant_80 : decode cX10_meant 80 = .ok (.goto 4, 3) := by decide +kernel
theorem dX10_meant_83 : decode cX10_meant 83 = .ok (.iconst 0, 1) := by decide +kernel
theorem dX10_meant_84 : decode cX10_meant 84 = .ok (.ior, 1) := by decide +kernel
theorem dX10_meant_85 : decode cX10_meant 85 = .ok (.istore_n 3, 1) := by decide +kernel
theorem dX10_meant_86 : decode cX10_meant 86 = .ok (.iinc 4 1, 3) := by decide +kernel
theorem dX10_meant_89 : decode cX10_meant 89 = .ok (.goto (-64), 3) := by decide +kernel
theorem dX10_meant_92 : decode cX10_meant 92 = .ok (.iload_n 3, 1) := by decide +kernel
theorem dX10_meant_93 : decode cX10_meant 93 = .ok (.ireturn, 1) := by decide +kernel
set_option maxRecDepth 20000 in
theorem ggX10_cheap_X10_isKind : GoodIn wsX10_cheap wsX10_isKind := goodIn_r _ [5, 6, 7, 4, 8] (by decide +kernel) (by decide +kernel)
set_option maxRecDepth 20000 in
theorem gX10_cheap_X10_isKind : GoodIn wsX10_cheap (va_wsS RX10 129 yX10_isKind wsX10_isKind) := goodIn_app (goodIn_of _ (by decide +kernel)) ggX10_cheap_X10_isKind
set_option maxRecDepth 20000 in
theorem ggX10_cheap_X10_no : GoodIn wsX10_cheap wsX10_no := goodIn_r _ [12, 13, 14, 51, 52, 53, 54, 55, 56, 57, 58, 59, 60, 61, 62, 63, 64, 65, 66, 67, 68] (by decide +kernel) (by decide +kernel)
set_option maxRecDepth 20000 in
theorem gX10_cheap_X10_no : GoodIn wsX10_cheap (wsV RX10 89 RX10 yX10_no wsX10_no) := goodIn_app (goodIn_of _ (by decide +kernel)) ggX10_cheap_X10_no
set_option maxRecDepth 20000 in
theorem ggX10_cheap_X10_feetBy : GoodIn wsX10_cheap wsX10_feetBy := goodIn_r _ [17, 18, 19, 4, 20, 21, 22, 23, 24, 25, 26, 27, 28, 29, 30, 31, 32, 33, 34, 35, 36, 37, 38, 39, 40, 41, 42, 43, 44, 45, 46, 47, 48, 49, 50] (by decide +kernel) (by decide +kernel)
set_option maxRecDepth 20000 in
theorem gX10_cheap_X10_feetBy : GoodIn wsX10_cheap (va_wsS RX10 142 yX10_feetBy wsX10_feetBy) := goodIn_app (goodIn_of _ (by decide +kernel)) ggX10_cheap_X10_feetBy
theorem dX10_cheap_0 : decode cX10_cheap 0 = .ok (.iload_n 1, 1) := by decide +kernel
theorem dX10_cheap_1 : decode cX10_cheap 1 = .ok (.invokestatic 129, 3) := by decide +kernel
theorem dX10_cheap_4 : decode cX10_cheap 4 = .ok (.ifCond .ne 9, 3) := by decide +kernel
theorem dX10_cheap_7 : decode cX10_cheap 7 = .ok (.aload_n 0, 1) := by decide +kernel
theorem dX10_cheap_8 : decode cX10_cheap 8 = .ok (.iconst 0, 1) := by decide +kernel
theorem dX10_cheap_9 : decode cX10_cheap 9 = .ok (.invokevirtual 89, 3) := by decide +kernel
theorem dX10_cheap_12 : decode cX10_cheap 12 = .ok (.ireturn, 1) := by decide +kernel
theorem dX10_cheap_13 : decode cX10_cheap 13 = .ok (.iconst (-1), 1) := by decide +kernel
theorem dX10_cheap_14 : decode cX10_cheap 14 = .ok (.istore_n 2, 1) := by decide +kernel
theorem dX10_cheap_15 : decode cX10_cheap 15 = .ok (.bipush 25, 2) := by decide +kernel
theorem dX10_cheap_17 : decode cX10_cheap 17 = .ok (.istore_n 3, 1) := by decide +kernel
theorem dX10_cheap_18 : decode cX10_cheap 18 = .ok (.iload_n 3, 1) := by decide +kernel
theorem dX10_cheap_19 : decode cX10_cheap 19 = .ok (.ifCond .lt 51, 3) := by decide +kernel
theorem dX10_cheap_22 : decode cX10_cheap 22 = .ok (.aload_n 0, 1) := by decide +kernel
theorem dX10_cheap_23 : decode cX10_cheap 23 = .ok (.getfield 9, 3) := by decide +kernel
theorem dX10_cheap_26 : decode cX10_cheap 26 = .ok (.iconst 3, 1) := by decide +kernel
theorem dX10_cheap_27 : decode cX10_cheap 27 = .ok (.iload_n 3, 1) := by decide +kernel
theorem dX10_cheap_28 : decode cX10_cheap 28 = .ok (.iadd, 1) := by decide +kernel
theorem dX10_cheap_29 : decode cX10_cheap 29 = .ok (.iaload, 1) := by decide +kernel
theorem dX10_cheap_30 : decode cX10_cheap 30 = .ok (.istore 4, 2) := by decide +kernel
theorem dX10_cheap_32 : decode cX10_cheap 32 = .ok (.iload 4, 2) := by decide +kernel
theorem dX10_cheap_34 : decode cX10_cheap 34 = .ok (.ifCond .eq 30, 3) := by decide +kernel
theorem dX10_cheap_37 : decode cX10_cheap 37 = .ok (.iload_n 2, 1) := by decide +kernel
theorem dX10_cheap_38 : decode cX10_cheap 38 = .ok (.ifCond .lt 24, 3) := by decide +kernel
theorem dX10_cheap_41 : decode cX10_cheap 41 = .ok (.iload_n 1, 1) := by decide +kernel
theorem dX10_cheap_42 : decode cX10_cheap 42 = .ok (.iload 4, 2) := by decide +kernel
theorem dX10_cheap_44 : decode cX10_cheap 44 = .ok (.invokestatic 142, 3) := by decide +kernel
theorem dX10_cheap_47 : decode cX10_cheap 47 = .ok (.iload_n 1, 1) := by decide +kernel
theorem dX10_cheap_48 : decode cX10_cheap 48 = .ok (.aload_n 0, 1) := by decide +kernel
theorem dX10_cheap_49 : decode cX10_cheap 49 = .ok (.getfield 9, 3) := by decide +kernel
theorem dX10_cheap_52 : decode cX10_cheap 52 = .ok (.iconst 3, 1) := by decide +kernel
theorem dX10_cheap_53 : decode cX10_cheap 53 = .ok (.iload_n 2, 1) := by decide +kernel
theorem dX10_cheap_54 : decode cX10_cheap 54 = .ok (.iadd, 1) := by decide +kernel
theorem dX10_cheap_55 : decode cX10_cheap 55 = .ok (.iaload, 1) := by decide +kernel
theorem dX10_cheap_56 : decode cX10_cheap 56 = .ok (.invokestatic 142, 3) := by decide +kernel
theorem dX10_cheap_59 : decode cX10_cheap 59 = .ok (.if_icmp .gt 5, 3) := by decide +kernel
theorem dX10_cheap_62 : decode cX10_cheap 62 = .ok (.iload_n 3, 1) := by decide +kernel
theorem dX10_cheap_63 : decode cX10_cheap 63 = .ok (.istore_n 2, 1) := by decide +kernel
theorem dX10_cheap_64 : decode cX10_cheap 64 = .ok (.iinc 3 (-1), 3) := by decide +kernel
theorem dX10_cheap_67 : decode cX10_cheap 67 = .ok (.goto (-49), 3) := by decide +kernel
theorem dX10_cheap_70 : decode cX10_cheap 70 = .ok (.iload_n 2, 1) := by decide +kernel
theorem dX10_cheap_71 : decode cX10_cheap 71 = .ok (.ifCond .ge 11, 3) := by decide +kernel
theorem dX10_cheap_74 : decode cX10_cheap 74 = .ok (.aload_n 0, 1) := by decide +kernel
theorem dX10_cheap_75 : decode cX10_cheap 75 = .ok (.iconst 3, 1) := by decide +kernel
theorem dX10_cheap_76 : decode cX10_cheap 76 = .ok (.invokevirtual 89, 3) := by decide +kernel
theorem dX10_cheap_79 : decode cX10_cheap 79 = .ok (.goto 4, 3) := by decide +kernel
theorem dX10_cheap_82 : decode cX10_cheap 82 = .ok (.iload_n 2, 1) := by decide +kernel
theorem dX10_cheap_83 : decode cX10_cheap 83 = .ok (.ireturn, 1) := by decide +kernel
set_option maxRecDepth 20000 in
theorem ggX10_feed_X10_in : GoodIn wsX10_feed wsX10_in := goodIn_r _ [6] (by decide +kernel) (by decide +kernel)
set_option maxRecDepth 20000 in
theorem gX10_feed_X10_in : GoodIn wsX10_feed (va_wsS RX10 48 yX10_in wsX10_in) := goodIn_app (goodIn_of _ (by decide +kernel)) ggX10_feed_X10_in
set_option maxRecDepth 20000 in
theorem ggX10_feed_X10_no : GoodIn wsX10_feed wsX10_no := goodIn_r _ [10, 11, 12, 13, 14, 15, 16, 17, 18, 19, 20, 21, 22, 23, 24, 25, 26, 27, 28, 29, 30] (by decide +kernel) (by decide +kernel)
set_option maxRecDepth 20000 in
theorem gX10_feed_X10_no : GoodIn wsX10_feed (wsV RX10 89 RX10 yX10_no wsX10_no) := goodIn_app (goodIn_of _ (by decide +kernel)) ggX10_feed_X10_no
theorem dX10_feed_0 : decode cX10_feed 0 = .ok (.iload_n 2, 1) := by decide +kernel
theorem dX10_feed_1 : decode cX10_feed 1 = .ok (.iconst 1, 1) := by decide +kernel
theorem dX10_feed_2 : decode cX10_feed 2 = .ok (.iconst 4, 1) := by decide +kernel
theorem dX10_feed_3 : decode cX10_feed 3 = .ok (.invokestatic 48, 3) := by decide +kernel
theorem dX10_feed_6 : decode cX10_feed 6 = .ok (.ifCond .ne 9, 3) := by decide +kernel
theorem dX10_feed_9 : decode cX10_feed 9 = .ok (.aload_n 0, 1) := by decide +kernel
theorem dX10_feed_10 : decode cX10_feed 10 = .ok (.iconst 0, 1) := by decide +kernel
theorem dX10_feed_11 : decode cX10_feed 11 = .ok (.invokevirtual 89, 3) := by decide +kernel
theorem dX10_feed_14 : decode cX10_feed 14 = .ok (.ireturn, 1) := by decide +kernel
theorem dX10_feed_15 : decode cX10_feed 15 = .ok (.aload_n 0, 1) := by decide +kernel
theorem dX10_feed_16 : decode cX10_feed 16 = .ok (.getfield 173, 3) := by decide +kernel
theorem dX10_feed_19 : decode cX10_feed 19 = .ok (.iload_n 2, 1) := by decide +kernel
theorem dX10_feed_20 : decode cX10_feed 20 = .ok (.iadd, 1) := by decide +kernel
theorem dX10_feed_21 : decode cX10_feed 21 = .ok (.bipush 120, 2) := by decide +kernel
theorem dX10_feed_23 : decode cX10_feed 23 = .ok (.if_icmp .le 9, 3) := by decide +kernel
theorem dX10_feed_26 : decode cX10_feed 26 = .ok (.aload_n 0, 1) := by decide +kernel
theorem dX10_feed_27 : decode cX10_feed 27 = .ok (.iconst 1, 1) := by decide +kernel
theorem dX10_feed_28 : decode cX10_feed 28 = .ok (.invokevirtual 89, 3) := by decide +kernel
theorem dX10_feed_31 : decode cX10_feed 31 = .ok (.ireturn, 1) := by decide +kernel
theorem dX10_feed_32 : decode cX10_feed 32 = .ok (.iload_n 2, 1) := by decide +kernel
theorem dX10_feed_33 : decode cX10_feed 33 = .ok (.iconst 1, 1) := by decide +kernel
theorem dX10_feed_34 : decode cX10_feed 34 = .ok (.isub, 1) := by decide +kernel
theorem dX10_feed_35 : decode cX10_feed 35 = .ok (.istore_n 3, 1) := by decide +kernel
theorem dX10_feed_36 : decode cX10_feed 36 = .ok (.iload_n 3, 1) := by decide +kernel
theorem dX10_feed_37 : decode cX10_feed 37 = .ok (.ifCond .lt 38, 3) := by decide +kernel
theorem dX10_feed_40 : decode cX10_feed 40 = .ok (.aload_n 0, 1) := by decide +kernel
theorem dX10_feed_41 : decode cX10_feed 41 = .ok (.getfield 31, 3) := by decide +kernel
theorem dX10_feed_44 : decode cX10_feed 44 = .ok (.aload_n 0, 1) := by decide +kernel
theorem dX10_feed_45 : decode cX10_feed 45 = .ok (.getfield 173, 3) := by decide +kernel
theorem dX10_feed_48 : decode cX10_feed 48 = .ok (.iload_n 1, 1) := by decide +kernel
theorem dX10_feed_49 : decode cX10_feed 49 = .ok (.bipush 8, 2) := by decide +kernel
theorem dX10_feed_51 : decode cX10_feed 51 = .ok (.iload_n 3, 1) := by decide +kernel
theorem dX10_feed_52 : decode cX10_feed 52 = .ok (.imul, 1) := by decide +kernel
theorem dX10_feed_53 : decode cX10_feed 53 = .ok (.ishr, 1) := by decide +kernel
theorem dX10_feed_54 : decode cX10_feed 54 = .ok (.sipush 255, 3) := by decide +kernel
theorem dX10_feed_57 : decode cX10_feed 57 = .ok (.iand, 1) := by decide +kernel
theorem dX10_feed_58 : decode cX10_feed 58 = .ok (.iastore, 1) := by decide +kernel
theorem dX10_feed_59 : decode cX10_feed 59 = .ok (.aload_n 0, 1) := by decide +kernel
theorem dX10_feed_60 : decode cX10_feed 60 = .ok (.dup, 1) := by decide +kernel
theorem dX10_feed_61 : decode cX10_feed 61 = .ok (.getfield 173, 3) := by decide +kernel
theorem dX10_feed_64 : decode cX10_feed 64 = .ok (.iconst 1, 1) := by decide +kernel
theorem dX10_feed_65 : decode cX10_feed 65 = .ok (.iadd, 1) := by decide +kernel
theorem dX10_feed_66 : decode cX10_feed 66 = .ok (.putfield 173, 3) := by decide +kernel
theorem dX10_feed_69 : decode cX10_feed 69 = .ok (.iinc 3 (-1), 3) := by decide +kernel
theorem dX10_feed_72 : decode cX10_feed 72 = .ok (.goto (-36), 3) := by decide +kernel
theorem dX10_feed_75 : decode cX10_feed 75 = .ok (.aload_n 0, 1) := by decide +kernel
theorem dX10_feed_76 : decode cX10_feed 76 = .ok (.getfield 173, 3) := by decide +kernel
theorem dX10_feed_79 : decode cX10_feed 79 = .ok (.ireturn, 1) := by decide +kernel
theorem dX10_wipe_0 : decode cX10_wipe 0 = .ok (.aload_n 0, 1) := by decide +kernel
theorem dX10_wipe_1 : decode cX10_wipe 1 = .ok (.getfield 173, 3) := by decide +kernel
theorem dX10_wipe_4 : decode cX10_wipe 4 = .ok (.istore_n 1, 1) := by decide +kernel
theorem dX10_wipe_5 : decode cX10_wipe 5 = .ok (.aload_n 0, 1) := by decide +kernel
theorem dX10_wipe_6 : decode cX10_wipe 6 = .ok (.iconst 0, 1) := by decide +kernel
theorem dX10_wipe_7 : decode cX10_wipe 7 = .ok (.putfield 173, 3) := by decide +kernel
theorem dX10_wipe_10 : decode cX10_wipe 10 = .ok (.iload_n 1, 1) := by decide +kernel
theorem dX10_wipe_11 : decode cX10_wipe 11 = .ok (.ireturn, 1) := by decide +kernel
theorem dX10_byteAt_0 : decode cX10_byteAt 0 = .ok (.iload_n 1, 1) := by decide +kernel
theorem dX10_byteAt_1 : decode cX10_byteAt 1 = .ok (.aload_n 0, 1) := by decide +kernel
theorem dX10_byteAt_2 : decode cX10_byteAt 2 = .ok (.getfield 173, 3) := by decide +kernel
theorem dX10_byteAt_5 : decode cX10_byteAt 5 = .ok (.if_icmp .ge 12, 3) := by decide +kernel
theorem dX10_byteAt_8 : decode cX10_byteAt 8 = .ok (.aload_n 0, 1) := by decide +kernel
theorem dX10_byteAt_9 : decode cX10_byteAt 9 = .ok (.getfield 31, 3) := by decide +kernel
theorem dX10_byteAt_12 : decode cX10_byteAt 12 = .ok (.iload_n 1, 1) := by decide +kernel
theorem dX10_byteAt_13 : decode cX10_byteAt 13 = .ok (.iaload, 1) := by decide +kernel
theorem dX10_byteAt_14 : decode cX10_byteAt 14 = .ok (.goto 4, 3) := by decide +kernel
theorem dX10_byteAt_17 : decode cX10_byteAt 17 = .ok (.iconst (-1), 1) := by decide +kernel
theorem dX10_byteAt_18 : decode cX10_byteAt 18 = .ok (.ireturn, 1) := by decide +kernel
set_option maxRecDepth 20000 in
theorem ggX10_blanks_X10_byteAt : GoodIn wsX10_blanks wsX10_byteAt := goodIn_r _ [6, 7, 8, 9, 10, 11, 12, 13, 14, 15, 16, 17, 18, 19, 20, 21, 22, 23, 24, 25, 26] (by decide +kernel) (by decide +kernel)
set_option maxRecDepth 20000 in
theorem gX10_blanks_X10_byteAt : GoodIn wsX10_blanks (wsV RX10 179 RX10 yX10_byteAt wsX10_byteAt) := goodIn_app (goodIn_of _ (by decide +kernel)) ggX10_blanks_X10_byteAt
theorem dX10_blanks_0 : decode cX10_blanks 0 = .ok (.aload_n 0, 1) := by decide +kernel
theorem dX10_blanks_1 : decode cX10_blanks 1 = .ok (.aload_n 0, 1) := by decide +kernel
theorem dX10_blanks_2 : decode cX10_blanks 2 = .ok (.getfield 176, 3) := by decide +kernel
theorem dX10_blanks_5 : decode cX10_blanks 5 = .ok (.invokevirtual 179, 3) := by decide +kernel
theorem dX10_blanks_8 : decode cX10_blanks 8 = .ok (.bipush 32, 2) := by decide +kernel
theorem dX10_blanks_10 : decode cX10_blanks 10 = .ok (.if_icmp .ne 16, 3) := by decide +kernel
theorem dX10_blanks_13 : decode cX10_blanks 13 = .ok (.aload_n 0, 1) := by decide +kernel
theorem dX10_blanks_14 : decode cX10_blanks 14 = .ok (.dup, 1) := by decide +kernel
theorem dX10_blanks_15 : decode cX10_blanks 15 = .ok (.getfield 176, 3) := by decide +kernel
theorem dX10_blanks_18 : decode cX10_blanks 18 = .ok (.iconst 1, 1) := by decide +kernel
theorem dX10_blanks_19 : decode cX10_blanks 19 = .ok (.iadd, 1) := by decide +kernel
theorem dX10_blanks_20 : decode cX10_blanks 20 = .ok (.putfield 176, 3) := by decide +kernel
theorem dX10_blanks_23 : decode cX10_blanks 23 = .ok (.goto (-23), 3) := by decide +kernel
theorem dX10_blanks_26 : decode cX10_blanks 26 = .ok (.return_, 1) := by decide +kernel
theorem dX10_fails_0 : decode cX10_fails 0 = .ok (.aload_n 0, 1) := by decide +kernel
theorem dX10_fails_1 : decode cX10_fails 1 = .ok (.aload_n 0, 1) := by decide +kernel
theorem dX10_fails_2 : decode cX10_fails 2 = .ok (.getfield 182, 3) := by decide +kernel
theorem dX10_fails_5 : decode cX10_fails 5 = .ok (.ifCond .ge 10, 3) := by decide +kernel
theorem dX10_fails_8 : decode cX10_fails 8 = .ok (.aload_n 0, 1) := by decide +kernel
theorem dX10_fails_9 : decode cX10_fails 9 = .ok (.getfield 176, 3) := by decide +kernel
theorem dX10_fails_12 : decode cX10_fails 12 = .ok (.goto 7, 3) := by decide +kernel
theorem dX10_fails_15 : decode cX10_fails 15 = .ok (.aload_n 0, 1) := by decide +kernel
theorem dX10_fails_16 : decode cX10_fails 16 = .ok (.getfield 182, 3) := by decide +kernel
theorem dX10_fails_19 : decode cX10_fails 19 = .ok (.putfield 182, 3) := by decide +kernel
theorem dX10_fails_22 : decode cX10_fails 22 = .ok (.iconst 0, 1) := by decide +kernel
theorem dX10_fails_23 : decode cX10_fails 23 = .ok (.ireturn, 1) := by decide +kernel
set_option maxRecDepth 20000 in
theorem ggX10_isLow_X10_in : GoodIn wsX10_isLow wsX10_in := goodIn_r _ [4] (by decide +kernel) (by decide +kernel)
set_option maxRecDepth 20000 in
theorem gX10_isLow_X10_in : GoodIn wsX10_isLow (va_wsS RX10 48 yX10_in wsX10_in) := goodIn_app (goodIn_of _ (by decide +kernel)) ggX10_isLow_X10_in
theorem dX10_isLow_0 : decode cX10_isLow 0 = .ok (.iload_n 0, 1) := by decide +kernel
theorem dX10_isLow_1 : decode cX10_isLow 1 = .ok (.bipush 97, 2) := by decide +kernel
theorem dX10_isLow_3 : decode cX10_isLow 3 = .ok (.bipush 122, 2) := by decide +kernel
theorem dX10_isLow_5 : decode cX10_isLow 5 = .ok (.invokestatic 48, 3) := by decide +kernel
theorem dX10_isLow_8 : decode cX10_isLow 8 = .ok (.ireturn, 1) := by decide +kernel
set_option maxRecDepth 20000 in
theorem ggX10_isDigit_X10_in : GoodIn wsX10_isDigit wsX10_in := goodIn_r _ [4] (by decide +kernel) (by decide +kernel)
set_option maxRecDepth 20000 in
theorem gX10_isDigit_X10_in : GoodIn wsX10_isDigit (va_wsS RX10 48 yX10_in wsX10_in) := goodIn_app (goodIn_of _ (by decide +kernel)) ggX10_isDigit_X10_in
theorem dX10_isDigit_0 : decode cX10_isDigit 0 = .ok (.iload_n 0, 1) := by decide +kernel
theorem dX10_isDigit_1 : decode cX10_isDigit 1 = .ok (.bipush 48, 2) := by decide +kernel
theorem dX10_isDigit_3 : decode cX10_isDigit 3 = .ok (.bipush 57, 2) := by decide +kernel
theorem dX10_isDigit_5 : decode cX10_isDigit 5 = .ok (.invokestatic 48, 3) := by decide +kernel
theorem dX10_isDigit_8 : decode cX10_isDigit 8 = .ok (.ireturn, 1) := by decide +kernel
set_option maxRecDepth 20000 in
theorem ggX10_wordEnd_X10_byteAt : GoodIn wsX10_wordEnd wsX10_byteAt := goodIn_r _ [6, 7, 8, 15, 16, 17, 18, 19, 20, 21, 22, 23, 24, 25, 26, 27, 28, 29, 30, 31, 32] (by decide +kernel) (by decide +kernel)
set_option maxRecDepth 20000 in
theorem gX10_wordEnd_X10_byteAt : GoodIn wsX10_wordEnd (wsV RX10 179 RX10 yX10_byteAt wsX10_byteAt) := goodIn_app (goodIn_of _ (by decide +kernel)) ggX10_wordEnd_X10_byteAt
set_option maxRecDepth 20000 in
theorem ggX10_wordEnd_X10_isLow : GoodIn wsX10_wordEnd wsX10_isLow := goodIn_r _ [11, 12, 13, 5, 14] (by decide +kernel) (by decide +kernel)
set_option maxRecDepth 20000 in
theorem gX10_wordEnd_X10_isLow : GoodIn wsX10_wordEnd (va_wsS RX10 185 yX10_isLow wsX10_isLow) := goodIn_app (goodIn_of _ (by decide +kernel)) ggX10_wordEnd_X10_isLow
theorem dX10_wordEnd_0 : decode cX10_wordEnd 0 = .ok (.aload_n 0, 1) := by decide +kernel
theorem dX10_wordEnd_1 : decode cX10_wordEnd 1 = .ok (.getfield 176, 3) := by decide +kernel
theorem dX10_wordEnd_4 : decode cX10_wordEnd 4 = .ok (.istore_n 1, 1) := by decide +kernel
theorem dX10_wordEnd_5 : decode cX10_wordEnd 5 = .ok (.aload_n 0, 1) := by decide +kernel
theorem dX10_wordEnd_6 : decode cX10_wordEnd 6 = .ok (.iload_n 1, 1) := by decide +kernel
theorem dX10_wordEnd_7 : decode cX10_wordEnd 7 = .ok (.invokevirtual 179, 3) := by decide +kernel
theorem dX10_wordEnd_10 : decode cX10_wordEnd 10 = .ok (.invokestatic 185, 3) := by decide +kernel
theorem dX10_wordEnd_13 : decode cX10_wordEnd 13 = .ok (.ifCond .eq 9, 3) := by decide +kernel
theorem dX10_wordEnd_16 : decode cX10_wordEnd 16 = .ok (.iinc 1 1, 3) := by decide +kernel
theorem dX10_wordEnd_19 : decode cX10_wordEnd 19 = .ok (.goto (-14), 3) := by decide +kernel
theorem dX10_wordEnd_22 : decode cX10_wordEnd 22 = .ok (.iload_n 1, 1) := by decide +kernel
theorem dX10_wordEnd_23 : decode cX10_wordEnd 23 = .ok (.ireturn, 1) := by decide +kernel
set_option maxRecDepth 20000 in
theorem ggX10_isWord_X10_blanks : GoodIn wsX10_isWord wsX10_blanks := goodIn_r _ [6, 1, 7, 8, 9, 5, 10, 11, 12, 72, 73, 74, 75, 76, 77, 78, 79, 80, 81, 82, 83, 84, 85, 86, 87, 88, 89] (by decide +kernel) (by decide +kernel)
set_option maxRecDepth 20000 in
theorem gX10_isWord_X10_blanks : GoodIn wsX10_isWord (wsV RX10 188 RX10 yX10_blanks wsX10_blanks) := goodIn_app (goodIn_of _ (by decide +kernel)) ggX10_isWord_X10_blanks
set_option maxRecDepth 20000 in
theorem ggX10_isWord_X10_wordEnd : GoodIn wsX10_isWord wsX10_wordEnd := goodIn_r _ [16, 1, 7, 8, 9, 5, 10, 11, 12, 17, 18, 19, 20, 21, 22, 72, 73, 74, 75, 76, 77, 78, 79, 80, 81, 82, 83, 84, 85, 86, 87, 88, 89] (by decide +kernel) (by decide +kernel)
set_option maxRecDepth 20000 in
theorem gX10_isWord_X10_wordEnd : GoodIn wsX10_isWord (wsV RX10 191 RX10 yX10_wordEnd wsX10_wordEnd) := goodIn_app (goodIn_of _ (by decide +kernel)) ggX10_isWord_X10_wordEnd
set_option maxRecDepth 20000 in
theorem ggX10_isWord_J0_length_8abf5 : GoodIn wsX10_isWord wsJ0_length_8abf5 := goodIn_r _ [27, 28, 29, 30, 31, 26, 32, 33, 34] (by decide +kernel) (by decide +kernel)
set_option maxRecDepth 20000 in
theorem gX10_isWord_J0_length_8abf5 : GoodIn wsX10_isWord (wsV RX10 195 RJ0 yJ0_length_8abf5 wsJ0_length_8abf5) := goodIn_app (goodIn_of _ (by decide +kernel)) ggX10_isWord_J0_length_8abf5
set_option maxRecDepth 20000 in
theorem ggX10_isWord_X10_byteAt : GoodIn wsX10_isWord wsX10_byteAt := goodIn_r _ [10, 11, 12, 72, 73, 74, 75, 76, 77, 78, 79, 80, 81, 82, 83, 84, 85, 86, 87, 88, 89] (by decide +kernel) (by decide +kernel)
set_option maxRecDepth 20000 in
theorem gX10_isWord_X10_byteAt : GoodIn wsX10_isWord (wsV RX10 179 RX10 yX10_byteAt wsX10_byteAt) := goodIn_app (goodIn_of _ (by decide +kernel)) ggX10_isWord_X10_byteAt
set_option maxRecDepth 20000 in
theorem ggX10_isWord_J0_charAt_5068e : GoodIn wsX10_isWord wsJ0_charAt_5068e := goodIn_r _ [38, 28, 39, 40, 41, 26, 42, 33, 34, 43, 44, 45, 46, 47, 48, 49, 50, 51, 52, 53, 54, 55, 56, 57, 58, 59, 60, 61, 62, 63, 64, 65, 66, 67, 68, 69, 70, 71] (by decide +kernel) (by decide +kernel)
set_option maxRecDepth 20000 in
theorem gX10_isWord_J0_charAt_5068e : GoodIn wsX10_isWord (wsV RX10 200 RJ0 yJ0_charAt_5068e wsJ0_charAt_5068e) := goodIn_app (goodIn_of _ (by decide +kernel)) ggX10_isWord_J0_charAt_5068e
theorem dX10_isWord_0 : decode cX10_isWord 0 = .ok (.aload_n 0, 1) := by decide +kernel
theorem dX10_isWord_1 : decode cX10_isWord 1 = .ok (.invokevirtual 188, 3) := by decide +kernel
theorem dX10_isWord_4 : decode cX10_isWord 4 = .ok (.aload_n 0, 1) := by decide +kernel
theorem dX10_isWord_5 : decode cX10_isWord 5 = .ok (.invokevirtual 191, 3) := by decide +kernel
theorem dX10_isWord_8 : decode cX10_isWord 8 = .ok (.aload_n 0, 1) := by decide +kernel
theorem dX10_isWord_9 : decode cX10_isWord 9 = .ok (.getfield 176, 3) := by decide +kernel
theorem dX10_isWord_12 : decode cX10_isWord 12 = .ok (.isub, 1) := by decide +kernel
theorem dX10_isWord_13 : decode cX10_isWord 13 = .ok (.aload_n 1, 1) := by decide +kernel
theorem dX10_isWord_14 : decode cX10_isWord 14 = .ok (.invokevirtual 195, 3) := by decide +kernel
theorem dX10_isWord_17 : decode cX10_isWord 17 = .ok (.if_icmp .ne 7, 3) := by decide +kernel
theorem dX10_isWord_20 : decode cX10_isWord 20 = .ok (.iconst 1, 1) := by decide +kernel
theorem dX10_isWord_21 : decode cX10_isWord 21 = .ok (.goto 4, 3) := by decide +kernel
theorem dX10_isWord_24 : decode cX10_isWord 24 = .ok (.iconst 0, 1) := by decide +kernel
theorem dX10_isWord_25 : decode cX10_isWord 25 = .ok (.istore_n 2, 1) := by decide +kernel
theorem dX10_isWord_26 : decode cX10_isWord 26 = .ok (.iconst 0, 1) := by decide +kernel
theorem dX10_isWord_27 : decode cX10_isWord 27 = .ok (.istore_n 3, 1) := by decide +kernel
theorem dX10_isWord_28 : decode cX10_isWord 28 = .ok (.iload_n 3, 1) := by decide +kernel
theorem dX10_isWord_29 : decode cX10_isWord 29 = .ok (.aload_n 1, 1) := by decide +kernel
theorem dX10_isWord_30 : decode cX10_isWord 30 = .ok (.invokevirtual 195, 3) := by decide +kernel
theorem dX10_isWord_33 : decode cX10_isWord 33 = .ok (.if_icmp .ge 37, 3) := by decide +kernel
theorem dX10_isWord_36 : decode cX10_isWord 36 = .ok (.iload_n 2, 1) := by decide +kernel
theorem dX10_isWord_37 : decode cX10_isWord 37 = .ok (.ifCond .eq 33, 3) := by decide +kernel
theorem dX10_isWord_40 : decode cX10_isWord 40 = .ok (.aload_n 0, 1) := by decide +kernel
theorem dX10_isWord_41 : decode cX10_isWord 41 = .ok (.aload_n 0, 1) := by decide +kernel
theorem dX10_isWord_42 : decode cX10_isWord 42 = .ok (.getfield 176, 3) := by decide +kernel
theorem dX10_isWord_45 : decode cX10_isWord 45 = .ok (.iload_n 3, 1) := by decide +kernel
theorem dX10_isWord_46 : decode cX10_isWord 46 = .ok (.iadd, 1) := by decide +kernel
theorem dX10_isWord_47 : decode cX10_isWord 47 = .ok (.invokevirtual 179, 3) := by decide +kernel
theorem dX10_isWord_50 : decode cX10_isWord 50 = .ok (.aload_n 1, 1) := by decide +kernel
theorem dX10_isWord_51 : decode cX10_isWord 51 = .ok (.iload_n 3, 1) := by decide +kernel
theorem dX10_isWord_52 : decode cX10_isWord 52 = .ok (.invokevirtual 200, 3) := by decide +kernel
theorem dX10_isWord_55 : decode cX10_isWord 55 = .ok (.if_icmp .ne 7, 3) := by decide +kernel
theorem dX10_isWord_58 : decode cX10_isWord 58 = .ok (.iconst 1, 1) := by decide +kernel
theorem dX10_isWord_59 : decode cX10_isWord 59 = .ok (.goto 4, 3) := by decide +kernel
theorem dX10_isWord_62 : decode cX10_isWord 62 = .ok (.iconst 0, 1) := by decide +kernel
theorem dX10_isWord_63 : decode cX10_isWord 63 = .ok (.istore_n 2, 1) := by decide +kernel
theorem dX10_isWord_64 : decode cX10_isWord 64 = .ok (.iinc 3 1, 3) := by decide +kernel
theorem dX10_isWord_67 : decode cX10_isWord 67 = .ok (.goto (-39), 3) := by decide +kernel
theorem dX10_isWord_70 : decode cX10_isWord 70 = .ok (.iload_n 2, 1) := by decide +kernel
theorem dX10_isWord_71 : decode cX10_isWord 71 = .ok (.ireturn, 1) := by decide +kernel
set_option maxRecDepth 20000 in
theorem ggX10_may_X10_isWord : GoodIn wsX10_may wsX10_isWord := goodIn_r _ [7, 2, 8, 9, 10, 6, 11, 12, 13, 14, 15, 16, 17, 18, 19, 20, 21, 22, 23, 24, 25, 26, 27, 28, 29, 30, 31, 32, 33, 34, 35, 36, 37, 38, 39, 40, 41, 42, 43, 44, 45, 46, 47, 48, 49, 50, 51, 52, 53, 54, 55, 56, 57, 58, 59, 60, 61, 62, 63, 64, 65, 66, 67, 68, 69, 70, 71, 72, 73, 74, 75, 76, 77, 78, 79, 80, 81, 82, 83, 84, 85, 86, 87, 88, 89, 90, 91, 92, 93, 94] (by decide +kernel) (by decide +kernel)
set_option maxRecDepth 20000 in
theorem gX10_may_X10_isWord : GoodIn wsX10_may (wsV RX10 204 RX10 yX10_isWord wsX10_isWord) := goodIn_app (goodIn_of _ (by decide +kernel)) ggX10_may_X10_isWord
set_option maxRecDepth 20000 in
theorem ggX10_may_J0_length_8abf5 : GoodIn wsX10_may wsJ0_length_8abf5 := goodIn_r _ [32, 33, 34, 35, 36, 31, 37, 38, 39] (by decide +kernel) (by decide +kernel)
set_option maxRecDepth 20000 in
theorem gX10_may_J0_length_8abf5 : GoodIn wsX10_may (wsV RX10 195 RJ0 yJ0_length_8abf5 wsJ0_length_8abf5) := goodIn_app (goodIn_of _ (by decide +kernel)) ggX10_may_J0_length_8abf5
theorem dX10_may_0 : decode cX10_may 0 = .ok (.aload_n 0, 1) := by decide +kernel
theorem dX10_may_1 : decode cX10_may 1 = .ok (.getfield 182, 3) := by decide +kernel
theorem dX10_may_4 : decode cX10_may 4 = .ok (.ifCond .ge 15, 3) := by decide +kernel
theorem dX10_may_7 : decode cX10_may 7 = .ok (.aload_n 0, 1) := by decide +kernel
theorem dX10_may_8 : decode cX10_may 8 = .ok (.aload_n 1, 1) := by decide +kernel
theorem dX10_may_9 : decode cX10_may 9 = .ok (.invokevirtual 204, 3) := by decide +kernel
theorem dX10_may_12 : decode cX10_may 12 = .ok (.ifCond .eq 7, 3) := by decide +kernel
theorem dX10_may_15 : decode cX10_may 15 = .ok (.iconst 1, 1) := by decide +kernel
theorem dX10_may_16 : decode cX10_may 16 = .ok (.goto 4, 3) := by decide +kernel
theorem dX10_may_19 : decode cX10_may 19 = .ok (.iconst 0, 1) := by decide +kernel
theorem dX10_may_20 : decode cX10_may 20 = .ok (.istore_n 2, 1) := by decide +kernel
theorem dX10_may_21 : decode cX10_may 21 = .ok (.aload_n 0, 1) := by decide +kernel
theorem dX10_may_22 : decode cX10_may 22 = .ok (.dup, 1) := by decide +kernel
theorem dX10_may_23 : decode cX10_may 23 = .ok (.getfield 176, 3) := by decide +kernel
theorem dX10_may_26 : decode cX10_may 26 = .ok (.iload_n 2, 1) := by decide +kernel
theorem dX10_may_27 : decode cX10_may 27 = .ok (.ifCond .eq 10, 3) := by decide +kernel
theorem dX10_may_30 : decode cX10_may 30 = .ok (.aload_n 1, 1) := by decide +kernel
theorem dX10_may_31 : decode cX10_may 31 = .ok (.invokevirtual 195, 3) := by decide +kernel
theorem dX10_may_34 : decode cX10_may 34 = .ok (.goto 4, 3) := by decide +kernel
theorem dX10_may_37 : decode cX10_may 37 = .ok (.iconst 0, 1) := by decide +kernel
theorem dX10_may_38 : decode cX10_may 38 = .ok (.iadd, 1) := by decide +kernel
theorem dX10_may_39 : decode cX10_may 39 = .ok (.putfield 176, 3) := by decide +kernel
theorem dX10_may_42 : decode cX10_may 42 = .ok (.iload_n 2, 1) := by decide +kernel
theorem dX10_may_43 : decode cX10_may 43 = .ok (.ireturn, 1) := by decide +kernel
set_option maxRecDepth 20000 in
theorem ggX10_must_X10_may : GoodIn wsX10_must wsX10_may := goodIn_r _ [5, 6, 7, 8, 9, 10, 4, 11, 12, 13, 14, 15, 16, 17, 18, 19, 20, 21, 22, 23, 24, 25, 26, 27, 28, 29, 30, 31, 32, 33, 34, 35, 36, 37, 38, 39, 40, 41, 42, 43, 44, 45, 46, 47, 48, 49, 50, 51, 52, 53, 54, 55, 56, 57, 58, 59, 60, 61, 62, 63, 64, 65, 66, 67, 68, 69, 70, 71, 72, 73, 74, 75, 76, 77, 78, 79, 80, 85, 86, 87, 88, 89, 90, 91, 92, 93, 94, 95, 96, 97, 98, 99, 100, 101, 102] (by decide +kernel) (by decide +kernel)
set_option maxRecDepth 20000 in
theorem gX10_must_X10_may : GoodIn wsX10_must (wsV RX10 208 RX10 yX10_may wsX10_may) := goodIn_app (goodIn_of _ (by decide +kernel)) ggX10_must_X10_may
set_option maxRecDepth 20000 in
theorem ggX10_must_X10_fails : GoodIn wsX10_must wsX10_fails := goodIn_r _ [84, 6, 7, 85, 86, 87, 88, 89, 90, 91, 92, 93, 94, 95, 96, 97, 98, 99, 100, 101, 102] (by decide +kernel) (by decide +kernel)
set_option maxRecDepth 20000 in
theorem gX10_must_X10_fails : GoodIn wsX10_must (wsV RX10 211 RX10 yX10_fails wsX10_fails) := goodIn_app (goodIn_of _ (by decide +kernel)) ggX10_must_X10_fails
theorem dX10_must_0 : decode cX10_must 0 = .ok (.aload_n 0, 1) := by decide +kernel
theorem dX10_must_1 : decode cX10_must 1 = .ok (.aload_n 1, 1) := by decide +kernel
theorem dX10_must_2 : decode cX10_must 2 = .ok (.invokevirtual 208, 3) := by decide +kernel
theorem dX10_must_5 : decode cX10_must 5 = .ok (.ifCond .ne 10, 3) := by decide +kernel
theorem dX10_must_8 : decode cX10_must 8 = .ok (.aload_n 0, 1) := by decide +kernel
theorem dX10_must_9 : decode cX10_must 9 = .ok (.invokevirtual 211, 3) := by decide +kernel
theorem dX10_must_12 : decode cX10_must 12 = .ok (.ifCond .eq 7, 3) := by decide +kernel
theorem dX10_must_15 : decode cX10_must 15 = .ok (.iconst 1, 1) := by decide +kernel
theorem dX10_must_16 : decode cX10_must 16 = .ok (.goto 4, 3) := by decide +kernel
theorem dX10_must_19 : decode cX10_must 19 = .ok (.iconst 0, 1) := by decide +kernel
theorem dX10_must_20 : decode cX10_must 20 = .ok (.ireturn, 1) := by decide +kernel
set_option maxRecDepth 20000 in
theorem ggX10_number_X10_blanks : GoodIn wsX10_number wsX10_blanks := goodIn_r _ [15, 2, 16, 17, 18, 14, 19, 20, 21, 32, 33, 34, 35, 36, 37, 38, 39, 40, 41, 42, 43, 44, 45, 46, 47, 48, 49] (by decide +kernel) (by decide +kernel)
set_option maxRecDepth 20000 in
theorem gX10_number_X10_blanks : GoodIn wsX10_number (wsV RX10 188 RX10 yX10_blanks wsX10_blanks) := goodIn_app (goodIn_of _ (by decide +kernel)) ggX10_number_X10_blanks
set_option maxRecDepth 20000 in
theorem ggX10_number_X10_byteAt : GoodIn wsX10_number wsX10_byteAt := goodIn_r _ [19, 20, 21, 32, 33, 34, 35, 36, 37, 38, 39, 40, 41, 42, 43, 44, 45, 46, 47, 48, 49] (by decide +kernel) (by decide +kernel)
set_option maxRecDepth 20000 in
theorem gX10_number_X10_byteAt : GoodIn wsX10_number (wsV RX10 179 RX10 yX10_byteAt wsX10_byteAt) := goodIn_app (goodIn_of _ (by decide +kernel)) ggX10_number_X10_byteAt
set_option maxRecDepth 20000 in
theorem ggX10_number_X10_isDigit : GoodIn wsX10_number wsX10_isDigit := goodIn_r _ [24, 25, 26, 14, 27] (by decide +kernel) (by decide +kernel)
set_option maxRecDepth 20000 in
theorem gX10_number_X10_isDigit : GoodIn wsX10_number (va_wsS RX10 215 yX10_isDigit wsX10_isDigit) := goodIn_app (goodIn_of _ (by decide +kernel)) ggX10_number_X10_isDigit
set_option maxRecDepth 20000 in
theorem ggX10_number_X10_fails : GoodIn wsX10_number wsX10_fails := goodIn_r _ [31, 1, 2, 32, 33, 34, 35, 36, 37, 38, 39, 40, 41, 42, 43, 44, 45, 46, 47, 48, 49] (by decide +kernel) (by decide +kernel)
set_option maxRecDepth 20000 in
theorem gX10_number_X10_fails : GoodIn wsX10_number (wsV RX10 211 RX10 yX10_fails wsX10_fails) := goodIn_app (goodIn_of _ (by decide +kernel)) ggX10_number_X10_fails
theorem dX10_number_0 : decode cX10_number 0 = .ok (.aload_n 0, 1) := by decide +kernel
theorem dX10_number_1 : decode cX10_number 1 = .ok (.invokevirtual 188, 3) := by decide +kernel
theorem dX10_number_4 : decode cX10_number 4 = .ok (.aload_n 0, 1) := by decide +kernel
theorem dX10_number_5 : decode cX10_number 5 = .ok (.getfield 182, 3) := by decide +kernel
theorem dX10_number_8 : decode cX10_number 8 = .ok (.ifCond .ge 17, 3) := by decide +kernel
theorem dX10_number_11 : decode cX10_number 11 = .ok (.aload_n 0, 1) := by decide +kernel
theorem dX10_number_12 : decode cX10_number 12 = .ok (.aload_n 0, 1) := by decide +kernel
theorem dX10_number_13 : decode cX10_number 13 = .ok (.getfield 176, 3) := by decide +kernel
theorem dX10_number_16 : decode cX10_number 16 = .ok (.invokevirtual 179, 3) := by decide +kernel
theorem dX10_number_19 : decode cX10_number 19 = .ok (.invokestatic 215, 3) := by decide +kernel
theorem dX10_number_22 : decode cX10_number 22 = .ok (.ifCond .ne 8, 3) := by decide +kernel
theorem dX10_number_25 : decode cX10_number 25 = .ok (.aload_n 0, 1) := by decide +kernel
theorem dX10_number_26 : decode cX10_number 26 = .ok (.invokevirtual 211, 3) := by decide +kernel
theorem dX10_number_29 : decode cX10_number 29 = .ok (.ireturn, 1) := by decide +kernel
theorem dX10_number_30 : decode cX10_number 30 = .ok (.lconst 0, 1) := by decide +kernel
theorem dX10_number_31 : decode cX10_number 31 = .ok (.lstore_n 3, 1) := by decide +kernel
theorem dX10_number_32 : decode cX10_number 32 = .ok (.aload_n 0, 1) := by decide +kernel
theorem dX10_number_33 : decode cX10_number 33 = .ok (.getfield 176, 3) := by decide +kernel
theorem dX10_number_36 : decode cX10_number 36 = .ok (.istore 5, 2) := by decide +kernel
theorem dX10_number_38 : decode cX10_number 38 = .ok (.aload_n 0, 1) := by decide +kernel
theorem dX10_number_39 : decode cX10_number 39 = .ok (.iload 5, 2) := by decide +kernel
theorem dX10_number_41 : decode cX10_number 41 = .ok (.invokevirtual 179, 3) := by decide +kernel
theorem dX10_number_44 : decode cX10_number 44 = .ok (.invokestatic 215, 3) := by decide +kernel
theorem dX10_number_47 : decode cX10_number 47 = .ok (.ifCond .eq 33, 3) := by decide +kernel
theorem dX10_number_50 : decode cX10_number 50 = .ok (.ldc2_w 218, 3) := by decide +kernel
theorem dX10_number_53 : decode cX10_number 53 = .ok (.ldc2_w 220, 3) := by decide +kernel
theorem dX10_number_56 : decode cX10_number 56 = .ok (.lload_n 3, 1) := by decide +kernel
theorem dX10_number_57 : decode cX10_number 57 = .ok (.lmul, 1) := by decide +kernel
theorem dX10_number_58 : decode cX10_number 58 = .ok (.aload_n 0, 1) := by decide +kernel
theorem dX10_number_59 : decode cX10_number 59 = .ok (.iload 5, 2) := by decide +kernel
theorem dX10_number_61 : decode cX10_number 61 = .ok (.invokevirtual 179, 3) := by decide +kernel
theorem dX10_number_64 : decode cX10_number 64 = .ok (.i2l, 1) := by decide +kernel
theorem dX10_number_65 : decode cX10_number 65 = .ok (.ladd, 1) := by decide +kernel
theorem dX10_number_66 : decode cX10_number 66 = .ok (.ldc2_w 222, 3) := by decide +kernel
theorem dX10_number_69 : decode cX10_number 69 = .ok (.lsub, 1) := by decide +kernel
theorem dX10_number_70 : decode cX10_number 70 = .ok (.invokestatic 224, 3) := by decide +kernel
theorem dX10_number_73 : decode cX10_number 73 = .ok (.lstore_n 3, 1) := by decide +kernel
theorem dX10_number_74 : decode cX10_number 74 = .ok (.iinc 5 1, 3) := by decide +kernel
theorem dX10_number_77 : decode cX10_number 77 = .ok (.goto (-39), 3) := by decide +kernel
theorem dX10_number_80 : decode cX10_number 80 = .ok (.lload_n 3, 1) := by decide +kernel
theorem dX10_number_81 : decode cX10_number 81 = .ok (.iload_n 1, 1) := by decide +kernel
theorem dX10_number_82 : decode cX10_number 82 = .ok (.i2l, 1) := by decide +kernel
theorem dX10_number_83 : decode cX10_number 83 = .ok (.lcmp, 1) := by decide +kernel
theorem dX10_number_84 : decode cX10_number 84 = .ok (.ifCond .lt 10, 3) := by decide +kernel
theorem dX10_number_87 : decode cX10_number 87 = .ok (.lload_n 3, 1) := by decide +kernel
theorem dX10_number_88 : decode cX10_number 88 = .ok (.iload_n 2, 1) := by decide +kernel
theorem dX10_number_89 : decode cX10_number 89 = .ok (.i2l, 1) := by decide +kernel
theorem dX10_number_90 : decode cX10_number 90 = .ok (.lcmp, 1) := by decide +kernel
theorem dX10_number_91 : decode cX10_number 91 = .ok (.ifCond .le 8, 3) := by decide +kernel
theorem dX10_number_94 : decode cX10_number 94 = .ok (.aload_n 0, 1) := by decide +kernel
theorem dX10_number_95 : decode cX10_number 95 = .ok (.invokevirtual 211, 3) := by decide +kernel
theorem dX10_number_98 : decode cX10_number 98 = .ok (.ireturn, 1) := by decide +kernel
theorem dX10_number_99 : decode cX10_number 99 = .ok (.aload_n 0, 1) := by decide +kernel
theorem dX10_number_100 : decode cX10_number 100 = .ok (.iload 5, 2) := by decide +kernel
theorem dX10_number_102 : decode cX10_number 102 = .ok (.putfield 176, 3) := by decide +kernel
theorem dX10_number_105 : decode cX10_number 105 = .ok (.aload_n 0, 1) := by decide +kernel
theorem dX10_number_106 : decode cX10_number 106 = .ok (.lload_n 3, 1) := by decide +kernel
theorem dX10_number_107 : decode cX10_number 107 = .ok (.l2i, 1) := by decide +kernel
theorem dX10_number_108 : decode cX10_number 108 = .ok (.putfield 230, 3) := by decide +kernel
theorem dX10_number_111 : decode cX10_number 111 = .ok (.iconst 1, 1) := by decide +kernel
theorem dX10_number_112 : decode cX10_number 112 = .ok (.ireturn, 1) := by decide +kernel
theorem dX10_kindName_0 : decode cX10_kindName 0 = .ok (.iload_n 0, 1) := by decide +kernel
theorem dX10_kindName_1 : decode cX10_kindName 1 = .ok (.tableswitch 50 0 4 #[35, 38, 41, 44, 47], 35) := by decide +kernel
theorem dX10_kindName_36 : decode cX10_kindName 36 = .ok (.ldc 233, 2) := by decide +kernel
theorem dX10_kindName_38 : decode cX10_kindName 38 = .ok (.areturn, 1) := by decide +kernel
theorem dX10_kindName_39 : decode cX10_kindName 39 = .ok (.ldc 235, 2) := by decide +kernel
theorem dX10_kindName_41 : decode cX10_kindName 41 = .ok (.areturn, 1) := by decide +kernel
theorem dX10_kindName_42 : decode cX10_kindName 42 = .ok (.ldc 237, 2) := by decide +kernel
theorem dX10_kindName_44 : decode cX10_kindName 44 = .ok (.areturn, 1) := by decide +kernel
theorem dX10_kindName_45 : decode cX10_kindName 45 = .ok (.ldc 239, 2) := by decide +kernel
theorem dX10_kindName_47 : decode cX10_kindName 47 = .ok (.areturn, 1) := by decide +kernel
theorem dX10_kindName_48 : decode cX10_kindName 48 = .ok (.ldc 241, 2) := by decide +kernel
theorem dX10_kindName_50 : decode cX10_kindName 50 = .ok (.areturn, 1) := by decide +kernel
theorem dX10_kindName_51 : decode cX10_kindName 51 = .ok (.ldc 243, 2) := by decide +kernel
theorem dX10_kindName_53 : decode cX10_kindName 53 = .ok (.areturn, 1) := by decide +kernel
set_option maxRecDepth 20000 in
theorem ggX10_letterTold_X10_may : GoodIn wsX10_letterTold wsX10_may := goodIn_r _ [7, 8, 9, 10, 11, 12, 6, 13, 14, 15, 16, 17, 18, 19, 20, 21, 22, 23, 24, 25, 26, 27, 28, 29, 30, 31, 32, 33, 34, 35, 36, 37, 38, 39, 40, 41, 42, 43, 44, 45, 46, 47, 48, 49, 50, 51, 52, 53, 54, 55, 56, 57, 58, 59, 60, 61, 62, 63, 64, 65, 66, 67, 68, 69, 70, 71, 72, 73, 74, 75, 76, 77, 78, 79, 80, 81, 82, 113, 114, 115, 116, 117, 118, 119, 120, 121, 122, 123, 124, 125, 126, 127, 128, 129, 130] (by decide +kernel) (by decide +kernel)
set_option maxRecDepth 20000 in
theorem gX10_letterTold_X10_may : GoodIn wsX10_letterTold (wsV RX10 208 RX10 yX10_may wsX10_may) := goodIn_app (goodIn_of _ (by decide +kernel)) ggX10_letterTold_X10_may
set_option maxRecDepth 20000 in
theorem ggX10_letterTold_X10_must : GoodIn wsX10_letterTold wsX10_must := goodIn_r _ [86, 3, 4, 5, 6, 7, 8, 9, 10, 11, 12, 13, 14, 15, 16, 17, 18, 19, 20, 21, 22, 23, 24, 25, 26, 27, 28, 29, 30, 31, 32, 33, 34, 35, 36, 37, 38, 39, 40, 41, 42, 43, 44, 45, 46, 47, 48, 49, 50, 51, 52, 53, 54, 55, 56, 57, 58, 59, 60, 61, 62, 63, 64, 65, 66, 67, 68, 69, 70, 71, 72, 73, 74, 75, 76, 77, 78, 79, 80, 81, 82, 87, 88, 89, 90, 113, 114, 115, 116, 117, 118, 119, 120, 121, 122, 123, 124, 125, 126, 127, 128, 129, 130] (by decide +kernel) (by decide +kernel)
set_option maxRecDepth 20000 in
theorem gX10_letterTold_X10_must : GoodIn wsX10_letterTold (wsV RX10 249 RX10 yX10_must wsX10_must) := goodIn_app (goodIn_of _ (by decide +kernel)) ggX10_letterTold_X10_must
set_option maxRecDepth 20000 in
theorem ggX10_letterTold_X10_number : GoodIn wsX10_letterTold wsX10_number := goodIn_r _ [94, 8, 9, 95, 96, 97, 98, 99, 100, 101, 1, 14, 15, 16, 6, 17, 18, 19, 20, 21, 22, 23, 102, 103, 104, 31, 32, 33, 87, 88, 89, 90, 113, 114, 115, 116, 117, 118, 119, 120, 121, 122, 123, 124, 125, 126, 127, 128, 129, 130] (by decide +kernel) (by decide +kernel)
set_option maxRecDepth 20000 in
theorem gX10_letterTold_X10_number : GoodIn wsX10_letterTold (wsV RX10 252 RX10 yX10_number wsX10_number) := goodIn_app (goodIn_of _ (by decide +kernel)) ggX10_letterTold_X10_number
set_option maxRecDepth 20000 in
theorem ggX10_letterTold_X10_adds : GoodIn wsX10_letterTold wsX10_adds := goodIn_r _ [108, 2, 109, 110, 111, 6, 112, 113, 114, 115, 116, 117, 118, 119, 120, 121, 122, 123, 124, 125, 126, 127, 128, 129, 130] (by decide +kernel) (by decide +kernel)
set_option maxRecDepth 20000 in
theorem gX10_letterTold_X10_adds : GoodIn wsX10_letterTold (wsV RX10 132 RX10 yX10_adds wsX10_adds) := goodIn_app (goodIn_of _ (by decide +kernel)) ggX10_letterTold_X10_adds
theorem dX10_letterTold_0 : decode cX10_letterTold 0 = .ok (.aload_n 0, 1) := by decide +kernel
theorem dX10_letterTold_1 : decode cX10_letterTold 1 = .ok (.ldc 245, 2) := by decide +kernel
theorem dX10_letterTold_3 : decode cX10_letterTold 3 = .ok (.invokevirtual 208, 3) := by decide +kernel
theorem dX10_letterTold_6 : decode cX10_letterTold 6 = .ok (.istore_n 2, 1) := by decide +kernel
theorem dX10_letterTold_7 : decode cX10_letterTold 7 = .ok (.iload_n 2, 1) := by decide +kernel
theorem dX10_letterTold_8 : decode cX10_letterTold 8 = .ok (.ifCond .ne 12, 3) := by decide +kernel
theorem dX10_letterTold_11 : decode cX10_letterTold 11 = .ok (.aload_n 0, 1) := by decide +kernel
theorem dX10_letterTold_12 : decode cX10_letterTold 12 = .ok (.ldc 247, 2) := by decide +kernel
theorem dX10_letterTold_14 : decode cX10_letterTold 14 = .ok (.invokevirtual 249, 3) := by decide +kernel
theorem dX10_letterTold_17 : decode cX10_letterTold 17 = .ok (.ifCond .eq 23, 3) := by decide +kernel
theorem dX10_letterTold_20 : decode cX10_letterTold 20 = .ok (.aload_n 0, 1) := by decide +kernel
theorem dX10_letterTold_21 : decode cX10_letterTold 21 = .ok (.iconst 0, 1) := by decide +kernel
theorem dX10_letterTold_22 : decode cX10_letterTold 22 = .ok (.iload_n 2, 1) := by decide +kernel
theorem dX10_letterTold_23 : decode cX10_letterTold 23 = .ok (.ifCond .eq 9, 3) := by decide +kernel
theorem dX10_letterTold_26 : decode cX10_letterTold 26 = .ok (.sipush 4095, 3) := by decide +kernel
theorem dX10_letterTold_29 : decode cX10_letterTold 29 = .ok (.goto 5, 3) := by decide +kernel
theorem dX10_letterTold_32 : decode cX10_letterTold 32 = .ok (.bipush 25, 2) := by decide +kernel
theorem dX10_letterTold_34 : decode cX10_letterTold 34 = .ok (.invokevirtual 252, 3) := by decide +kernel
theorem dX10_letterTold_37 : decode cX10_letterTold 37 = .ok (.ifCond .ne 5, 3) := by decide +kernel
theorem dX10_letterTold_40 : decode cX10_letterTold 40 = .ok (.iconst 0, 1) := by decide +kernel
theorem dX10_letterTold_41 : decode cX10_letterTold 41 = .ok (.ireturn, 1) := by decide +kernel
theorem dX10_letterTold_42 : decode cX10_letterTold 42 = .ok (.iload_n 2, 1) := by decide +kernel
theorem dX10_letterTold_43 : decode cX10_letterTold 43 = .ok (.ifCond .eq 10, 3) := by decide +kernel
theorem dX10_letterTold_46 : decode cX10_letterTold 46 = .ok (.aload_n 0, 1) := by decide +kernel
theorem dX10_letterTold_47 : decode cX10_letterTold 47 = .ok (.getfield 230, 3) := by decide +kernel
theorem dX10_letterTold_50 : decode cX10_letterTold 50 = .ok (.goto 14, 3) := by decide +kernel
theorem dX10_letterTold_53 : decode cX10_letterTold 53 = .ok (.aload_n 0, 1) := by decide +kernel
theorem dX10_letterTold_54 : decode cX10_letterTold 54 = .ok (.getfield 9, 3) := by decide +kernel
theorem dX10_letterTold_57 : decode cX10_letterTold 57 = .ok (.iconst 3, 1) := by decide +kernel
theorem dX10_letterTold_58 : decode cX10_letterTold 58 = .ok (.aload_n 0, 1) := by decide +kernel
theorem dX10_letterTold_59 : decode cX10_letterTold 59 = .ok (.getfield 230, 3) := by decide +kernel
theorem dX10_letterTold_62 : decode cX10_letterTold 62 = .ok (.iadd, 1) := by decide +kernel
theorem dX10_letterTold_63 : decode cX10_letterTold 63 = .ok (.iaload, 1) := by decide +kernel
theorem dX10_letterTold_64 : decode cX10_letterTold 64 = .ok (.istore_n 3, 1) := by decide +kernel
theorem dX10_letterTold_65 : decode cX10_letterTold 65 = .ok (.bipush 6, 2) := by decide +kernel
theorem dX10_letterTold_67 : decode cX10_letterTold 67 = .ok (.istore 4, 2) := by decide +kernel
theorem dX10_letterTold_69 : decode cX10_letterTold 69 = .ok (.aload_n 0, 1) := by decide +kernel
theorem dX10_letterTold_70 : decode cX10_letterTold 70 = .ok (.ldc 255, 2) := by decide +kernel
theorem dX10_letterTold_72 : decode cX10_letterTold 72 = .ok (.invokevirtual 208, 3) := by decide +kernel
theorem dX10_letterTold_75 : decode cX10_letterTold 75 = .ok (.ifCond .eq 21, 3) := by decide +kernel
theorem dX10_letterTold_78 : decode cX10_letterTold 78 = .ok (.aload_n 0, 1) := by decide +kernel
theorem dX10_letterTold_79 : decode cX10_letterTold 79 = .ok (.iconst 0, 1) := by decide +kernel
theorem dX10_letterTold_80 : decode cX10_letterTold 80 = .ok (.bipush 99, 2) := by decide +kernel
theorem dX10_letterTold_82 : decode cX10_letterTold 82 = .ok (.invokevirtual 252, 3) := by decide +kernel
theorem dX10_letterTold_85 : decode cX10_letterTold 85 = .ok (.ifCond .ne 5, 3) := by decide +kernel
theorem dX10_letterTold_88 : decode cX10_letterTold 88 = .ok (.iconst 0, 1) := by decide +kernel
theorem dX10_letterTold_89 : decode cX10_letterTold 89 = .ok (.ireturn, 1) := by decide +kernel
theorem dX10_letterTold_90 : decode cX10_letterTold 90 = .ok (.aload_n 0, 1) := by decide +kernel
theorem dX10_letterTold_91 : decode cX10_letterTold 91 = .ok (.getfield 230, 3) := by decide +kernel
theorem dX10_letterTold_94 : decode cX10_letterTold 94 = .ok (.istore 4, 2) := by decide +kernel
theorem dX10_letterTold_96 : decode cX10_letterTold 96 = .ok (.aload_n 0, 1) := by decide +kernel
theorem dX10_letterTold_97 : decode cX10_letterTold 97 = .ok (.iload_n 1, 1) := by decide +kernel
theorem dX10_letterTold_98 : decode cX10_letterTold 98 = .ok (.iload_n 3, 1) := by decide +kernel
theorem dX10_letterTold_99 : decode cX10_letterTold 99 = .ok (.iload 4, 2) := by decide +kernel
theorem dX10_letterTold_101 : decode cX10_letterTold 101 = .ok (.invokevirtual 132, 3) := by decide +kernel
theorem dX10_letterTold_104 : decode cX10_letterTold 104 = .ok (.iconst 1, 1) := by decide +kernel
theorem dX10_letterTold_105 : decode cX10_letterTold 105 = .ok (.ireturn, 1) := by decide +kernel
set_option maxRecDepth 20000 in
theorem ggX10_signTold_X10_number : GoodIn wsX10_signTold wsX10_number := goodIn_r _ [7, 8, 9, 10, 11, 12, 13, 14, 15, 16, 1, 17, 18, 19, 6, 20, 21, 22, 23, 24, 25, 26, 27, 28, 29, 30, 31, 32, 33, 34, 35, 36, 37, 38, 39, 40, 41, 42, 43, 44, 45, 46, 47, 48, 49, 50, 51, 52, 53, 54] (by decide +kernel) (by decide +kernel)
set_option maxRecDepth 20000 in
theorem gX10_signTold_X10_number : GoodIn wsX10_signTold (wsV RX10 252 RX10 yX10_number wsX10_number) := goodIn_app (goodIn_of _ (by decide +kernel)) ggX10_signTold_X10_number
theorem dX10_signTold_0 : decode cX10_signTold 0 = .ok (.aload_n 0, 1) := by decide +kernel
theorem dX10_signTold_1 : decode cX10_signTold 1 = .ok (.iconst 0, 1) := by decide +kernel
theorem dX10_signTold_2 : decode cX10_signTold 2 = .ok (.bipush 25, 2) := by decide +kernel
theorem dX10_signTold_4 : decode cX10_signTold 4 = .ok (.invokevirtual 252, 3) := by decide +kernel
theorem dX10_signTold_7 : decode cX10_signTold 7 = .ok (.ifCond .ne 5, 3) := by decide +kernel
theorem dX10_signTold_10 : decode cX10_signTold 10 = .ok (.iconst 0, 1) := by decide +kernel
theorem dX10_signTold_11 : decode cX10_signTold 11 = .ok (.ireturn, 1) := by decide +kernel
theorem dX10_signTold_12 : decode cX10_signTold 12 = .ok (.aload_n 0, 1) := by decide +kernel
theorem dX10_signTold_13 : decode cX10_signTold 13 = .ok (.getfield 230, 3) := by decide +kernel
theorem dX10_signTold_16 : decode cX10_signTold 16 = .ok (.istore_n 1, 1) := by decide +kernel
theorem dX10_signTold_17 : decode cX10_signTold 17 = .ok (.aload_n 0, 1) := by decide +kernel
theorem dX10_signTold_18 : decode cX10_signTold 18 = .ok (.iconst 0, 1) := by decide +kernel
theorem dX10_signTold_19 : decode cX10_signTold 19 = .ok (.sipush 4095, 3) := by decide +kernel
theorem dX10_signTold_22 : decode cX10_signTold 22 = .ok (.invokevirtual 252, 3) := by decide +kernel
theorem dX10_signTold_25 : decode cX10_signTold 25 = .ok (.ifCond .ne 5, 3) := by decide +kernel
theorem dX10_signTold_28 : decode cX10_signTold 28 = .ok (.iconst 0, 1) := by decide +kernel
theorem dX10_signTold_29 : decode cX10_signTold 29 = .ok (.ireturn, 1) := by decide +kernel
theorem dX10_signTold_30 : decode cX10_signTold 30 = .ok (.aload_n 0, 1) := by decide +kernel
theorem dX10_signTold_31 : decode cX10_signTold 31 = .ok (.getfield 9, 3) := by decide +kernel
theorem dX10_signTold_34 : decode cX10_signTold 34 = .ok (.iconst 3, 1) := by decide +kernel
theorem dX10_signTold_35 : decode cX10_signTold 35 = .ok (.iload_n 1, 1) := by decide +kernel
theorem dX10_signTold_36 : decode cX10_signTold 36 = .ok (.iadd, 1) := by decide +kernel
theorem dX10_signTold_37 : decode cX10_signTold 37 = .ok (.aload_n 0, 1) := by decide +kernel
theorem dX10_signTold_38 : decode cX10_signTold 38 = .ok (.getfield 230, 3) := by decide +kernel
theorem dX10_signTold_41 : decode cX10_signTold 41 = .ok (.iastore, 1) := by decide +kernel
theorem dX10_signTold_42 : decode cX10_signTold 42 = .ok (.iconst 1, 1) := by decide +kernel
theorem dX10_signTold_43 : decode cX10_signTold 43 = .ok (.ireturn, 1) := by decide +kernel
set_option maxRecDepth 20000 in
theorem ggX10_item_X10_kindName : GoodIn wsX10_item wsX10_kindName := goodIn_r _ [6] (by decide +kernel) (by decide +kernel)
set_option maxRecDepth 20000 in
theorem gX10_item_X10_kindName : GoodIn wsX10_item (va_wsS RX10 257 yX10_kindName wsX10_kindName) := goodIn_app (goodIn_of _ (by decide +kernel)) ggX10_item_X10_kindName
set_option maxRecDepth 20000 in
theorem ggX10_item_X10_isWord : GoodIn wsX10_item wsX10_isWord := goodIn_r _ [10, 11, 12, 13, 14, 5, 15, 16, 17, 18, 19, 20, 21, 22, 23, 24, 25, 26, 27, 28, 29, 30, 31, 32, 33, 34, 35, 36, 37, 38, 39, 40, 41, 42, 43, 44, 45, 46, 47, 48, 49, 50, 51, 52, 53, 54, 55, 56, 57, 58, 59, 60, 61, 62, 63, 64, 65, 66, 67, 68, 69, 70, 71, 72, 73, 74, 75, 76, 77, 78, 79, 80, 124, 125, 126, 127, 128, 129, 130, 131, 132, 133, 134, 135, 136, 137, 138, 139, 140, 141] (by decide +kernel) (by decide +kernel)
set_option maxRecDepth 20000 in
theorem gX10_item_X10_isWord : GoodIn wsX10_item (wsV RX10 204 RX10 yX10_isWord wsX10_isWord) := goodIn_app (goodIn_of _ (by decide +kernel)) ggX10_item_X10_isWord
set_option maxRecDepth 20000 in
theorem ggX10_item_X10_fails : GoodIn wsX10_item wsX10_fails := goodIn_r _ [84, 85, 11, 124, 125, 126, 127, 128, 129, 130, 131, 132, 133, 134, 135, 136, 137, 138, 139, 140, 141] (by decide +kernel) (by decide +kernel)
set_option maxRecDepth 20000 in
theorem gX10_item_X10_fails : GoodIn wsX10_item (wsV RX10 211 RX10 yX10_fails wsX10_fails) := goodIn_app (goodIn_of _ (by decide +kernel)) ggX10_item_X10_fails
set_option maxRecDepth 20000 in
theorem ggX10_item_X10_may : GoodIn wsX10_item wsX10_may := goodIn_r _ [89, 85, 11, 7, 8, 9, 5, 10, 12, 13, 14, 15, 16, 17, 18, 19, 20, 21, 22, 23, 24, 25, 26, 27, 28, 29, 30, 31, 32, 33, 34, 35, 36, 37, 38, 39, 40, 41, 42, 43, 44, 45, 46, 47, 48, 49, 50, 51, 52, 53, 54, 55, 56, 57, 58, 59, 60, 61, 62, 63, 64, 65, 66, 67, 68, 69, 70, 71, 72, 73, 74, 75, 76, 77, 78, 79, 80, 124, 125, 126, 127, 128, 129, 130, 131, 132, 133, 134, 135, 136, 137, 138, 139, 140, 141] (by decide +kernel) (by decide +kernel)
set_option maxRecDepth 20000 in
theorem gX10_item_X10_may : GoodIn wsX10_item (wsV RX10 208 RX10 yX10_may wsX10_may) := goodIn_app (goodIn_of _ (by decide +kernel)) ggX10_item_X10_may
set_option maxRecDepth 20000 in
theorem ggX10_item_X10_letterTold : GoodIn wsX10_item wsX10_letterTold := goodIn_r _ [93, 2, 1, 86, 87, 88, 5, 89, 85, 11, 7, 8, 9, 10, 12, 13, 14, 15, 16, 17, 18, 19, 20, 21, 22, 23, 24, 25, 26, 27, 28, 29, 30, 31, 32, 33, 34, 35, 36, 37, 38, 39, 40, 41, 42, 43, 44, 45, 46, 47, 48, 49, 50, 51, 52, 53, 54, 55, 56, 57, 58, 59, 60, 61, 62, 63, 64, 65, 66, 67, 68, 69, 70, 71, 72, 73, 74, 75, 76, 77, 78, 79, 80, 94, 95, 96, 97, 81, 82, 83, 84, 98, 99, 100, 101, 102, 103, 104, 105, 106, 107, 108, 109, 110, 111, 112, 113, 114, 115, 116, 117, 118, 119, 124, 125, 126, 127, 128, 129, 130, 131, 132, 133, 134, 135, 136, 137, 138, 139, 140, 141] (by decide +kernel) (by decide +kernel)
set_option maxRecDepth 20000 in
theorem gX10_item_X10_letterTold : GoodIn wsX10_item (wsV RX10 261 RX10 yX10_letterTold wsX10_letterTold) := goodIn_app (goodIn_of _ (by decide +kernel)) ggX10_item_X10_letterTold
set_option maxRecDepth 20000 in
theorem ggX10_item_X10_signTold : GoodIn wsX10_item wsX10_signTold := goodIn_r _ [123, 2, 1, 98, 99, 100, 5, 101, 85, 11, 102, 103, 104, 105, 106, 107, 108, 12, 13, 14, 15, 16, 17, 18, 19, 20, 21, 109, 110, 111, 29, 30, 31, 81, 82, 83, 84, 124, 125, 126, 127, 128, 129, 130, 131, 132, 133, 134, 135, 136, 137, 138, 139, 140, 141] (by decide +kernel) (by decide +kernel)
set_option maxRecDepth 20000 in
theorem gX10_item_X10_signTold : GoodIn wsX10_item (wsV RX10 266 RX10 yX10_signTold wsX10_signTold) := goodIn_app (goodIn_of _ (by decide +kernel)) ggX10_item_X10_signTold
set_option maxRecDepth 20000 in
theorem ggX10_item_X10_must : GoodIn wsX10_item wsX10_must := goodIn_r _ [97, 86, 87, 88, 5, 89, 85, 11, 7, 8, 9, 10, 12, 13, 14, 15, 16, 17, 18, 19, 20, 21, 22, 23, 24, 25, 26, 27, 28, 29, 30, 31, 32, 33, 34, 35, 36, 37, 38, 39, 40, 41, 42, 43, 44, 45, 46, 47, 48, 49, 50, 51, 52, 53, 54, 55, 56, 57, 58, 59, 60, 61, 62, 63, 64, 65, 66, 67, 68, 69, 70, 71, 72, 73, 74, 75, 76, 77, 78, 79, 80, 81, 82, 83, 84, 124, 125, 126, 127, 128, 129, 130, 131, 132, 133, 134, 135, 136, 137, 138, 139, 140, 141] (by decide +kernel) (by decide +kernel)
set_option maxRecDepth 20000 in
theorem gX10_item_X10_must : GoodIn wsX10_item (wsV RX10 249 RX10 yX10_must wsX10_must) := goodIn_app (goodIn_of _ (by decide +kernel)) ggX10_item_X10_must
set_option maxRecDepth 20000 in
theorem ggX10_item_X10_number : GoodIn wsX10_item wsX10_number := goodIn_r _ [101, 85, 11, 102, 103, 104, 105, 106, 107, 108, 2, 12, 13, 14, 5, 15, 16, 17, 18, 19, 20, 21, 109, 110, 111, 29, 30, 31, 81, 82, 83, 84, 124, 125, 126, 127, 128, 129, 130, 131, 132, 133, 134, 135, 136, 137, 138, 139, 140, 141] (by decide +kernel) (by decide +kernel)
set_option maxRecDepth 20000 in
theorem gX10_item_X10_number : GoodIn wsX10_item (wsV RX10 252 RX10 yX10_number wsX10_number) := goodIn_app (goodIn_of _ (by decide +kernel)) ggX10_item_X10_number
theorem dX10_item_0 : decode cX10_item 0 = .ok (.iconst 0, 1) := by decide +kernel
theorem dX10_item_1 : decode cX10_item 1 = .ok (.istore_n 1, 1) := by decide +kernel
theorem dX10_item_2 : decode cX10_item 2 = .ok (.iload_n 1, 1) := by decide +kernel
theorem dX10_item_3 : decode cX10_item 3 = .ok (.iconst 5, 1) := by decide +kernel
theorem dX10_item_4 : decode cX10_item 4 = .ok (.if_icmp .gt 53, 3) := by decide +kernel
theorem dX10_item_7 : decode cX10_item 7 = .ok (.aload_n 0, 1) := by decide +kernel
theorem dX10_item_8 : decode cX10_item 8 = .ok (.iload_n 1, 1) := by decide +kernel
theorem dX10_item_9 : decode cX10_item 9 = .ok (.invokestatic 257, 3) := by decide +kernel
theorem dX10_item_12 : decode cX10_item 12 = .ok (.invokevirtual 204, 3) := by decide +kernel
theorem dX10_item_15 : decode cX10_item 15 = .ok (.ifCond .eq 19, 3) := by decide +kernel
theorem dX10_item_18 : decode cX10_item 18 = .ok (.aload_n 0, 1) := by decide +kernel
theorem dX10_item_19 : decode cX10_item 19 = .ok (.getfield 9, 3) := by decide +kernel
theorem dX10_item_22 : decode cX10_item 22 = .ok (.iconst 2, 1) := by decide +kernel
theorem dX10_item_23 : decode cX10_item 23 = .ok (.iaload, 1) := by decide +kernel
theorem dX10_item_24 : decode cX10_item 24 = .ok (.bipush 12, 2) := by decide +kernel
theorem dX10_item_26 : decode cX10_item 26 = .ok (.if_icmp .ne 8, 3) := by decide +kernel
theorem dX10_item_29 : decode cX10_item 29 = .ok (.aload_n 0, 1) := by decide +kernel
theorem dX10_item_30 : decode cX10_item 30 = .ok (.invokevirtual 211, 3) := by decide +kernel
theorem dX10_item_33 : decode cX10_item 33 = .ok (.ireturn, 1) := by decide +kernel
theorem dX10_item_34 : decode cX10_item 34 = .ok (.aload_n 0, 1) := by decide +kernel
theorem dX10_item_35 : decode cX10_item 35 = .ok (.iload_n 1, 1) := by decide +kernel
theorem dX10_item_36 : decode cX10_item 36 = .ok (.invokestatic 257, 3) := by decide +kernel
theorem dX10_item_39 : decode cX10_item 39 = .ok (.invokevirtual 208, 3) := by decide +kernel
theorem dX10_item_42 : decode cX10_item 42 = .ok (.ifCond .eq 9, 3) := by decide +kernel
theorem dX10_item_45 : decode cX10_item 45 = .ok (.aload_n 0, 1) := by decide +kernel
theorem dX10_item_46 : decode cX10_item 46 = .ok (.iload_n 1, 1) := by decide +kernel
theorem dX10_item_47 : decode cX10_item 47 = .ok (.invokevirtual 261, 3) := by decide +kernel
theorem dX10_item_50 : decode cX10_item 50 = .ok (.ireturn, 1) := by decide +kernel
theorem dX10_item_51 : decode cX10_item 51 = .ok (.iinc 1 1, 3) := by decide +kernel
theorem dX10_item_54 : decode cX10_item 54 = .ok (.goto (-52), 3) := by decide +kernel
theorem dX10_item_57 : decode cX10_item 57 = .ok (.aload_n 0, 1) := by decide +kernel
theorem dX10_item_58 : decode cX10_item 58 = .ok (.ldc_w 264, 3) := by decide +kernel
theorem dX10_item_61 : decode cX10_item 61 = .ok (.invokevirtual 208, 3) := by decide +kernel
theorem dX10_item_64 : decode cX10_item 64 = .ok (.ifCond .eq 8, 3) := by decide +kernel
theorem dX10_item_67 : decode cX10_item 67 = .ok (.aload_n 0, 1) := by decide +kernel
theorem dX10_item_68 : decode cX10_item 68 = .ok (.invokevirtual 266, 3) := by decide +kernel
theorem dX10_item_71 : decode cX10_item 71 = .ok (.ireturn, 1) := by decide +kernel
theorem dX10_item_72 : decode cX10_item 72 = .ok (.aload_n 0, 1) := by decide +kernel
theorem dX10_item_73 : decode cX10_item 73 = .ok (.ldc_w 269, 3) := by decide +kernel
theorem dX10_item_76 : decode cX10_item 76 = .ok (.invokevirtual 249, 3) := by decide +kernel
theorem dX10_item_79 : decode cX10_item 79 = .ok (.ifCond .eq 14, 3) := by decide +kernel
theorem dX10_item_82 : decode cX10_item 82 = .ok (.aload_n 0, 1) := by decide +kernel
theorem dX10_item_83 : decode cX10_item 83 = .ok (.iconst 0, 1) := by decide +kernel
theorem dX10_item_84 : decode cX10_item 84 = .ok (.sipush 4095, 3) := by decide +kernel
theorem dX10_item_87 : decode cX10_item 87 = .ok (.invokevirtual 252, 3) := by decide +kernel
theorem dX10_item_90 : decode cX10_item 90 = .ok (.ifCond .ne 5, 3) := by decide +kernel
theorem dX10_item_93 : decode cX10_item 93 = .ok (.iconst 0, 1) := by decide +kernel
theorem dX10_item_94 : decode cX10_item 94 = .ok (.ireturn, 1) := by decide +kernel
theorem dX10_item_95 : decode cX10_item 95 = .ok (.aload_n 0, 1) := by decide +kernel
theorem dX10_item_96 : decode cX10_item 96 = .ok (.getfield 9, 3) := by decide +kernel
theorem dX10_item_99 : decode cX10_item 99 = .ok (.iconst 1, 1) := by decide +kernel
theorem dX10_item_100 : decode cX10_item 100 = .ok (.aload_n 0, 1) := by decide +kernel
theorem dX10_item_101 : decode cX10_item 101 = .ok (.getfield 230, 3) := by decide +kernel
theorem dX10_item_104 : decode cX10_item 104 = .ok (.iastore, 1) := by decide +kernel
theorem dX10_item_105 : decode cX10_item 105 = .ok (.iconst 1, 1) := by decide +kernel
theorem dX10_item_106 : decode cX10_item 106 = .ok (.ireturn, 1) := by decide +kernel
set_option maxRecDepth 20000 in
theorem ggX10_field_X10_lay : GoodIn wsX10_field wsX10_lay := goodIn_r _ [9] (by decide +kernel) (by decide +kernel)
set_option maxRecDepth 20000 in
theorem gX10_field_X10_lay : GoodIn wsX10_field (va_wsS RX10 271 yX10_lay wsX10_lay) := goodIn_app (goodIn_of _ (by decide +kernel)) ggX10_field_X10_lay
set_option maxRecDepth 20000 in
theorem ggX10_field_X10_item : GoodIn wsX10_field wsX10_item := goodIn_r _ [13, 3, 14, 15, 16, 8, 17, 18, 19, 20, 21, 1, 22, 23, 24, 25, 26, 27, 28, 29, 5, 30, 31, 32, 33, 34, 35, 36, 37, 38, 39, 40, 41, 42, 43, 44, 45, 46, 47, 48, 49, 50, 51, 52, 53, 54, 55, 56, 57, 58, 59, 60, 61, 62, 63, 64, 65, 66, 67, 68, 69, 70, 71, 72, 73, 74, 75, 76, 77, 78, 79, 80, 81, 82, 83, 84, 85, 86, 87, 88, 89, 90, 91, 92, 93, 2, 94, 95, 96, 97, 98, 99, 100, 101, 102, 103, 104, 105, 106, 107, 108, 109, 110, 111, 112, 113, 114, 115, 116, 117, 118, 119, 120, 121, 122, 123, 124, 125, 126, 127, 128, 129, 130, 131, 132, 133, 134, 135, 136, 137, 138, 139, 140, 141, 142, 143, 144, 145, 146, 147, 148, 149] (by decide +kernel) (by decide +kernel)
set_option maxRecDepth 20000 in
theorem gX10_field_X10_item : GoodIn wsX10_field (wsV RX10 275 RX10 yX10_item wsX10_item) := goodIn_app (goodIn_of _ (by decide +kernel)) ggX10_field_X10_item
set_option maxRecDepth 20000 in
theorem ggX10_field_X10_blanks : GoodIn wsX10_field wsX10_blanks := goodIn_r _ [25, 1, 26, 27, 28, 8, 29, 5, 30, 132, 133, 134, 135, 136, 137, 138, 139, 140, 141, 142, 143, 144, 145, 146, 147, 148, 149] (by decide +kernel) (by decide +kernel)
set_option maxRecDepth 20000 in
theorem gX10_field_X10_blanks : GoodIn wsX10_field (wsV RX10 188 RX10 yX10_blanks wsX10_blanks) := goodIn_app (goodIn_of _ (by decide +kernel)) ggX10_field_X10_blanks
set_option maxRecDepth 20000 in
theorem ggX10_field_X10_byteAt : GoodIn wsX10_field wsX10_byteAt := goodIn_r _ [29, 5, 30, 132, 133, 134, 135, 136, 137, 138, 139, 140, 141, 142, 143, 144, 145, 146, 147, 148, 149] (by decide +kernel) (by decide +kernel)
set_option maxRecDepth 20000 in
theorem gX10_field_X10_byteAt : GoodIn wsX10_field (wsV RX10 179 RX10 yX10_byteAt wsX10_byteAt) := goodIn_app (goodIn_of _ (by decide +kernel)) ggX10_field_X10_byteAt
set_option maxRecDepth 20000 in
theorem ggX10_field_X10_fails : GoodIn wsX10_field wsX10_fails := goodIn_r _ [93, 2, 1, 132, 133, 134, 135, 136, 137, 138, 139, 140, 141, 142, 143, 144, 145, 146, 147, 148, 149] (by decide +kernel) (by decide +kernel)
set_option maxRecDepth 20000 in
theorem gX10_field_X10_fails : GoodIn wsX10_field (wsV RX10 211 RX10 yX10_fails wsX10_fails) := goodIn_app (goodIn_of _ (by decide +kernel)) ggX10_field_X10_fails
theorem dX10_field_0 : decode cX10_field 0 = .ok (.aload_n 0, 1) := by decide +kernel
theorem dX10_field_1 : decode cX10_field 1 = .ok (.iconst 0, 1) := by decide +kernel
theorem dX10_field_2 : decode cX10_field 2 = .ok (.putfield 176, 3) := by decide +kernel
theorem dX10_field_5 : decode cX10_field 5 = .ok (.aload_n 0, 1) := by decide +kernel
theorem dX10_field_6 : decode cX10_field 6 = .ok (.iconst (-1), 1) := by decide +kernel
theorem dX10_field_7 : decode cX10_field 7 = .ok (.putfield 182, 3) := by decide +kernel
theorem dX10_field_10 : decode cX10_field 10 = .ok (.aload_n 0, 1) := by decide +kernel
theorem dX10_field_11 : decode cX10_field 11 = .ok (.getfield 9, 3) := by decide +kernel
theorem dX10_field_14 : decode cX10_field 14 = .ok (.aload_n 0, 1) := by decide +kernel
theorem dX10_field_15 : decode cX10_field 15 = .ok (.getfield 16, 3) := by decide +kernel
theorem dX10_field_18 : decode cX10_field 18 = .ok (.invokestatic 271, 3) := by decide +kernel
theorem dX10_field_21 : decode cX10_field 21 = .ok (.iconst 0, 1) := by decide +kernel
theorem dX10_field_22 : decode cX10_field 22 = .ok (.istore_n 1, 1) := by decide +kernel
theorem dX10_field_23 : decode cX10_field 23 = .ok (.iconst 1, 1) := by decide +kernel
theorem dX10_field_24 : decode cX10_field 24 = .ok (.istore_n 2, 1) := by decide +kernel
theorem dX10_field_25 : decode cX10_field 25 = .ok (.iload_n 2, 1) := by decide +kernel
theorem dX10_field_26 : decode cX10_field 26 = .ok (.ifCond .eq 57, 3) := by decide +kernel
theorem dX10_field_29 : decode cX10_field 29 = .ok (.aload_n 0, 1) := by decide +kernel
theorem dX10_field_30 : decode cX10_field 30 = .ok (.invokevirtual 275, 3) := by decide +kernel
theorem dX10_field_33 : decode cX10_field 33 = .ok (.ifCond .eq 50, 3) := by decide +kernel
theorem dX10_field_36 : decode cX10_field 36 = .ok (.iinc 1 1, 3) := by decide +kernel
theorem dX10_field_39 : decode cX10_field 39 = .ok (.aload_n 0, 1) := by decide +kernel
theorem dX10_field_40 : decode cX10_field 40 = .ok (.invokevirtual 188, 3) := by decide +kernel
theorem dX10_field_43 : decode cX10_field 43 = .ok (.aload_n 0, 1) := by decide +kernel
theorem dX10_field_44 : decode cX10_field 44 = .ok (.aload_n 0, 1) := by decide +kernel
theorem dX10_field_45 : decode cX10_field 45 = .ok (.getfield 176, 3) := by decide +kernel
theorem dX10_field_48 : decode cX10_field 48 = .ok (.invokevirtual 179, 3) := by decide +kernel
theorem dX10_field_51 : decode cX10_field 51 = .ok (.bipush 59, 2) := by decide +kernel
theorem dX10_field_53 : decode cX10_field 53 = .ok (.if_icmp .ne 7, 3) := by decide +kernel
theorem dX10_field_56 : decode cX10_field 56 = .ok (.iconst 1, 1) := by decide +kernel
theorem dX10_field_57 : decode cX10_field 57 = .ok (.goto 4, 3) := by decide +kernel
theorem dX10_field_60 : decode cX10_field 60 = .ok (.iconst 0, 1) := by decide +kernel
theorem dX10_field_61 : decode cX10_field 61 = .ok (.istore_n 2, 1) := by decide +kernel
theorem dX10_field_62 : decode cX10_field 62 = .ok (.aload_n 0, 1) := by decide +kernel
theorem dX10_field_63 : decode cX10_field 63 = .ok (.dup, 1) := by decide +kernel
theorem dX10_field_64 : decode cX10_field 64 = .ok (.getfield 176, 3) := by decide +kernel
theorem dX10_field_67 : decode cX10_field 67 = .ok (.iload_n 2, 1) := by decide +kernel
theorem dX10_field_68 : decode cX10_field 68 = .ok (.ifCond .eq 7, 3) := by decide +kernel
theorem dX10_field_71 : decode cX10_field 71 = .ok (.iconst 1, 1) := by decide +kernel
theorem dX10_field_72 : decode cX10_field 72 = .ok (.goto 4, 3) := by decide +kernel
theorem dX10_field_75 : decode cX10_field 75 = .ok (.iconst 0, 1) := by decide +kernel
theorem dX10_field_76 : decode cX10_field 76 = .ok (.iadd, 1) := by decide +kernel
theorem dX10_field_77 : decode cX10_field 77 = .ok (.putfield 176, 3) := by decide +kernel
theorem dX10_field_80 : decode cX10_field 80 = .ok (.goto (-55), 3) := by decide +kernel
theorem dX10_field_83 : decode cX10_field 83 = .ok (.aload_n 0, 1) := by decide +kernel
theorem dX10_field_84 : decode cX10_field 84 = .ok (.getfield 182, 3) := by decide +kernel
theorem dX10_field_87 : decode cX10_field 87 = .ok (.ifCond .ge 19, 3) := by decide +kernel
theorem dX10_field_90 : decode cX10_field 90 = .ok (.aload_n 0, 1) := by decide +kernel
theorem dX10_field_91 : decode cX10_field 91 = .ok (.getfield 176, 3) := by decide +kernel
theorem dX10_field_94 : decode cX10_field 94 = .ok (.aload_n 0, 1) := by decide +kernel
theorem dX10_field_95 : decode cX10_field 95 = .ok (.getfield 173, 3) := by decide +kernel
theorem dX10_field_98 : decode cX10_field 98 = .ok (.if_icmp .ge 8, 3) := by decide +kernel
theorem dX10_field_101 : decode cX10_field 101 = .ok (.aload_n 0, 1) := by decide +kernel
theorem dX10_field_102 : decode cX10_field 102 = .ok (.invokevirtual 211, 3) := by decide +kernel
theorem dX10_field_105 : decode cX10_field 105 = .ok (.pop, 1) := by decide +kernel
theorem dX10_field_106 : decode cX10_field 106 = .ok (.aload_n 0, 1) := by decide +kernel
theorem dX10_field_107 : decode cX10_field 107 = .ok (.iconst 0, 1) := by decide +kernel
theorem dX10_field_108 : decode cX10_field 108 = .ok (.putfield 173, 3) := by decide +kernel
theorem dX10_field_111 : decode cX10_field 111 = .ok (.aload_n 0, 1) := by decide +kernel
theorem dX10_field_112 : decode cX10_field 112 = .ok (.getfield 182, 3) := by decide +kernel
theorem dX10_field_115 : decode cX10_field 115 = .ok (.ifCond .lt 21, 3) := by decide +kernel
theorem dX10_field_118 : decode cX10_field 118 = .ok (.aload_n 0, 1) := by decide +kernel
theorem dX10_field_119 : decode cX10_field 119 = .ok (.getfield 16, 3) := by decide +kernel
theorem dX10_field_122 : decode cX10_field 122 = .ok (.aload_n 0, 1) := by decide +kernel
theorem dX10_field_123 : decode cX10_field 123 = .ok (.getfield 9, 3) := by decide +kernel
theorem dX10_field_126 : decode cX10_field 126 = .ok (.invokestatic 271, 3) := by decide +kernel
theorem dX10_field_129 : decode cX10_field 129 = .ok (.iconst (-1), 1) := by decide +kernel
theorem dX10_field_130 : decode cX10_field 130 = .ok (.aload_n 0, 1) := by decide +kernel
theorem dX10_field_131 : decode cX10_field 131 = .ok (.getfield 182, 3) := by decide +kernel
theorem dX10_field_134 : decode cX10_field 134 = .ok (.isub, 1) := by decide +kernel
theorem dX10_field_135 : decode cX10_field 135 = .ok (.ireturn, 1) := by decide +kernel
theorem dX10_field_136 : decode cX10_field 136 = .ok (.iload_n 1, 1) := by decide +kernel
theorem dX10_field_137 : decode cX10_field 137 = .ok (.ireturn, 1) := by decide +kernel
set_option maxRecDepth 20000 in
theorem ggX10_isSheet_X10_in : GoodIn wsX10_isSheet wsX10_in := goodIn_r _ [4] (by decide +kernel) (by decide +kernel)
set_option maxRecDepth 20000 in
theorem gX10_isSheet_X10_in : GoodIn wsX10_isSheet (va_wsS RX10 48 yX10_in wsX10_in) := goodIn_app (goodIn_of _ (by decide +kernel)) ggX10_isSheet_X10_in
theorem dX10_isSheet_0 : decode cX10_isSheet 0 = .ok (.iload_n 0, 1) := by decide +kernel
theorem dX10_isSheet_1 : decode cX10_isSheet 1 = .ok (.iconst 0, 1) := by decide +kernel
theorem dX10_isSheet_2 : decode cX10_isSheet 2 = .ok (.iconst 3, 1) := by decide +kernel
theorem dX10_isSheet_3 : decode cX10_isSheet 3 = .ok (.invokestatic 48, 3) := by decide +kernel
theorem dX10_isSheet_6 : decode cX10_isSheet 6 = .ok (.ireturn, 1) := by decide +kernel
set_option maxRecDepth 20000 in
theorem ggX10_sheet_X10_isSheet : GoodIn wsX10_sheet wsX10_isSheet := goodIn_r _ [7, 8, 9, 6, 10] (by decide +kernel) (by decide +kernel)
set_option maxRecDepth 20000 in
theorem gX10_sheet_X10_isSheet : GoodIn wsX10_sheet (va_wsS RX10 278 yX10_isSheet wsX10_isSheet) := goodIn_app (goodIn_of _ (by decide +kernel)) ggX10_sheet_X10_isSheet
set_option maxRecDepth 20000 in
theorem ggX10_sheet_X10_no : GoodIn wsX10_sheet wsX10_no := goodIn_r _ [14, 15, 16, 17, 18, 19, 20, 21, 22, 23, 24, 25, 26, 27, 28, 29, 30, 31, 32, 33, 34] (by decide +kernel) (by decide +kernel)
set_option maxRecDepth 20000 in
theorem gX10_sheet_X10_no : GoodIn wsX10_sheet (wsV RX10 89 RX10 yX10_no wsX10_no) := goodIn_app (goodIn_of _ (by decide +kernel)) ggX10_sheet_X10_no
theorem dX10_sheet_0 : decode cX10_sheet 0 = .ok (.iload_n 1, 1) := by decide +kernel
theorem dX10_sheet_1 : decode cX10_sheet 1 = .ok (.invokestatic 278, 3) := by decide +kernel
theorem dX10_sheet_4 : decode cX10_sheet 4 = .ok (.ifCond .eq 25, 3) := by decide +kernel
theorem dX10_sheet_7 : decode cX10_sheet 7 = .ok (.iload_n 2, 1) := by decide +kernel
theorem dX10_sheet_8 : decode cX10_sheet 8 = .ok (.ifCond .eq 27, 3) := by decide +kernel
theorem dX10_sheet_11 : decode cX10_sheet 11 = .ok (.iload_n 2, 1) := by decide +kernel
theorem dX10_sheet_12 : decode cX10_sheet 12 = .ok (.bipush 8, 2) := by decide +kernel
theorem dX10_sheet_14 : decode cX10_sheet 14 = .ok (.if_icmp .eq 21, 3) := by decide +kernel
theorem dX10_sheet_17 : decode cX10_sheet 17 = .ok (.iload_n 2, 1) := by decide +kernel
theorem dX10_sheet_18 : decode cX10_sheet 18 = .ok (.bipush 16, 2) := by decide +kernel
theorem dX10_sheet_20 : decode cX10_sheet 20 = .ok (.if_icmp .eq 15, 3) := by decide +kernel
theorem dX10_sheet_23 : decode cX10_sheet 23 = .ok (.iload_n 2, 1) := by decide +kernel
theorem dX10_sheet_24 : decode cX10_sheet 24 = .ok (.bipush 64, 2) := by decide +kernel
theorem dX10_sheet_26 : decode cX10_sheet 26 = .ok (.if_icmp .eq 9, 3) := by decide +kernel
theorem dX10_sheet_29 : decode cX10_sheet 29 = .ok (.aload_n 0, 1) := by decide +kernel
theorem dX10_sheet_30 : decode cX10_sheet 30 = .ok (.iconst 0, 1) := by decide +kernel
theorem dX10_sheet_31 : decode cX10_sheet 31 = .ok (.invokevirtual 89, 3) := by decide +kernel
theorem dX10_sheet_34 : decode cX10_sheet 34 = .ok (.ireturn, 1) := by decide +kernel
theorem dX10_sheet_35 : decode cX10_sheet 35 = .ok (.iload_n 3, 1) := by decide +kernel
theorem dX10_sheet_36 : decode cX10_sheet 36 = .ok (.ifCond .ge 10, 3) := by decide +kernel
theorem dX10_sheet_39 : decode cX10_sheet 39 = .ok (.aload_n 0, 1) := by decide +kernel
theorem dX10_sheet_40 : decode cX10_sheet 40 = .ok (.bipush 6, 2) := by decide +kernel
theorem dX10_sheet_42 : decode cX10_sheet 42 = .ok (.invokevirtual 89, 3) := by decide +kernel
theorem dX10_sheet_45 : decode cX10_sheet 45 = .ok (.ireturn, 1) := by decide +kernel
theorem dX10_sheet_46 : decode cX10_sheet 46 = .ok (.iload_n 3, 1) := by decide +kernel
theorem dX10_sheet_47 : decode cX10_sheet 47 = .ok (.bipush 40, 2) := by decide +kernel
theorem dX10_sheet_49 : decode cX10_sheet 49 = .ok (.if_icmp .le 9, 3) := by decide +kernel
theorem dX10_sheet_52 : decode cX10_sheet 52 = .ok (.aload_n 0, 1) := by decide +kernel
theorem dX10_sheet_53 : decode cX10_sheet 53 = .ok (.iconst 0, 1) := by decide +kernel
theorem dX10_sheet_54 : decode cX10_sheet 54 = .ok (.invokevirtual 89, 3) := by decide +kernel
theorem dX10_sheet_57 : decode cX10_sheet 57 = .ok (.ireturn, 1) := by decide +kernel
theorem dX10_sheet_58 : decode cX10_sheet 58 = .ok (.aload_n 0, 1) := by decide +kernel
theorem dX10_sheet_59 : decode cX10_sheet 59 = .ok (.getfield 34, 3) := by decide +kernel
theorem dX10_sheet_62 : decode cX10_sheet 62 = .ok (.iload_n 1, 1) := by decide +kernel
theorem dX10_sheet_63 : decode cX10_sheet 63 = .ok (.iload_n 2, 1) := by decide +kernel
theorem dX10_sheet_64 : decode cX10_sheet 64 = .ok (.iastore, 1) := by decide +kernel
theorem dX10_sheet_65 : decode cX10_sheet 65 = .ok (.aload_n 0, 1) := by decide +kernel
theorem dX10_sheet_66 : decode cX10_sheet 66 = .ok (.getfield 37, 3) := by decide +kernel
theorem dX10_sheet_69 : decode cX10_sheet 69 = .ok (.iload_n 1, 1) := by decide +kernel
theorem dX10_sheet_70 : decode cX10_sheet 70 = .ok (.iload_n 2, 1) := by decide +kernel
theorem dX10_sheet_71 : decode cX10_sheet 71 = .ok (.ifCond .ne 7, 3) := by decide +kernel
theorem dX10_sheet_74 : decode cX10_sheet 74 = .ok (.iconst 0, 1) := by decide +kernel
theorem dX10_sheet_75 : decode cX10_sheet 75 = .ok (.goto 4, 3) := by decide +kernel
theorem dX10_sheet_78 : decode cX10_sheet 78 = .ok (.iload_n 3, 1) := by decide +kernel
theorem dX10_sheet_79 : decode cX10_sheet 79 = .ok (.iastore, 1) := by decide +kernel
theorem dX10_sheet_80 : decode cX10_sheet 80 = .ok (.iconst 0, 1) := by decide +kernel
theorem dX10_sheet_81 : decode cX10_sheet 81 = .ok (.istore 4, 2) := by decide +kernel
theorem dX10_sheet_83 : decode cX10_sheet 83 = .ok (.iload 4, 2) := by decide +kernel
theorem dX10_sheet_85 : decode cX10_sheet 85 = .ok (.bipush 40, 2) := by decide +kernel
theorem dX10_sheet_87 : decode cX10_sheet 87 = .ok (.if_icmp .ge 22, 3) := by decide +kernel
theorem dX10_sheet_90 : decode cX10_sheet 90 = .ok (.aload_n 0, 1) := by decide +kernel
theorem dX10_sheet_91 : decode cX10_sheet 91 = .ok (.getfield 40, 3) := by decide +kernel
theorem dX10_sheet_94 : decode cX10_sheet 94 = .ok (.bipush 40, 2) := by decide +kernel
theorem dX10_sheet_96 : decode cX10_sheet 96 = .ok (.iload_n 1, 1) := by decide +kernel
theorem dX10_sheet_97 : decode cX10_sheet 97 = .ok (.imul, 1) := by decide +kernel
theorem dX10_sheet_98 : decode cX10_sheet 98 = .ok (.iload 4, 2) := by decide +kernel
theorem dX10_sheet_100 : decode cX10_sheet 100 = .ok (.iadd, 1) := by decide +kernel
theorem dX10_sheet_101 : decode cX10_sheet 101 = .ok (.lconst 0, 1) := by decide +kernel
theorem dX10_sheet_102 : decode cX10_sheet 102 = .ok (.lastore, 1) := by decide +kernel
theorem dX10_sheet_103 : decode cX10_sheet 103 = .ok (.iinc 4 1, 3) := by decide +kernel
theorem dX10_sheet_106 : decode cX10_sheet 106 = .ok (.goto (-23), 3) := by decide +kernel
theorem dX10_sheet_109 : decode cX10_sheet 109 = .ok (.aload_n 0, 1) := by decide +kernel
theorem dX10_sheet_110 : decode cX10_sheet 110 = .ok (.getfield 37, 3) := by decide +kernel
theorem dX10_sheet_113 : decode cX10_sheet 113 = .ok (.iload_n 1, 1) := by decide +kernel
theorem dX10_sheet_114 : decode cX10_sheet 114 = .ok (.iaload, 1) := by decide +kernel
theorem dX10_sheet_115 : decode cX10_sheet 115 = .ok (.ireturn, 1) := by decide +kernel
theorem dX10_writes_0 : decode cX10_writes 0 = .ok (.aload_n 0, 1) := by decide +kernel
theorem dX10_writes_1 : decode cX10_writes 1 = .ok (.getfield 40, 3) := by decide +kernel
theorem dX10_writes_4 : decode cX10_writes 4 = .ok (.bipush 40, 2) := by decide +kernel
theorem dX10_writes_6 : decode cX10_writes 6 = .ok (.iload_n 1, 1) := by decide +kernel
theorem dX10_writes_7 : decode cX10_writes 7 = .ok (.imul, 1) := by decide +kernel
theorem dX10_writes_8 : decode cX10_writes 8 = .ok (.iload_n 2, 1) := by decide +kernel
theorem dX10_writes_9 : decode cX10_writes 9 = .ok (.iadd, 1) := by decide +kernel
theorem dX10_writes_10 : decode cX10_writes 10 = .ok (.aload_n 0, 1) := by decide +kernel
theorem dX10_writes_11 : decode cX10_writes 11 = .ok (.getfield 34, 3) := by decide +kernel
theorem dX10_writes_14 : decode cX10_writes 14 = .ok (.iload_n 1, 1) := by decide +kernel
theorem dX10_writes_15 : decode cX10_writes 15 = .ok (.iaload, 1) := by decide +kernel
theorem dX10_writes_16 : decode cX10_writes 16 = .ok (.bipush 8, 2) := by decide +kernel
theorem dX10_writes_18 : decode cX10_writes 18 = .ok (.if_icmp .ne 10, 3) := by decide +kernel
theorem dX10_writes_21 : decode cX10_writes 21 = .ok (.lload_n 3, 1) := by decide +kernel
theorem dX10_writes_22 : decode cX10_writes 22 = .ok (.l2i, 1) := by decide +kernel
theorem dX10_writes_23 : decode cX10_writes 23 = .ok (.i2b, 1) := by decide +kernel
theorem dX10_writes_24 : decode cX10_writes 24 = .ok (.i2l, 1) := by decide +kernel
theorem dX10_writes_25 : decode cX10_writes 25 = .ok (.goto 22, 3) := by decide +kernel
theorem dX10_writes_28 : decode cX10_writes 28 = .ok (.aload_n 0, 1) := by decide +kernel
theorem dX10_writes_29 : decode cX10_writes 29 = .ok (.getfield 34, 3) := by decide +kernel
theorem dX10_writes_32 : decode cX10_writes 32 = .ok (.iload_n 1, 1) := by decide +kernel
theorem dX10_writes_33 : decode cX10_writes 33 = .ok (.iaload, 1) := by decide +kernel
theorem dX10_writes_34 : decode cX10_writes 34 = .ok (.bipush 16, 2) := by decide +kernel
theorem dX10_writes_36 : decode cX10_writes 36 = .ok (.if_icmp .ne 10, 3) := by decide +kernel
theorem dX10_writes_39 : decode cX10_writes 39 = .ok (.lload_n 3, 1) := by decide +kernel
theorem dX10_writes_40 : decode cX10_writes 40 = .ok (.l2i, 1) := by decide +kernel
theorem dX10_writes_41 : decode cX10_writes 41 = .ok (.i2s, 1) := by decide +kernel
theorem dX10_writes_42 : decode cX10_writes 42 = .ok (.i2l, 1) := by decide +kernel
theorem dX10_writes_43 : decode cX10_writes 43 = .ok (.goto 4, 3) := by decide +kernel
theorem dX10_writes_46 : decode cX10_writes 46 = .ok (.lload_n 3, 1) := by decide +kernel
theorem dX10_writes_47 : decode cX10_writes 47 = .ok (.lastore, 1) := by decide +kernel
theorem dX10_writes_48 : decode cX10_writes 48 = .ok (.return_, 1) := by decide +kernel
set_option maxRecDepth 20000 in
theorem ggX10_write_X10_isSheet : GoodIn wsX10_write wsX10_isSheet := goodIn_r _ [7, 8, 9, 6, 10] (by decide +kernel) (by decide +kernel)
set_option maxRecDepth 20000 in
theorem gX10_write_X10_isSheet : GoodIn wsX10_write (va_wsS RX10 278 yX10_isSheet wsX10_isSheet) := goodIn_app (goodIn_of _ (by decide +kernel)) ggX10_write_X10_isSheet
set_option maxRecDepth 20000 in
theorem ggX10_write_X10_no : GoodIn wsX10_write wsX10_no := goodIn_r _ [14, 15, 16, 21, 22, 23, 24, 25, 26, 27, 28, 29, 30, 31, 32, 33, 34, 35, 36, 37, 38] (by decide +kernel) (by decide +kernel)
set_option maxRecDepth 20000 in
theorem gX10_write_X10_no : GoodIn wsX10_write (wsV RX10 89 RX10 yX10_no wsX10_no) := goodIn_app (goodIn_of _ (by decide +kernel)) ggX10_write_X10_no
set_option maxRecDepth 20000 in
theorem ggX10_write_X10_in : GoodIn wsX10_write wsX10_in := goodIn_r _ [10] (by decide +kernel) (by decide +kernel)
set_option maxRecDepth 20000 in
theorem gX10_write_X10_in : GoodIn wsX10_write (va_wsS RX10 48 yX10_in wsX10_in) := goodIn_app (goodIn_of _ (by decide +kernel)) ggX10_write_X10_in
set_option maxRecDepth 20000 in
theorem ggX10_write_X10_writes : GoodIn wsX10_write wsX10_writes := goodIn_r _ [20, 3, 1, 21, 22, 23, 24, 25, 26, 27, 28, 29, 30, 31, 32, 33, 34, 35, 36, 37, 38] (by decide +kernel) (by decide +kernel)
set_option maxRecDepth 20000 in
theorem gX10_write_X10_writes : GoodIn wsX10_write (wsV RX10 281 RX10 yX10_writes wsX10_writes) := goodIn_app (goodIn_of _ (by decide +kernel)) ggX10_write_X10_writes
theorem dX10_write_0 : decode cX10_write 0 = .ok (.iload_n 1, 1) := by decide +kernel
theorem dX10_write_1 : decode cX10_write 1 = .ok (.invokestatic 278, 3) := by decide +kernel
theorem dX10_write_4 : decode cX10_write 4 = .ok (.ifCond .ne 10, 3) := by decide +kernel
theorem dX10_write_7 : decode cX10_write 7 = .ok (.aload_n 0, 1) := by decide +kernel
theorem dX10_write_8 : decode cX10_write 8 = .ok (.iconst 0, 1) := by decide +kernel
theorem dX10_write_9 : decode cX10_write 9 = .ok (.invokevirtual 89, 3) := by decide +kernel
theorem dX10_write_12 : decode cX10_write 12 = .ok (.i2l, 1) := by decide +kernel
theorem dX10_write_13 : decode cX10_write 13 = .ok (.lreturn, 1) := by decide +kernel
theorem dX10_write_14 : decode cX10_write 14 = .ok (.aload_n 0, 1) := by decide +kernel
theorem dX10_write_15 : decode cX10_write 15 = .ok (.getfield 34, 3) := by decide +kernel
theorem dX10_write_18 : decode cX10_write 18 = .ok (.iload_n 1, 1) := by decide +kernel
theorem dX10_write_19 : decode cX10_write 19 = .ok (.iaload, 1) := by decide +kernel
theorem dX10_write_20 : decode cX10_write 20 = .ok (.ifCond .ne 10, 3) := by decide +kernel
theorem dX10_write_23 : decode cX10_write 23 = .ok (.aload_n 0, 1) := by decide +kernel
theorem dX10_write_24 : decode cX10_write 24 = .ok (.iconst 5, 1) := by decide +kernel
theorem dX10_write_25 : decode cX10_write 25 = .ok (.invokevirtual 89, 3) := by decide +kernel
theorem dX10_write_28 : decode cX10_write 28 = .ok (.i2l, 1) := by decide +kernel
theorem dX10_write_29 : decode cX10_write 29 = .ok (.lreturn, 1) := by decide +kernel
theorem dX10_write_30 : decode cX10_write 30 = .ok (.iload_n 2, 1) := by decide +kernel
theorem dX10_write_31 : decode cX10_write 31 = .ok (.iconst 0, 1) := by decide +kernel
theorem dX10_write_32 : decode cX10_write 32 = .ok (.aload_n 0, 1) := by decide +kernel
theorem dX10_write_33 : decode cX10_write 33 = .ok (.getfield 37, 3) := by decide +kernel
theorem dX10_write_36 : decode cX10_write 36 = .ok (.iload_n 1, 1) := by decide +kernel
theorem dX10_write_37 : decode cX10_write 37 = .ok (.iaload, 1) := by decide +kernel
theorem dX10_write_38 : decode cX10_write 38 = .ok (.iconst 1, 1) := by decide +kernel
theorem dX10_write_39 : decode cX10_write 39 = .ok (.isub, 1) := by decide +kernel
theorem dX10_write_40 : decode cX10_write 40 = .ok (.invokestatic 48, 3) := by decide +kernel
theorem dX10_write_43 : decode cX10_write 43 = .ok (.ifCond .ne 10, 3) := by decide +kernel
theorem dX10_write_46 : decode cX10_write 46 = .ok (.aload_n 0, 1) := by decide +kernel
theorem dX10_write_47 : decode cX10_write 47 = .ok (.iconst 0, 1) := by decide +kernel
theorem dX10_write_48 : decode cX10_write 48 = .ok (.invokevirtual 89, 3) := by decide +kernel
theorem dX10_write_51 : decode cX10_write 51 = .ok (.i2l, 1) := by decide +kernel
theorem dX10_write_52 : decode cX10_write 52 = .ok (.lreturn, 1) := by decide +kernel
theorem dX10_write_53 : decode cX10_write 53 = .ok (.aload_n 0, 1) := by decide +kernel
theorem dX10_write_54 : decode cX10_write 54 = .ok (.getfield 40, 3) := by decide +kernel
theorem dX10_write_57 : decode cX10_write 57 = .ok (.bipush 40, 2) := by decide +kernel
theorem dX10_write_59 : decode cX10_write 59 = .ok (.iload_n 1, 1) := by decide +kernel
theorem dX10_write_60 : decode cX10_write 60 = .ok (.imul, 1) := by decide +kernel
theorem dX10_write_61 : decode cX10_write 61 = .ok (.iload_n 2, 1) := by decide +kernel
theorem dX10_write_62 : decode cX10_write 62 = .ok (.iadd, 1) := by decide +kernel
theorem dX10_write_63 : decode cX10_write 63 = .ok (.laload, 1) := by decide +kernel
theorem dX10_write_64 : decode cX10_write 64 = .ok (.lstore 5, 2) := by decide +kernel
theorem dX10_write_66 : decode cX10_write 66 = .ok (.aload_n 0, 1) := by decide +kernel
theorem dX10_write_67 : decode cX10_write 67 = .ok (.iload_n 1, 1) := by decide +kernel
theorem dX10_write_68 : decode cX10_write 68 = .ok (.iload_n 2, 1) := by decide +kernel
theorem dX10_write_69 : decode cX10_write 69 = .ok (.lload_n 3, 1) := by decide +kernel
theorem dX10_write_70 : decode cX10_write 70 = .ok (.invokevirtual 281, 3) := by decide +kernel
theorem dX10_write_73 : decode cX10_write 73 = .ok (.lload 5, 2) := by decide +kernel
theorem dX10_write_75 : decode cX10_write 75 = .ok (.lreturn, 1) := by decide +kernel
set_option maxRecDepth 20000 in
theorem ggX10_copy_X10_isSheet : GoodIn wsX10_copy wsX10_isSheet := goodIn_r _ [8, 9, 10, 7, 11] (by decide +kernel) (by decide +kernel)
set_option maxRecDepth 20000 in
theorem gX10_copy_X10_isSheet : GoodIn wsX10_copy (va_wsS RX10 278 yX10_isSheet wsX10_isSheet) := goodIn_app (goodIn_of _ (by decide +kernel)) ggX10_copy_X10_isSheet
set_option maxRecDepth 20000 in
theorem ggX10_copy_X10_no : GoodIn wsX10_copy wsX10_no := goodIn_r _ [15, 16, 17, 18, 19, 20, 21, 22, 23, 24, 25, 26, 27, 28, 29, 30, 31, 32, 33, 34, 35] (by decide +kernel) (by decide +kernel)
set_option maxRecDepth 20000 in
theorem gX10_copy_X10_no : GoodIn wsX10_copy (wsV RX10 89 RX10 yX10_no wsX10_no) := goodIn_app (goodIn_of _ (by decide +kernel)) ggX10_copy_X10_no
theorem dX10_copy_0 : decode cX10_copy 0 = .ok (.iload_n 1, 1) := by decide +kernel
theorem dX10_copy_1 : decode cX10_copy 1 = .ok (.invokestatic 278, 3) := by decide +kernel
theorem dX10_copy_4 : decode cX10_copy 4 = .ok (.ifCond .eq 10, 3) := by decide +kernel
theorem dX10_copy_7 : decode cX10_copy 7 = .ok (.iload_n 3, 1) := by decide +kernel
theorem dX10_copy_8 : decode cX10_copy 8 = .ok (.invokestatic 278, 3) := by decide +kernel
theorem dX10_copy_11 : decode cX10_copy 11 = .ok (.ifCond .ne 9, 3) := by decide +kernel
theorem dX10_copy_14 : decode cX10_copy 14 = .ok (.aload_n 0, 1) := by decide +kernel
theorem dX10_copy_15 : decode cX10_copy 15 = .ok (.iconst 0, 1) := by decide +kernel
theorem dX10_copy_16 : decode cX10_copy 16 = .ok (.invokevirtual 89, 3) := by decide +kernel
theorem dX10_copy_19 : decode cX10_copy 19 = .ok (.ireturn, 1) := by decide +kernel
theorem dX10_copy_20 : decode cX10_copy 20 = .ok (.aload_n 0, 1) := by decide +kernel
theorem dX10_copy_21 : decode cX10_copy 21 = .ok (.getfield 34, 3) := by decide +kernel
theorem dX10_copy_24 : decode cX10_copy 24 = .ok (.iload_n 1, 1) := by decide +kernel
theorem dX10_copy_25 : decode cX10_copy 25 = .ok (.iaload, 1) := by decide +kernel
theorem dX10_copy_26 : decode cX10_copy 26 = .ok (.ifCond .eq 12, 3) := by decide +kernel
theorem dX10_copy_29 : decode cX10_copy 29 = .ok (.aload_n 0, 1) := by decide +kernel
theorem dX10_copy_30 : decode cX10_copy 30 = .ok (.getfield 34, 3) := by decide +kernel
theorem dX10_copy_33 : decode cX10_copy 33 = .ok (.iload_n 3, 1) := by decide +kernel
theorem dX10_copy_34 : decode cX10_copy 34 = .ok (.iaload, 1) := by decide +kernel
theorem dX10_copy_35 : decode cX10_copy 35 = .ok (.ifCond .ne 9, 3) := by decide +kernel
theorem dX10_copy_38 : decode cX10_copy 38 = .ok (.aload_n 0, 1) := by decide +kernel
theorem dX10_copy_39 : decode cX10_copy 39 = .ok (.iconst 5, 1) := by decide +kernel
theorem dX10_copy_40 : decode cX10_copy 40 = .ok (.invokevirtual 89, 3) := by decide +kernel
theorem dX10_copy_43 : decode cX10_copy 43 = .ok (.ireturn, 1) := by decide +kernel
theorem dX10_copy_44 : decode cX10_copy 44 = .ok (.aload_n 0, 1) := by decide +kernel
theorem dX10_copy_45 : decode cX10_copy 45 = .ok (.getfield 34, 3) := by decide +kernel
theorem dX10_copy_48 : decode cX10_copy 48 = .ok (.iload_n 1, 1) := by decide +kernel
theorem dX10_copy_49 : decode cX10_copy 49 = .ok (.iaload, 1) := by decide +kernel
theorem dX10_copy_50 : decode cX10_copy 50 = .ok (.aload_n 0, 1) := by decide +kernel
theorem dX10_copy_51 : decode cX10_copy 51 = .ok (.getfield 34, 3) := by decide +kernel
theorem dX10_copy_54 : decode cX10_copy 54 = .ok (.iload_n 3, 1) := by decide +kernel
theorem dX10_copy_55 : decode cX10_copy 55 = .ok (.iaload, 1) := by decide +kernel
theorem dX10_copy_56 : decode cX10_copy 56 = .ok (.if_icmp .eq 9, 3) := by decide +kernel
theorem dX10_copy_59 : decode cX10_copy 59 = .ok (.aload_n 0, 1) := by decide +kernel
theorem dX10_copy_60 : decode cX10_copy 60 = .ok (.iconst 2, 1) := by decide +kernel
theorem dX10_copy_61 : decode cX10_copy 61 = .ok (.invokevirtual 89, 3) := by decide +kernel
theorem dX10_copy_64 : decode cX10_copy 64 = .ok (.ireturn, 1) := by decide +kernel
theorem dX10_copy_65 : decode cX10_copy 65 = .ok (.iload 5, 2) := by decide +kernel
theorem dX10_copy_67 : decode cX10_copy 67 = .ok (.ifCond .lt 39, 3) := by decide +kernel
theorem dX10_copy_70 : decode cX10_copy 70 = .ok (.iload_n 2, 1) := by decide +kernel
theorem dX10_copy_71 : decode cX10_copy 71 = .ok (.ifCond .lt 35, 3) := by decide +kernel
theorem dX10_copy_74 : decode cX10_copy 74 = .ok (.iload 4, 2) := by decide +kernel
theorem dX10_copy_76 : decode cX10_copy 76 = .ok (.ifCond .lt 30, 3) := by decide +kernel
theorem dX10_copy_79 : decode cX10_copy 79 = .ok (.iload_n 2, 1) := by decide +kernel
theorem dX10_copy_80 : decode cX10_copy 80 = .ok (.aload_n 0, 1) := by decide +kernel
theorem dX10_copy_81 : decode cX10_copy 81 = .ok (.getfield 37, 3) := by decide +kernel
theorem dX10_copy_84 : decode cX10_copy 84 = .ok (.iload_n 1, 1) := by decide +kernel
theorem dX10_copy_85 : decode cX10_copy 85 = .ok (.iaload, 1) := by decide +kernel
theorem dX10_copy_86 : decode cX10_copy 86 = .ok (.iload 5, 2) := by decide +kernel
theorem dX10_copy_88 : decode cX10_copy 88 = .ok (.isub, 1) := by decide +kernel
theorem dX10_copy_89 : decode cX10_copy 89 = .ok (.if_icmp .gt 17, 3) := by decide +kernel
theorem dX10_copy_92 : decode cX10_copy 92 = .ok (.iload 4, 2) := by decide +kernel
theorem dX10_copy_94 : decode cX10_copy 94 = .ok (.aload_n 0, 1) := by decide +kernel
theorem dX10_copy_95 : decode cX10_copy 95 = .ok (.getfield 37, 3) := by decide +kernel
theorem dX10_copy_98 : decode cX10_copy 98 = .ok (.iload_n 3, 1) := by decide +kernel
theorem dX10_copy_99 : decode cX10_copy 99 = .ok (.iaload, 1) := by decide +kernel
theorem dX10_copy_100 : decode cX10_copy 100 = .ok (.iload 5, 2) := by decide +kernel
theorem dX10_copy_102 : decode cX10_copy 102 = .ok (.isub, 1) := by decide +kernel
theorem dX10_copy_103 : decode cX10_copy 103 = .ok (.if_icmp .le 9, 3) := by decide +kernel
theorem dX10_copy_106 : decode cX10_copy 106 = .ok (.aload_n 0, 1) := by decide +kernel
theorem dX10_copy_107 : decode cX10_copy 107 = .ok (.iconst 0, 1) := by decide +kernel
theorem dX10_copy_108 : decode cX10_copy 108 = .ok (.invokevirtual 89, 3) := by decide +kernel
theorem dX10_copy_111 : decode cX10_copy 111 = .ok (.ireturn, 1) := by decide +kernel
theorem dX10_copy_112 : decode cX10_copy 112 = .ok (.iconst 0, 1) := by decide +kernel
theorem dX10_copy_113 : decode cX10_copy 113 = .ok (.istore 6, 2) := by decide +kernel
theorem dX10_copy_115 : decode cX10_copy 115 = .ok (.iload 6, 2) := by decide +kernel
theorem dX10_copy_117 : decode cX10_copy 117 = .ok (.iload 5, 2) := by decide +kernel
theorem dX10_copy_119 : decode cX10_copy 119 = .ok (.if_icmp .ge 30, 3) := by decide +kernel
theorem dX10_copy_122 : decode cX10_copy 122 = .ok (.aload_n 0, 1) := by decide +kernel
theorem dX10_copy_123 : decode cX10_copy 123 = .ok (.getfield 44, 3) := by decide +kernel
theorem dX10_copy_126 : decode cX10_copy 126 = .ok (.iload 6, 2) := by decide +kernel
theorem dX10_copy_128 : decode cX10_copy 128 = .ok (.aload_n 0, 1) := by decide +kernel
theorem dX10_copy_129 : decode cX10_copy 129 = .ok (.getfield 40, 3) := by decide +kernel
theorem dX10_copy_132 : decode cX10_copy 132 = .ok (.bipush 40, 2) := by decide +kernel
theorem dX10_copy_134 : decode cX10_copy 134 = .ok (.iload_n 1, 1) := by decide +kernel
theorem dX10_copy_135 : decode cX10_copy 135 = .ok (.imul, 1) := by decide +kernel
theorem dX10_copy_136 : decode cX10_copy 136 = .ok (.iload_n 2, 1) := by decide +kernel
theorem dX10_copy_137 : decode cX10_copy 137 = .ok (.iadd, 1) := by decide +kernel
theorem dX10_copy_138 : decode cX10_copy 138 = .ok (.iload 6, 2) := by decide +kernel
theorem dX10_copy_140 : decode cX10_copy 140 = .ok (.iadd, 1) := by decide +kernel
theorem dX10_copy_141 : decode cX10_copy 141 = .ok (.laload, 1) := by decide +kernel
theorem dX10_copy_142 : decode cX10_copy 142 = .ok (.lastore, 1) := by decide +kernel
theorem dX10_copy_143 : decode cX10_copy 143 = .ok (.iinc 6 1, 3) := by decide +kernel
theorem dX10_copy_146 : decode cX10_copy 146 = .ok (.goto (-31), 3) := by decide +kernel
theorem dX10_copy_149 : decode cX10_copy 149 = .ok (.iconst 0, 1) := by decide +kernel
theorem dX10_copy_150 : decode cX10_copy 150 = .ok (.istore 6, 2) := by decide +kernel
theorem dX10_copy_152 : decode cX10_copy 152 = .ok (.iload 6, 2) := by decide +kernel
theorem dX10_copy_154 : decode cX10_copy 154 = .ok (.iload 5, 2) := by decide +kernel
theorem dX10_copy_156 : decode cX10_copy 156 = .ok (.if_icmp .ge 31, 3) := by decide +kernel
theorem dX10_copy_159 : decode cX10_copy 159 = .ok (.aload_n 0, 1) := by decide +kernel
theorem dX10_copy_160 : decode cX10_copy 160 = .ok (.getfield 40, 3) := by decide +kernel
theorem dX10_copy_163 : decode cX10_copy 163 = .ok (.bipush 40, 2) := by decide +kernel
theorem dX10_copy_165 : decode cX10_copy 165 = .ok (.iload_n 3, 1) := by decide +kernel
theorem dX10_copy_166 : decode cX10_copy 166 = .ok (.imul, 1) := by decide +kernel
theorem dX10_copy_167 : decode cX10_copy 167 = .ok (.iload 4, 2) := by decide +kernel
theorem dX10_copy_169 : decode cX10_copy 169 = .ok (.iadd, 1) := by decide +kernel
theorem dX10_copy_170 : decode cX10_copy 170 = .ok (.iload 6, 2) := by decide +kernel
theorem dX10_copy_172 : decode cX10_copy 172 = .ok (.iadd, 1) := by decide +kernel
theorem dX10_copy_173 : decode cX10_copy 173 = .ok (.aload_n 0, 1) := by decide +kernel
theorem dX10_copy_174 : decode cX10_copy 174 = .ok (.getfield 44, 3) := by decide +kernel
theorem dX10_copy_177 : decode cX10_copy 177 = .ok (.iload 6, 2) := by decide +kernel
theorem dX10_copy_179 : decode cX10_copy 179 = .ok (.laload, 1) := by decide +kernel
theorem dX10_copy_180 : decode cX10_copy 180 = .ok (.lastore, 1) := by decide +kernel
theorem dX10_copy_181 : decode cX10_copy 181 = .ok (.iinc 6 1, 3) := by decide +kernel
theorem dX10_copy_184 : decode cX10_copy 184 = .ok (.goto (-32), 3) := by decide +kernel
theorem dX10_copy_187 : decode cX10_copy 187 = .ok (.iload 5, 2) := by decide +kernel
theorem dX10_copy_189 : decode cX10_copy 189 = .ok (.ireturn, 1) := by decide +kernel
set_option maxRecDepth 20000 in
theorem ggX10_lays_X10_isSheet : GoodIn wsX10_lays wsX10_isSheet := goodIn_r _ [9, 10, 11, 8, 12] (by decide +kernel) (by decide +kernel)
set_option maxRecDepth 20000 in
theorem gX10_lays_X10_isSheet : GoodIn wsX10_lays (va_wsS RX10 278 yX10_isSheet wsX10_isSheet) := goodIn_app (goodIn_of _ (by decide +kernel)) ggX10_lays_X10_isSheet
set_option maxRecDepth 20000 in
theorem ggX10_lays_X10_no : GoodIn wsX10_lays wsX10_no := goodIn_r _ [16, 17, 18, 19, 20, 21, 22, 23, 24, 25, 26, 27, 28, 29, 30, 31, 32, 33, 34, 35, 36] (by decide +kernel) (by decide +kernel)
set_option maxRecDepth 20000 in
theorem gX10_lays_X10_no : GoodIn wsX10_lays (wsV RX10 89 RX10 yX10_no wsX10_no) := goodIn_app (goodIn_of _ (by decide +kernel)) ggX10_lays_X10_no
theorem dX10_lays_0 : decode cX10_lays 0 = .ok (.iload_n 1, 1) := by decide +kernel
theorem dX10_lays_1 : decode cX10_lays 1 = .ok (.invokestatic 278, 3) := by decide +kernel
theorem dX10_lays_4 : decode cX10_lays 4 = .ok (.ifCond .ne 9, 3) := by decide +kernel
theorem dX10_lays_7 : decode cX10_lays 7 = .ok (.aload_n 0, 1) := by decide +kernel
theorem dX10_lays_8 : decode cX10_lays 8 = .ok (.iconst 0, 1) := by decide +kernel
theorem dX10_lays_9 : decode cX10_lays 9 = .ok (.invokevirtual 89, 3) := by decide +kernel
theorem dX10_lays_12 : decode cX10_lays 12 = .ok (.ireturn, 1) := by decide +kernel
theorem dX10_lays_13 : decode cX10_lays 13 = .ok (.aload_n 0, 1) := by decide +kernel
theorem dX10_lays_14 : decode cX10_lays 14 = .ok (.getfield 34, 3) := by decide +kernel
theorem dX10_lays_17 : decode cX10_lays 17 = .ok (.iload_n 1, 1) := by decide +kernel
theorem dX10_lays_18 : decode cX10_lays 18 = .ok (.iaload, 1) := by decide +kernel
theorem dX10_lays_19 : decode cX10_lays 19 = .ok (.ifCond .ne 9, 3) := by decide +kernel
theorem dX10_lays_22 : decode cX10_lays 22 = .ok (.aload_n 0, 1) := by decide +kernel
theorem dX10_lays_23 : decode cX10_lays 23 = .ok (.iconst 5, 1) := by decide +kernel
theorem dX10_lays_24 : decode cX10_lays 24 = .ok (.invokevirtual 89, 3) := by decide +kernel
theorem dX10_lays_27 : decode cX10_lays 27 = .ok (.ireturn, 1) := by decide +kernel
theorem dX10_lays_28 : decode cX10_lays 28 = .ok (.iconst 0, 1) := by decide +kernel
theorem dX10_lays_29 : decode cX10_lays 29 = .ok (.istore_n 2, 1) := by decide +kernel
theorem dX10_lays_30 : decode cX10_lays 30 = .ok (.iconst 0, 1) := by decide +kernel
theorem dX10_lays_31 : decode cX10_lays 31 = .ok (.istore_n 3, 1) := by decide +kernel
theorem dX10_lays_32 : decode cX10_lays 32 = .ok (.iload_n 3, 1) := by decide +kernel
theorem dX10_lays_33 : decode cX10_lays 33 = .ok (.aload_n 0, 1) := by decide +kernel
theorem dX10_lays_34 : decode cX10_lays 34 = .ok (.getfield 37, 3) := by decide +kernel
theorem dX10_lays_37 : decode cX10_lays 37 = .ok (.iload_n 1, 1) := by decide +kernel
theorem dX10_lays_38 : decode cX10_lays 38 = .ok (.iaload, 1) := by decide +kernel
theorem dX10_lays_39 : decode cX10_lays 39 = .ok (.if_icmp .ge 58, 3) := by decide +kernel
theorem dX10_lays_42 : decode cX10_lays 42 = .ok (.iload_n 3, 1) := by decide +kernel
theorem dX10_lays_43 : decode cX10_lays 43 = .ok (.bipush 26, 2) := by decide +kernel
theorem dX10_lays_45 : decode cX10_lays 45 = .ok (.if_icmp .ge 52, 3) := by decide +kernel
theorem dX10_lays_48 : decode cX10_lays 48 = .ok (.aload_n 0, 1) := by decide +kernel
theorem dX10_lays_49 : decode cX10_lays 49 = .ok (.getfield 40, 3) := by decide +kernel
theorem dX10_lays_52 : decode cX10_lays 52 = .ok (.bipush 40, 2) := by decide +kernel
theorem dX10_lays_54 : decode cX10_lays 54 = .ok (.iload_n 1, 1) := by decide +kernel
theorem dX10_lays_55 : decode cX10_lays 55 = .ok (.imul, 1) := by decide +kernel
theorem dX10_lays_56 : decode cX10_lays 56 = .ok (.iload_n 3, 1) := by decide +kernel
theorem dX10_lays_57 : decode cX10_lays 57 = .ok (.iadd, 1) := by decide +kernel
theorem dX10_lays_58 : decode cX10_lays 58 = .ok (.laload, 1) := by decide +kernel
theorem dX10_lays_59 : decode cX10_lays 59 = .ok (.lstore 4, 2) := by decide +kernel
theorem dX10_lays_61 : decode cX10_lays 61 = .ok (.lload 4, 2) := by decide +kernel
theorem dX10_lays_63 : decode cX10_lays 63 = .ok (.lconst 0, 1) := by decide +kernel
theorem dX10_lays_64 : decode cX10_lays 64 = .ok (.lcmp, 1) := by decide +kernel
theorem dX10_lays_65 : decode cX10_lays 65 = .ok (.ifCond .lt 26, 3) := by decide +kernel
theorem dX10_lays_68 : decode cX10_lays 68 = .ok (.lload 4, 2) := by decide +kernel
theorem dX10_lays_70 : decode cX10_lays 70 = .ok (.ldc2_w 285, 3) := by decide +kernel
theorem dX10_lays_73 : decode cX10_lays 73 = .ok (.lcmp, 1) := by decide +kernel
theorem dX10_lays_74 : decode cX10_lays 74 = .ok (.ifCond .ge 17, 3) := by decide +kernel
theorem dX10_lays_77 : decode cX10_lays 77 = .ok (.aload_n 0, 1) := by decide +kernel
theorem dX10_lays_78 : decode cX10_lays 78 = .ok (.getfield 9, 3) := by decide +kernel
theorem dX10_lays_81 : decode cX10_lays 81 = .ok (.iconst 3, 1) := by decide +kernel
theorem dX10_lays_82 : decode cX10_lays 82 = .ok (.iload_n 3, 1) := by decide +kernel
theorem dX10_lays_83 : decode cX10_lays 83 = .ok (.iadd, 1) := by decide +kernel
theorem dX10_lays_84 : decode cX10_lays 84 = .ok (.lload 4, 2) := by decide +kernel
theorem dX10_lays_86 : decode cX10_lays 86 = .ok (.l2i, 1) := by decide +kernel
theorem dX10_lays_87 : decode cX10_lays 87 = .ok (.iastore, 1) := by decide +kernel
theorem dX10_lays_88 : decode cX10_lays 88 = .ok (.iinc 2 1, 3) := by decide +kernel
theorem dX10_lays_91 : decode cX10_lays 91 = .ok (.iinc 3 1, 3) := by decide +kernel
theorem dX10_lays_94 : decode cX10_lays 94 = .ok (.goto (-62), 3) := by decide +kernel
theorem dX10_lays_97 : decode cX10_lays 97 = .ok (.iload_n 2, 1) := by decide +kernel
theorem dX10_lays_98 : decode cX10_lays 98 = .ok (.ireturn, 1) := by decide +kernel
set_option maxRecDepth 20000 in
theorem ggX10_show_X10_isSheet : GoodIn wsX10_show wsX10_isSheet := goodIn_r _ [7, 8, 9, 6, 10] (by decide +kernel) (by decide +kernel)
set_option maxRecDepth 20000 in
theorem gX10_show_X10_isSheet : GoodIn wsX10_show (va_wsS RX10 278 yX10_isSheet wsX10_isSheet) := goodIn_app (goodIn_of _ (by decide +kernel)) ggX10_show_X10_isSheet
set_option maxRecDepth 20000 in
theorem ggX10_show_X10_no : GoodIn wsX10_show wsX10_no := goodIn_r _ [14, 15, 16, 48, 49, 50, 51, 52, 53, 54, 55, 56, 57, 58, 59, 60, 61, 62, 63, 64, 65] (by decide +kernel) (by decide +kernel)
set_option maxRecDepth 20000 in
theorem gX10_show_X10_no : GoodIn wsX10_show (wsV RX10 89 RX10 yX10_no wsX10_no) := goodIn_app (goodIn_of _ (by decide +kernel)) ggX10_show_X10_no
set_option maxRecDepth 20000 in
theorem ggX10_show_X10_shows : GoodIn wsX10_show wsX10_shows := goodIn_r _ [20, 3, 21, 22, 23, 6, 24, 25, 26, 27, 28, 29, 30, 31, 48, 49, 50, 51, 52, 53, 54, 55, 56, 57, 58, 59, 60, 61, 62, 63, 64, 65] (by decide +kernel) (by decide +kernel)
set_option maxRecDepth 20000 in
theorem gX10_show_X10_shows : GoodIn wsX10_show (wsV RX10 148 RX10 yX10_shows wsX10_shows) := goodIn_app (goodIn_of _ (by decide +kernel)) ggX10_show_X10_shows
set_option maxRecDepth 20000 in
theorem ggX10_show_X10_readAs : GoodIn wsX10_show wsX10_readAs := goodIn_r _ [35, 3, 36, 37, 38, 6, 39, 40, 41, 42, 48, 49, 50, 51, 52, 53, 54, 55, 56, 57, 58, 59, 60, 61, 62, 63, 64, 65] (by decide +kernel) (by decide +kernel)
set_option maxRecDepth 20000 in
theorem gX10_show_X10_readAs : GoodIn wsX10_show (wsV RX10 123 RX10 yX10_readAs wsX10_readAs) := goodIn_app (goodIn_of _ (by decide +kernel)) ggX10_show_X10_readAs
set_option maxRecDepth 20000 in
theorem ggX10_show_X10_writes : GoodIn wsX10_show wsX10_writes := goodIn_r _ [46, 47, 1, 48, 49, 50, 51, 52, 53, 54, 55, 56, 57, 58, 59, 60, 61, 62, 63, 64, 65] (by decide +kernel) (by decide +kernel)
set_option maxRecDepth 20000 in
theorem gX10_show_X10_writes : GoodIn wsX10_show (wsV RX10 281 RX10 yX10_writes wsX10_writes) := goodIn_app (goodIn_of _ (by decide +kernel)) ggX10_show_X10_writes
theorem dX10_show_0 : decode cX10_show 0 = .ok (.iload_n 1, 1) := by decide +kernel
theorem dX10_show_1 : decode cX10_show 1 = .ok (.invokestatic 278, 3) := by decide +kernel
theorem dX10_show_4 : decode cX10_show 4 = .ok (.ifCond .ne 9, 3) := by decide +kernel
theorem dX10_show_7 : decode cX10_show 7 = .ok (.aload_n 0, 1) := by decide +kernel
theorem dX10_show_8 : decode cX10_show 8 = .ok (.iconst 0, 1) := by decide +kernel
theorem dX10_show_9 : decode cX10_show 9 = .ok (.invokevirtual 89, 3) := by decide +kernel
theorem dX10_show_12 : decode cX10_show 12 = .ok (.ireturn, 1) := by decide +kernel
theorem dX10_show_13 : decode cX10_show 13 = .ok (.aload_n 0, 1) := by decide +kernel
theorem dX10_show_14 : decode cX10_show 14 = .ok (.getfield 34, 3) := by decide +kernel
theorem dX10_show_17 : decode cX10_show 17 = .ok (.iload_n 1, 1) := by decide +kernel
theorem dX10_show_18 : decode cX10_show 18 = .ok (.iaload, 1) := by decide +kernel
theorem dX10_show_19 : decode cX10_show 19 = .ok (.ifCond .ne 9, 3) := by decide +kernel
theorem dX10_show_22 : decode cX10_show 22 = .ok (.aload_n 0, 1) := by decide +kernel
theorem dX10_show_23 : decode cX10_show 23 = .ok (.iconst 5, 1) := by decide +kernel
theorem dX10_show_24 : decode cX10_show 24 = .ok (.invokevirtual 89, 3) := by decide +kernel
theorem dX10_show_27 : decode cX10_show 27 = .ok (.ireturn, 1) := by decide +kernel
theorem dX10_show_28 : decode cX10_show 28 = .ok (.aload_n 0, 1) := by decide +kernel
theorem dX10_show_29 : decode cX10_show 29 = .ok (.getfield 37, 3) := by decide +kernel
theorem dX10_show_32 : decode cX10_show 32 = .ok (.iload_n 1, 1) := by decide +kernel
theorem dX10_show_33 : decode cX10_show 33 = .ok (.iaload, 1) := by decide +kernel
theorem dX10_show_34 : decode cX10_show 34 = .ok (.aload_n 0, 1) := by decide +kernel
theorem dX10_show_35 : decode cX10_show 35 = .ok (.getfield 9, 3) := by decide +kernel
theorem dX10_show_38 : decode cX10_show 38 = .ok (.iconst 2, 1) := by decide +kernel
theorem dX10_show_39 : decode cX10_show 39 = .ok (.iaload, 1) := by decide +kernel
theorem dX10_show_40 : decode cX10_show 40 = .ok (.if_icmp .ge 12, 3) := by decide +kernel
theorem dX10_show_43 : decode cX10_show 43 = .ok (.aload_n 0, 1) := by decide +kernel
theorem dX10_show_44 : decode cX10_show 44 = .ok (.getfield 37, 3) := by decide +kernel
theorem dX10_show_47 : decode cX10_show 47 = .ok (.iload_n 1, 1) := by decide +kernel
theorem dX10_show_48 : decode cX10_show 48 = .ok (.iaload, 1) := by decide +kernel
theorem dX10_show_49 : decode cX10_show 49 = .ok (.goto 9, 3) := by decide +kernel
theorem dX10_show_52 : decode cX10_show 52 = .ok (.aload_n 0, 1) := by decide +kernel
theorem dX10_show_53 : decode cX10_show 53 = .ok (.getfield 9, 3) := by decide +kernel
theorem dX10_show_56 : decode cX10_show 56 = .ok (.iconst 2, 1) := by decide +kernel
theorem dX10_show_57 : decode cX10_show 57 = .ok (.iaload, 1) := by decide +kernel
theorem dX10_show_58 : decode cX10_show 58 = .ok (.istore_n 2, 1) := by decide +kernel
theorem dX10_show_59 : decode cX10_show 59 = .ok (.iconst 0, 1) := by decide +kernel
theorem dX10_show_60 : decode cX10_show 60 = .ok (.istore_n 3, 1) := by decide +kernel
theorem dX10_show_61 : decode cX10_show 61 = .ok (.iload_n 3, 1) := by decide +kernel
theorem dX10_show_62 : decode cX10_show 62 = .ok (.iload_n 2, 1) := by decide +kernel
theorem dX10_show_63 : decode cX10_show 63 = .ok (.if_icmp .ge 25, 3) := by decide +kernel
theorem dX10_show_66 : decode cX10_show 66 = .ok (.aload_n 0, 1) := by decide +kernel
theorem dX10_show_67 : decode cX10_show 67 = .ok (.iload_n 1, 1) := by decide +kernel
theorem dX10_show_68 : decode cX10_show 68 = .ok (.iload_n 3, 1) := by decide +kernel
theorem dX10_show_69 : decode cX10_show 69 = .ok (.aload_n 0, 1) := by decide +kernel
