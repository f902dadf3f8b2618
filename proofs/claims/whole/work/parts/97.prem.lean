-- ===== WHAT STANDS FROM THE START =====
theorem mw_57 : Cond.instantiable RX9 9 ∈ wG := wG_mem (List.mem_of_getElem? (i := 57) (by decide +kernel)) (by decide +kernel)
theorem mw_876 : Cond.instantiable RX10 18 ∈ wG := wG_mem (List.mem_of_getElem? (i := 876) (by decide +kernel)) (by decide +kernel)
theorem pr_5 : Jvm.Cond.arrayOf (Jvm.Term.static "SnowLetters$Forms" "ENDS" "[I") Jvm.ClassFile.FieldType.int ∈ flatC (Jvm.Cond.and given_1 narrow_1) := List.mem_of_getElem? (i := 5) (by decide +kernel)
theorem pr_6 : Jvm.Cond.eq (Jvm.Term.length (Jvm.Term.static "SnowLetters$Forms" "ENDS" "[I")) (Jvm.Term.int (12 : Int32)) ∈ flatC (Jvm.Cond.and given_1 narrow_1) := List.mem_of_getElem? (i := 6) (by decide +kernel)
theorem pr_7 : Jvm.Cond.eq (Jvm.Term.elem (Jvm.Term.static "SnowLetters$Forms" "ENDS" "[I") (Jvm.Term.int (0 : Int32))) (Jvm.Term.int (3 : Int32)) ∈ flatC (Jvm.Cond.and given_1 narrow_1) := List.mem_of_getElem? (i := 7) (by decide +kernel)
theorem pr_8 : Jvm.Cond.eq (Jvm.Term.elem (Jvm.Term.static "SnowLetters$Forms" "ENDS" "[I") (Jvm.Term.int (1 : Int32))) (Jvm.Term.int (6 : Int32)) ∈ flatC (Jvm.Cond.and given_1 narrow_1) := List.mem_of_getElem? (i := 8) (by decide +kernel)
theorem pr_9 : Jvm.Cond.eq (Jvm.Term.elem (Jvm.Term.static "SnowLetters$Forms" "ENDS" "[I") (Jvm.Term.int (2 : Int32))) (Jvm.Term.int (24 : Int32)) ∈ flatC (Jvm.Cond.and given_1 narrow_1) := List.mem_of_getElem? (i := 9) (by decide +kernel)
theorem pr_10 : Jvm.Cond.eq (Jvm.Term.elem (Jvm.Term.static "SnowLetters$Forms" "ENDS" "[I") (Jvm.Term.int (3 : Int32))) (Jvm.Term.int (48 : Int32)) ∈ flatC (Jvm.Cond.and given_1 narrow_1) := List.mem_of_getElem? (i := 10) (by decide +kernel)
theorem pr_11 : Jvm.Cond.eq (Jvm.Term.elem (Jvm.Term.static "SnowLetters$Forms" "ENDS" "[I") (Jvm.Term.int (4 : Int32))) (Jvm.Term.int (192 : Int32)) ∈ flatC (Jvm.Cond.and given_1 narrow_1) := List.mem_of_getElem? (i := 11) (by decide +kernel)
theorem pr_12 : Jvm.Cond.eq (Jvm.Term.elem (Jvm.Term.static "SnowLetters$Forms" "ENDS" "[I") (Jvm.Term.int (5 : Int32))) (Jvm.Term.int (384 : Int32)) ∈ flatC (Jvm.Cond.and given_1 narrow_1) := List.mem_of_getElem? (i := 12) (by decide +kernel)
theorem pr_13 : Jvm.Cond.eq (Jvm.Term.elem (Jvm.Term.static "SnowLetters$Forms" "ENDS" "[I") (Jvm.Term.int (6 : Int32))) (Jvm.Term.int (9 : Int32)) ∈ flatC (Jvm.Cond.and given_1 narrow_1) := List.mem_of_getElem? (i := 13) (by decide +kernel)
theorem pr_14 : Jvm.Cond.eq (Jvm.Term.elem (Jvm.Term.static "SnowLetters$Forms" "ENDS" "[I") (Jvm.Term.int (7 : Int32))) (Jvm.Term.int (18 : Int32)) ∈ flatC (Jvm.Cond.and given_1 narrow_1) := List.mem_of_getElem? (i := 14) (by decide +kernel)
theorem pr_15 : Jvm.Cond.eq (Jvm.Term.elem (Jvm.Term.static "SnowLetters$Forms" "ENDS" "[I") (Jvm.Term.int (8 : Int32))) (Jvm.Term.int (36 : Int32)) ∈ flatC (Jvm.Cond.and given_1 narrow_1) := List.mem_of_getElem? (i := 15) (by decide +kernel)
theorem pr_16 : Jvm.Cond.eq (Jvm.Term.elem (Jvm.Term.static "SnowLetters$Forms" "ENDS" "[I") (Jvm.Term.int (9 : Int32))) (Jvm.Term.int (72 : Int32)) ∈ flatC (Jvm.Cond.and given_1 narrow_1) := List.mem_of_getElem? (i := 16) (by decide +kernel)
theorem pr_17 : Jvm.Cond.eq (Jvm.Term.elem (Jvm.Term.static "SnowLetters$Forms" "ENDS" "[I") (Jvm.Term.int (10 : Int32))) (Jvm.Term.int (144 : Int32)) ∈ flatC (Jvm.Cond.and given_1 narrow_1) := List.mem_of_getElem? (i := 17) (by decide +kernel)
theorem pr_18 : Jvm.Cond.eq (Jvm.Term.elem (Jvm.Term.static "SnowLetters$Forms" "ENDS" "[I") (Jvm.Term.int (11 : Int32))) (Jvm.Term.int (288 : Int32)) ∈ flatC (Jvm.Cond.and given_1 narrow_1) := List.mem_of_getElem? (i := 18) (by decide +kernel)
theorem pr_20 : Jvm.Cond.arrayOf (Jvm.Term.static "SnowLetters$Forms" "ONE_END" "[I") Jvm.ClassFile.FieldType.int ∈ flatC (Jvm.Cond.and given_1 narrow_1) := List.mem_of_getElem? (i := 20) (by decide +kernel)
theorem pr_21 : Jvm.Cond.eq (Jvm.Term.length (Jvm.Term.static "SnowLetters$Forms" "ONE_END" "[I")) (Jvm.Term.int (12 : Int32)) ∈ flatC (Jvm.Cond.and given_1 narrow_1) := List.mem_of_getElem? (i := 21) (by decide +kernel)
theorem pr_22 : Jvm.Cond.eq (Jvm.Term.elem (Jvm.Term.static "SnowLetters$Forms" "ONE_END" "[I") (Jvm.Term.int (0 : Int32))) (Jvm.Term.int (0 : Int32)) ∈ flatC (Jvm.Cond.and given_1 narrow_1) := List.mem_of_getElem? (i := 22) (by decide +kernel)
theorem pr_23 : Jvm.Cond.eq (Jvm.Term.elem (Jvm.Term.static "SnowLetters$Forms" "ONE_END" "[I") (Jvm.Term.int (1 : Int32))) (Jvm.Term.int (1 : Int32)) ∈ flatC (Jvm.Cond.and given_1 narrow_1) := List.mem_of_getElem? (i := 23) (by decide +kernel)
theorem pr_24 : Jvm.Cond.eq (Jvm.Term.elem (Jvm.Term.static "SnowLetters$Forms" "ONE_END" "[I") (Jvm.Term.int (2 : Int32))) (Jvm.Term.int (3 : Int32)) ∈ flatC (Jvm.Cond.and given_1 narrow_1) := List.mem_of_getElem? (i := 24) (by decide +kernel)
theorem pr_25 : Jvm.Cond.eq (Jvm.Term.elem (Jvm.Term.static "SnowLetters$Forms" "ONE_END" "[I") (Jvm.Term.int (3 : Int32))) (Jvm.Term.int (4 : Int32)) ∈ flatC (Jvm.Cond.and given_1 narrow_1) := List.mem_of_getElem? (i := 25) (by decide +kernel)
theorem pr_26 : Jvm.Cond.eq (Jvm.Term.elem (Jvm.Term.static "SnowLetters$Forms" "ONE_END" "[I") (Jvm.Term.int (4 : Int32))) (Jvm.Term.int (6 : Int32)) ∈ flatC (Jvm.Cond.and given_1 narrow_1) := List.mem_of_getElem? (i := 26) (by decide +kernel)
theorem pr_27 : Jvm.Cond.eq (Jvm.Term.elem (Jvm.Term.static "SnowLetters$Forms" "ONE_END" "[I") (Jvm.Term.int (5 : Int32))) (Jvm.Term.int (7 : Int32)) ∈ flatC (Jvm.Cond.and given_1 narrow_1) := List.mem_of_getElem? (i := 27) (by decide +kernel)
theorem pr_28 : Jvm.Cond.eq (Jvm.Term.elem (Jvm.Term.static "SnowLetters$Forms" "ONE_END" "[I") (Jvm.Term.int (6 : Int32))) (Jvm.Term.int (0 : Int32)) ∈ flatC (Jvm.Cond.and given_1 narrow_1) := List.mem_of_getElem? (i := 28) (by decide +kernel)
theorem pr_29 : Jvm.Cond.eq (Jvm.Term.elem (Jvm.Term.static "SnowLetters$Forms" "ONE_END" "[I") (Jvm.Term.int (7 : Int32))) (Jvm.Term.int (1 : Int32)) ∈ flatC (Jvm.Cond.and given_1 narrow_1) := List.mem_of_getElem? (i := 29) (by decide +kernel)
theorem pr_30 : Jvm.Cond.eq (Jvm.Term.elem (Jvm.Term.static "SnowLetters$Forms" "ONE_END" "[I") (Jvm.Term.int (8 : Int32))) (Jvm.Term.int (2 : Int32)) ∈ flatC (Jvm.Cond.and given_1 narrow_1) := List.mem_of_getElem? (i := 30) (by decide +kernel)
theorem pr_31 : Jvm.Cond.eq (Jvm.Term.elem (Jvm.Term.static "SnowLetters$Forms" "ONE_END" "[I") (Jvm.Term.int (9 : Int32))) (Jvm.Term.int (3 : Int32)) ∈ flatC (Jvm.Cond.and given_1 narrow_1) := List.mem_of_getElem? (i := 31) (by decide +kernel)
theorem pr_32 : Jvm.Cond.eq (Jvm.Term.elem (Jvm.Term.static "SnowLetters$Forms" "ONE_END" "[I") (Jvm.Term.int (10 : Int32))) (Jvm.Term.int (4 : Int32)) ∈ flatC (Jvm.Cond.and given_1 narrow_1) := List.mem_of_getElem? (i := 32) (by decide +kernel)
theorem pr_33 : Jvm.Cond.eq (Jvm.Term.elem (Jvm.Term.static "SnowLetters$Forms" "ONE_END" "[I") (Jvm.Term.int (11 : Int32))) (Jvm.Term.int (5 : Int32)) ∈ flatC (Jvm.Cond.and given_1 narrow_1) := List.mem_of_getElem? (i := 33) (by decide +kernel)
theorem pr_35 : Jvm.Cond.arrayOf (Jvm.Term.static "SnowLetters$Forms" "OTHER_END" "[I") Jvm.ClassFile.FieldType.int ∈ flatC (Jvm.Cond.and given_1 narrow_1) := List.mem_of_getElem? (i := 35) (by decide +kernel)
theorem pr_36 : Jvm.Cond.eq (Jvm.Term.length (Jvm.Term.static "SnowLetters$Forms" "OTHER_END" "[I")) (Jvm.Term.int (12 : Int32)) ∈ flatC (Jvm.Cond.and given_1 narrow_1) := List.mem_of_getElem? (i := 36) (by decide +kernel)
theorem pr_37 : Jvm.Cond.eq (Jvm.Term.elem (Jvm.Term.static "SnowLetters$Forms" "OTHER_END" "[I") (Jvm.Term.int (0 : Int32))) (Jvm.Term.int (1 : Int32)) ∈ flatC (Jvm.Cond.and given_1 narrow_1) := List.mem_of_getElem? (i := 37) (by decide +kernel)
theorem pr_38 : Jvm.Cond.eq (Jvm.Term.elem (Jvm.Term.static "SnowLetters$Forms" "OTHER_END" "[I") (Jvm.Term.int (1 : Int32))) (Jvm.Term.int (2 : Int32)) ∈ flatC (Jvm.Cond.and given_1 narrow_1) := List.mem_of_getElem? (i := 38) (by decide +kernel)
theorem pr_39 : Jvm.Cond.eq (Jvm.Term.elem (Jvm.Term.static "SnowLetters$Forms" "OTHER_END" "[I") (Jvm.Term.int (2 : Int32))) (Jvm.Term.int (4 : Int32)) ∈ flatC (Jvm.Cond.and given_1 narrow_1) := List.mem_of_getElem? (i := 39) (by decide +kernel)
theorem pr_40 : Jvm.Cond.eq (Jvm.Term.elem (Jvm.Term.static "SnowLetters$Forms" "OTHER_END" "[I") (Jvm.Term.int (3 : Int32))) (Jvm.Term.int (5 : Int32)) ∈ flatC (Jvm.Cond.and given_1 narrow_1) := List.mem_of_getElem? (i := 40) (by decide +kernel)
theorem pr_41 : Jvm.Cond.eq (Jvm.Term.elem (Jvm.Term.static "SnowLetters$Forms" "OTHER_END" "[I") (Jvm.Term.int (4 : Int32))) (Jvm.Term.int (7 : Int32)) ∈ flatC (Jvm.Cond.and given_1 narrow_1) := List.mem_of_getElem? (i := 41) (by decide +kernel)
theorem pr_42 : Jvm.Cond.eq (Jvm.Term.elem (Jvm.Term.static "SnowLetters$Forms" "OTHER_END" "[I") (Jvm.Term.int (5 : Int32))) (Jvm.Term.int (8 : Int32)) ∈ flatC (Jvm.Cond.and given_1 narrow_1) := List.mem_of_getElem? (i := 42) (by decide +kernel)
theorem pr_43 : Jvm.Cond.eq (Jvm.Term.elem (Jvm.Term.static "SnowLetters$Forms" "OTHER_END" "[I") (Jvm.Term.int (6 : Int32))) (Jvm.Term.int (3 : Int32)) ∈ flatC (Jvm.Cond.and given_1 narrow_1) := List.mem_of_getElem? (i := 43) (by decide +kernel)
theorem pr_44 : Jvm.Cond.eq (Jvm.Term.elem (Jvm.Term.static "SnowLetters$Forms" "OTHER_END" "[I") (Jvm.Term.int (7 : Int32))) (Jvm.Term.int (4 : Int32)) ∈ flatC (Jvm.Cond.and given_1 narrow_1) := List.mem_of_getElem? (i := 44) (by decide +kernel)
theorem pr_45 : Jvm.Cond.eq (Jvm.Term.elem (Jvm.Term.static "SnowLetters$Forms" "OTHER_END" "[I") (Jvm.Term.int (8 : Int32))) (Jvm.Term.int (5 : Int32)) ∈ flatC (Jvm.Cond.and given_1 narrow_1) := List.mem_of_getElem? (i := 45) (by decide +kernel)
theorem pr_46 : Jvm.Cond.eq (Jvm.Term.elem (Jvm.Term.static "SnowLetters$Forms" "OTHER_END" "[I") (Jvm.Term.int (9 : Int32))) (Jvm.Term.int (6 : Int32)) ∈ flatC (Jvm.Cond.and given_1 narrow_1) := List.mem_of_getElem? (i := 46) (by decide +kernel)
theorem pr_47 : Jvm.Cond.eq (Jvm.Term.elem (Jvm.Term.static "SnowLetters$Forms" "OTHER_END" "[I") (Jvm.Term.int (10 : Int32))) (Jvm.Term.int (7 : Int32)) ∈ flatC (Jvm.Cond.and given_1 narrow_1) := List.mem_of_getElem? (i := 47) (by decide +kernel)
theorem pr_48 : Jvm.Cond.eq (Jvm.Term.elem (Jvm.Term.static "SnowLetters$Forms" "OTHER_END" "[I") (Jvm.Term.int (11 : Int32))) (Jvm.Term.int (8 : Int32)) ∈ flatC (Jvm.Cond.and given_1 narrow_1) := List.mem_of_getElem? (i := 48) (by decide +kernel)
theorem pr_50 : Jvm.Cond.arrayOf (Jvm.Term.static "SnowLetters$Forms" "QUARTER" "[I") Jvm.ClassFile.FieldType.int ∈ flatC (Jvm.Cond.and given_1 narrow_1) := List.mem_of_getElem? (i := 50) (by decide +kernel)
theorem pr_51 : Jvm.Cond.eq (Jvm.Term.length (Jvm.Term.static "SnowLetters$Forms" "QUARTER" "[I")) (Jvm.Term.int (12 : Int32)) ∈ flatC (Jvm.Cond.and given_1 narrow_1) := List.mem_of_getElem? (i := 51) (by decide +kernel)
theorem pr_52 : Jvm.Cond.eq (Jvm.Term.elem (Jvm.Term.static "SnowLetters$Forms" "QUARTER" "[I") (Jvm.Term.int (0 : Int32))) (Jvm.Term.int (8 : Int32)) ∈ flatC (Jvm.Cond.and given_1 narrow_1) := List.mem_of_getElem? (i := 52) (by decide +kernel)
theorem pr_53 : Jvm.Cond.eq (Jvm.Term.elem (Jvm.Term.static "SnowLetters$Forms" "QUARTER" "[I") (Jvm.Term.int (1 : Int32))) (Jvm.Term.int (11 : Int32)) ∈ flatC (Jvm.Cond.and given_1 narrow_1) := List.mem_of_getElem? (i := 53) (by decide +kernel)
theorem pr_54 : Jvm.Cond.eq (Jvm.Term.elem (Jvm.Term.static "SnowLetters$Forms" "QUARTER" "[I") (Jvm.Term.int (2 : Int32))) (Jvm.Term.int (7 : Int32)) ∈ flatC (Jvm.Cond.and given_1 narrow_1) := List.mem_of_getElem? (i := 54) (by decide +kernel)
theorem pr_55 : Jvm.Cond.eq (Jvm.Term.elem (Jvm.Term.static "SnowLetters$Forms" "QUARTER" "[I") (Jvm.Term.int (3 : Int32))) (Jvm.Term.int (10 : Int32)) ∈ flatC (Jvm.Cond.and given_1 narrow_1) := List.mem_of_getElem? (i := 55) (by decide +kernel)
theorem pr_56 : Jvm.Cond.eq (Jvm.Term.elem (Jvm.Term.static "SnowLetters$Forms" "QUARTER" "[I") (Jvm.Term.int (4 : Int32))) (Jvm.Term.int (6 : Int32)) ∈ flatC (Jvm.Cond.and given_1 narrow_1) := List.mem_of_getElem? (i := 56) (by decide +kernel)
theorem pr_57 : Jvm.Cond.eq (Jvm.Term.elem (Jvm.Term.static "SnowLetters$Forms" "QUARTER" "[I") (Jvm.Term.int (5 : Int32))) (Jvm.Term.int (9 : Int32)) ∈ flatC (Jvm.Cond.and given_1 narrow_1) := List.mem_of_getElem? (i := 57) (by decide +kernel)
theorem pr_58 : Jvm.Cond.eq (Jvm.Term.elem (Jvm.Term.static "SnowLetters$Forms" "QUARTER" "[I") (Jvm.Term.int (6 : Int32))) (Jvm.Term.int (1 : Int32)) ∈ flatC (Jvm.Cond.and given_1 narrow_1) := List.mem_of_getElem? (i := 58) (by decide +kernel)
theorem pr_59 : Jvm.Cond.eq (Jvm.Term.elem (Jvm.Term.static "SnowLetters$Forms" "QUARTER" "[I") (Jvm.Term.int (7 : Int32))) (Jvm.Term.int (3 : Int32)) ∈ flatC (Jvm.Cond.and given_1 narrow_1) := List.mem_of_getElem? (i := 59) (by decide +kernel)
theorem pr_60 : Jvm.Cond.eq (Jvm.Term.elem (Jvm.Term.static "SnowLetters$Forms" "QUARTER" "[I") (Jvm.Term.int (8 : Int32))) (Jvm.Term.int (5 : Int32)) ∈ flatC (Jvm.Cond.and given_1 narrow_1) := List.mem_of_getElem? (i := 60) (by decide +kernel)
theorem pr_61 : Jvm.Cond.eq (Jvm.Term.elem (Jvm.Term.static "SnowLetters$Forms" "QUARTER" "[I") (Jvm.Term.int (9 : Int32))) (Jvm.Term.int (0 : Int32)) ∈ flatC (Jvm.Cond.and given_1 narrow_1) := List.mem_of_getElem? (i := 61) (by decide +kernel)
theorem pr_62 : Jvm.Cond.eq (Jvm.Term.elem (Jvm.Term.static "SnowLetters$Forms" "QUARTER" "[I") (Jvm.Term.int (10 : Int32))) (Jvm.Term.int (2 : Int32)) ∈ flatC (Jvm.Cond.and given_1 narrow_1) := List.mem_of_getElem? (i := 62) (by decide +kernel)
theorem pr_63 : Jvm.Cond.eq (Jvm.Term.elem (Jvm.Term.static "SnowLetters$Forms" "QUARTER" "[I") (Jvm.Term.int (11 : Int32))) (Jvm.Term.int (4 : Int32)) ∈ flatC (Jvm.Cond.and given_1 narrow_1) := List.mem_of_getElem? (i := 63) (by decide +kernel)
theorem pr_64 : Jvm.Cond.eq (Jvm.Term.static "java/lang/String" "COMPACT_STRINGS" "Z") (Jvm.Term.int (1 : Int32)) ∈ flatC (Jvm.Cond.and given_1 narrow_1) := List.mem_of_getElem? (i := 64) (by decide +kernel)
theorem pr_65 : Jvm.Cond.isRef (Jvm.Term.static "jdk/internal/util/Preconditions" "SIOOBE_FORMATTER" "Ljava/util/function/BiFunction;") ∈ flatC (Jvm.Cond.and given_1 narrow_1) := List.mem_of_getElem? (i := 65) (by decide +kernel)
theorem pr_69 : Jvm.Cond.exactly (Jvm.Term.string "SnowLetters$Tokens" (63 : Nat)) "java/lang/String" ∈ flatC (Jvm.Cond.and given_1 narrow_1) := List.mem_of_getElem? (i := 69) (by decide +kernel)
theorem pr_70 : Jvm.Cond.eq (Jvm.Term.field (Jvm.Term.string "SnowLetters$Tokens" (63 : Nat)) "java/lang/String" "coder" "B") (Jvm.Term.int (0 : Int32)) ∈ flatC (Jvm.Cond.and given_1 narrow_1) := List.mem_of_getElem? (i := 70) (by decide +kernel)
theorem pr_71 : Jvm.Cond.arrayOf (Jvm.Term.field (Jvm.Term.string "SnowLetters$Tokens" (63 : Nat)) "java/lang/String" "value" "[B") Jvm.ClassFile.FieldType.byte ∈ flatC (Jvm.Cond.and given_1 narrow_1) := List.mem_of_getElem? (i := 71) (by decide +kernel)
theorem pr_72 : Jvm.Cond.eq (Jvm.Term.length (Jvm.Term.field (Jvm.Term.string "SnowLetters$Tokens" (63 : Nat)) "java/lang/String" "value" "[B")) (Jvm.Term.int (6 : Int32)) ∈ flatC (Jvm.Cond.and given_1 narrow_1) := List.mem_of_getElem? (i := 72) (by decide +kernel)
theorem pr_73 : Jvm.Cond.eq (Jvm.Term.elem (Jvm.Term.field (Jvm.Term.string "SnowLetters$Tokens" (63 : Nat)) "java/lang/String" "value" "[B") (Jvm.Term.int (0 : Int32))) (Jvm.Term.int (108 : Int32)) ∈ flatC (Jvm.Cond.and given_1 narrow_1) := List.mem_of_getElem? (i := 73) (by decide +kernel)
theorem pr_74 : Jvm.Cond.eq (Jvm.Term.elem (Jvm.Term.field (Jvm.Term.string "SnowLetters$Tokens" (63 : Nat)) "java/lang/String" "value" "[B") (Jvm.Term.int (1 : Int32))) (Jvm.Term.int (101 : Int32)) ∈ flatC (Jvm.Cond.and given_1 narrow_1) := List.mem_of_getElem? (i := 74) (by decide +kernel)
theorem pr_75 : Jvm.Cond.eq (Jvm.Term.elem (Jvm.Term.field (Jvm.Term.string "SnowLetters$Tokens" (63 : Nat)) "java/lang/String" "value" "[B") (Jvm.Term.int (2 : Int32))) (Jvm.Term.int (116 : Int32)) ∈ flatC (Jvm.Cond.and given_1 narrow_1) := List.mem_of_getElem? (i := 75) (by decide +kernel)
theorem pr_76 : Jvm.Cond.eq (Jvm.Term.elem (Jvm.Term.field (Jvm.Term.string "SnowLetters$Tokens" (63 : Nat)) "java/lang/String" "value" "[B") (Jvm.Term.int (3 : Int32))) (Jvm.Term.int (116 : Int32)) ∈ flatC (Jvm.Cond.and given_1 narrow_1) := List.mem_of_getElem? (i := 76) (by decide +kernel)
theorem pr_77 : Jvm.Cond.eq (Jvm.Term.elem (Jvm.Term.field (Jvm.Term.string "SnowLetters$Tokens" (63 : Nat)) "java/lang/String" "value" "[B") (Jvm.Term.int (4 : Int32))) (Jvm.Term.int (101 : Int32)) ∈ flatC (Jvm.Cond.and given_1 narrow_1) := List.mem_of_getElem? (i := 77) (by decide +kernel)
theorem pr_78 : Jvm.Cond.eq (Jvm.Term.elem (Jvm.Term.field (Jvm.Term.string "SnowLetters$Tokens" (63 : Nat)) "java/lang/String" "value" "[B") (Jvm.Term.int (5 : Int32))) (Jvm.Term.int (114 : Int32)) ∈ flatC (Jvm.Cond.and given_1 narrow_1) := List.mem_of_getElem? (i := 78) (by decide +kernel)
theorem pr_79 : Jvm.Cond.exactly (Jvm.Term.string "SnowLetters$Tokens" (65 : Nat)) "java/lang/String" ∈ flatC (Jvm.Cond.and given_1 narrow_1) := List.mem_of_getElem? (i := 79) (by decide +kernel)
theorem pr_80 : Jvm.Cond.eq (Jvm.Term.field (Jvm.Term.string "SnowLetters$Tokens" (65 : Nat)) "java/lang/String" "coder" "B") (Jvm.Term.int (0 : Int32)) ∈ flatC (Jvm.Cond.and given_1 narrow_1) := List.mem_of_getElem? (i := 80) (by decide +kernel)
theorem pr_81 : Jvm.Cond.arrayOf (Jvm.Term.field (Jvm.Term.string "SnowLetters$Tokens" (65 : Nat)) "java/lang/String" "value" "[B") Jvm.ClassFile.FieldType.byte ∈ flatC (Jvm.Cond.and given_1 narrow_1) := List.mem_of_getElem? (i := 81) (by decide +kernel)
theorem pr_82 : Jvm.Cond.eq (Jvm.Term.length (Jvm.Term.field (Jvm.Term.string "SnowLetters$Tokens" (65 : Nat)) "java/lang/String" "value" "[B")) (Jvm.Term.int (7 : Int32)) ∈ flatC (Jvm.Cond.and given_1 narrow_1) := List.mem_of_getElem? (i := 82) (by decide +kernel)
theorem pr_83 : Jvm.Cond.eq (Jvm.Term.elem (Jvm.Term.field (Jvm.Term.string "SnowLetters$Tokens" (65 : Nat)) "java/lang/String" "value" "[B") (Jvm.Term.int (0 : Int32))) (Jvm.Term.int (99 : Int32)) ∈ flatC (Jvm.Cond.and given_1 narrow_1) := List.mem_of_getElem? (i := 83) (by decide +kernel)
theorem pr_84 : Jvm.Cond.eq (Jvm.Term.elem (Jvm.Term.field (Jvm.Term.string "SnowLetters$Tokens" (65 : Nat)) "java/lang/String" "value" "[B") (Jvm.Term.int (1 : Int32))) (Jvm.Term.int (97 : Int32)) ∈ flatC (Jvm.Cond.and given_1 narrow_1) := List.mem_of_getElem? (i := 84) (by decide +kernel)
theorem pr_85 : Jvm.Cond.eq (Jvm.Term.elem (Jvm.Term.field (Jvm.Term.string "SnowLetters$Tokens" (65 : Nat)) "java/lang/String" "value" "[B") (Jvm.Term.int (2 : Int32))) (Jvm.Term.int (112 : Int32)) ∈ flatC (Jvm.Cond.and given_1 narrow_1) := List.mem_of_getElem? (i := 85) (by decide +kernel)
theorem pr_86 : Jvm.Cond.eq (Jvm.Term.elem (Jvm.Term.field (Jvm.Term.string "SnowLetters$Tokens" (65 : Nat)) "java/lang/String" "value" "[B") (Jvm.Term.int (3 : Int32))) (Jvm.Term.int (105 : Int32)) ∈ flatC (Jvm.Cond.and given_1 narrow_1) := List.mem_of_getElem? (i := 86) (by decide +kernel)
theorem pr_87 : Jvm.Cond.eq (Jvm.Term.elem (Jvm.Term.field (Jvm.Term.string "SnowLetters$Tokens" (65 : Nat)) "java/lang/String" "value" "[B") (Jvm.Term.int (4 : Int32))) (Jvm.Term.int (116 : Int32)) ∈ flatC (Jvm.Cond.and given_1 narrow_1) := List.mem_of_getElem? (i := 87) (by decide +kernel)
theorem pr_88 : Jvm.Cond.eq (Jvm.Term.elem (Jvm.Term.field (Jvm.Term.string "SnowLetters$Tokens" (65 : Nat)) "java/lang/String" "value" "[B") (Jvm.Term.int (5 : Int32))) (Jvm.Term.int (97 : Int32)) ∈ flatC (Jvm.Cond.and given_1 narrow_1) := List.mem_of_getElem? (i := 88) (by decide +kernel)
theorem pr_89 : Jvm.Cond.eq (Jvm.Term.elem (Jvm.Term.field (Jvm.Term.string "SnowLetters$Tokens" (65 : Nat)) "java/lang/String" "value" "[B") (Jvm.Term.int (6 : Int32))) (Jvm.Term.int (108 : Int32)) ∈ flatC (Jvm.Cond.and given_1 narrow_1) := List.mem_of_getElem? (i := 89) (by decide +kernel)
theorem pr_90 : Jvm.Cond.not (Jvm.Cond.eq (Jvm.Term.string "SnowLetters$Tokens" (63 : Nat)) (Jvm.Term.string "SnowLetters$Tokens" (65 : Nat))) ∈ flatC (Jvm.Cond.and given_1 narrow_1) := List.mem_of_getElem? (i := 90) (by decide +kernel)
theorem pr_91 : Jvm.Cond.exactly (Jvm.Term.string "SnowLetters$Tokens" (67 : Nat)) "java/lang/String" ∈ flatC (Jvm.Cond.and given_1 narrow_1) := List.mem_of_getElem? (i := 91) (by decide +kernel)
theorem pr_92 : Jvm.Cond.eq (Jvm.Term.field (Jvm.Term.string "SnowLetters$Tokens" (67 : Nat)) "java/lang/String" "coder" "B") (Jvm.Term.int (0 : Int32)) ∈ flatC (Jvm.Cond.and given_1 narrow_1) := List.mem_of_getElem? (i := 92) (by decide +kernel)
theorem pr_93 : Jvm.Cond.arrayOf (Jvm.Term.field (Jvm.Term.string "SnowLetters$Tokens" (67 : Nat)) "java/lang/String" "value" "[B") Jvm.ClassFile.FieldType.byte ∈ flatC (Jvm.Cond.and given_1 narrow_1) := List.mem_of_getElem? (i := 93) (by decide +kernel)
theorem pr_94 : Jvm.Cond.eq (Jvm.Term.length (Jvm.Term.field (Jvm.Term.string "SnowLetters$Tokens" (67 : Nat)) "java/lang/String" "value" "[B")) (Jvm.Term.int (4 : Int32)) ∈ flatC (Jvm.Cond.and given_1 narrow_1) := List.mem_of_getElem? (i := 94) (by decide +kernel)
theorem pr_95 : Jvm.Cond.eq (Jvm.Term.elem (Jvm.Term.field (Jvm.Term.string "SnowLetters$Tokens" (67 : Nat)) "java/lang/String" "value" "[B") (Jvm.Term.int (0 : Int32))) (Jvm.Term.int (115 : Int32)) ∈ flatC (Jvm.Cond.and given_1 narrow_1) := List.mem_of_getElem? (i := 95) (by decide +kernel)
theorem pr_96 : Jvm.Cond.eq (Jvm.Term.elem (Jvm.Term.field (Jvm.Term.string "SnowLetters$Tokens" (67 : Nat)) "java/lang/String" "value" "[B") (Jvm.Term.int (1 : Int32))) (Jvm.Term.int (111 : Int32)) ∈ flatC (Jvm.Cond.and given_1 narrow_1) := List.mem_of_getElem? (i := 96) (by decide +kernel)
theorem pr_97 : Jvm.Cond.eq (Jvm.Term.elem (Jvm.Term.field (Jvm.Term.string "SnowLetters$Tokens" (67 : Nat)) "java/lang/String" "value" "[B") (Jvm.Term.int (2 : Int32))) (Jvm.Term.int (102 : Int32)) ∈ flatC (Jvm.Cond.and given_1 narrow_1) := List.mem_of_getElem? (i := 97) (by decide +kernel)
theorem pr_98 : Jvm.Cond.eq (Jvm.Term.elem (Jvm.Term.field (Jvm.Term.string "SnowLetters$Tokens" (67 : Nat)) "java/lang/String" "value" "[B") (Jvm.Term.int (3 : Int32))) (Jvm.Term.int (116 : Int32)) ∈ flatC (Jvm.Cond.and given_1 narrow_1) := List.mem_of_getElem? (i := 98) (by decide +kernel)
theorem pr_99 : Jvm.Cond.not (Jvm.Cond.eq (Jvm.Term.string "SnowLetters$Tokens" (63 : Nat)) (Jvm.Term.string "SnowLetters$Tokens" (67 : Nat))) ∈ flatC (Jvm.Cond.and given_1 narrow_1) := List.mem_of_getElem? (i := 99) (by decide +kernel)
theorem pr_100 : Jvm.Cond.not (Jvm.Cond.eq (Jvm.Term.string "SnowLetters$Tokens" (65 : Nat)) (Jvm.Term.string "SnowLetters$Tokens" (67 : Nat))) ∈ flatC (Jvm.Cond.and given_1 narrow_1) := List.mem_of_getElem? (i := 100) (by decide +kernel)
theorem pr_101 : Jvm.Cond.exactly (Jvm.Term.string "SnowLetters$Tokens" (69 : Nat)) "java/lang/String" ∈ flatC (Jvm.Cond.and given_1 narrow_1) := List.mem_of_getElem? (i := 101) (by decide +kernel)
theorem pr_102 : Jvm.Cond.eq (Jvm.Term.field (Jvm.Term.string "SnowLetters$Tokens" (69 : Nat)) "java/lang/String" "coder" "B") (Jvm.Term.int (0 : Int32)) ∈ flatC (Jvm.Cond.and given_1 narrow_1) := List.mem_of_getElem? (i := 102) (by decide +kernel)
theorem pr_103 : Jvm.Cond.arrayOf (Jvm.Term.field (Jvm.Term.string "SnowLetters$Tokens" (69 : Nat)) "java/lang/String" "value" "[B") Jvm.ClassFile.FieldType.byte ∈ flatC (Jvm.Cond.and given_1 narrow_1) := List.mem_of_getElem? (i := 103) (by decide +kernel)
theorem pr_104 : Jvm.Cond.eq (Jvm.Term.length (Jvm.Term.field (Jvm.Term.string "SnowLetters$Tokens" (69 : Nat)) "java/lang/String" "value" "[B")) (Jvm.Term.int (7 : Int32)) ∈ flatC (Jvm.Cond.and given_1 narrow_1) := List.mem_of_getElem? (i := 104) (by decide +kernel)
theorem pr_105 : Jvm.Cond.eq (Jvm.Term.elem (Jvm.Term.field (Jvm.Term.string "SnowLetters$Tokens" (69 : Nat)) "java/lang/String" "value" "[B") (Jvm.Term.int (0 : Int32))) (Jvm.Term.int (99 : Int32)) ∈ flatC (Jvm.Cond.and given_1 narrow_1) := List.mem_of_getElem? (i := 105) (by decide +kernel)
theorem pr_106 : Jvm.Cond.eq (Jvm.Term.elem (Jvm.Term.field (Jvm.Term.string "SnowLetters$Tokens" (69 : Nat)) "java/lang/String" "value" "[B") (Jvm.Term.int (1 : Int32))) (Jvm.Term.int (114 : Int32)) ∈ flatC (Jvm.Cond.and given_1 narrow_1) := List.mem_of_getElem? (i := 106) (by decide +kernel)
theorem pr_107 : Jvm.Cond.eq (Jvm.Term.elem (Jvm.Term.field (Jvm.Term.string "SnowLetters$Tokens" (69 : Nat)) "java/lang/String" "value" "[B") (Jvm.Term.int (2 : Int32))) (Jvm.Term.int (111 : Int32)) ∈ flatC (Jvm.Cond.and given_1 narrow_1) := List.mem_of_getElem? (i := 107) (by decide +kernel)
theorem pr_108 : Jvm.Cond.eq (Jvm.Term.elem (Jvm.Term.field (Jvm.Term.string "SnowLetters$Tokens" (69 : Nat)) "java/lang/String" "value" "[B") (Jvm.Term.int (3 : Int32))) (Jvm.Term.int (115 : Int32)) ∈ flatC (Jvm.Cond.and given_1 narrow_1) := List.mem_of_getElem? (i := 108) (by decide +kernel)
theorem pr_109 : Jvm.Cond.eq (Jvm.Term.elem (Jvm.Term.field (Jvm.Term.string "SnowLetters$Tokens" (69 : Nat)) "java/lang/String" "value" "[B") (Jvm.Term.int (4 : Int32))) (Jvm.Term.int (115 : Int32)) ∈ flatC (Jvm.Cond.and given_1 narrow_1) := List.mem_of_getElem? (i := 109) (by decide +kernel)
theorem pr_110 : Jvm.Cond.eq (Jvm.Term.elem (Jvm.Term.field (Jvm.Term.string "SnowLetters$Tokens" (69 : Nat)) "java/lang/String" "value" "[B") (Jvm.Term.int (5 : Int32))) (Jvm.Term.int (101 : Int32)) ∈ flatC (Jvm.Cond.and given_1 narrow_1) := List.mem_of_getElem? (i := 110) (by decide +kernel)
theorem pr_111 : Jvm.Cond.eq (Jvm.Term.elem (Jvm.Term.field (Jvm.Term.string "SnowLetters$Tokens" (69 : Nat)) "java/lang/String" "value" "[B") (Jvm.Term.int (6 : Int32))) (Jvm.Term.int (100 : Int32)) ∈ flatC (Jvm.Cond.and given_1 narrow_1) := List.mem_of_getElem? (i := 111) (by decide +kernel)
theorem pr_112 : Jvm.Cond.not (Jvm.Cond.eq (Jvm.Term.string "SnowLetters$Tokens" (63 : Nat)) (Jvm.Term.string "SnowLetters$Tokens" (69 : Nat))) ∈ flatC (Jvm.Cond.and given_1 narrow_1) := List.mem_of_getElem? (i := 112) (by decide +kernel)
theorem pr_113 : Jvm.Cond.not (Jvm.Cond.eq (Jvm.Term.string "SnowLetters$Tokens" (65 : Nat)) (Jvm.Term.string "SnowLetters$Tokens" (69 : Nat))) ∈ flatC (Jvm.Cond.and given_1 narrow_1) := List.mem_of_getElem? (i := 113) (by decide +kernel)
theorem pr_114 : Jvm.Cond.not (Jvm.Cond.eq (Jvm.Term.string "SnowLetters$Tokens" (67 : Nat)) (Jvm.Term.string "SnowLetters$Tokens" (69 : Nat))) ∈ flatC (Jvm.Cond.and given_1 narrow_1) := List.mem_of_getElem? (i := 114) (by decide +kernel)
theorem pr_115 : Jvm.Cond.exactly (Jvm.Term.string "SnowLetters$Tokens" (71 : Nat)) "java/lang/String" ∈ flatC (Jvm.Cond.and given_1 narrow_1) := List.mem_of_getElem? (i := 115) (by decide +kernel)
theorem pr_116 : Jvm.Cond.eq (Jvm.Term.field (Jvm.Term.string "SnowLetters$Tokens" (71 : Nat)) "java/lang/String" "coder" "B") (Jvm.Term.int (0 : Int32)) ∈ flatC (Jvm.Cond.and given_1 narrow_1) := List.mem_of_getElem? (i := 116) (by decide +kernel)
theorem pr_117 : Jvm.Cond.arrayOf (Jvm.Term.field (Jvm.Term.string "SnowLetters$Tokens" (71 : Nat)) "java/lang/String" "value" "[B") Jvm.ClassFile.FieldType.byte ∈ flatC (Jvm.Cond.and given_1 narrow_1) := List.mem_of_getElem? (i := 117) (by decide +kernel)
theorem pr_118 : Jvm.Cond.eq (Jvm.Term.length (Jvm.Term.field (Jvm.Term.string "SnowLetters$Tokens" (71 : Nat)) "java/lang/String" "value" "[B")) (Jvm.Term.int (10 : Int32)) ∈ flatC (Jvm.Cond.and given_1 narrow_1) := List.mem_of_getElem? (i := 118) (by decide +kernel)
theorem pr_119 : Jvm.Cond.eq (Jvm.Term.elem (Jvm.Term.field (Jvm.Term.string "SnowLetters$Tokens" (71 : Nat)) "java/lang/String" "value" "[B") (Jvm.Term.int (0 : Int32))) (Jvm.Term.int (117 : Int32)) ∈ flatC (Jvm.Cond.and given_1 narrow_1) := List.mem_of_getElem? (i := 119) (by decide +kernel)
theorem pr_120 : Jvm.Cond.eq (Jvm.Term.elem (Jvm.Term.field (Jvm.Term.string "SnowLetters$Tokens" (71 : Nat)) "java/lang/String" "value" "[B") (Jvm.Term.int (1 : Int32))) (Jvm.Term.int (110 : Int32)) ∈ flatC (Jvm.Cond.and given_1 narrow_1) := List.mem_of_getElem? (i := 120) (by decide +kernel)
theorem pr_121 : Jvm.Cond.eq (Jvm.Term.elem (Jvm.Term.field (Jvm.Term.string "SnowLetters$Tokens" (71 : Nat)) "java/lang/String" "value" "[B") (Jvm.Term.int (2 : Int32))) (Jvm.Term.int (100 : Int32)) ∈ flatC (Jvm.Cond.and given_1 narrow_1) := List.mem_of_getElem? (i := 121) (by decide +kernel)
theorem pr_122 : Jvm.Cond.eq (Jvm.Term.elem (Jvm.Term.field (Jvm.Term.string "SnowLetters$Tokens" (71 : Nat)) "java/lang/String" "value" "[B") (Jvm.Term.int (3 : Int32))) (Jvm.Term.int (101 : Int32)) ∈ flatC (Jvm.Cond.and given_1 narrow_1) := List.mem_of_getElem? (i := 122) (by decide +kernel)
theorem pr_123 : Jvm.Cond.eq (Jvm.Term.elem (Jvm.Term.field (Jvm.Term.string "SnowLetters$Tokens" (71 : Nat)) "java/lang/String" "value" "[B") (Jvm.Term.int (4 : Int32))) (Jvm.Term.int (114 : Int32)) ∈ flatC (Jvm.Cond.and given_1 narrow_1) := List.mem_of_getElem? (i := 123) (by decide +kernel)
theorem pr_124 : Jvm.Cond.eq (Jvm.Term.elem (Jvm.Term.field (Jvm.Term.string "SnowLetters$Tokens" (71 : Nat)) "java/lang/String" "value" "[B") (Jvm.Term.int (5 : Int32))) (Jvm.Term.int (108 : Int32)) ∈ flatC (Jvm.Cond.and given_1 narrow_1) := List.mem_of_getElem? (i := 124) (by decide +kernel)
theorem pr_125 : Jvm.Cond.eq (Jvm.Term.elem (Jvm.Term.field (Jvm.Term.string "SnowLetters$Tokens" (71 : Nat)) "java/lang/String" "value" "[B") (Jvm.Term.int (6 : Int32))) (Jvm.Term.int (105 : Int32)) ∈ flatC (Jvm.Cond.and given_1 narrow_1) := List.mem_of_getElem? (i := 125) (by decide +kernel)
theorem pr_126 : Jvm.Cond.eq (Jvm.Term.elem (Jvm.Term.field (Jvm.Term.string "SnowLetters$Tokens" (71 : Nat)) "java/lang/String" "value" "[B") (Jvm.Term.int (7 : Int32))) (Jvm.Term.int (110 : Int32)) ∈ flatC (Jvm.Cond.and given_1 narrow_1) := List.mem_of_getElem? (i := 126) (by decide +kernel)
theorem pr_127 : Jvm.Cond.eq (Jvm.Term.elem (Jvm.Term.field (Jvm.Term.string "SnowLetters$Tokens" (71 : Nat)) "java/lang/String" "value" "[B") (Jvm.Term.int (8 : Int32))) (Jvm.Term.int (101 : Int32)) ∈ flatC (Jvm.Cond.and given_1 narrow_1) := List.mem_of_getElem? (i := 127) (by decide +kernel)
theorem pr_128 : Jvm.Cond.eq (Jvm.Term.elem (Jvm.Term.field (Jvm.Term.string "SnowLetters$Tokens" (71 : Nat)) "java/lang/String" "value" "[B") (Jvm.Term.int (9 : Int32))) (Jvm.Term.int (100 : Int32)) ∈ flatC (Jvm.Cond.and given_1 narrow_1) := List.mem_of_getElem? (i := 128) (by decide +kernel)
theorem pr_129 : Jvm.Cond.not (Jvm.Cond.eq (Jvm.Term.string "SnowLetters$Tokens" (63 : Nat)) (Jvm.Term.string "SnowLetters$Tokens" (71 : Nat))) ∈ flatC (Jvm.Cond.and given_1 narrow_1) := List.mem_of_getElem? (i := 129) (by decide +kernel)
theorem pr_130 : Jvm.Cond.not (Jvm.Cond.eq (Jvm.Term.string "SnowLetters$Tokens" (65 : Nat)) (Jvm.Term.string "SnowLetters$Tokens" (71 : Nat))) ∈ flatC (Jvm.Cond.and given_1 narrow_1) := List.mem_of_getElem? (i := 130) (by decide +kernel)
theorem pr_131 : Jvm.Cond.not (Jvm.Cond.eq (Jvm.Term.string "SnowLetters$Tokens" (67 : Nat)) (Jvm.Term.string "SnowLetters$Tokens" (71 : Nat))) ∈ flatC (Jvm.Cond.and given_1 narrow_1) := List.mem_of_getElem? (i := 131) (by decide +kernel)
theorem pr_132 : Jvm.Cond.not (Jvm.Cond.eq (Jvm.Term.string "SnowLetters$Tokens" (69 : Nat)) (Jvm.Term.string "SnowLetters$Tokens" (71 : Nat))) ∈ flatC (Jvm.Cond.and given_1 narrow_1) := List.mem_of_getElem? (i := 132) (by decide +kernel)
theorem pr_133 : Jvm.Cond.exactly (Jvm.Term.string "SnowLetters$Tokens" (73 : Nat)) "java/lang/String" ∈ flatC (Jvm.Cond.and given_1 narrow_1) := List.mem_of_getElem? (i := 133) (by decide +kernel)
theorem pr_134 : Jvm.Cond.eq (Jvm.Term.field (Jvm.Term.string "SnowLetters$Tokens" (73 : Nat)) "java/lang/String" "coder" "B") (Jvm.Term.int (0 : Int32)) ∈ flatC (Jvm.Cond.and given_1 narrow_1) := List.mem_of_getElem? (i := 134) (by decide +kernel)
theorem pr_135 : Jvm.Cond.arrayOf (Jvm.Term.field (Jvm.Term.string "SnowLetters$Tokens" (73 : Nat)) "java/lang/String" "value" "[B") Jvm.ClassFile.FieldType.byte ∈ flatC (Jvm.Cond.and given_1 narrow_1) := List.mem_of_getElem? (i := 135) (by decide +kernel)
theorem pr_136 : Jvm.Cond.eq (Jvm.Term.length (Jvm.Term.field (Jvm.Term.string "SnowLetters$Tokens" (73 : Nat)) "java/lang/String" "value" "[B")) (Jvm.Term.int (3 : Int32)) ∈ flatC (Jvm.Cond.and given_1 narrow_1) := List.mem_of_getElem? (i := 136) (by decide +kernel)
theorem pr_137 : Jvm.Cond.eq (Jvm.Term.elem (Jvm.Term.field (Jvm.Term.string "SnowLetters$Tokens" (73 : Nat)) "java/lang/String" "value" "[B") (Jvm.Term.int (0 : Int32))) (Jvm.Term.int (105 : Int32)) ∈ flatC (Jvm.Cond.and given_1 narrow_1) := List.mem_of_getElem? (i := 137) (by decide +kernel)
theorem pr_138 : Jvm.Cond.eq (Jvm.Term.elem (Jvm.Term.field (Jvm.Term.string "SnowLetters$Tokens" (73 : Nat)) "java/lang/String" "value" "[B") (Jvm.Term.int (1 : Int32))) (Jvm.Term.int (99 : Int32)) ∈ flatC (Jvm.Cond.and given_1 narrow_1) := List.mem_of_getElem? (i := 138) (by decide +kernel)
theorem pr_139 : Jvm.Cond.eq (Jvm.Term.elem (Jvm.Term.field (Jvm.Term.string "SnowLetters$Tokens" (73 : Nat)) "java/lang/String" "value" "[B") (Jvm.Term.int (2 : Int32))) (Jvm.Term.int (121 : Int32)) ∈ flatC (Jvm.Cond.and given_1 narrow_1) := List.mem_of_getElem? (i := 139) (by decide +kernel)
theorem pr_140 : Jvm.Cond.not (Jvm.Cond.eq (Jvm.Term.string "SnowLetters$Tokens" (63 : Nat)) (Jvm.Term.string "SnowLetters$Tokens" (73 : Nat))) ∈ flatC (Jvm.Cond.and given_1 narrow_1) := List.mem_of_getElem? (i := 140) (by decide +kernel)
theorem pr_141 : Jvm.Cond.not (Jvm.Cond.eq (Jvm.Term.string "SnowLetters$Tokens" (65 : Nat)) (Jvm.Term.string "SnowLetters$Tokens" (73 : Nat))) ∈ flatC (Jvm.Cond.and given_1 narrow_1) := List.mem_of_getElem? (i := 141) (by decide +kernel)
theorem pr_142 : Jvm.Cond.not (Jvm.Cond.eq (Jvm.Term.string "SnowLetters$Tokens" (67 : Nat)) (Jvm.Term.string "SnowLetters$Tokens" (73 : Nat))) ∈ flatC (Jvm.Cond.and given_1 narrow_1) := List.mem_of_getElem? (i := 142) (by decide +kernel)
theorem pr_143 : Jvm.Cond.not (Jvm.Cond.eq (Jvm.Term.string "SnowLetters$Tokens" (69 : Nat)) (Jvm.Term.string "SnowLetters$Tokens" (73 : Nat))) ∈ flatC (Jvm.Cond.and given_1 narrow_1) := List.mem_of_getElem? (i := 143) (by decide +kernel)
theorem pr_144 : Jvm.Cond.not (Jvm.Cond.eq (Jvm.Term.string "SnowLetters$Tokens" (71 : Nat)) (Jvm.Term.string "SnowLetters$Tokens" (73 : Nat))) ∈ flatC (Jvm.Cond.and given_1 narrow_1) := List.mem_of_getElem? (i := 144) (by decide +kernel)
theorem pr_145 : Jvm.Cond.exactly (Jvm.Term.string "SnowLetters$Tokens" (75 : Nat)) "java/lang/String" ∈ flatC (Jvm.Cond.and given_1 narrow_1) := List.mem_of_getElem? (i := 145) (by decide +kernel)
theorem pr_146 : Jvm.Cond.eq (Jvm.Term.field (Jvm.Term.string "SnowLetters$Tokens" (75 : Nat)) "java/lang/String" "coder" "B") (Jvm.Term.int (0 : Int32)) ∈ flatC (Jvm.Cond.and given_1 narrow_1) := List.mem_of_getElem? (i := 146) (by decide +kernel)
theorem pr_147 : Jvm.Cond.arrayOf (Jvm.Term.field (Jvm.Term.string "SnowLetters$Tokens" (75 : Nat)) "java/lang/String" "value" "[B") Jvm.ClassFile.FieldType.byte ∈ flatC (Jvm.Cond.and given_1 narrow_1) := List.mem_of_getElem? (i := 147) (by decide +kernel)
theorem pr_148 : Jvm.Cond.eq (Jvm.Term.length (Jvm.Term.field (Jvm.Term.string "SnowLetters$Tokens" (75 : Nat)) "java/lang/String" "value" "[B")) (Jvm.Term.int (4 : Int32)) ∈ flatC (Jvm.Cond.and given_1 narrow_1) := List.mem_of_getElem? (i := 148) (by decide +kernel)
theorem pr_149 : Jvm.Cond.eq (Jvm.Term.elem (Jvm.Term.field (Jvm.Term.string "SnowLetters$Tokens" (75 : Nat)) "java/lang/String" "value" "[B") (Jvm.Term.int (0 : Int32))) (Jvm.Term.int (115 : Int32)) ∈ flatC (Jvm.Cond.and given_1 narrow_1) := List.mem_of_getElem? (i := 149) (by decide +kernel)
theorem pr_150 : Jvm.Cond.eq (Jvm.Term.elem (Jvm.Term.field (Jvm.Term.string "SnowLetters$Tokens" (75 : Nat)) "java/lang/String" "value" "[B") (Jvm.Term.int (1 : Int32))) (Jvm.Term.int (105 : Int32)) ∈ flatC (Jvm.Cond.and given_1 narrow_1) := List.mem_of_getElem? (i := 150) (by decide +kernel)
theorem pr_151 : Jvm.Cond.eq (Jvm.Term.elem (Jvm.Term.field (Jvm.Term.string "SnowLetters$Tokens" (75 : Nat)) "java/lang/String" "value" "[B") (Jvm.Term.int (2 : Int32))) (Jvm.Term.int (103 : Int32)) ∈ flatC (Jvm.Cond.and given_1 narrow_1) := List.mem_of_getElem? (i := 151) (by decide +kernel)
theorem pr_152 : Jvm.Cond.eq (Jvm.Term.elem (Jvm.Term.field (Jvm.Term.string "SnowLetters$Tokens" (75 : Nat)) "java/lang/String" "value" "[B") (Jvm.Term.int (3 : Int32))) (Jvm.Term.int (110 : Int32)) ∈ flatC (Jvm.Cond.and given_1 narrow_1) := List.mem_of_getElem? (i := 152) (by decide +kernel)
theorem pr_153 : Jvm.Cond.not (Jvm.Cond.eq (Jvm.Term.string "SnowLetters$Tokens" (63 : Nat)) (Jvm.Term.string "SnowLetters$Tokens" (75 : Nat))) ∈ flatC (Jvm.Cond.and given_1 narrow_1) := List.mem_of_getElem? (i := 153) (by decide +kernel)
theorem pr_154 : Jvm.Cond.not (Jvm.Cond.eq (Jvm.Term.string "SnowLetters$Tokens" (65 : Nat)) (Jvm.Term.string "SnowLetters$Tokens" (75 : Nat))) ∈ flatC (Jvm.Cond.and given_1 narrow_1) := List.mem_of_getElem? (i := 154) (by decide +kernel)
theorem pr_155 : Jvm.Cond.not (Jvm.Cond.eq (Jvm.Term.string "SnowLetters$Tokens" (67 : Nat)) (Jvm.Term.string "SnowLetters$Tokens" (75 : Nat))) ∈ flatC (Jvm.Cond.and given_1 narrow_1) := List.mem_of_getElem? (i := 155) (by decide +kernel)
theorem pr_156 : Jvm.Cond.not (Jvm.Cond.eq (Jvm.Term.string "SnowLetters$Tokens" (69 : Nat)) (Jvm.Term.string "SnowLetters$Tokens" (75 : Nat))) ∈ flatC (Jvm.Cond.and given_1 narrow_1) := List.mem_of_getElem? (i := 156) (by decide +kernel)
theorem pr_157 : Jvm.Cond.not (Jvm.Cond.eq (Jvm.Term.string "SnowLetters$Tokens" (71 : Nat)) (Jvm.Term.string "SnowLetters$Tokens" (75 : Nat))) ∈ flatC (Jvm.Cond.and given_1 narrow_1) := List.mem_of_getElem? (i := 157) (by decide +kernel)
theorem pr_158 : Jvm.Cond.not (Jvm.Cond.eq (Jvm.Term.string "SnowLetters$Tokens" (73 : Nat)) (Jvm.Term.string "SnowLetters$Tokens" (75 : Nat))) ∈ flatC (Jvm.Cond.and given_1 narrow_1) := List.mem_of_getElem? (i := 158) (by decide +kernel)
theorem pr_159 : Jvm.Cond.exactly (Jvm.Term.string "SnowLetters$Tokens" (77 : Nat)) "java/lang/String" ∈ flatC (Jvm.Cond.and given_1 narrow_1) := List.mem_of_getElem? (i := 159) (by decide +kernel)
theorem pr_160 : Jvm.Cond.eq (Jvm.Term.field (Jvm.Term.string "SnowLetters$Tokens" (77 : Nat)) "java/lang/String" "coder" "B") (Jvm.Term.int (0 : Int32)) ∈ flatC (Jvm.Cond.and given_1 narrow_1) := List.mem_of_getElem? (i := 160) (by decide +kernel)
theorem pr_161 : Jvm.Cond.arrayOf (Jvm.Term.field (Jvm.Term.string "SnowLetters$Tokens" (77 : Nat)) "java/lang/String" "value" "[B") Jvm.ClassFile.FieldType.byte ∈ flatC (Jvm.Cond.and given_1 narrow_1) := List.mem_of_getElem? (i := 161) (by decide +kernel)
theorem pr_162 : Jvm.Cond.eq (Jvm.Term.length (Jvm.Term.field (Jvm.Term.string "SnowLetters$Tokens" (77 : Nat)) "java/lang/String" "value" "[B")) (Jvm.Term.int (3 : Int32)) ∈ flatC (Jvm.Cond.and given_1 narrow_1) := List.mem_of_getElem? (i := 162) (by decide +kernel)
theorem pr_163 : Jvm.Cond.eq (Jvm.Term.elem (Jvm.Term.field (Jvm.Term.string "SnowLetters$Tokens" (77 : Nat)) "java/lang/String" "value" "[B") (Jvm.Term.int (0 : Int32))) (Jvm.Term.int (115 : Int32)) ∈ flatC (Jvm.Cond.and given_1 narrow_1) := List.mem_of_getElem? (i := 163) (by decide +kernel)
theorem pr_164 : Jvm.Cond.eq (Jvm.Term.elem (Jvm.Term.field (Jvm.Term.string "SnowLetters$Tokens" (77 : Nat)) "java/lang/String" "value" "[B") (Jvm.Term.int (1 : Int32))) (Jvm.Term.int (117 : Int32)) ∈ flatC (Jvm.Cond.and given_1 narrow_1) := List.mem_of_getElem? (i := 164) (by decide +kernel)
theorem pr_165 : Jvm.Cond.eq (Jvm.Term.elem (Jvm.Term.field (Jvm.Term.string "SnowLetters$Tokens" (77 : Nat)) "java/lang/String" "value" "[B") (Jvm.Term.int (2 : Int32))) (Jvm.Term.int (110 : Int32)) ∈ flatC (Jvm.Cond.and given_1 narrow_1) := List.mem_of_getElem? (i := 165) (by decide +kernel)
theorem pr_166 : Jvm.Cond.not (Jvm.Cond.eq (Jvm.Term.string "SnowLetters$Tokens" (63 : Nat)) (Jvm.Term.string "SnowLetters$Tokens" (77 : Nat))) ∈ flatC (Jvm.Cond.and given_1 narrow_1) := List.mem_of_getElem? (i := 166) (by decide +kernel)
theorem pr_167 : Jvm.Cond.not (Jvm.Cond.eq (Jvm.Term.string "SnowLetters$Tokens" (65 : Nat)) (Jvm.Term.string "SnowLetters$Tokens" (77 : Nat))) ∈ flatC (Jvm.Cond.and given_1 narrow_1) := List.mem_of_getElem? (i := 167) (by decide +kernel)
theorem pr_168 : Jvm.Cond.not (Jvm.Cond.eq (Jvm.Term.string "SnowLetters$Tokens" (67 : Nat)) (Jvm.Term.string "SnowLetters$Tokens" (77 : Nat))) ∈ flatC (Jvm.Cond.and given_1 narrow_1) := List.mem_of_getElem? (i := 168) (by decide +kernel)
theorem pr_169 : Jvm.Cond.not (Jvm.Cond.eq (Jvm.Term.string "SnowLetters$Tokens" (69 : Nat)) (Jvm.Term.string "SnowLetters$Tokens" (77 : Nat))) ∈ flatC (Jvm.Cond.and given_1 narrow_1) := List.mem_of_getElem? (i := 169) (by decide +kernel)
theorem pr_170 : Jvm.Cond.not (Jvm.Cond.eq (Jvm.Term.string "SnowLetters$Tokens" (71 : Nat)) (Jvm.Term.string "SnowLetters$Tokens" (77 : Nat))) ∈ flatC (Jvm.Cond.and given_1 narrow_1) := List.mem_of_getElem? (i := 170) (by decide +kernel)
theorem pr_171 : Jvm.Cond.not (Jvm.Cond.eq (Jvm.Term.string "SnowLetters$Tokens" (73 : Nat)) (Jvm.Term.string "SnowLetters$Tokens" (77 : Nat))) ∈ flatC (Jvm.Cond.and given_1 narrow_1) := List.mem_of_getElem? (i := 171) (by decide +kernel)
theorem pr_172 : Jvm.Cond.not (Jvm.Cond.eq (Jvm.Term.string "SnowLetters$Tokens" (75 : Nat)) (Jvm.Term.string "SnowLetters$Tokens" (77 : Nat))) ∈ flatC (Jvm.Cond.and given_1 narrow_1) := List.mem_of_getElem? (i := 172) (by decide +kernel)
theorem pr_173 : Jvm.Cond.exactly (Jvm.Term.string "SnowLetters$Tokens" (79 : Nat)) "java/lang/String" ∈ flatC (Jvm.Cond.and given_1 narrow_1) := List.mem_of_getElem? (i := 173) (by decide +kernel)
theorem pr_174 : Jvm.Cond.eq (Jvm.Term.field (Jvm.Term.string "SnowLetters$Tokens" (79 : Nat)) "java/lang/String" "coder" "B") (Jvm.Term.int (0 : Int32)) ∈ flatC (Jvm.Cond.and given_1 narrow_1) := List.mem_of_getElem? (i := 174) (by decide +kernel)
theorem pr_175 : Jvm.Cond.arrayOf (Jvm.Term.field (Jvm.Term.string "SnowLetters$Tokens" (79 : Nat)) "java/lang/String" "value" "[B") Jvm.ClassFile.FieldType.byte ∈ flatC (Jvm.Cond.and given_1 narrow_1) := List.mem_of_getElem? (i := 175) (by decide +kernel)
theorem pr_176 : Jvm.Cond.eq (Jvm.Term.length (Jvm.Term.field (Jvm.Term.string "SnowLetters$Tokens" (79 : Nat)) "java/lang/String" "value" "[B")) (Jvm.Term.int (4 : Int32)) ∈ flatC (Jvm.Cond.and given_1 narrow_1) := List.mem_of_getElem? (i := 176) (by decide +kernel)
theorem pr_177 : Jvm.Cond.eq (Jvm.Term.elem (Jvm.Term.field (Jvm.Term.string "SnowLetters$Tokens" (79 : Nat)) "java/lang/String" "value" "[B") (Jvm.Term.int (0 : Int32))) (Jvm.Term.int (102 : Int32)) ∈ flatC (Jvm.Cond.and given_1 narrow_1) := List.mem_of_getElem? (i := 177) (by decide +kernel)
theorem pr_178 : Jvm.Cond.eq (Jvm.Term.elem (Jvm.Term.field (Jvm.Term.string "SnowLetters$Tokens" (79 : Nat)) "java/lang/String" "value" "[B") (Jvm.Term.int (1 : Int32))) (Jvm.Term.int (111 : Int32)) ∈ flatC (Jvm.Cond.and given_1 narrow_1) := List.mem_of_getElem? (i := 178) (by decide +kernel)
theorem pr_179 : Jvm.Cond.eq (Jvm.Term.elem (Jvm.Term.field (Jvm.Term.string "SnowLetters$Tokens" (79 : Nat)) "java/lang/String" "value" "[B") (Jvm.Term.int (2 : Int32))) (Jvm.Term.int (114 : Int32)) ∈ flatC (Jvm.Cond.and given_1 narrow_1) := List.mem_of_getElem? (i := 179) (by decide +kernel)
theorem pr_180 : Jvm.Cond.eq (Jvm.Term.elem (Jvm.Term.field (Jvm.Term.string "SnowLetters$Tokens" (79 : Nat)) "java/lang/String" "value" "[B") (Jvm.Term.int (3 : Int32))) (Jvm.Term.int (109 : Int32)) ∈ flatC (Jvm.Cond.and given_1 narrow_1) := List.mem_of_getElem? (i := 180) (by decide +kernel)
theorem pr_181 : Jvm.Cond.not (Jvm.Cond.eq (Jvm.Term.string "SnowLetters$Tokens" (63 : Nat)) (Jvm.Term.string "SnowLetters$Tokens" (79 : Nat))) ∈ flatC (Jvm.Cond.and given_1 narrow_1) := List.mem_of_getElem? (i := 181) (by decide +kernel)
theorem pr_182 : Jvm.Cond.not (Jvm.Cond.eq (Jvm.Term.string "SnowLetters$Tokens" (65 : Nat)) (Jvm.Term.string "SnowLetters$Tokens" (79 : Nat))) ∈ flatC (Jvm.Cond.and given_1 narrow_1) := List.mem_of_getElem? (i := 182) (by decide +kernel)
theorem pr_183 : Jvm.Cond.not (Jvm.Cond.eq (Jvm.Term.string "SnowLetters$Tokens" (67 : Nat)) (Jvm.Term.string "SnowLetters$Tokens" (79 : Nat))) ∈ flatC (Jvm.Cond.and given_1 narrow_1) := List.mem_of_getElem? (i := 183) (by decide +kernel)
theorem pr_184 : Jvm.Cond.not (Jvm.Cond.eq (Jvm.Term.string "SnowLetters$Tokens" (69 : Nat)) (Jvm.Term.string "SnowLetters$Tokens" (79 : Nat))) ∈ flatC (Jvm.Cond.and given_1 narrow_1) := List.mem_of_getElem? (i := 184) (by decide +kernel)
theorem pr_185 : Jvm.Cond.not (Jvm.Cond.eq (Jvm.Term.string "SnowLetters$Tokens" (71 : Nat)) (Jvm.Term.string "SnowLetters$Tokens" (79 : Nat))) ∈ flatC (Jvm.Cond.and given_1 narrow_1) := List.mem_of_getElem? (i := 185) (by decide +kernel)
theorem pr_186 : Jvm.Cond.not (Jvm.Cond.eq (Jvm.Term.string "SnowLetters$Tokens" (73 : Nat)) (Jvm.Term.string "SnowLetters$Tokens" (79 : Nat))) ∈ flatC (Jvm.Cond.and given_1 narrow_1) := List.mem_of_getElem? (i := 186) (by decide +kernel)
theorem pr_187 : Jvm.Cond.not (Jvm.Cond.eq (Jvm.Term.string "SnowLetters$Tokens" (75 : Nat)) (Jvm.Term.string "SnowLetters$Tokens" (79 : Nat))) ∈ flatC (Jvm.Cond.and given_1 narrow_1) := List.mem_of_getElem? (i := 187) (by decide +kernel)
theorem pr_188 : Jvm.Cond.not (Jvm.Cond.eq (Jvm.Term.string "SnowLetters$Tokens" (77 : Nat)) (Jvm.Term.string "SnowLetters$Tokens" (79 : Nat))) ∈ flatC (Jvm.Cond.and given_1 narrow_1) := List.mem_of_getElem? (i := 188) (by decide +kernel)
theorem pr_189 : Jvm.Cond.exactly (Jvm.Term.string "SnowLetters$Tokens" (81 : Nat)) "java/lang/String" ∈ flatC (Jvm.Cond.and given_1 narrow_1) := List.mem_of_getElem? (i := 189) (by decide +kernel)
theorem pr_190 : Jvm.Cond.eq (Jvm.Term.field (Jvm.Term.string "SnowLetters$Tokens" (81 : Nat)) "java/lang/String" "coder" "B") (Jvm.Term.int (0 : Int32)) ∈ flatC (Jvm.Cond.and given_1 narrow_1) := List.mem_of_getElem? (i := 190) (by decide +kernel)
theorem pr_191 : Jvm.Cond.arrayOf (Jvm.Term.field (Jvm.Term.string "SnowLetters$Tokens" (81 : Nat)) "java/lang/String" "value" "[B") Jvm.ClassFile.FieldType.byte ∈ flatC (Jvm.Cond.and given_1 narrow_1) := List.mem_of_getElem? (i := 191) (by decide +kernel)
theorem pr_192 : Jvm.Cond.eq (Jvm.Term.length (Jvm.Term.field (Jvm.Term.string "SnowLetters$Tokens" (81 : Nat)) "java/lang/String" "value" "[B")) (Jvm.Term.int (2 : Int32)) ∈ flatC (Jvm.Cond.and given_1 narrow_1) := List.mem_of_getElem? (i := 192) (by decide +kernel)
theorem pr_193 : Jvm.Cond.eq (Jvm.Term.elem (Jvm.Term.field (Jvm.Term.string "SnowLetters$Tokens" (81 : Nat)) "java/lang/String" "value" "[B") (Jvm.Term.int (0 : Int32))) (Jvm.Term.int (97 : Int32)) ∈ flatC (Jvm.Cond.and given_1 narrow_1) := List.mem_of_getElem? (i := 193) (by decide +kernel)
theorem pr_194 : Jvm.Cond.eq (Jvm.Term.elem (Jvm.Term.field (Jvm.Term.string "SnowLetters$Tokens" (81 : Nat)) "java/lang/String" "value" "[B") (Jvm.Term.int (1 : Int32))) (Jvm.Term.int (115 : Int32)) ∈ flatC (Jvm.Cond.and given_1 narrow_1) := List.mem_of_getElem? (i := 194) (by decide +kernel)
theorem pr_195 : Jvm.Cond.not (Jvm.Cond.eq (Jvm.Term.string "SnowLetters$Tokens" (63 : Nat)) (Jvm.Term.string "SnowLetters$Tokens" (81 : Nat))) ∈ flatC (Jvm.Cond.and given_1 narrow_1) := List.mem_of_getElem? (i := 195) (by decide +kernel)
theorem pr_196 : Jvm.Cond.not (Jvm.Cond.eq (Jvm.Term.string "SnowLetters$Tokens" (65 : Nat)) (Jvm.Term.string "SnowLetters$Tokens" (81 : Nat))) ∈ flatC (Jvm.Cond.and given_1 narrow_1) := List.mem_of_getElem? (i := 196) (by decide +kernel)
theorem pr_197 : Jvm.Cond.not (Jvm.Cond.eq (Jvm.Term.string "SnowLetters$Tokens" (67 : Nat)) (Jvm.Term.string "SnowLetters$Tokens" (81 : Nat))) ∈ flatC (Jvm.Cond.and given_1 narrow_1) := List.mem_of_getElem? (i := 197) (by decide +kernel)
theorem pr_198 : Jvm.Cond.not (Jvm.Cond.eq (Jvm.Term.string "SnowLetters$Tokens" (69 : Nat)) (Jvm.Term.string "SnowLetters$Tokens" (81 : Nat))) ∈ flatC (Jvm.Cond.and given_1 narrow_1) := List.mem_of_getElem? (i := 198) (by decide +kernel)
theorem pr_199 : Jvm.Cond.not (Jvm.Cond.eq (Jvm.Term.string "SnowLetters$Tokens" (71 : Nat)) (Jvm.Term.string "SnowLetters$Tokens" (81 : Nat))) ∈ flatC (Jvm.Cond.and given_1 narrow_1) := List.mem_of_getElem? (i := 199) (by decide +kernel)
theorem pr_200 : Jvm.Cond.not (Jvm.Cond.eq (Jvm.Term.string "SnowLetters$Tokens" (73 : Nat)) (Jvm.Term.string "SnowLetters$Tokens" (81 : Nat))) ∈ flatC (Jvm.Cond.and given_1 narrow_1) := List.mem_of_getElem? (i := 200) (by decide +kernel)
theorem pr_201 : Jvm.Cond.not (Jvm.Cond.eq (Jvm.Term.string "SnowLetters$Tokens" (75 : Nat)) (Jvm.Term.string "SnowLetters$Tokens" (81 : Nat))) ∈ flatC (Jvm.Cond.and given_1 narrow_1) := List.mem_of_getElem? (i := 201) (by decide +kernel)
theorem pr_202 : Jvm.Cond.not (Jvm.Cond.eq (Jvm.Term.string "SnowLetters$Tokens" (77 : Nat)) (Jvm.Term.string "SnowLetters$Tokens" (81 : Nat))) ∈ flatC (Jvm.Cond.and given_1 narrow_1) := List.mem_of_getElem? (i := 202) (by decide +kernel)
theorem pr_203 : Jvm.Cond.not (Jvm.Cond.eq (Jvm.Term.string "SnowLetters$Tokens" (79 : Nat)) (Jvm.Term.string "SnowLetters$Tokens" (81 : Nat))) ∈ flatC (Jvm.Cond.and given_1 narrow_1) := List.mem_of_getElem? (i := 203) (by decide +kernel)
theorem pr_204 : Jvm.Cond.exactly (Jvm.Term.string "SnowLetters$Tokens" (83 : Nat)) "java/lang/String" ∈ flatC (Jvm.Cond.and given_1 narrow_1) := List.mem_of_getElem? (i := 204) (by decide +kernel)
theorem pr_205 : Jvm.Cond.eq (Jvm.Term.field (Jvm.Term.string "SnowLetters$Tokens" (83 : Nat)) "java/lang/String" "coder" "B") (Jvm.Term.int (0 : Int32)) ∈ flatC (Jvm.Cond.and given_1 narrow_1) := List.mem_of_getElem? (i := 205) (by decide +kernel)
theorem pr_206 : Jvm.Cond.arrayOf (Jvm.Term.field (Jvm.Term.string "SnowLetters$Tokens" (83 : Nat)) "java/lang/String" "value" "[B") Jvm.ClassFile.FieldType.byte ∈ flatC (Jvm.Cond.and given_1 narrow_1) := List.mem_of_getElem? (i := 206) (by decide +kernel)
theorem pr_207 : Jvm.Cond.eq (Jvm.Term.length (Jvm.Term.field (Jvm.Term.string "SnowLetters$Tokens" (83 : Nat)) "java/lang/String" "value" "[B")) (Jvm.Term.int (4 : Int32)) ∈ flatC (Jvm.Cond.and given_1 narrow_1) := List.mem_of_getElem? (i := 207) (by decide +kernel)
theorem pr_208 : Jvm.Cond.eq (Jvm.Term.elem (Jvm.Term.field (Jvm.Term.string "SnowLetters$Tokens" (83 : Nat)) "java/lang/String" "value" "[B") (Jvm.Term.int (0 : Int32))) (Jvm.Term.int (100 : Int32)) ∈ flatC (Jvm.Cond.and given_1 narrow_1) := List.mem_of_getElem? (i := 208) (by decide +kernel)
theorem pr_209 : Jvm.Cond.eq (Jvm.Term.elem (Jvm.Term.field (Jvm.Term.string "SnowLetters$Tokens" (83 : Nat)) "java/lang/String" "value" "[B") (Jvm.Term.int (1 : Int32))) (Jvm.Term.int (101 : Int32)) ∈ flatC (Jvm.Cond.and given_1 narrow_1) := List.mem_of_getElem? (i := 209) (by decide +kernel)
theorem pr_210 : Jvm.Cond.eq (Jvm.Term.elem (Jvm.Term.field (Jvm.Term.string "SnowLetters$Tokens" (83 : Nat)) "java/lang/String" "value" "[B") (Jvm.Term.int (2 : Int32))) (Jvm.Term.int (101 : Int32)) ∈ flatC (Jvm.Cond.and given_1 narrow_1) := List.mem_of_getElem? (i := 210) (by decide +kernel)
theorem pr_211 : Jvm.Cond.eq (Jvm.Term.elem (Jvm.Term.field (Jvm.Term.string "SnowLetters$Tokens" (83 : Nat)) "java/lang/String" "value" "[B") (Jvm.Term.int (3 : Int32))) (Jvm.Term.int (112 : Int32)) ∈ flatC (Jvm.Cond.and given_1 narrow_1) := List.mem_of_getElem? (i := 211) (by decide +kernel)
theorem pr_212 : Jvm.Cond.not (Jvm.Cond.eq (Jvm.Term.string "SnowLetters$Tokens" (63 : Nat)) (Jvm.Term.string "SnowLetters$Tokens" (83 : Nat))) ∈ flatC (Jvm.Cond.and given_1 narrow_1) := List.mem_of_getElem? (i := 212) (by decide +kernel)
theorem pr_213 : Jvm.Cond.not (Jvm.Cond.eq (Jvm.Term.string "SnowLetters$Tokens" (65 : Nat)) (Jvm.Term.string "SnowLetters$Tokens" (83 : Nat))) ∈ flatC (Jvm.Cond.and given_1 narrow_1) := List.mem_of_getElem? (i := 213) (by decide +kernel)
theorem pr_214 : Jvm.Cond.not (Jvm.Cond.eq (Jvm.Term.string "SnowLetters$Tokens" (67 : Nat)) (Jvm.Term.string "SnowLetters$Tokens" (83 : Nat))) ∈ flatC (Jvm.Cond.and given_1 narrow_1) := List.mem_of_getElem? (i := 214) (by decide +kernel)
theorem pr_215 : Jvm.Cond.not (Jvm.Cond.eq (Jvm.Term.string "SnowLetters$Tokens" (69 : Nat)) (Jvm.Term.string "SnowLetters$Tokens" (83 : Nat))) ∈ flatC (Jvm.Cond.and given_1 narrow_1) := List.mem_of_getElem? (i := 215) (by decide +kernel)
theorem pr_216 : Jvm.Cond.not (Jvm.Cond.eq (Jvm.Term.string "SnowLetters$Tokens" (71 : Nat)) (Jvm.Term.string "SnowLetters$Tokens" (83 : Nat))) ∈ flatC (Jvm.Cond.and given_1 narrow_1) := List.mem_of_getElem? (i := 216) (by decide +kernel)
theorem pr_217 : Jvm.Cond.not (Jvm.Cond.eq (Jvm.Term.string "SnowLetters$Tokens" (73 : Nat)) (Jvm.Term.string "SnowLetters$Tokens" (83 : Nat))) ∈ flatC (Jvm.Cond.and given_1 narrow_1) := List.mem_of_getElem? (i := 217) (by decide +kernel)
theorem pr_218 : Jvm.Cond.not (Jvm.Cond.eq (Jvm.Term.string "SnowLetters$Tokens" (75 : Nat)) (Jvm.Term.string "SnowLetters$Tokens" (83 : Nat))) ∈ flatC (Jvm.Cond.and given_1 narrow_1) := List.mem_of_getElem? (i := 218) (by decide +kernel)
theorem pr_219 : Jvm.Cond.not (Jvm.Cond.eq (Jvm.Term.string "SnowLetters$Tokens" (77 : Nat)) (Jvm.Term.string "SnowLetters$Tokens" (83 : Nat))) ∈ flatC (Jvm.Cond.and given_1 narrow_1) := List.mem_of_getElem? (i := 219) (by decide +kernel)
theorem pr_220 : Jvm.Cond.not (Jvm.Cond.eq (Jvm.Term.string "SnowLetters$Tokens" (79 : Nat)) (Jvm.Term.string "SnowLetters$Tokens" (83 : Nat))) ∈ flatC (Jvm.Cond.and given_1 narrow_1) := List.mem_of_getElem? (i := 220) (by decide +kernel)
theorem pr_221 : Jvm.Cond.not (Jvm.Cond.eq (Jvm.Term.string "SnowLetters$Tokens" (81 : Nat)) (Jvm.Term.string "SnowLetters$Tokens" (83 : Nat))) ∈ flatC (Jvm.Cond.and given_1 narrow_1) := List.mem_of_getElem? (i := 221) (by decide +kernel)
theorem pr_222 : Jvm.Cond.exactly (Jvm.Term.string "SnowLetters$Tokens" (85 : Nat)) "java/lang/String" ∈ flatC (Jvm.Cond.and given_1 narrow_1) := List.mem_of_getElem? (i := 222) (by decide +kernel)
theorem pr_223 : Jvm.Cond.eq (Jvm.Term.field (Jvm.Term.string "SnowLetters$Tokens" (85 : Nat)) "java/lang/String" "coder" "B") (Jvm.Term.int (0 : Int32)) ∈ flatC (Jvm.Cond.and given_1 narrow_1) := List.mem_of_getElem? (i := 223) (by decide +kernel)
theorem pr_224 : Jvm.Cond.arrayOf (Jvm.Term.field (Jvm.Term.string "SnowLetters$Tokens" (85 : Nat)) "java/lang/String" "value" "[B") Jvm.ClassFile.FieldType.byte ∈ flatC (Jvm.Cond.and given_1 narrow_1) := List.mem_of_getElem? (i := 224) (by decide +kernel)
theorem pr_225 : Jvm.Cond.eq (Jvm.Term.length (Jvm.Term.field (Jvm.Term.string "SnowLetters$Tokens" (85 : Nat)) "java/lang/String" "value" "[B")) (Jvm.Term.int (0 : Int32)) ∈ flatC (Jvm.Cond.and given_1 narrow_1) := List.mem_of_getElem? (i := 225) (by decide +kernel)
theorem pr_226 : Jvm.Cond.not (Jvm.Cond.eq (Jvm.Term.string "SnowLetters$Tokens" (63 : Nat)) (Jvm.Term.string "SnowLetters$Tokens" (85 : Nat))) ∈ flatC (Jvm.Cond.and given_1 narrow_1) := List.mem_of_getElem? (i := 226) (by decide +kernel)
theorem pr_227 : Jvm.Cond.not (Jvm.Cond.eq (Jvm.Term.string "SnowLetters$Tokens" (65 : Nat)) (Jvm.Term.string "SnowLetters$Tokens" (85 : Nat))) ∈ flatC (Jvm.Cond.and given_1 narrow_1) := List.mem_of_getElem? (i := 227) (by decide +kernel)
theorem pr_228 : Jvm.Cond.not (Jvm.Cond.eq (Jvm.Term.string "SnowLetters$Tokens" (67 : Nat)) (Jvm.Term.string "SnowLetters$Tokens" (85 : Nat))) ∈ flatC (Jvm.Cond.and given_1 narrow_1) := List.mem_of_getElem? (i := 228) (by decide +kernel)
theorem pr_229 : Jvm.Cond.not (Jvm.Cond.eq (Jvm.Term.string "SnowLetters$Tokens" (69 : Nat)) (Jvm.Term.string "SnowLetters$Tokens" (85 : Nat))) ∈ flatC (Jvm.Cond.and given_1 narrow_1) := List.mem_of_getElem? (i := 229) (by decide +kernel)
theorem pr_230 : Jvm.Cond.not (Jvm.Cond.eq (Jvm.Term.string "SnowLetters$Tokens" (71 : Nat)) (Jvm.Term.string "SnowLetters$Tokens" (85 : Nat))) ∈ flatC (Jvm.Cond.and given_1 narrow_1) := List.mem_of_getElem? (i := 230) (by decide +kernel)
theorem pr_231 : Jvm.Cond.not (Jvm.Cond.eq (Jvm.Term.string "SnowLetters$Tokens" (73 : Nat)) (Jvm.Term.string "SnowLetters$Tokens" (85 : Nat))) ∈ flatC (Jvm.Cond.and given_1 narrow_1) := List.mem_of_getElem? (i := 231) (by decide +kernel)
theorem pr_232 : Jvm.Cond.not (Jvm.Cond.eq (Jvm.Term.string "SnowLetters$Tokens" (75 : Nat)) (Jvm.Term.string "SnowLetters$Tokens" (85 : Nat))) ∈ flatC (Jvm.Cond.and given_1 narrow_1) := List.mem_of_getElem? (i := 232) (by decide +kernel)
theorem pr_233 : Jvm.Cond.not (Jvm.Cond.eq (Jvm.Term.string "SnowLetters$Tokens" (77 : Nat)) (Jvm.Term.string "SnowLetters$Tokens" (85 : Nat))) ∈ flatC (Jvm.Cond.and given_1 narrow_1) := List.mem_of_getElem? (i := 233) (by decide +kernel)
theorem pr_234 : Jvm.Cond.not (Jvm.Cond.eq (Jvm.Term.string "SnowLetters$Tokens" (79 : Nat)) (Jvm.Term.string "SnowLetters$Tokens" (85 : Nat))) ∈ flatC (Jvm.Cond.and given_1 narrow_1) := List.mem_of_getElem? (i := 234) (by decide +kernel)
theorem pr_235 : Jvm.Cond.not (Jvm.Cond.eq (Jvm.Term.string "SnowLetters$Tokens" (81 : Nat)) (Jvm.Term.string "SnowLetters$Tokens" (85 : Nat))) ∈ flatC (Jvm.Cond.and given_1 narrow_1) := List.mem_of_getElem? (i := 235) (by decide +kernel)
theorem pr_236 : Jvm.Cond.not (Jvm.Cond.eq (Jvm.Term.string "SnowLetters$Tokens" (83 : Nat)) (Jvm.Term.string "SnowLetters$Tokens" (85 : Nat))) ∈ flatC (Jvm.Cond.and given_1 narrow_1) := List.mem_of_getElem? (i := 236) (by decide +kernel)
theorem pr_247 : Jvm.Cond.eq (Jvm.Term.string "SnowLetters$Tokens" (63 : Nat)) (Jvm.Term.string "SnowLettersModel" (233 : Nat)) ∈ flatC (Jvm.Cond.and given_1 narrow_1) := List.mem_of_getElem? (i := 247) (by decide +kernel)
theorem pr_271 : Jvm.Cond.eq (Jvm.Term.string "SnowLetters$Tokens" (65 : Nat)) (Jvm.Term.string "SnowLettersModel" (235 : Nat)) ∈ flatC (Jvm.Cond.and given_1 narrow_1) := List.mem_of_getElem? (i := 271) (by decide +kernel)
theorem pr_293 : Jvm.Cond.eq (Jvm.Term.string "SnowLetters$Tokens" (67 : Nat)) (Jvm.Term.string "SnowLettersModel" (237 : Nat)) ∈ flatC (Jvm.Cond.and given_1 narrow_1) := List.mem_of_getElem? (i := 293) (by decide +kernel)
theorem pr_319 : Jvm.Cond.eq (Jvm.Term.string "SnowLetters$Tokens" (69 : Nat)) (Jvm.Term.string "SnowLettersModel" (239 : Nat)) ∈ flatC (Jvm.Cond.and given_1 narrow_1) := List.mem_of_getElem? (i := 319) (by decide +kernel)
theorem pr_349 : Jvm.Cond.eq (Jvm.Term.string "SnowLetters$Tokens" (71 : Nat)) (Jvm.Term.string "SnowLettersModel" (241 : Nat)) ∈ flatC (Jvm.Cond.and given_1 narrow_1) := List.mem_of_getElem? (i := 349) (by decide +kernel)
theorem pr_373 : Jvm.Cond.eq (Jvm.Term.string "SnowLetters$Tokens" (73 : Nat)) (Jvm.Term.string "SnowLettersModel" (243 : Nat)) ∈ flatC (Jvm.Cond.and given_1 narrow_1) := List.mem_of_getElem? (i := 373) (by decide +kernel)
theorem pr_401 : Jvm.Cond.eq (Jvm.Term.string "SnowLetters$Tokens" (79 : Nat)) (Jvm.Term.string "SnowLettersModel" (245 : Nat)) ∈ flatC (Jvm.Cond.and given_1 narrow_1) := List.mem_of_getElem? (i := 401) (by decide +kernel)
theorem pr_426 : Jvm.Cond.eq (Jvm.Term.string "SnowLetters$Tokens" (81 : Nat)) (Jvm.Term.string "SnowLettersModel" (247 : Nat)) ∈ flatC (Jvm.Cond.and given_1 narrow_1) := List.mem_of_getElem? (i := 426) (by decide +kernel)
theorem pr_454 : Jvm.Cond.eq (Jvm.Term.string "SnowLetters$Tokens" (83 : Nat)) (Jvm.Term.string "SnowLettersModel" (255 : Nat)) ∈ flatC (Jvm.Cond.and given_1 narrow_1) := List.mem_of_getElem? (i := 454) (by decide +kernel)
theorem pr_478 : Jvm.Cond.eq (Jvm.Term.string "SnowLetters$Tokens" (75 : Nat)) (Jvm.Term.string "SnowLettersModel" (264 : Nat)) ∈ flatC (Jvm.Cond.and given_1 narrow_1) := List.mem_of_getElem? (i := 478) (by decide +kernel)
theorem pr_507 : Jvm.Cond.eq (Jvm.Term.string "SnowLetters$Tokens" (77 : Nat)) (Jvm.Term.string "SnowLettersModel" (269 : Nat)) ∈ flatC (Jvm.Cond.and given_1 narrow_1) := List.mem_of_getElem? (i := 507) (by decide +kernel)
theorem st_ENDS {args : Array Value} {s : State} (hs : ∀ w ∈ flatC (Jvm.Cond.and given_1 narrow_1), w.before args s = true) (hw : ∀ w ∈ lw_tbl, w.before args s = true) {A : Nat → Prop} (hA : ∀ a : Nat, a < s.heap.size → ¬ A a) : sArr "ENDS" tENDS A s s.heap := by
  obtain ⟨t, ht, hT⟩ := va_Tof (ty := .int) (N := 12) (tm := (Jvm.Term.static "SnowLetters$Forms" "ENDS" "[I")) (f := fun j => .int (tENDS j)) (by decide) (hs _ pr_5) (va_eqt (hs _ pr_6)) (fun j hj => by
    rcases (show j = 0 ∨ j = 1 ∨ j = 2 ∨ j = 3 ∨ j = 4 ∨ j = 5 ∨ j = 6 ∨ j = 7 ∨ j = 8 ∨ j = 9 ∨ j = 10 ∨ j = 11 by omega) with rfl | rfl | rfl | rfl | rfl | rfl | rfl | rfl | rfl | rfl | rfl | rfl
    · exact va_eqt (hs _ pr_7)
    · exact va_eqt (hs _ pr_8)
    · exact va_eqt (hs _ pr_9)
    · exact va_eqt (hs _ pr_10)
    · exact va_eqt (hs _ pr_11)
    · exact va_eqt (hs _ pr_12)
    · exact va_eqt (hs _ pr_13)
    · exact va_eqt (hs _ pr_14)
    · exact va_eqt (hs _ pr_15)
    · exact va_eqt (hs _ pr_16)
    · exact va_eqt (hs _ pr_17)
    · exact va_eqt (hs _ pr_18)) hA
  exact ⟨t, va_Zref (hw _ (List.mem_of_getElem? (i := 246) (by decide +kernel))) (hw _ (wG_ok mw_47).1) ht hA, hT⟩
theorem st_ONE_END {args : Array Value} {s : State} (hs : ∀ w ∈ flatC (Jvm.Cond.and given_1 narrow_1), w.before args s = true) (hw : ∀ w ∈ lw_tbl, w.before args s = true) {A : Nat → Prop} (hA : ∀ a : Nat, a < s.heap.size → ¬ A a) : sArr "ONE_END" tONE A s s.heap := by
  obtain ⟨t, ht, hT⟩ := va_Tof (ty := .int) (N := 12) (tm := (Jvm.Term.static "SnowLetters$Forms" "ONE_END" "[I")) (f := fun j => .int (tONE j)) (by decide) (hs _ pr_20) (va_eqt (hs _ pr_21)) (fun j hj => by
    rcases (show j = 0 ∨ j = 1 ∨ j = 2 ∨ j = 3 ∨ j = 4 ∨ j = 5 ∨ j = 6 ∨ j = 7 ∨ j = 8 ∨ j = 9 ∨ j = 10 ∨ j = 11 by omega) with rfl | rfl | rfl | rfl | rfl | rfl | rfl | rfl | rfl | rfl | rfl | rfl
    · exact va_eqt (hs _ pr_22)
    · exact va_eqt (hs _ pr_23)
    · exact va_eqt (hs _ pr_24)
    · exact va_eqt (hs _ pr_25)
    · exact va_eqt (hs _ pr_26)
    · exact va_eqt (hs _ pr_27)
    · exact va_eqt (hs _ pr_28)
    · exact va_eqt (hs _ pr_29)
    · exact va_eqt (hs _ pr_30)
    · exact va_eqt (hs _ pr_31)
    · exact va_eqt (hs _ pr_32)
    · exact va_eqt (hs _ pr_33)) hA
  exact ⟨t, va_Zref (hw _ (List.mem_of_getElem? (i := 303) (by decide +kernel))) (hw _ (wG_ok mw_47).1) ht hA, hT⟩
theorem st_OTHER_END {args : Array Value} {s : State} (hs : ∀ w ∈ flatC (Jvm.Cond.and given_1 narrow_1), w.before args s = true) (hw : ∀ w ∈ lw_tbl, w.before args s = true) {A : Nat → Prop} (hA : ∀ a : Nat, a < s.heap.size → ¬ A a) : sArr "OTHER_END" tOTHER A s s.heap := by
  obtain ⟨t, ht, hT⟩ := va_Tof (ty := .int) (N := 12) (tm := (Jvm.Term.static "SnowLetters$Forms" "OTHER_END" "[I")) (f := fun j => .int (tOTHER j)) (by decide) (hs _ pr_35) (va_eqt (hs _ pr_36)) (fun j hj => by
    rcases (show j = 0 ∨ j = 1 ∨ j = 2 ∨ j = 3 ∨ j = 4 ∨ j = 5 ∨ j = 6 ∨ j = 7 ∨ j = 8 ∨ j = 9 ∨ j = 10 ∨ j = 11 by omega) with rfl | rfl | rfl | rfl | rfl | rfl | rfl | rfl | rfl | rfl | rfl | rfl
    · exact va_eqt (hs _ pr_37)
    · exact va_eqt (hs _ pr_38)
    · exact va_eqt (hs _ pr_39)
    · exact va_eqt (hs _ pr_40)
    · exact va_eqt (hs _ pr_41)
    · exact va_eqt (hs _ pr_42)
    · exact va_eqt (hs _ pr_43)
    · exact va_eqt (hs _ pr_44)
    · exact va_eqt (hs _ pr_45)
    · exact va_eqt (hs _ pr_46)
    · exact va_eqt (hs _ pr_47)
    · exact va_eqt (hs _ pr_48)) hA
  exact ⟨t, va_Zref (hw _ (List.mem_of_getElem? (i := 305) (by decide +kernel))) (hw _ (wG_ok mw_47).1) ht hA, hT⟩
theorem st_QUARTER {args : Array Value} {s : State} (hs : ∀ w ∈ flatC (Jvm.Cond.and given_1 narrow_1), w.before args s = true) (hw : ∀ w ∈ lw_tbl, w.before args s = true) {A : Nat → Prop} (hA : ∀ a : Nat, a < s.heap.size → ¬ A a) : sArr "QUARTER" tQUARTER A s s.heap := by
  obtain ⟨t, ht, hT⟩ := va_Tof (ty := .int) (N := 12) (tm := (Jvm.Term.static "SnowLetters$Forms" "QUARTER" "[I")) (f := fun j => .int (tQUARTER j)) (by decide) (hs _ pr_50) (va_eqt (hs _ pr_51)) (fun j hj => by
    rcases (show j = 0 ∨ j = 1 ∨ j = 2 ∨ j = 3 ∨ j = 4 ∨ j = 5 ∨ j = 6 ∨ j = 7 ∨ j = 8 ∨ j = 9 ∨ j = 10 ∨ j = 11 by omega) with rfl | rfl | rfl | rfl | rfl | rfl | rfl | rfl | rfl | rfl | rfl | rfl
    · exact va_eqt (hs _ pr_52)
    · exact va_eqt (hs _ pr_53)
    · exact va_eqt (hs _ pr_54)
    · exact va_eqt (hs _ pr_55)
    · exact va_eqt (hs _ pr_56)
    · exact va_eqt (hs _ pr_57)
    · exact va_eqt (hs _ pr_58)
    · exact va_eqt (hs _ pr_59)
    · exact va_eqt (hs _ pr_60)
    · exact va_eqt (hs _ pr_61)
    · exact va_eqt (hs _ pr_62)
    · exact va_eqt (hs _ pr_63)) hA
  exact ⟨t, va_Zref (hw _ (List.mem_of_getElem? (i := 344) (by decide +kernel))) (hw _ (wG_ok mw_47).1) ht hA, hT⟩
theorem st_compact {args : Array Value} {s : State} (hs : ∀ w ∈ flatC (Jvm.Cond.and given_1 narrow_1), w.before args s = true) (hw : ∀ w ∈ lw_tbl, w.before args s = true) {A : Nat → Prop} (hA : ∀ a : Nat, a < s.heap.size → ¬ A a) : va_Z "java/lang/String" "COMPACT_STRINGS" "Z" (.int 1) A s s.heap := va_Zof (hw _ (List.mem_of_getElem? (i := 668) (by decide +kernel))) (hw _ (wG_ok mw_52).1) (va_eqt (hs _ pr_64)) hA
theorem st_form {args : Array Value} {s : State} (hs : ∀ w ∈ flatC (Jvm.Cond.and given_1 narrow_1), w.before args s = true) (hw : ∀ w ∈ lw_tbl, w.before args s = true) {A : Nat → Prop} (hA : ∀ a : Nat, a < s.heap.size → ¬ A a) : va_Zq "jdk/internal/util/Preconditions" "SIOOBE_FORMATTER" "Ljava/util/function/BiFunction;" A s s.heap := va_Zqof (hw _ (List.mem_of_getElem? (i := 684) (by decide +kernel))) (hw _ (wG_ok mw_54).1) (hs _ pr_65) hA
/-- the texts' places in the pool -/
def tmS (i : Nat) : Term := Term.string "SnowLetters$Tokens" (63 + 2 * i)
theorem sx_ex {args : Array Value} {s : State} (hs : ∀ w ∈ flatC (Jvm.Cond.and given_1 narrow_1), w.before args s = true) : ∀ i : Nat, i < 12 → (Cond.exactly (tmS i) "java/lang/String").before args s = true := by
  intro i hi
  rcases (show i = 0 ∨ i = 1 ∨ i = 2 ∨ i = 3 ∨ i = 4 ∨ i = 5 ∨ i = 6 ∨ i = 7 ∨ i = 8 ∨ i = 9 ∨ i = 10 ∨ i = 11 by omega) with rfl | rfl | rfl | rfl | rfl | rfl | rfl | rfl | rfl | rfl | rfl | rfl
  · exact (hs _ pr_69)
  · exact (hs _ pr_79)
  · exact (hs _ pr_91)
  · exact (hs _ pr_101)
  · exact (hs _ pr_115)
  · exact (hs _ pr_133)
  · exact (hs _ pr_145)
  · exact (hs _ pr_159)
  · exact (hs _ pr_173)
  · exact (hs _ pr_189)
  · exact (hs _ pr_204)
  · exact (hs _ pr_222)
theorem sx_co {args : Array Value} {s : State} (hs : ∀ w ∈ flatC (Jvm.Cond.and given_1 narrow_1), w.before args s = true) : ∀ i : Nat, i < 12 → (Cond.eq (.field (tmS i) "java/lang/String" "coder" "B") (.int 0)).before args s = true := by
  intro i hi
  rcases (show i = 0 ∨ i = 1 ∨ i = 2 ∨ i = 3 ∨ i = 4 ∨ i = 5 ∨ i = 6 ∨ i = 7 ∨ i = 8 ∨ i = 9 ∨ i = 10 ∨ i = 11 by omega) with rfl | rfl | rfl | rfl | rfl | rfl | rfl | rfl | rfl | rfl | rfl | rfl
  · exact (hs _ pr_70)
  · exact (hs _ pr_80)
  · exact (hs _ pr_92)
  · exact (hs _ pr_102)
  · exact (hs _ pr_116)
  · exact (hs _ pr_134)
  · exact (hs _ pr_146)
  · exact (hs _ pr_160)
  · exact (hs _ pr_174)
  · exact (hs _ pr_190)
  · exact (hs _ pr_205)
  · exact (hs _ pr_223)
theorem sx_ar {args : Array Value} {s : State} (hs : ∀ w ∈ flatC (Jvm.Cond.and given_1 narrow_1), w.before args s = true) : ∀ i : Nat, i < 12 → (Cond.arrayOf (.field (tmS i) "java/lang/String" "value" "[B") .byte).before args s = true := by
  intro i hi
  rcases (show i = 0 ∨ i = 1 ∨ i = 2 ∨ i = 3 ∨ i = 4 ∨ i = 5 ∨ i = 6 ∨ i = 7 ∨ i = 8 ∨ i = 9 ∨ i = 10 ∨ i = 11 by omega) with rfl | rfl | rfl | rfl | rfl | rfl | rfl | rfl | rfl | rfl | rfl | rfl
  · exact (hs _ pr_71)
  · exact (hs _ pr_81)
  · exact (hs _ pr_93)
  · exact (hs _ pr_103)
  · exact (hs _ pr_117)
  · exact (hs _ pr_135)
  · exact (hs _ pr_147)
  · exact (hs _ pr_161)
  · exact (hs _ pr_175)
  · exact (hs _ pr_191)
  · exact (hs _ pr_206)
  · exact (hs _ pr_224)
theorem sx_le {args : Array Value} {s : State} (hs : ∀ w ∈ flatC (Jvm.Cond.and given_1 narrow_1), w.before args s = true) : ∀ i : Nat, i < 12 → (Cond.eq (.length (.field (tmS i) "java/lang/String" "value" "[B")) (.int (Int32.ofNat (sLen.getD i 0)))).before args s = true := by
  intro i hi
  rcases (show i = 0 ∨ i = 1 ∨ i = 2 ∨ i = 3 ∨ i = 4 ∨ i = 5 ∨ i = 6 ∨ i = 7 ∨ i = 8 ∨ i = 9 ∨ i = 10 ∨ i = 11 by omega) with rfl | rfl | rfl | rfl | rfl | rfl | rfl | rfl | rfl | rfl | rfl | rfl
  · exact (hs _ pr_72)
  · exact (hs _ pr_82)
  · exact (hs _ pr_94)
  · exact (hs _ pr_104)
  · exact (hs _ pr_118)
  · exact (hs _ pr_136)
  · exact (hs _ pr_148)
  · exact (hs _ pr_162)
  · exact (hs _ pr_176)
  · exact (hs _ pr_192)
  · exact (hs _ pr_207)
  · exact (hs _ pr_225)
theorem sx_el0 {args : Array Value} {s : State} (hs : ∀ w ∈ flatC (Jvm.Cond.and given_1 narrow_1), w.before args s = true) : ∀ j : Nat, j < sLen.getD 0 0 → (Cond.eq (.elem (.field (tmS 0) "java/lang/String" "value" "[B") (.int (Int32.ofNat j))) (.int ((sByt.getD 0 []).getD j 0))).before args s = true := by
  intro j hj
  have hj : j < 6 := hj
  rcases (show j = 0 ∨ j = 1 ∨ j = 2 ∨ j = 3 ∨ j = 4 ∨ j = 5 by omega) with rfl | rfl | rfl | rfl | rfl | rfl
  · exact (hs _ pr_73)
  · exact (hs _ pr_74)
  · exact (hs _ pr_75)
  · exact (hs _ pr_76)
  · exact (hs _ pr_77)
  · exact (hs _ pr_78)
theorem sx_el1 {args : Array Value} {s : State} (hs : ∀ w ∈ flatC (Jvm.Cond.and given_1 narrow_1), w.before args s = true) : ∀ j : Nat, j < sLen.getD 1 0 → (Cond.eq (.elem (.field (tmS 1) "java/lang/String" "value" "[B") (.int (Int32.ofNat j))) (.int ((sByt.getD 1 []).getD j 0))).before args s = true := by
  intro j hj
  have hj : j < 7 := hj
  rcases (show j = 0 ∨ j = 1 ∨ j = 2 ∨ j = 3 ∨ j = 4 ∨ j = 5 ∨ j = 6 by omega) with rfl | rfl | rfl | rfl | rfl | rfl | rfl
  · exact (hs _ pr_83)
  · exact (hs _ pr_84)
  · exact (hs _ pr_85)
  · exact (hs _ pr_86)
  · exact (hs _ pr_87)
  · exact (hs _ pr_88)
  · exact (hs _ pr_89)
theorem sx_el2 {args : Array Value} {s : State} (hs : ∀ w ∈ flatC (Jvm.Cond.and given_1 narrow_1), w.before args s = true) : ∀ j : Nat, j < sLen.getD 2 0 → (Cond.eq (.elem (.field (tmS 2) "java/lang/String" "value" "[B") (.int (Int32.ofNat j))) (.int ((sByt.getD 2 []).getD j 0))).before args s = true := by
  intro j hj
  have hj : j < 4 := hj
  rcases (show j = 0 ∨ j = 1 ∨ j = 2 ∨ j = 3 by omega) with rfl | rfl | rfl | rfl
  · exact (hs _ pr_95)
  · exact (hs _ pr_96)
  · exact (hs _ pr_97)
  · exact (hs _ pr_98)
theorem sx_el3 {args : Array Value} {s : State} (hs : ∀ w ∈ flatC (Jvm.Cond.and given_1 narrow_1), w.before args s = true) : ∀ j : Nat, j < sLen.getD 3 0 → (Cond.eq (.elem (.field (tmS 3) "java/lang/String" "value" "[B") (.int (Int32.ofNat j))) (.int ((sByt.getD 3 []).getD j 0))).before args s = true := by
  intro j hj
  have hj : j < 7 := hj
  rcases (show j = 0 ∨ j = 1 ∨ j = 2 ∨ j = 3 ∨ j = 4 ∨ j = 5 ∨ j = 6 by omega) with rfl | rfl | rfl | rfl | rfl | rfl | rfl
  · exact (hs _ pr_105)
  · exact (hs _ pr_106)
  · exact (hs _ pr_107)
  · exact (hs _ pr_108)
  · exact (hs _ pr_109)
  · exact (hs _ pr_110)
  · exact (hs _ pr_111)
theorem sx_el4 {args : Array Value} {s : State} (hs : ∀ w ∈ flatC (Jvm.Cond.and given_1 narrow_1), w.before args s = true) : ∀ j : Nat, j < sLen.getD 4 0 → (Cond.eq (.elem (.field (tmS 4) "java/lang/String" "value" "[B") (.int (Int32.ofNat j))) (.int ((sByt.getD 4 []).getD j 0))).before args s = true := by
  intro j hj
  have hj : j < 10 := hj
  rcases (show j = 0 ∨ j = 1 ∨ j = 2 ∨ j = 3 ∨ j = 4 ∨ j = 5 ∨ j = 6 ∨ j = 7 ∨ j = 8 ∨ j = 9 by omega) with rfl | rfl | rfl | rfl | rfl | rfl | rfl | rfl | rfl | rfl
  · exact (hs _ pr_119)
  · exact (hs _ pr_120)
  · exact (hs _ pr_121)
  · exact (hs _ pr_122)
  · exact (hs _ pr_123)
  · exact (hs _ pr_124)
  · exact (hs _ pr_125)
  · exact (hs _ pr_126)
  · exact (hs _ pr_127)
  · exact (hs _ pr_128)
theorem sx_el5 {args : Array Value} {s : State} (hs : ∀ w ∈ flatC (Jvm.Cond.and given_1 narrow_1), w.before args s = true) : ∀ j : Nat, j < sLen.getD 5 0 → (Cond.eq (.elem (.field (tmS 5) "java/lang/String" "value" "[B") (.int (Int32.ofNat j))) (.int ((sByt.getD 5 []).getD j 0))).before args s = true := by
  intro j hj
  have hj : j < 3 := hj
  rcases (show j = 0 ∨ j = 1 ∨ j = 2 by omega) with rfl | rfl | rfl
  · exact (hs _ pr_137)
  · exact (hs _ pr_138)
  · exact (hs _ pr_139)
theorem sx_el6 {args : Array Value} {s : State} (hs : ∀ w ∈ flatC (Jvm.Cond.and given_1 narrow_1), w.before args s = true) : ∀ j : Nat, j < sLen.getD 6 0 → (Cond.eq (.elem (.field (tmS 6) "java/lang/String" "value" "[B") (.int (Int32.ofNat j))) (.int ((sByt.getD 6 []).getD j 0))).before args s = true := by
  intro j hj
  have hj : j < 4 := hj
  rcases (show j = 0 ∨ j = 1 ∨ j = 2 ∨ j = 3 by omega) with rfl | rfl | rfl | rfl
  · exact (hs _ pr_149)
  · exact (hs _ pr_150)
  · exact (hs _ pr_151)
  · exact (hs _ pr_152)
theorem sx_el7 {args : Array Value} {s : State} (hs : ∀ w ∈ flatC (Jvm.Cond.and given_1 narrow_1), w.before args s = true) : ∀ j : Nat, j < sLen.getD 7 0 → (Cond.eq (.elem (.field (tmS 7) "java/lang/String" "value" "[B") (.int (Int32.ofNat j))) (.int ((sByt.getD 7 []).getD j 0))).before args s = true := by
  intro j hj
  have hj : j < 3 := hj
  rcases (show j = 0 ∨ j = 1 ∨ j = 2 by omega) with rfl | rfl | rfl
  · exact (hs _ pr_163)
  · exact (hs _ pr_164)
  · exact (hs _ pr_165)
theorem sx_el8 {args : Array Value} {s : State} (hs : ∀ w ∈ flatC (Jvm.Cond.and given_1 narrow_1), w.before args s = true) : ∀ j : Nat, j < sLen.getD 8 0 → (Cond.eq (.elem (.field (tmS 8) "java/lang/String" "value" "[B") (.int (Int32.ofNat j))) (.int ((sByt.getD 8 []).getD j 0))).before args s = true := by
  intro j hj
  have hj : j < 4 := hj
  rcases (show j = 0 ∨ j = 1 ∨ j = 2 ∨ j = 3 by omega) with rfl | rfl | rfl | rfl
  · exact (hs _ pr_177)
  · exact (hs _ pr_178)
  · exact (hs _ pr_179)
  · exact (hs _ pr_180)
theorem sx_el9 {args : Array Value} {s : State} (hs : ∀ w ∈ flatC (Jvm.Cond.and given_1 narrow_1), w.before args s = true) : ∀ j : Nat, j < sLen.getD 9 0 → (Cond.eq (.elem (.field (tmS 9) "java/lang/String" "value" "[B") (.int (Int32.ofNat j))) (.int ((sByt.getD 9 []).getD j 0))).before args s = true := by
  intro j hj
  have hj : j < 2 := hj
  rcases (show j = 0 ∨ j = 1 by omega) with rfl | rfl
  · exact (hs _ pr_193)
  · exact (hs _ pr_194)
theorem sx_el10 {args : Array Value} {s : State} (hs : ∀ w ∈ flatC (Jvm.Cond.and given_1 narrow_1), w.before args s = true) : ∀ j : Nat, j < sLen.getD 10 0 → (Cond.eq (.elem (.field (tmS 10) "java/lang/String" "value" "[B") (.int (Int32.ofNat j))) (.int ((sByt.getD 10 []).getD j 0))).before args s = true := by
  intro j hj
  have hj : j < 4 := hj
  rcases (show j = 0 ∨ j = 1 ∨ j = 2 ∨ j = 3 by omega) with rfl | rfl | rfl | rfl
  · exact (hs _ pr_208)
  · exact (hs _ pr_209)
  · exact (hs _ pr_210)
  · exact (hs _ pr_211)
theorem sx_el11 {args : Array Value} {s : State} (hs : ∀ w ∈ flatC (Jvm.Cond.and given_1 narrow_1), w.before args s = true) : ∀ j : Nat, j < sLen.getD 11 0 → (Cond.eq (.elem (.field (tmS 11) "java/lang/String" "value" "[B") (.int (Int32.ofNat j))) (.int ((sByt.getD 11 []).getD j 0))).before args s = true := by
  intro j hj
  have hj : j < 0 := hj
  omega
theorem sx_el {args : Array Value} {s : State} (hs : ∀ w ∈ flatC (Jvm.Cond.and given_1 narrow_1), w.before args s = true) : ∀ i : Nat, i < 12 → ∀ j : Nat, j < sLen.getD i 0 → (Cond.eq (.elem (.field (tmS i) "java/lang/String" "value" "[B") (.int (Int32.ofNat j))) (.int ((sByt.getD i []).getD j 0))).before args s = true := by
  intro i hi
  rcases (show i = 0 ∨ i = 1 ∨ i = 2 ∨ i = 3 ∨ i = 4 ∨ i = 5 ∨ i = 6 ∨ i = 7 ∨ i = 8 ∨ i = 9 ∨ i = 10 ∨ i = 11 by omega) with rfl | rfl | rfl | rfl | rfl | rfl | rfl | rfl | rfl | rfl | rfl | rfl
  · exact sx_el0 hs
  · exact sx_el1 hs
  · exact sx_el2 hs
  · exact sx_el3 hs
  · exact sx_el4 hs
  · exact sx_el5 hs
  · exact sx_el6 hs
  · exact sx_el7 hs
  · exact sx_el8 hs
  · exact sx_el9 hs
  · exact sx_el10 hs
  · exact sx_el11 hs
theorem sx_ne0 {args : Array Value} {s : State} (hs : ∀ w ∈ flatC (Jvm.Cond.and given_1 narrow_1), w.before args s = true) : ∀ j : Nat, j < 12 → 0 ≠ j → (Cond.not (Cond.eq (tmS 0) (tmS j))).before args s = true ∨ (Cond.not (Cond.eq (tmS j) (tmS 0))).before args s = true := by
  intro j hj hn
  rcases (show j = 0 ∨ j = 1 ∨ j = 2 ∨ j = 3 ∨ j = 4 ∨ j = 5 ∨ j = 6 ∨ j = 7 ∨ j = 8 ∨ j = 9 ∨ j = 10 ∨ j = 11 by omega) with rfl | rfl | rfl | rfl | rfl | rfl | rfl | rfl | rfl | rfl | rfl | rfl
  · exact absurd rfl hn
  · exact Or.inl (hs _ pr_90)
  · exact Or.inl (hs _ pr_99)
  · exact Or.inl (hs _ pr_112)
  · exact Or.inl (hs _ pr_129)
  · exact Or.inl (hs _ pr_140)
  · exact Or.inl (hs _ pr_153)
  · exact Or.inl (hs _ pr_166)
  · exact Or.inl (hs _ pr_181)
  · exact Or.inl (hs _ pr_195)
  · exact Or.inl (hs _ pr_212)
  · exact Or.inl (hs _ pr_226)
theorem sx_ne1 {args : Array Value} {s : State} (hs : ∀ w ∈ flatC (Jvm.Cond.and given_1 narrow_1), w.before args s = true) : ∀ j : Nat, j < 12 → 1 ≠ j → (Cond.not (Cond.eq (tmS 1) (tmS j))).before args s = true ∨ (Cond.not (Cond.eq (tmS j) (tmS 1))).before args s = true := by
  intro j hj hn
  rcases (show j = 0 ∨ j = 1 ∨ j = 2 ∨ j = 3 ∨ j = 4 ∨ j = 5 ∨ j = 6 ∨ j = 7 ∨ j = 8 ∨ j = 9 ∨ j = 10 ∨ j = 11 by omega) with rfl | rfl | rfl | rfl | rfl | rfl | rfl | rfl | rfl | rfl | rfl | rfl
  · exact Or.inr (hs _ pr_90)
  · exact absurd rfl hn
  · exact Or.inl (hs _ pr_100)
  · exact Or.inl (hs _ pr_113)
  · exact Or.inl (hs _ pr_130)
  · exact Or.inl (hs _ pr_141)
  · exact Or.inl (hs _ pr_154)
  · exact Or.inl (hs _ pr_167)
  · exact Or.inl (hs _ pr_182)
  · exact Or.inl (hs _ pr_196)
  · exact Or.inl (hs _ pr_213)
  · exact Or.inl (hs _ pr_227)
theorem sx_ne2 {args : Array Value} {s : State} (hs : ∀ w ∈ flatC (Jvm.Cond.and given_1 narrow_1), w.before args s = true) : ∀ j : Nat, j < 12 → 2 ≠ j → (Cond.not (Cond.eq (tmS 2) (tmS j))).before args s = true ∨ (Cond.not (Cond.eq (tmS j) (tmS 2))).before args s = true := by
  intro j hj hn
  rcases (show j = 0 ∨ j = 1 ∨ j = 2 ∨ j = 3 ∨ j = 4 ∨ j = 5 ∨ j = 6 ∨ j = 7 ∨ j = 8 ∨ j = 9 ∨ j = 10 ∨ j = 11 by omega) with rfl | rfl | rfl | rfl | rfl | rfl | rfl | rfl | rfl | rfl | rfl | rfl
  · exact Or.inr (hs _ pr_99)
  · exact Or.inr (hs _ pr_100)
  · exact absurd rfl hn
  · exact Or.inl (hs _ pr_114)
  · exact Or.inl (hs _ pr_131)
  · exact Or.inl (hs _ pr_142)
  · exact Or.inl (hs _ pr_155)
  · exact Or.inl (hs _ pr_168)
  · exact Or.inl (hs _ pr_183)
  · exact Or.inl (hs _ pr_197)
  · exact Or.inl (hs _ pr_214)
  · exact Or.inl (hs _ pr_228)
theorem sx_ne3 {args : Array Value} {s : State} (hs : ∀ w ∈ flatC (Jvm.Cond.and given_1 narrow_1), w.before args s = true) : ∀ j : Nat, j < 12 → 3 ≠ j → (Cond.not (Cond.eq (tmS 3) (tmS j))).before args s = true ∨ (Cond.not (Cond.eq (tmS j) (tmS 3))).before args s = true := by
  intro j hj hn
  rcases (show j = 0 ∨ j = 1 ∨ j = 2 ∨ j = 3 ∨ j = 4 ∨ j = 5 ∨ j = 6 ∨ j = 7 ∨ j = 8 ∨ j = 9 ∨ j = 10 ∨ j = 11 by omega) with rfl | rfl | rfl | rfl | rfl | rfl | rfl | rfl | rfl | rfl | rfl | rfl
  · exact Or.inr (hs _ pr_112)
  · exact Or.inr (hs _ pr_113)
  · exact Or.inr (hs _ pr_114)
  · exact absurd rfl hn
  · exact Or.inl (hs _ pr_132)
  · exact Or.inl (hs _ pr_143)
  · exact Or.inl (hs _ pr_156)
  · exact Or.inl (hs _ pr_169)
  · exact Or.inl (hs _ pr_184)
  · exact Or.inl (hs _ pr_198)
  · exact Or.inl (hs _ pr_215)
  · exact Or.inl (hs _ pr_229)
theorem sx_ne4 {args : Array Value} {s : State} (hs : ∀ w ∈ flatC (Jvm.Cond.and given_1 narrow_1), w.before args s = true) : ∀ j : Nat, j < 12 → 4 ≠ j → (Cond.not (Cond.eq (tmS 4) (tmS j))).before args s = true ∨ (Cond.not (Cond.eq (tmS j) (tmS 4))).before args s = true := by
  intro j hj hn
  rcases (show j = 0 ∨ j = 1 ∨ j = 2 ∨ j = 3 ∨ j = 4 ∨ j = 5 ∨ j = 6 ∨ j = 7 ∨ j = 8 ∨ j = 9 ∨ j = 10 ∨ j = 11 by omega) with rfl | rfl | rfl | rfl | rfl | rfl | rfl | rfl | rfl | rfl | rfl | rfl
  · exact Or.inr (hs _ pr_129)
  · exact Or.inr (hs _ pr_130)
  · exact Or.inr (hs _ pr_131)
  · exact Or.inr (hs _ pr_132)
  · exact absurd rfl hn
  · exact Or.inl (hs _ pr_144)
  · exact Or.inl (hs _ pr_157)
  · exact Or.inl (hs _ pr_170)
  · exact Or.inl (hs _ pr_185)
  · exact Or.inl (hs _ pr_199)
  · exact Or.inl (hs _ pr_216)
  · exact Or.inl (hs _ pr_230)
theorem sx_ne5 {args : Array Value} {s : State} (hs : ∀ w ∈ flatC (Jvm.Cond.and given_1 narrow_1), w.before args s = true) : ∀ j : Nat, j < 12 → 5 ≠ j → (Cond.not (Cond.eq (tmS 5) (tmS j))).before args s = true ∨ (Cond.not (Cond.eq (tmS j) (tmS 5))).before args s = true := by
  intro j hj hn
  rcases (show j = 0 ∨ j = 1 ∨ j = 2 ∨ j = 3 ∨ j = 4 ∨ j = 5 ∨ j = 6 ∨ j = 7 ∨ j = 8 ∨ j = 9 ∨ j = 10 ∨ j = 11 by omega) with rfl | rfl | rfl | rfl | rfl | rfl | rfl | rfl | rfl | rfl | rfl | rfl
  · exact Or.inr (hs _ pr_140)
  · exact Or.inr (hs _ pr_141)
  · exact Or.inr (hs _ pr_142)
  · exact Or.inr (hs _ pr_143)
  · exact Or.inr (hs _ pr_144)
  · exact absurd rfl hn
  · exact Or.inl (hs _ pr_158)
  · exact Or.inl (hs _ pr_171)
  · exact Or.inl (hs _ pr_186)
  · exact Or.inl (hs _ pr_200)
  · exact Or.inl (hs _ pr_217)
  · exact Or.inl (hs _ pr_231)
theorem sx_ne6 {args : Array Value} {s : State} (hs : ∀ w ∈ flatC (Jvm.Cond.and given_1 narrow_1), w.before args s = true) : ∀ j : Nat, j < 12 → 6 ≠ j → (Cond.not (Cond.eq (tmS 6) (tmS j))).before args s = true ∨ (Cond.not (Cond.eq (tmS j) (tmS 6))).before args s = true := by
  intro j hj hn
  rcases (show j = 0 ∨ j = 1 ∨ j = 2 ∨ j = 3 ∨ j = 4 ∨ j = 5 ∨ j = 6 ∨ j = 7 ∨ j = 8 ∨ j = 9 ∨ j = 10 ∨ j = 11 by omega) with rfl | rfl | rfl | rfl | rfl | rfl | rfl | rfl | rfl | rfl | rfl | rfl
  · exact Or.inr (hs _ pr_153)
  · exact Or.inr (hs _ pr_154)
  · exact Or.inr (hs _ pr_155)
  · exact Or.inr (hs _ pr_156)
  · exact Or.inr (hs _ pr_157)
  · exact Or.inr (hs _ pr_158)
  · exact absurd rfl hn
  · exact Or.inl (hs _ pr_172)
  · exact Or.inl (hs _ pr_187)
  · exact Or.inl (hs _ pr_201)
  · exact Or.inl (hs _ pr_218)
  · exact Or.inl (hs _ pr_232)
theorem sx_ne7 {args : Array Value} {s : State} (hs : ∀ w ∈ flatC (Jvm.Cond.and given_1 narrow_1), w.before args s = true) : ∀ j : Nat, j < 12 → 7 ≠ j → (Cond.not (Cond.eq (tmS 7) (tmS j))).before args s = true ∨ (Cond.not (Cond.eq (tmS j) (tmS 7))).before args s = true := by
  intro j hj hn
  rcases (show j = 0 ∨ j = 1 ∨ j = 2 ∨ j = 3 ∨ j = 4 ∨ j = 5 ∨ j = 6 ∨ j = 7 ∨ j = 8 ∨ j = 9 ∨ j = 10 ∨ j = 11 by omega) with rfl | rfl | rfl | rfl | rfl | rfl | rfl | rfl | rfl | rfl | rfl | rfl
  · exact Or.inr (hs _ pr_166)
  · exact Or.inr (hs _ pr_167)
  · exact Or.inr (hs _ pr_168)
  · exact Or.inr (hs _ pr_169)
  · exact Or.inr (hs _ pr_170)
  · exact Or.inr (hs _ pr_171)
  · exact Or.inr (hs _ pr_172)
  · exact absurd rfl hn
  · exact Or.inl (hs _ pr_188)
  · exact Or.inl (hs _ pr_202)
  · exact Or.inl (hs _ pr_219)
  · exact Or.inl (hs _ pr_233)
theorem sx_ne8 {args : Array Value} {s : State} (hs : ∀ w ∈ flatC (Jvm.Cond.and given_1 narrow_1), w.before args s = true) : ∀ j : Nat, j < 12 → 8 ≠ j → (Cond.not (Cond.eq (tmS 8) (tmS j))).before args s = true ∨ (Cond.not (Cond.eq (tmS j) (tmS 8))).before args s = true := by
  intro j hj hn
  rcases (show j = 0 ∨ j = 1 ∨ j = 2 ∨ j = 3 ∨ j = 4 ∨ j = 5 ∨ j = 6 ∨ j = 7 ∨ j = 8 ∨ j = 9 ∨ j = 10 ∨ j = 11 by omega) with rfl | rfl | rfl | rfl | rfl | rfl | rfl | rfl | rfl | rfl | rfl | rfl
  · exact Or.inr (hs _ pr_181)
  · exact Or.inr (hs _ pr_182)
  · exact Or.inr (hs _ pr_183)
  · exact Or.inr (hs _ pr_184)
  · exact Or.inr (hs _ pr_185)
  · exact Or.inr (hs _ pr_186)
  · exact Or.inr (hs _ pr_187)
  · exact Or.inr (hs _ pr_188)
  · exact absurd rfl hn
  · exact Or.inl (hs _ pr_203)
  · exact Or.inl (hs _ pr_220)
  · exact Or.inl (hs _ pr_234)
theorem sx_ne9 {args : Array Value} {s : State} (hs : ∀ w ∈ flatC (Jvm.Cond.and given_1 narrow_1), w.before args s = true) : ∀ j : Nat, j < 12 → 9 ≠ j → (Cond.not (Cond.eq (tmS 9) (tmS j))).before args s = true ∨ (Cond.not (Cond.eq (tmS j) (tmS 9))).before args s = true := by
  intro j hj hn
  rcases (show j = 0 ∨ j = 1 ∨ j = 2 ∨ j = 3 ∨ j = 4 ∨ j = 5 ∨ j = 6 ∨ j = 7 ∨ j = 8 ∨ j = 9 ∨ j = 10 ∨ j = 11 by omega) with rfl | rfl | rfl | rfl | rfl | rfl | rfl | rfl | rfl | rfl | rfl | rfl
  · exact Or.inr (hs _ pr_195)
  · exact Or.inr (hs _ pr_196)
  · exact Or.inr (hs _ pr_197)
  · exact Or.inr (hs _ pr_198)
  · exact Or.inr (hs _ pr_199)
  · exact Or.inr (hs _ pr_200)
  · exact Or.inr (hs _ pr_201)
  · exact Or.inr (hs _ pr_202)
  · exact Or.inr (hs _ pr_203)
  · exact absurd rfl hn
  · exact Or.inl (hs _ pr_221)
  · exact Or.inl (hs _ pr_235)
theorem sx_ne10 {args : Array Value} {s : State} (hs : ∀ w ∈ flatC (Jvm.Cond.and given_1 narrow_1), w.before args s = true) : ∀ j : Nat, j < 12 → 10 ≠ j → (Cond.not (Cond.eq (tmS 10) (tmS j))).before args s = true ∨ (Cond.not (Cond.eq (tmS j) (tmS 10))).before args s = true := by
  intro j hj hn
  rcases (show j = 0 ∨ j = 1 ∨ j = 2 ∨ j = 3 ∨ j = 4 ∨ j = 5 ∨ j = 6 ∨ j = 7 ∨ j = 8 ∨ j = 9 ∨ j = 10 ∨ j = 11 by omega) with rfl | rfl | rfl | rfl | rfl | rfl | rfl | rfl | rfl | rfl | rfl | rfl
  · exact Or.inr (hs _ pr_212)
  · exact Or.inr (hs _ pr_213)
  · exact Or.inr (hs _ pr_214)
  · exact Or.inr (hs _ pr_215)
  · exact Or.inr (hs _ pr_216)
  · exact Or.inr (hs _ pr_217)
  · exact Or.inr (hs _ pr_218)
  · exact Or.inr (hs _ pr_219)
  · exact Or.inr (hs _ pr_220)
  · exact Or.inr (hs _ pr_221)
  · exact absurd rfl hn
  · exact Or.inl (hs _ pr_236)
theorem sx_ne11 {args : Array Value} {s : State} (hs : ∀ w ∈ flatC (Jvm.Cond.and given_1 narrow_1), w.before args s = true) : ∀ j : Nat, j < 12 → 11 ≠ j → (Cond.not (Cond.eq (tmS 11) (tmS j))).before args s = true ∨ (Cond.not (Cond.eq (tmS j) (tmS 11))).before args s = true := by
  intro j hj hn
  rcases (show j = 0 ∨ j = 1 ∨ j = 2 ∨ j = 3 ∨ j = 4 ∨ j = 5 ∨ j = 6 ∨ j = 7 ∨ j = 8 ∨ j = 9 ∨ j = 10 ∨ j = 11 by omega) with rfl | rfl | rfl | rfl | rfl | rfl | rfl | rfl | rfl | rfl | rfl | rfl
  · exact Or.inr (hs _ pr_226)
  · exact Or.inr (hs _ pr_227)
  · exact Or.inr (hs _ pr_228)
  · exact Or.inr (hs _ pr_229)
  · exact Or.inr (hs _ pr_230)
  · exact Or.inr (hs _ pr_231)
  · exact Or.inr (hs _ pr_232)
  · exact Or.inr (hs _ pr_233)
  · exact Or.inr (hs _ pr_234)
  · exact Or.inr (hs _ pr_235)
  · exact Or.inr (hs _ pr_236)
  · exact absurd rfl hn
theorem sx_ne {args : Array Value} {s : State} (hs : ∀ w ∈ flatC (Jvm.Cond.and given_1 narrow_1), w.before args s = true) : ∀ i j : Nat, i < 12 → j < 12 → i ≠ j → (Cond.not (Cond.eq (tmS i) (tmS j))).before args s = true ∨ (Cond.not (Cond.eq (tmS j) (tmS i))).before args s = true := by
  intro i j hi hj hn
  rcases (show i = 0 ∨ i = 1 ∨ i = 2 ∨ i = 3 ∨ i = 4 ∨ i = 5 ∨ i = 6 ∨ i = 7 ∨ i = 8 ∨ i = 9 ∨ i = 10 ∨ i = 11 by omega) with rfl | rfl | rfl | rfl | rfl | rfl | rfl | rfl | rfl | rfl | rfl | rfl
  · exact sx_ne0 hs j hj hn
  · exact sx_ne1 hs j hj hn
  · exact sx_ne2 hs j hj hn
  · exact sx_ne3 hs j hj hn
  · exact sx_ne4 hs j hj hn
  · exact sx_ne5 hs j hj hn
  · exact sx_ne6 hs j hj hn
  · exact sx_ne7 hs j hj hn
  · exact sx_ne8 hs j hj hn
  · exact sx_ne9 hs j hj hn
  · exact sx_ne10 hs j hj hn
  · exact sx_ne11 hs j hj hn
/-- two terms that are said to be one object -/
theorem eq_refs {args : Array Value} {s : State} {t u : Term} {a : Nat} (h : (Cond.eq t u).before args s = true) (hu : u.eval args s none [] s = some (.ref a)) : t.eval args s none [] s = some (.ref a) := by
  cases hv : t.eval args s none [] s with
  | none => simp [Cond.before, Cond.holds, Cond.value, hv, hu] at h
  | some w =>
    simp [Cond.before, Cond.holds, Cond.value, hv, hu] at h
    cases w <;> simp_all
theorem eq_refs' {args : Array Value} {s : State} {t u : Term} {a : Nat} (h : (Cond.eq t u).before args s = true) (ht : t.eval args s none [] s = some (.ref a)) : u.eval args s none [] s = some (.ref a) := by
  cases hv : u.eval args s none [] s with
  | none => simp [Cond.before, Cond.holds, Cond.value, hv, ht] at h
  | some w =>
    simp [Cond.before, Cond.holds, Cond.value, hv, ht] at h
    cases w <;> simp_all
theorem st_rows {args : Array Value} {s : State} (hs : ∀ w ∈ flatC (Jvm.Cond.and given_1 narrow_1), w.before args s = true) (hw : ∀ w ∈ lw_tbl, w.before args s = true) {adK : Nat → Nat} (ha : ∀ i : Nat, i < 12 → (tmS i).eval args s none [] s = some (.ref (adK i))) : ∀ r ∈ sRow, vk_R r.1 r.2.1 r.2.2.1 (adK r.2.2.2) s := by
  intro r hr
  have hr : r ∈ [("SnowLetters$Tokens", 63, "letter", 0), ("SnowLetters$Tokens", 65, "capital", 1), ("SnowLetters$Tokens", 67, "soft", 2), ("SnowLetters$Tokens", 69, "crossed", 3), ("SnowLetters$Tokens", 71, "underlined", 4), ("SnowLetters$Tokens", 73, "icy", 5), ("SnowLetters$Tokens", 75, "sign", 6), ("SnowLetters$Tokens", 77, "sun", 7), ("SnowLetters$Tokens", 79, "form", 8), ("SnowLetters$Tokens", 81, "as", 9), ("SnowLetters$Tokens", 83, "deep", 10), ("SnowLetters$Tokens", 85, "", 11), ("SnowLettersModel", 233, "letter", 0), ("SnowLettersModel", 235, "capital", 1), ("SnowLettersModel", 237, "soft", 2), ("SnowLettersModel", 239, "crossed", 3), ("SnowLettersModel", 241, "underlined", 4), ("SnowLettersModel", 243, "icy", 5), ("SnowLettersModel", 245, "form", 8), ("SnowLettersModel", 247, "as", 9), ("SnowLettersModel", 255, "deep", 10), ("SnowLettersModel", 264, "sign", 6), ("SnowLettersModel", 269, "sun", 7)] := hr
  simp only [List.mem_cons, List.not_mem_nil, or_false] at hr
  rcases hr with rfl | rfl | rfl | rfl | rfl | rfl | rfl | rfl | rfl | rfl | rfl | rfl | rfl | rfl | rfl | rfl | rfl | rfl | rfl | rfl | rfl | rfl | rfl
  · exact vk_R.of (A := args) (hw _ (List.mem_of_getElem? (i := 644) (by decide +kernel))) (ha 0 (by decide))
  · exact vk_R.of (A := args) (hw _ (List.mem_of_getElem? (i := 645) (by decide +kernel))) (ha 1 (by decide))
  · exact vk_R.of (A := args) (hw _ (List.mem_of_getElem? (i := 646) (by decide +kernel))) (ha 2 (by decide))
  · exact vk_R.of (A := args) (hw _ (List.mem_of_getElem? (i := 647) (by decide +kernel))) (ha 3 (by decide))
  · exact vk_R.of (A := args) (hw _ (List.mem_of_getElem? (i := 648) (by decide +kernel))) (ha 4 (by decide))
  · exact vk_R.of (A := args) (hw _ (List.mem_of_getElem? (i := 649) (by decide +kernel))) (ha 5 (by decide))
  · exact vk_R.of (A := args) (hw _ (List.mem_of_getElem? (i := 650) (by decide +kernel))) (ha 6 (by decide))
  · exact vk_R.of (A := args) (hw _ (List.mem_of_getElem? (i := 651) (by decide +kernel))) (ha 7 (by decide))
  · exact vk_R.of (A := args) (hw _ (List.mem_of_getElem? (i := 652) (by decide +kernel))) (ha 8 (by decide))
  · exact vk_R.of (A := args) (hw _ (List.mem_of_getElem? (i := 653) (by decide +kernel))) (ha 9 (by decide))
  · exact vk_R.of (A := args) (hw _ (List.mem_of_getElem? (i := 654) (by decide +kernel))) (ha 10 (by decide))
  · exact vk_R.of (A := args) (hw _ (List.mem_of_getElem? (i := 655) (by decide +kernel))) (ha 11 (by decide))
  · exact vk_R.of (A := args) (hw _ (List.mem_of_getElem? (i := 1206) (by decide +kernel))) (eq_refs' (hs _ pr_247) (ha 0 (by decide)))
  · exact vk_R.of (A := args) (hw _ (List.mem_of_getElem? (i := 1207) (by decide +kernel))) (eq_refs' (hs _ pr_271) (ha 1 (by decide)))
  · exact vk_R.of (A := args) (hw _ (List.mem_of_getElem? (i := 1208) (by decide +kernel))) (eq_refs' (hs _ pr_293) (ha 2 (by decide)))
  · exact vk_R.of (A := args) (hw _ (List.mem_of_getElem? (i := 1209) (by decide +kernel))) (eq_refs' (hs _ pr_319) (ha 3 (by decide)))
  · exact vk_R.of (A := args) (hw _ (List.mem_of_getElem? (i := 1210) (by decide +kernel))) (eq_refs' (hs _ pr_349) (ha 4 (by decide)))
  · exact vk_R.of (A := args) (hw _ (List.mem_of_getElem? (i := 1211) (by decide +kernel))) (eq_refs' (hs _ pr_373) (ha 5 (by decide)))
  · exact vk_R.of (A := args) (hw _ (List.mem_of_getElem? (i := 1245) (by decide +kernel))) (eq_refs' (hs _ pr_401) (ha 8 (by decide)))
  · exact vk_R.of (A := args) (hw _ (List.mem_of_getElem? (i := 1246) (by decide +kernel))) (eq_refs' (hs _ pr_426) (ha 9 (by decide)))
  · exact vk_R.of (A := args) (hw _ (List.mem_of_getElem? (i := 1264) (by decide +kernel))) (eq_refs' (hs _ pr_454) (ha 10 (by decide)))
  · exact vk_R.of (A := args) (hw _ (List.mem_of_getElem? (i := 1265) (by decide +kernel))) (eq_refs' (hs _ pr_478) (ha 6 (by decide)))
  · exact vk_R.of (A := args) (hw _ (List.mem_of_getElem? (i := 1270) (by decide +kernel))) (eq_refs' (hs _ pr_507) (ha 7 (by decide)))
theorem st_nf {args : Array Value} {s : State} (hw : ∀ w ∈ lw_tbl, w.before args s = true) : ∀ r ∈ sNF, va_Nw (.fieldLinkNest r.1 r.2.1 r.2.2.1 r.2.2.2.1 r.2.2.2.2 "SnowLetters") s := by
  intro r hr
  have hr : r ∈ [("SnowLetters$FieldText", 73, "SnowLetters$Plain", "book", "LSnowLetters$Book;"), ("SnowLetters", 112, "SnowLetters$Plain", "book", "LSnowLetters$Book;"), ("SnowLetters", 161, "SnowLetters$Plain", "kinds", "[I"), ("SnowLetters", 164, "SnowLetters$Plain", "forms", "[I"), ("SnowLetters", 167, "SnowLetters$Plain", "deeps", "[I"), ("SnowLetters$Choice", 18, "SnowLetters$Plain", "size", "I"), ("SnowLetters", 279, "SnowLetters$Plain", "size", "I"), ("SnowLetters", 173, "SnowLetters$Plain", "hour", "I"), ("SnowLetters$FieldText", 81, "SnowLetters$Plain", "sunny", "I"), ("SnowLetters", 134, "SnowLetters$Plain", "sunny", "I"), ("SnowLetters$Tokens", 25, "SnowLetters$Tape", "length", "I"), ("SnowLetters", 226, "SnowLetters$Tape", "length", "I"), ("SnowLetters", 208, "SnowLetters$Choice", "chosen", "I"), ("SnowLetters", 211, "SnowLetters$Choice", "mostWorth", "I")] := hr
  simp only [List.mem_cons, List.not_mem_nil, or_false] at hr
  rcases hr with rfl | rfl | rfl | rfl | rfl | rfl | rfl | rfl | rfl | rfl | rfl | rfl | rfl | rfl
  · exact va_Nw.of rfl (hw _ (List.mem_of_getElem? (i := 82) (by decide +kernel)))
  · exact va_Nw.of rfl (hw _ (List.mem_of_getElem? (i := 83) (by decide +kernel)))
  · exact va_Nw.of rfl (hw _ (List.mem_of_getElem? (i := 85) (by decide +kernel)))
  · exact va_Nw.of rfl (hw _ (List.mem_of_getElem? (i := 87) (by decide +kernel)))
  · exact va_Nw.of rfl (hw _ (List.mem_of_getElem? (i := 89) (by decide +kernel)))
  · exact va_Nw.of rfl (hw _ (List.mem_of_getElem? (i := 90) (by decide +kernel)))
  · exact va_Nw.of rfl (hw _ (List.mem_of_getElem? (i := 92) (by decide +kernel)))
  · exact va_Nw.of rfl (hw _ (List.mem_of_getElem? (i := 94) (by decide +kernel)))
  · exact va_Nw.of rfl (hw _ (List.mem_of_getElem? (i := 96) (by decide +kernel)))
  · exact va_Nw.of rfl (hw _ (List.mem_of_getElem? (i := 97) (by decide +kernel)))
  · exact va_Nw.of rfl (hw _ (List.mem_of_getElem? (i := 121) (by decide +kernel)))
  · exact va_Nw.of rfl (hw _ (List.mem_of_getElem? (i := 122) (by decide +kernel)))
  · exact va_Nw.of rfl (hw _ (List.mem_of_getElem? (i := 190) (by decide +kernel)))
  · exact va_Nw.of rfl (hw _ (List.mem_of_getElem? (i := 192) (by decide +kernel)))
theorem st_nm {args : Array Value} {s : State} (hw : ∀ w ∈ lw_tbl, w.before args s = true) : ∀ r ∈ sNM, va_Nw (.methodLinkNest r.1 r.2.1 r.2.2 "SnowLetters") s := by
  intro r hr
  have hr : r ∈ [("SnowLetters", 9, (⟨"SnowLetters$Plain", "<init>", "()V"⟩ : MethodName)), ("SnowLetters$Plain", 9, (⟨"SnowLetters$Book", "<init>", "()V"⟩ : MethodName)), ("SnowLetters", 24, (⟨"SnowLetters$Tape", "<init>", "()V"⟩ : MethodName)), ("SnowLetters", 31, (⟨"SnowLetters$FieldText", "<init>", "()V"⟩ : MethodName)), ("SnowLetters$FieldText", 9, (⟨"SnowLetters$Tokens", "<init>", "()V"⟩ : MethodName)), ("SnowLetters", 38, (⟨"SnowLetters$Sheets", "<init>", "()V"⟩ : MethodName)), ("SnowLetters", 45, (⟨"SnowLetters$Choice", "<init>", "()V"⟩ : MethodName))] := hr
  simp only [List.mem_cons, List.not_mem_nil, or_false] at hr
  rcases hr with rfl | rfl | rfl | rfl | rfl | rfl | rfl
  · exact va_Nw.of rfl (hw _ (List.mem_of_getElem? (i := 66) (by decide +kernel)))
  · exact va_Nw.of rfl (hw _ (List.mem_of_getElem? (i := 72) (by decide +kernel)))
  · exact va_Nw.of rfl (hw _ (List.mem_of_getElem? (i := 115) (by decide +kernel)))
  · exact va_Nw.of rfl (hw _ (List.mem_of_getElem? (i := 131) (by decide +kernel)))
  · exact va_Nw.of rfl (hw _ (List.mem_of_getElem? (i := 137) (by decide +kernel)))
  · exact va_Nw.of rfl (hw _ (List.mem_of_getElem? (i := 166) (by decide +kernel)))
  · exact va_Nw.of rfl (hw _ (List.mem_of_getElem? (i := 183) (by decide +kernel)))
/-- what stands from the start -/
theorem law_env {args : Array Value} {s : State} (hs : ∀ w ∈ flatC (Jvm.Cond.and given_1 narrow_1), w.before args s = true) (hw : ∀ w ∈ lw_tbl, w.before args s = true) : ∃ E : kE, va_K (eD E) vwCl (eT E) s ∧ sT E (AA s) s s.heap := by
  have hG : ∀ w ∈ wG, w.before args s = true := fun w h => hw w (wG_ok h).1
  have hA : ∀ a : Nat, a < s.heap.size → ¬ AA s a := fun a h => Nat.not_le.mpr h
  obtain ⟨c0, i0, hk0⟩ := u_known (C := RX0) (T := TX0) (N := 1) (n := 1) hG inX0 (hG _ mw_71)
  obtain ⟨c1, i1, hk1⟩ := u_known (C := RX1) (T := TX1) (N := 4) (n := 4) hG inX1 (hG _ mw_182)
  obtain ⟨c2, i2, hk2⟩ := u_known (C := RX2) (T := TX2) (N := 2) (n := 2) hG inX2 (hG _ mw_130)
  obtain ⟨c3, i3, hk3⟩ := u_known (C := RX5) (T := TX5) (N := 7) (n := 7) hG inX5 (hG _ mw_65)
  obtain ⟨c4, i4, hk4⟩ := u_known (C := RX6) (T := TX6) (N := 3) (n := 3) hG inX6 (hG _ mw_165)
  obtain ⟨c5, i5, hk5⟩ := u_known (C := RX7) (T := TX7) (N := 2) (n := 2) hG inX7 (hG _ mw_114)
  obtain ⟨c6, i6, hk6⟩ := u_known (C := RX8) (T := TX8) (N := 5) (n := 5) hG inX8 (hG _ mw_136)
  obtain ⟨c7, i7, hk7⟩ := u_known (C := RX9) (T := TX9) (N := 9) (n := 9) hG inX9 (hG _ mw_57)
  obtain ⟨c8, i8, hk8⟩ := u_known (C := RX10) (T := TX10) (N := 18) (n := 18) hG inX10 (hG _ mw_876)
  obtain ⟨cI, kI, pI, fI, gI, hI⟩ := Cond.arrayClass_spec (args := args) (first := s) (o := none) (s := s) (idx := []) (type := .int) (hG _ mw_80)
  obtain ⟨cB, kB, pB, fB, gB, hB⟩ := Cond.arrayClass_spec (args := args) (first := s) (o := none) (s := s) (idx := []) (type := .byte) (hG _ mw_128)
  obtain ⟨cJ, kJ, pJ, fJ, gJ, hJ⟩ := Cond.arrayClass_spec (args := args) (first := s) (o := none) (s := s) (idx := []) (type := .long) (hG _ mw_180)
  obtain ⟨adK, adV, hS, ha⟩ := vk_Sof (A := AA s) (N := 12) (tm := tmS) (len := sLen) (byt := sByt) (by decide) (sx_ex hs) (sx_co hs) (sx_ar hs) (sx_le hs) (sx_el hs) (sx_ne hs) hA
  refine ⟨((fun k => if k = 0 then c0 else if k = 1 then c1 else if k = 2 then c2 else if k = 3 then c3 else if k = 4 then c4 else if k = 5 then c5 else if k = 6 then c6 else if k = 7 then c7 else  c8, fun k => if k = 0 then i0 else if k = 1 then i1 else if k = 2 then i2 else if k = 3 then i3 else if k = 4 then i4 else if k = 5 then i5 else if k = 6 then i6 else if k = 7 then i7 else  i8), (cI, cB, cJ), (adK, adV)), ⟨?_, ?_⟩, ⟨st_ENDS hs hw hA, st_ONE_END hs hw hA, st_OTHER_END hs hw hA, st_QUARTER hs hw hA⟩, ⟨st_compact hs hw hA, hS, st_form hs hw hA⟩, st_rows hs hw ha, st_nf hw, st_nm hw⟩
  · intro k q hq
    match k, hq with
    | 0, hq => cases hq; exact hk0
    | 1, hq => cases hq; exact hk1
    | 2, hq => cases hq; exact hk2
    | 3, hq => cases hq; exact hk3
    | 4, hq => cases hq; exact hk4
    | 5, hq => cases hq; exact hk5
    | 6, hq => cases hq; exact hk6
    | 7, hq => cases hq; exact hk7
    | 8, hq => cases hq; exact hk8
    | k + 9, hq => simp [vwCl] at hq
  · intro k q hq
    match k, hq with
    | 0, hq => cases hq; exact ⟨fun n z => ⟨fun k h => (by cases h), kI, gI, pI, hI⟩, fI⟩
    | 1, hq => cases hq; exact ⟨fun n z => ⟨fun k h => (by cases h), kB, gB, pB, hB⟩, fB⟩
    | 2, hq => cases hq; exact ⟨fun n z => ⟨fun k h => (by cases h), kJ, gJ, pJ, hJ⟩, fJ⟩
    | k + 3, hq => simp at hq
