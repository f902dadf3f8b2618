theorem inX0 : ∀ w ∈ u_ws RX0 TX0 1, w ∈ wG := by
  intro w h
  have h2 : w ∈ [u_lay RX0 TX0 0] := h
  simp only [List.mem_cons, List.not_mem_nil, or_false] at h2
  subst h2
  · exact wG_mem (List.mem_of_getElem? (i := 77) (by decide +kernel)) (by decide +kernel)
theorem inX1 : ∀ w ∈ u_ws RX1 TX1 4, w ∈ wG := by
  intro w h
  have h2 : w ∈ [u_lay RX1 TX1 0, u_lay RX1 TX1 1, u_lay RX1 TX1 2, u_lay RX1 TX1 3] := h
  simp only [List.mem_cons, List.not_mem_nil, or_false] at h2
  rcases h2 with rfl | rfl | rfl | rfl
  · exact wG_mem (List.mem_of_getElem? (i := 193) (by decide +kernel)) (by decide +kernel)
  · exact wG_mem (List.mem_of_getElem? (i := 195) (by decide +kernel)) (by decide +kernel)
  · exact wG_mem (List.mem_of_getElem? (i := 197) (by decide +kernel)) (by decide +kernel)
  · exact wG_mem (List.mem_of_getElem? (i := 199) (by decide +kernel)) (by decide +kernel)
theorem inX2 : ∀ w ∈ u_ws RX2 TX2 2, w ∈ wG := by
  intro w h
  have h2 : w ∈ [u_lay RX2 TX2 0, u_lay RX2 TX2 1] := h
  simp only [List.mem_cons, List.not_mem_nil, or_false] at h2
  rcases h2 with rfl | rfl
  · exact wG_mem (List.mem_of_getElem? (i := 159) (by decide +kernel)) (by decide +kernel)
  · exact wG_mem (List.mem_of_getElem? (i := 161) (by decide +kernel)) (by decide +kernel)
theorem inX5 : ∀ w ∈ u_ws RX5 TX5 7, w ∈ wG := by
  intro w h
  have h2 : w ∈ [u_lay RX5 TX5 0, u_lay RX5 TX5 1, u_lay RX5 TX5 2, u_lay RX5 TX5 3, u_lay RX5 TX5 4, u_lay RX5 TX5 5, u_lay RX5 TX5 6] := h
  simp only [List.mem_cons, List.not_mem_nil, or_false] at h2
  rcases h2 with rfl | rfl | rfl | rfl | rfl | rfl | rfl
  · exact wG_mem (List.mem_of_getElem? (i := 98) (by decide +kernel)) (by decide +kernel)
  · exact wG_mem (List.mem_of_getElem? (i := 100) (by decide +kernel)) (by decide +kernel)
  · exact wG_mem (List.mem_of_getElem? (i := 102) (by decide +kernel)) (by decide +kernel)
  · exact wG_mem (List.mem_of_getElem? (i := 104) (by decide +kernel)) (by decide +kernel)
  · exact wG_mem (List.mem_of_getElem? (i := 106) (by decide +kernel)) (by decide +kernel)
  · exact wG_mem (List.mem_of_getElem? (i := 108) (by decide +kernel)) (by decide +kernel)
  · exact wG_mem (List.mem_of_getElem? (i := 110) (by decide +kernel)) (by decide +kernel)
theorem inX6 : ∀ w ∈ u_ws RX6 TX6 3, w ∈ wG := by
  intro w h
  have h2 : w ∈ [u_lay RX6 TX6 0, u_lay RX6 TX6 1, u_lay RX6 TX6 2] := h
  simp only [List.mem_cons, List.not_mem_nil, or_false] at h2
  rcases h2 with rfl | rfl | rfl
  · exact wG_mem (List.mem_of_getElem? (i := 173) (by decide +kernel)) (by decide +kernel)
  · exact wG_mem (List.mem_of_getElem? (i := 175) (by decide +kernel)) (by decide +kernel)
  · exact wG_mem (List.mem_of_getElem? (i := 177) (by decide +kernel)) (by decide +kernel)
theorem inX7 : ∀ w ∈ u_ws RX7 TX7 2, w ∈ wG := by
  intro w h
  have h2 : w ∈ [u_lay RX7 TX7 0, u_lay RX7 TX7 1] := h
  simp only [List.mem_cons, List.not_mem_nil, or_false] at h2
  rcases h2 with rfl | rfl
  · exact wG_mem (List.mem_of_getElem? (i := 123) (by decide +kernel)) (by decide +kernel)
  · exact wG_mem (List.mem_of_getElem? (i := 125) (by decide +kernel)) (by decide +kernel)
theorem inX8 : ∀ w ∈ u_ws RX8 TX8 5, w ∈ wG := by
  intro w h
  have h2 : w ∈ [u_lay RX8 TX8 0, u_lay RX8 TX8 1, u_lay RX8 TX8 2, u_lay RX8 TX8 3, u_lay RX8 TX8 4] := h
  simp only [List.mem_cons, List.not_mem_nil, or_false] at h2
  rcases h2 with rfl | rfl | rfl | rfl | rfl
  · exact wG_mem (List.mem_of_getElem? (i := 146) (by decide +kernel)) (by decide +kernel)
  · exact wG_mem (List.mem_of_getElem? (i := 148) (by decide +kernel)) (by decide +kernel)
  · exact wG_mem (List.mem_of_getElem? (i := 150) (by decide +kernel)) (by decide +kernel)
  · exact wG_mem (List.mem_of_getElem? (i := 152) (by decide +kernel)) (by decide +kernel)
  · exact wG_mem (List.mem_of_getElem? (i := 154) (by decide +kernel)) (by decide +kernel)
theorem inX9 : ∀ w ∈ u_ws RX9 TX9 9, w ∈ wG := by
  intro w h
  have h2 : w ∈ [u_lay RX9 TX9 0, u_lay RX9 TX9 1, u_lay RX9 TX9 2, u_lay RX9 TX9 3, u_lay RX9 TX9 4, u_lay RX9 TX9 5, u_lay RX9 TX9 6, u_lay RX9 TX9 7, u_lay RX9 TX9 8] := h
  simp only [List.mem_cons, List.not_mem_nil, or_false] at h2
  rcases h2 with rfl | rfl | rfl | rfl | rfl | rfl | rfl | rfl | rfl
  · exact wG_mem (List.mem_of_getElem? (i := 211) (by decide +kernel)) (by decide +kernel)
  · exact wG_mem (List.mem_of_getElem? (i := 213) (by decide +kernel)) (by decide +kernel)
  · exact wG_mem (List.mem_of_getElem? (i := 215) (by decide +kernel)) (by decide +kernel)
  · exact wG_mem (List.mem_of_getElem? (i := 217) (by decide +kernel)) (by decide +kernel)
  · exact wG_mem (List.mem_of_getElem? (i := 219) (by decide +kernel)) (by decide +kernel)
  · exact wG_mem (List.mem_of_getElem? (i := 221) (by decide +kernel)) (by decide +kernel)
  · exact wG_mem (List.mem_of_getElem? (i := 223) (by decide +kernel)) (by decide +kernel)
  · exact wG_mem (List.mem_of_getElem? (i := 225) (by decide +kernel)) (by decide +kernel)
  · exact wG_mem (List.mem_of_getElem? (i := 227) (by decide +kernel)) (by decide +kernel)
theorem inX10 : ∀ w ∈ u_ws RX10 TX10 18, w ∈ wG := by
  intro w h
  have h2 : w ∈ [u_lay RX10 TX10 0, u_lay RX10 TX10 1, u_lay RX10 TX10 2, u_lay RX10 TX10 3, u_lay RX10 TX10 4, u_lay RX10 TX10 5, u_lay RX10 TX10 6, u_lay RX10 TX10 7, u_lay RX10 TX10 8, u_lay RX10 TX10 9, u_lay RX10 TX10 10, u_lay RX10 TX10 11, u_lay RX10 TX10 12, u_lay RX10 TX10 13, u_lay RX10 TX10 14, u_lay RX10 TX10 15, u_lay RX10 TX10 16, u_lay RX10 TX10 17] := h
  simp only [List.mem_cons, List.not_mem_nil, or_false] at h2
  rcases h2 with rfl | rfl | rfl | rfl | rfl | rfl | rfl | rfl | rfl | rfl | rfl | rfl | rfl | rfl | rfl | rfl | rfl | rfl
  · exact wG_mem (List.mem_of_getElem? (i := 899) (by decide +kernel)) (by decide +kernel)
  · exact wG_mem (List.mem_of_getElem? (i := 901) (by decide +kernel)) (by decide +kernel)
  · exact wG_mem (List.mem_of_getElem? (i := 903) (by decide +kernel)) (by decide +kernel)
  · exact wG_mem (List.mem_of_getElem? (i := 905) (by decide +kernel)) (by decide +kernel)
  · exact wG_mem (List.mem_of_getElem? (i := 907) (by decide +kernel)) (by decide +kernel)
  · exact wG_mem (List.mem_of_getElem? (i := 909) (by decide +kernel)) (by decide +kernel)
  · exact wG_mem (List.mem_of_getElem? (i := 911) (by decide +kernel)) (by decide +kernel)
  · exact wG_mem (List.mem_of_getElem? (i := 913) (by decide +kernel)) (by decide +kernel)
  · exact wG_mem (List.mem_of_getElem? (i := 915) (by decide +kernel)) (by decide +kernel)
  · exact wG_mem (List.mem_of_getElem? (i := 917) (by decide +kernel)) (by decide +kernel)
  · exact wG_mem (List.mem_of_getElem? (i := 919) (by decide +kernel)) (by decide +kernel)
  · exact wG_mem (List.mem_of_getElem? (i := 921) (by decide +kernel)) (by decide +kernel)
  · exact wG_mem (List.mem_of_getElem? (i := 923) (by decide +kernel)) (by decide +kernel)
  · exact wG_mem (List.mem_of_getElem? (i := 925) (by decide +kernel)) (by decide +kernel)
  · exact wG_mem (List.mem_of_getElem? (i := 927) (by decide +kernel)) (by decide +kernel)
  · exact wG_mem (List.mem_of_getElem? (i := 929) (by decide +kernel)) (by decide +kernel)
  · exact wG_mem (List.mem_of_getElem? (i := 931) (by decide +kernel)) (by decide +kernel)
  · exact wG_mem (List.mem_of_getElem? (i := 933) (by decide +kernel)) (by decide +kernel)
theorem mw_0 : Cond.selects RX9 yX9_finding yX9_finding ∈ wG := wG_mem (List.mem_of_getElem? (i := 0) (by decide +kernel)) (by decide +kernel)
theorem mw_1 : Cond.selects RX0 yX0_isReadAs yX0_isReadAs ∈ wG := wG_mem (List.mem_of_getElem? (i := 1) (by decide +kernel)) (by decide +kernel)
theorem mw_2 : Cond.selects RX1 yX1_offer yX1_offer ∈ wG := wG_mem (List.mem_of_getElem? (i := 2) (by decide +kernel)) (by decide +kernel)
theorem mw_3 : Cond.selects RX2 yX2_passItem yX2_passItem ∈ wG := wG_mem (List.mem_of_getElem? (i := 3) (by decide +kernel)) (by decide +kernel)
theorem mw_4 : Cond.selects RX2 yX2_passWord yX2_passWord ∈ wG := wG_mem (List.mem_of_getElem? (i := 4) (by decide +kernel)) (by decide +kernel)
theorem mw_5 : Cond.selects RX2 yX2_passSign yX2_passSign ∈ wG := wG_mem (List.mem_of_getElem? (i := 5) (by decide +kernel)) (by decide +kernel)
theorem mw_6 : Cond.selects RX2 yX2_passNumber yX2_passNumber ∈ wG := wG_mem (List.mem_of_getElem? (i := 6) (by decide +kernel)) (by decide +kernel)
theorem mw_7 : Cond.selects RX2 yX2_passSun yX2_passSun ∈ wG := wG_mem (List.mem_of_getElem? (i := 7) (by decide +kernel)) (by decide +kernel)
theorem mw_8 : Cond.selects RX2 yX2_passLetter yX2_passLetter ∈ wG := wG_mem (List.mem_of_getElem? (i := 8) (by decide +kernel)) (by decide +kernel)
theorem mw_9 : Cond.selects RX2 yX2_passForm yX2_passForm ∈ wG := wG_mem (List.mem_of_getElem? (i := 9) (by decide +kernel)) (by decide +kernel)
theorem mw_10 : Cond.selects RX10 yX10_no yX10_no ∈ wG := wG_mem (List.mem_of_getElem? (i := 10) (by decide +kernel)) (by decide +kernel)
theorem mw_11 : Cond.selects RX10 yX10_puts yX10_puts ∈ wG := wG_mem (List.mem_of_getElem? (i := 11) (by decide +kernel)) (by decide +kernel)
theorem mw_12 : Cond.selects RX10 yX10_readAs yX10_readAs ∈ wG := wG_mem (List.mem_of_getElem? (i := 12) (by decide +kernel)) (by decide +kernel)
theorem mw_13 : Cond.selects RX10 yX10_apartFrom yX10_apartFrom ∈ wG := wG_mem (List.mem_of_getElem? (i := 13) (by decide +kernel)) (by decide +kernel)
theorem mw_14 : Cond.selects RX10 yX10_adds yX10_adds ∈ wG := wG_mem (List.mem_of_getElem? (i := 14) (by decide +kernel)) (by decide +kernel)
theorem mw_15 : Cond.selects RX10 yX10_at yX10_at ∈ wG := wG_mem (List.mem_of_getElem? (i := 15) (by decide +kernel)) (by decide +kernel)
theorem mw_16 : Cond.selects RX10 yX10_isLetter yX10_isLetter ∈ wG := wG_mem (List.mem_of_getElem? (i := 16) (by decide +kernel)) (by decide +kernel)
theorem mw_17 : Cond.selects RX10 yX10_lasts yX10_lasts ∈ wG := wG_mem (List.mem_of_getElem? (i := 17) (by decide +kernel)) (by decide +kernel)
theorem mw_18 : Cond.selects RX10 yX10_shows yX10_shows ∈ wG := wG_mem (List.mem_of_getElem? (i := 18) (by decide +kernel)) (by decide +kernel)
theorem mw_19 : Cond.selects RX10 yX10_feet yX10_feet ∈ wG := wG_mem (List.mem_of_getElem? (i := 19) (by decide +kernel)) (by decide +kernel)
theorem mw_20 : Cond.selects RX10 yX10_isOther yX10_isOther ∈ wG := wG_mem (List.mem_of_getElem? (i := 20) (by decide +kernel)) (by decide +kernel)
theorem mw_21 : Cond.selects RX10 yX10_bestSet yX10_bestSet ∈ wG := wG_mem (List.mem_of_getElem? (i := 21) (by decide +kernel)) (by decide +kernel)
theorem mw_22 : Cond.selects RX10 yX10_worthOf yX10_worthOf ∈ wG := wG_mem (List.mem_of_getElem? (i := 22) (by decide +kernel)) (by decide +kernel)
theorem mw_23 : Cond.selects RX10 yX10_item yX10_item ∈ wG := wG_mem (List.mem_of_getElem? (i := 23) (by decide +kernel)) (by decide +kernel)
theorem mw_24 : Cond.selects RX10 yX10_isWord yX10_isWord ∈ wG := wG_mem (List.mem_of_getElem? (i := 24) (by decide +kernel)) (by decide +kernel)
theorem mw_25 : Cond.selects RX10 yX10_blanks yX10_blanks ∈ wG := wG_mem (List.mem_of_getElem? (i := 25) (by decide +kernel)) (by decide +kernel)
theorem mw_26 : Cond.selects RX10 yX10_byteAt yX10_byteAt ∈ wG := wG_mem (List.mem_of_getElem? (i := 26) (by decide +kernel)) (by decide +kernel)
theorem mw_27 : Cond.selects RX10 yX10_wordEnd yX10_wordEnd ∈ wG := wG_mem (List.mem_of_getElem? (i := 27) (by decide +kernel)) (by decide +kernel)
theorem mw_28 : Cond.selects RX10 yX10_fails yX10_fails ∈ wG := wG_mem (List.mem_of_getElem? (i := 28) (by decide +kernel)) (by decide +kernel)
theorem mw_29 : Cond.selects RX10 yX10_may yX10_may ∈ wG := wG_mem (List.mem_of_getElem? (i := 29) (by decide +kernel)) (by decide +kernel)
theorem mw_30 : Cond.selects RX10 yX10_letterTold yX10_letterTold ∈ wG := wG_mem (List.mem_of_getElem? (i := 30) (by decide +kernel)) (by decide +kernel)
theorem mw_31 : Cond.selects RX10 yX10_must yX10_must ∈ wG := wG_mem (List.mem_of_getElem? (i := 31) (by decide +kernel)) (by decide +kernel)
theorem mw_32 : Cond.selects RX10 yX10_number yX10_number ∈ wG := wG_mem (List.mem_of_getElem? (i := 32) (by decide +kernel)) (by decide +kernel)
theorem mw_33 : Cond.selects RX10 yX10_signTold yX10_signTold ∈ wG := wG_mem (List.mem_of_getElem? (i := 33) (by decide +kernel)) (by decide +kernel)
theorem mw_34 : Cond.selects RX10 yX10_writes yX10_writes ∈ wG := wG_mem (List.mem_of_getElem? (i := 34) (by decide +kernel)) (by decide +kernel)
theorem mw_35 : Cond.selects RX10 yX10_signsTold yX10_signsTold ∈ wG := wG_mem (List.mem_of_getElem? (i := 35) (by decide +kernel)) (by decide +kernel)
theorem mw_36 : Cond.selects RX10 yX10_strokesOfAll yX10_strokesOfAll ∈ wG := wG_mem (List.mem_of_getElem? (i := 36) (by decide +kernel)) (by decide +kernel)
theorem mw_38 : Cond.initialized RX9 ∈ wG := wG_mem (List.mem_of_getElem? (i := 38) (by decide +kernel)) (by decide +kernel)
theorem mw_39 : Cond.initialized RX5 ∈ wG := wG_mem (List.mem_of_getElem? (i := 39) (by decide +kernel)) (by decide +kernel)
theorem mw_40 : Cond.initialized RX0 ∈ wG := wG_mem (List.mem_of_getElem? (i := 40) (by decide +kernel)) (by decide +kernel)
theorem mw_41 : Cond.initialized RX7 ∈ wG := wG_mem (List.mem_of_getElem? (i := 41) (by decide +kernel)) (by decide +kernel)
theorem mw_42 : Cond.initialized RX2 ∈ wG := wG_mem (List.mem_of_getElem? (i := 42) (by decide +kernel)) (by decide +kernel)
theorem mw_43 : Cond.initialized RX8 ∈ wG := wG_mem (List.mem_of_getElem? (i := 43) (by decide +kernel)) (by decide +kernel)
theorem mw_44 : Cond.initialized RX6 ∈ wG := wG_mem (List.mem_of_getElem? (i := 44) (by decide +kernel)) (by decide +kernel)
theorem mw_45 : Cond.initialized RX1 ∈ wG := wG_mem (List.mem_of_getElem? (i := 45) (by decide +kernel)) (by decide +kernel)
theorem mw_46 : Cond.initialized RX10 ∈ wG := wG_mem (List.mem_of_getElem? (i := 46) (by decide +kernel)) (by decide +kernel)
theorem mw_47 : Cond.initialized RX3 ∈ wG := wG_mem (List.mem_of_getElem? (i := 47) (by decide +kernel)) (by decide +kernel)
theorem mw_48 : Cond.initialized RJ6 ∈ wG := wG_mem (List.mem_of_getElem? (i := 48) (by decide +kernel)) (by decide +kernel)
theorem mw_49 : Cond.initialized RJ9 ∈ wG := wG_mem (List.mem_of_getElem? (i := 49) (by decide +kernel)) (by decide +kernel)
theorem mw_50 : Cond.initialized RX4 ∈ wG := wG_mem (List.mem_of_getElem? (i := 50) (by decide +kernel)) (by decide +kernel)
theorem mw_51 : Cond.initialized RJ10 ∈ wG := wG_mem (List.mem_of_getElem? (i := 51) (by decide +kernel)) (by decide +kernel)
theorem mw_52 : Cond.initialized RJ0 ∈ wG := wG_mem (List.mem_of_getElem? (i := 52) (by decide +kernel)) (by decide +kernel)
theorem mw_53 : Cond.initialized RJ1 ∈ wG := wG_mem (List.mem_of_getElem? (i := 53) (by decide +kernel)) (by decide +kernel)
theorem mw_54 : Cond.initialized RJ3 ∈ wG := wG_mem (List.mem_of_getElem? (i := 54) (by decide +kernel)) (by decide +kernel)
theorem mw_76 : Cond.fieldLink RX0 9 "SnowLetters$Book" "forms" "[I" ∈ wG := wG_mem (List.mem_of_getElem? (i := 76) (by decide +kernel)) (by decide +kernel)
theorem mw_81 : Cond.fieldLink RX5 10 "SnowLetters$Plain" "book" "LSnowLetters$Book;" ∈ wG := wG_mem (List.mem_of_getElem? (i := 81) (by decide +kernel)) (by decide +kernel)
theorem mw_84 : Cond.fieldLink RX5 16 "SnowLetters$Plain" "kinds" "[I" ∈ wG := wG_mem (List.mem_of_getElem? (i := 84) (by decide +kernel)) (by decide +kernel)
theorem mw_86 : Cond.fieldLink RX5 20 "SnowLetters$Plain" "forms" "[I" ∈ wG := wG_mem (List.mem_of_getElem? (i := 86) (by decide +kernel)) (by decide +kernel)
theorem mw_88 : Cond.fieldLink RX5 23 "SnowLetters$Plain" "deeps" "[I" ∈ wG := wG_mem (List.mem_of_getElem? (i := 88) (by decide +kernel)) (by decide +kernel)
theorem mw_91 : Cond.fieldLink RX5 36 "SnowLetters$Plain" "size" "I" ∈ wG := wG_mem (List.mem_of_getElem? (i := 91) (by decide +kernel)) (by decide +kernel)
theorem mw_93 : Cond.fieldLink RX5 40 "SnowLetters$Plain" "hour" "I" ∈ wG := wG_mem (List.mem_of_getElem? (i := 93) (by decide +kernel)) (by decide +kernel)
theorem mw_95 : Cond.fieldLink RX5 43 "SnowLetters$Plain" "sunny" "I" ∈ wG := wG_mem (List.mem_of_getElem? (i := 95) (by decide +kernel)) (by decide +kernel)
theorem mw_119 : Cond.fieldLink RX7 9 "SnowLetters$Tape" "bytes" "[B" ∈ wG := wG_mem (List.mem_of_getElem? (i := 119) (by decide +kernel)) (by decide +kernel)
theorem mw_120 : Cond.fieldLink RX7 13 "SnowLetters$Tape" "length" "I" ∈ wG := wG_mem (List.mem_of_getElem? (i := 120) (by decide +kernel)) (by decide +kernel)
theorem mw_141 : Cond.fieldLink RX8 9 "SnowLetters$Tokens" "types" "[I" ∈ wG := wG_mem (List.mem_of_getElem? (i := 141) (by decide +kernel)) (by decide +kernel)
theorem mw_142 : Cond.fieldLink RX8 15 "SnowLetters$Tokens" "starts" "[I" ∈ wG := wG_mem (List.mem_of_getElem? (i := 142) (by decide +kernel)) (by decide +kernel)
theorem mw_143 : Cond.fieldLink RX8 18 "SnowLetters$Tokens" "values" "[I" ∈ wG := wG_mem (List.mem_of_getElem? (i := 143) (by decide +kernel)) (by decide +kernel)
theorem mw_144 : Cond.fieldLink RX8 21 "SnowLetters$Tokens" "size" "I" ∈ wG := wG_mem (List.mem_of_getElem? (i := 144) (by decide +kernel)) (by decide +kernel)
theorem mw_145 : Cond.fieldLink RX8 28 "SnowLetters$Tokens" "length" "I" ∈ wG := wG_mem (List.mem_of_getElem? (i := 145) (by decide +kernel)) (by decide +kernel)
theorem mw_157 : Cond.fieldLink RX2 10 "SnowLetters$FieldText" "tokens" "LSnowLetters$Tokens;" ∈ wG := wG_mem (List.mem_of_getElem? (i := 157) (by decide +kernel)) (by decide +kernel)
theorem mw_158 : Cond.fieldLink RX2 20 "SnowLetters$FieldText" "at" "I" ∈ wG := wG_mem (List.mem_of_getElem? (i := 158) (by decide +kernel)) (by decide +kernel)
theorem mw_170 : Cond.fieldLink RX6 9 "SnowLetters$Sheets" "widths" "[I" ∈ wG := wG_mem (List.mem_of_getElem? (i := 170) (by decide +kernel)) (by decide +kernel)
theorem mw_171 : Cond.fieldLink RX6 13 "SnowLetters$Sheets" "sizes" "[I" ∈ wG := wG_mem (List.mem_of_getElem? (i := 171) (by decide +kernel)) (by decide +kernel)
theorem mw_172 : Cond.fieldLink RX6 16 "SnowLetters$Sheets" "numbers" "[J" ∈ wG := wG_mem (List.mem_of_getElem? (i := 172) (by decide +kernel)) (by decide +kernel)
theorem mw_187 : Cond.fieldLink RX1 9 "SnowLetters$Choice" "steps" "[I" ∈ wG := wG_mem (List.mem_of_getElem? (i := 187) (by decide +kernel)) (by decide +kernel)
theorem mw_188 : Cond.fieldLink RX1 15 "SnowLetters$Choice" "worths" "[I" ∈ wG := wG_mem (List.mem_of_getElem? (i := 188) (by decide +kernel)) (by decide +kernel)
theorem mw_189 : Cond.fieldLink RX1 29 "SnowLetters$Choice" "chosen" "I" ∈ wG := wG_mem (List.mem_of_getElem? (i := 189) (by decide +kernel)) (by decide +kernel)
theorem mw_191 : Cond.fieldLink RX1 32 "SnowLetters$Choice" "mostWorth" "I" ∈ wG := wG_mem (List.mem_of_getElem? (i := 191) (by decide +kernel)) (by decide +kernel)
theorem mw_202 : Cond.fieldLink RX9 10 "SnowLetters" "plain" "LSnowLetters$Plain;" ∈ wG := wG_mem (List.mem_of_getElem? (i := 202) (by decide +kernel)) (by decide +kernel)
theorem mw_203 : Cond.fieldLink RX9 16 "SnowLetters" "kept" "LSnowLetters$Plain;" ∈ wG := wG_mem (List.mem_of_getElem? (i := 203) (by decide +kernel)) (by decide +kernel)
theorem mw_204 : Cond.fieldLink RX9 19 "SnowLetters" "trial" "LSnowLetters$Plain;" ∈ wG := wG_mem (List.mem_of_getElem? (i := 204) (by decide +kernel)) (by decide +kernel)
theorem mw_205 : Cond.fieldLink RX9 25 "SnowLetters" "tape" "LSnowLetters$Tape;" ∈ wG := wG_mem (List.mem_of_getElem? (i := 205) (by decide +kernel)) (by decide +kernel)
theorem mw_206 : Cond.fieldLink RX9 32 "SnowLetters" "text" "LSnowLetters$FieldText;" ∈ wG := wG_mem (List.mem_of_getElem? (i := 206) (by decide +kernel)) (by decide +kernel)
theorem mw_207 : Cond.fieldLink RX9 39 "SnowLetters" "sheets" "LSnowLetters$Sheets;" ∈ wG := wG_mem (List.mem_of_getElem? (i := 207) (by decide +kernel)) (by decide +kernel)
theorem mw_208 : Cond.fieldLink RX9 46 "SnowLetters" "choice" "LSnowLetters$Choice;" ∈ wG := wG_mem (List.mem_of_getElem? (i := 208) (by decide +kernel)) (by decide +kernel)
theorem mw_209 : Cond.fieldLink RX9 50 "SnowLetters" "found" "[I" ∈ wG := wG_mem (List.mem_of_getElem? (i := 209) (by decide +kernel)) (by decide +kernel)
theorem mw_210 : Cond.fieldLink RX9 54 "SnowLetters" "isKept" "Z" ∈ wG := wG_mem (List.mem_of_getElem? (i := 210) (by decide +kernel)) (by decide +kernel)
theorem mw_231 : Cond.instanceMethod yX9_odd ∈ wG := wG_mem (List.mem_of_getElem? (i := 231) (by decide +kernel)) (by decide +kernel)
theorem mw_232 : Cond.selects RX9 yX9_odd yX9_odd ∈ wG := wG_mem (List.mem_of_getElem? (i := 232) (by decide +kernel)) (by decide +kernel)
theorem mw_233 : Cond.code yX9_odd cX9_odd 2 (some .int) ∈ wG := wG_mem (List.mem_of_getElem? (i := 233) (by decide +kernel)) (by decide +kernel)
theorem mw_234 : Cond.methodLink RX9 58 yX3_isForm ∈ wG := wG_mem (List.mem_of_getElem? (i := 234) (by decide +kernel)) (by decide +kernel)
theorem mw_235 : Cond.static yX3_isForm ∈ wG := wG_mem (List.mem_of_getElem? (i := 235) (by decide +kernel)) (by decide +kernel)
theorem mw_236 : Cond.code yX3_isForm cX3_isForm 1 (some .boolean) ∈ wG := wG_mem (List.mem_of_getElem? (i := 236) (by decide +kernel)) (by decide +kernel)
theorem mw_237 : Cond.constant RX9 64 (-1000000001) ∈ wG := wG_mem (List.mem_of_getElem? (i := 237) (by decide +kernel)) (by decide +kernel)
theorem mw_238 : Cond.methodLink RX9 65 yX9_finding ∈ wG := wG_mem (List.mem_of_getElem? (i := 238) (by decide +kernel)) (by decide +kernel)
theorem mw_240 : Cond.instanceMethod yX9_finding ∈ wG := wG_mem (List.mem_of_getElem? (i := 240) (by decide +kernel)) (by decide +kernel)
theorem mw_241 : Cond.code yX9_finding cX9_finding 3 (some .int) ∈ wG := wG_mem (List.mem_of_getElem? (i := 241) (by decide +kernel)) (by decide +kernel)
theorem mw_242 : Cond.methodLink RX9 69 yX3_oddPoints ∈ wG := wG_mem (List.mem_of_getElem? (i := 242) (by decide +kernel)) (by decide +kernel)
theorem mw_243 : Cond.static yX3_oddPoints ∈ wG := wG_mem (List.mem_of_getElem? (i := 243) (by decide +kernel)) (by decide +kernel)
theorem mw_244 : Cond.code yX3_oddPoints cX3_oddPoints 3 (some .int) ∈ wG := wG_mem (List.mem_of_getElem? (i := 244) (by decide +kernel)) (by decide +kernel)
theorem mw_245 : Cond.fieldLink RX3 18 "SnowLetters$Forms" "ENDS" "[I" ∈ wG := wG_mem (List.mem_of_getElem? (i := 245) (by decide +kernel)) (by decide +kernel)
theorem mw_248 : Cond.instanceMethod yX9_pieces ∈ wG := wG_mem (List.mem_of_getElem? (i := 248) (by decide +kernel)) (by decide +kernel)
theorem mw_249 : Cond.selects RX9 yX9_pieces yX9_pieces ∈ wG := wG_mem (List.mem_of_getElem? (i := 249) (by decide +kernel)) (by decide +kernel)
theorem mw_250 : Cond.code yX9_pieces cX9_pieces 2 (some .int) ∈ wG := wG_mem (List.mem_of_getElem? (i := 250) (by decide +kernel)) (by decide +kernel)
theorem mw_251 : Cond.methodLink RX9 72 yX3_countPieces ∈ wG := wG_mem (List.mem_of_getElem? (i := 251) (by decide +kernel)) (by decide +kernel)
theorem mw_252 : Cond.static yX3_countPieces ∈ wG := wG_mem (List.mem_of_getElem? (i := 252) (by decide +kernel)) (by decide +kernel)
theorem mw_253 : Cond.code yX3_countPieces cX3_countPieces 4 (some .int) ∈ wG := wG_mem (List.mem_of_getElem? (i := 253) (by decide +kernel)) (by decide +kernel)
theorem mw_254 : Cond.methodLink RX3 21 yX3_firstPiece ∈ wG := wG_mem (List.mem_of_getElem? (i := 254) (by decide +kernel)) (by decide +kernel)
theorem mw_255 : Cond.static yX3_firstPiece ∈ wG := wG_mem (List.mem_of_getElem? (i := 255) (by decide +kernel)) (by decide +kernel)
theorem mw_256 : Cond.code yX3_firstPiece cX3_firstPiece 8 (some .int) ∈ wG := wG_mem (List.mem_of_getElem? (i := 256) (by decide +kernel)) (by decide +kernel)
theorem mw_258 : Cond.instanceMethod yX9_lines ∈ wG := wG_mem (List.mem_of_getElem? (i := 258) (by decide +kernel)) (by decide +kernel)
theorem mw_259 : Cond.selects RX9 yX9_lines yX9_lines ∈ wG := wG_mem (List.mem_of_getElem? (i := 259) (by decide +kernel)) (by decide +kernel)
theorem mw_260 : Cond.code yX9_lines cX9_lines 2 (some .int) ∈ wG := wG_mem (List.mem_of_getElem? (i := 260) (by decide +kernel)) (by decide +kernel)
theorem mw_261 : Cond.methodLink RX9 75 yX3_countLines ∈ wG := wG_mem (List.mem_of_getElem? (i := 261) (by decide +kernel)) (by decide +kernel)
theorem mw_262 : Cond.static yX3_countLines ∈ wG := wG_mem (List.mem_of_getElem? (i := 262) (by decide +kernel)) (by decide +kernel)
theorem mw_263 : Cond.code yX3_countLines cX3_countLines 5 (some .int) ∈ wG := wG_mem (List.mem_of_getElem? (i := 263) (by decide +kernel)) (by decide +kernel)
theorem mw_264 : Cond.methodLink RX3 25 yX3_oddPoints ∈ wG := wG_mem (List.mem_of_getElem? (i := 264) (by decide +kernel)) (by decide +kernel)
theorem mw_265 : Cond.methodLink RX3 28 yJ6_bitCount_0f7a4 ∈ wG := wG_mem (List.mem_of_getElem? (i := 265) (by decide +kernel)) (by decide +kernel)
theorem mw_266 : Cond.static yJ6_bitCount_0f7a4 ∈ wG := wG_mem (List.mem_of_getElem? (i := 266) (by decide +kernel)) (by decide +kernel)
theorem mw_267 : Cond.code yJ6_bitCount_0f7a4 cJ6_bitCount_0f7a4 1 (some .int) ∈ wG := wG_mem (List.mem_of_getElem? (i := 267) (by decide +kernel)) (by decide +kernel)
theorem mw_268 : Cond.constant RJ6 265 (1431655765) ∈ wG := wG_mem (List.mem_of_getElem? (i := 268) (by decide +kernel)) (by decide +kernel)
theorem mw_269 : Cond.constant RJ6 266 (858993459) ∈ wG := wG_mem (List.mem_of_getElem? (i := 269) (by decide +kernel)) (by decide +kernel)
theorem mw_270 : Cond.constant RJ6 267 (252645135) ∈ wG := wG_mem (List.mem_of_getElem? (i := 270) (by decide +kernel)) (by decide +kernel)
theorem mw_271 : Cond.methodLink RX3 33 Lib.Math.max.name ∈ wG := wG_mem (List.mem_of_getElem? (i := 271) (by decide +kernel)) (by decide +kernel)
theorem mw_272 : Cond.static Lib.Math.max.name ∈ wG := wG_mem (List.mem_of_getElem? (i := 272) (by decide +kernel)) (by decide +kernel)
theorem mw_273 : Cond.code Lib.Math.max.name Lib.Math.max.code 2 (some .int) ∈ wG := wG_mem (List.mem_of_getElem? (i := 273) (by decide +kernel)) (by decide +kernel)
theorem mw_275 : Cond.instanceMethod yX9_strays ∈ wG := wG_mem (List.mem_of_getElem? (i := 275) (by decide +kernel)) (by decide +kernel)
theorem mw_276 : Cond.selects RX9 yX9_strays yX9_strays ∈ wG := wG_mem (List.mem_of_getElem? (i := 276) (by decide +kernel)) (by decide +kernel)
theorem mw_277 : Cond.code yX9_strays cX9_strays 2 (some .int) ∈ wG := wG_mem (List.mem_of_getElem? (i := 277) (by decide +kernel)) (by decide +kernel)
theorem mw_278 : Cond.methodLink RX9 78 yX3_countStrays ∈ wG := wG_mem (List.mem_of_getElem? (i := 278) (by decide +kernel)) (by decide +kernel)
theorem mw_279 : Cond.static yX3_countStrays ∈ wG := wG_mem (List.mem_of_getElem? (i := 279) (by decide +kernel)) (by decide +kernel)
theorem mw_280 : Cond.code yX3_countStrays cX3_countStrays 1 (some .int) ∈ wG := wG_mem (List.mem_of_getElem? (i := 280) (by decide +kernel)) (by decide +kernel)
theorem mw_281 : Cond.methodLink RX3 39 yX3_countLines ∈ wG := wG_mem (List.mem_of_getElem? (i := 281) (by decide +kernel)) (by decide +kernel)
theorem mw_283 : Cond.instanceMethod yX9_ways ∈ wG := wG_mem (List.mem_of_getElem? (i := 283) (by decide +kernel)) (by decide +kernel)
theorem mw_284 : Cond.selects RX9 yX9_ways yX9_ways ∈ wG := wG_mem (List.mem_of_getElem? (i := 284) (by decide +kernel)) (by decide +kernel)
theorem mw_285 : Cond.code yX9_ways cX9_ways 3 (some .long) ∈ wG := wG_mem (List.mem_of_getElem? (i := 285) (by decide +kernel)) (by decide +kernel)
theorem mw_286 : Cond.methodLink RX9 81 yX3_isPoint ∈ wG := wG_mem (List.mem_of_getElem? (i := 286) (by decide +kernel)) (by decide +kernel)
theorem mw_287 : Cond.static yX3_isPoint ∈ wG := wG_mem (List.mem_of_getElem? (i := 287) (by decide +kernel)) (by decide +kernel)
theorem mw_288 : Cond.code yX3_isPoint cX3_isPoint 2 (some .boolean) ∈ wG := wG_mem (List.mem_of_getElem? (i := 288) (by decide +kernel)) (by decide +kernel)
theorem mw_289 : Cond.constantLong RX3 9 (9) ∈ wG := wG_mem (List.mem_of_getElem? (i := 289) (by decide +kernel)) (by decide +kernel)
theorem mw_290 : Cond.methodLink RX9 85 yX3_canBeTrodden ∈ wG := wG_mem (List.mem_of_getElem? (i := 290) (by decide +kernel)) (by decide +kernel)
theorem mw_291 : Cond.static yX3_canBeTrodden ∈ wG := wG_mem (List.mem_of_getElem? (i := 291) (by decide +kernel)) (by decide +kernel)
theorem mw_292 : Cond.code yX3_canBeTrodden cX3_canBeTrodden 3 (some .boolean) ∈ wG := wG_mem (List.mem_of_getElem? (i := 292) (by decide +kernel)) (by decide +kernel)
theorem mw_293 : Cond.methodLink RX3 42 yX3_touches ∈ wG := wG_mem (List.mem_of_getElem? (i := 293) (by decide +kernel)) (by decide +kernel)
theorem mw_294 : Cond.static yX3_touches ∈ wG := wG_mem (List.mem_of_getElem? (i := 294) (by decide +kernel)) (by decide +kernel)
theorem mw_295 : Cond.code yX3_touches cX3_touches 3 (some .boolean) ∈ wG := wG_mem (List.mem_of_getElem? (i := 295) (by decide +kernel)) (by decide +kernel)
theorem mw_296 : Cond.methodLink RX3 49 yX3_hasStroke ∈ wG := wG_mem (List.mem_of_getElem? (i := 296) (by decide +kernel)) (by decide +kernel)
theorem mw_297 : Cond.static yX3_hasStroke ∈ wG := wG_mem (List.mem_of_getElem? (i := 297) (by decide +kernel)) (by decide +kernel)
theorem mw_298 : Cond.code yX3_hasStroke cX3_hasStroke 2 (some .boolean) ∈ wG := wG_mem (List.mem_of_getElem? (i := 298) (by decide +kernel)) (by decide +kernel)
theorem mw_299 : Cond.methodLink RX3 52 yX3_across ∈ wG := wG_mem (List.mem_of_getElem? (i := 299) (by decide +kernel)) (by decide +kernel)
theorem mw_300 : Cond.static yX3_across ∈ wG := wG_mem (List.mem_of_getElem? (i := 300) (by decide +kernel)) (by decide +kernel)
theorem mw_301 : Cond.code yX3_across cX3_across 2 (some .int) ∈ wG := wG_mem (List.mem_of_getElem? (i := 301) (by decide +kernel)) (by decide +kernel)
theorem mw_302 : Cond.fieldLink RX3 11 "SnowLetters$Forms" "ONE_END" "[I" ∈ wG := wG_mem (List.mem_of_getElem? (i := 302) (by decide +kernel)) (by decide +kernel)
theorem mw_304 : Cond.fieldLink RX3 15 "SnowLetters$Forms" "OTHER_END" "[I" ∈ wG := wG_mem (List.mem_of_getElem? (i := 304) (by decide +kernel)) (by decide +kernel)
theorem mw_306 : Cond.methodLink RX3 46 yX3_countPieces ∈ wG := wG_mem (List.mem_of_getElem? (i := 306) (by decide +kernel)) (by decide +kernel)
theorem mw_307 : Cond.methodLink RX9 89 yX3_countWays ∈ wG := wG_mem (List.mem_of_getElem? (i := 307) (by decide +kernel)) (by decide +kernel)
theorem mw_308 : Cond.static yX3_countWays ∈ wG := wG_mem (List.mem_of_getElem? (i := 308) (by decide +kernel)) (by decide +kernel)
theorem mw_309 : Cond.code yX3_countWays cX3_countWays 7 (some .long) ∈ wG := wG_mem (List.mem_of_getElem? (i := 309) (by decide +kernel)) (by decide +kernel)
theorem mw_310 : Cond.methodLink RX3 55 yX3_countWays ∈ wG := wG_mem (List.mem_of_getElem? (i := 310) (by decide +kernel)) (by decide +kernel)
theorem mw_312 : Cond.instanceMethod yX9_ith ∈ wG := wG_mem (List.mem_of_getElem? (i := 312) (by decide +kernel)) (by decide +kernel)
theorem mw_313 : Cond.selects RX9 yX9_ith yX9_ith ∈ wG := wG_mem (List.mem_of_getElem? (i := 313) (by decide +kernel)) (by decide +kernel)
theorem mw_314 : Cond.code yX9_ith cX9_ith 5 (some .int) ∈ wG := wG_mem (List.mem_of_getElem? (i := 314) (by decide +kernel)) (by decide +kernel)
theorem mw_315 : Cond.methodLink RX9 93 yX9_isWithin ∈ wG := wG_mem (List.mem_of_getElem? (i := 315) (by decide +kernel)) (by decide +kernel)
theorem mw_316 : Cond.static yX9_isWithin ∈ wG := wG_mem (List.mem_of_getElem? (i := 316) (by decide +kernel)) (by decide +kernel)
theorem mw_317 : Cond.code yX9_isWithin cX9_isWithin 2 (some .boolean) ∈ wG := wG_mem (List.mem_of_getElem? (i := 317) (by decide +kernel)) (by decide +kernel)
theorem mw_318 : Cond.methodLink RX9 96 yX3_strokeOfFirstWay ∈ wG := wG_mem (List.mem_of_getElem? (i := 318) (by decide +kernel)) (by decide +kernel)
theorem mw_319 : Cond.static yX3_strokeOfFirstWay ∈ wG := wG_mem (List.mem_of_getElem? (i := 319) (by decide +kernel)) (by decide +kernel)
theorem mw_320 : Cond.code yX3_strokeOfFirstWay cX3_strokeOfFirstWay 7 (some .int) ∈ wG := wG_mem (List.mem_of_getElem? (i := 320) (by decide +kernel)) (by decide +kernel)
theorem mw_321 : Cond.methodLink RX3 59 yX3_canBeTrodden ∈ wG := wG_mem (List.mem_of_getElem? (i := 321) (by decide +kernel)) (by decide +kernel)
theorem mw_322 : Cond.methodLink RX3 62 yX3_leastOnward ∈ wG := wG_mem (List.mem_of_getElem? (i := 322) (by decide +kernel)) (by decide +kernel)
theorem mw_323 : Cond.static yX3_leastOnward ∈ wG := wG_mem (List.mem_of_getElem? (i := 323) (by decide +kernel)) (by decide +kernel)
theorem mw_324 : Cond.code yX3_leastOnward cX3_leastOnward 4 (some .int) ∈ wG := wG_mem (List.mem_of_getElem? (i := 324) (by decide +kernel)) (by decide +kernel)
theorem mw_325 : Cond.constant RX9 100 (-1000000004) ∈ wG := wG_mem (List.mem_of_getElem? (i := 325) (by decide +kernel)) (by decide +kernel)
theorem mw_327 : Cond.instanceMethod yX9_again ∈ wG := wG_mem (List.mem_of_getElem? (i := 327) (by decide +kernel)) (by decide +kernel)
theorem mw_328 : Cond.selects RX9 yX9_again yX9_again ∈ wG := wG_mem (List.mem_of_getElem? (i := 328) (by decide +kernel)) (by decide +kernel)
theorem mw_329 : Cond.code yX9_again cX9_again 2 (some .int) ∈ wG := wG_mem (List.mem_of_getElem? (i := 329) (by decide +kernel)) (by decide +kernel)
theorem mw_330 : Cond.methodLink RX9 101 yX3_fewestToClose ∈ wG := wG_mem (List.mem_of_getElem? (i := 330) (by decide +kernel)) (by decide +kernel)
theorem mw_331 : Cond.static yX3_fewestToClose ∈ wG := wG_mem (List.mem_of_getElem? (i := 331) (by decide +kernel)) (by decide +kernel)
theorem mw_332 : Cond.code yX3_fewestToClose cX3_fewestToClose 5 (some .int) ∈ wG := wG_mem (List.mem_of_getElem? (i := 332) (by decide +kernel)) (by decide +kernel)
theorem mw_333 : Cond.methodLink RX3 65 yX3_nextPart ∈ wG := wG_mem (List.mem_of_getElem? (i := 333) (by decide +kernel)) (by decide +kernel)
theorem mw_334 : Cond.static yX3_nextPart ∈ wG := wG_mem (List.mem_of_getElem? (i := 334) (by decide +kernel)) (by decide +kernel)
theorem mw_335 : Cond.code yX3_nextPart cX3_nextPart 2 (some .int) ∈ wG := wG_mem (List.mem_of_getElem? (i := 335) (by decide +kernel)) (by decide +kernel)
theorem mw_337 : Cond.instanceMethod yX9_turned ∈ wG := wG_mem (List.mem_of_getElem? (i := 337) (by decide +kernel)) (by decide +kernel)
theorem mw_338 : Cond.selects RX9 yX9_turned yX9_turned ∈ wG := wG_mem (List.mem_of_getElem? (i := 338) (by decide +kernel)) (by decide +kernel)
theorem mw_339 : Cond.code yX9_turned cX9_turned 5 (some .int) ∈ wG := wG_mem (List.mem_of_getElem? (i := 339) (by decide +kernel)) (by decide +kernel)
theorem mw_340 : Cond.methodLink RX9 104 yX3_byAQuarter ∈ wG := wG_mem (List.mem_of_getElem? (i := 340) (by decide +kernel)) (by decide +kernel)
theorem mw_341 : Cond.static yX3_byAQuarter ∈ wG := wG_mem (List.mem_of_getElem? (i := 341) (by decide +kernel)) (by decide +kernel)
theorem mw_342 : Cond.code yX3_byAQuarter cX3_byAQuarter 3 (some .int) ∈ wG := wG_mem (List.mem_of_getElem? (i := 342) (by decide +kernel)) (by decide +kernel)
theorem mw_343 : Cond.fieldLink RX3 68 "SnowLetters$Forms" "QUARTER" "[I" ∈ wG := wG_mem (List.mem_of_getElem? (i := 343) (by decide +kernel)) (by decide +kernel)
theorem mw_346 : Cond.instanceMethod yX9_sign ∈ wG := wG_mem (List.mem_of_getElem? (i := 346) (by decide +kernel)) (by decide +kernel)
theorem mw_347 : Cond.selects RX9 yX9_sign yX9_sign ∈ wG := wG_mem (List.mem_of_getElem? (i := 347) (by decide +kernel)) (by decide +kernel)
theorem mw_348 : Cond.code yX9_sign cX9_sign 4 (some .int) ∈ wG := wG_mem (List.mem_of_getElem? (i := 348) (by decide +kernel)) (by decide +kernel)
theorem mw_349 : Cond.methodLink RX9 107 yX0_isSign ∈ wG := wG_mem (List.mem_of_getElem? (i := 349) (by decide +kernel)) (by decide +kernel)
theorem mw_350 : Cond.static yX0_isSign ∈ wG := wG_mem (List.mem_of_getElem? (i := 350) (by decide +kernel)) (by decide +kernel)
theorem mw_351 : Cond.code yX0_isSign cX0_isSign 1 (some .boolean) ∈ wG := wG_mem (List.mem_of_getElem? (i := 351) (by decide +kernel)) (by decide +kernel)
theorem mw_352 : Cond.methodLink RX9 116 yX0_formAt ∈ wG := wG_mem (List.mem_of_getElem? (i := 352) (by decide +kernel)) (by decide +kernel)
theorem mw_353 : Cond.instanceMethod yX0_formAt ∈ wG := wG_mem (List.mem_of_getElem? (i := 353) (by decide +kernel)) (by decide +kernel)
theorem mw_354 : Cond.selects RX0 yX0_formAt yX0_formAt ∈ wG := wG_mem (List.mem_of_getElem? (i := 354) (by decide +kernel)) (by decide +kernel)
theorem mw_355 : Cond.code yX0_formAt cX0_formAt 2 (some .int) ∈ wG := wG_mem (List.mem_of_getElem? (i := 355) (by decide +kernel)) (by decide +kernel)
theorem mw_356 : Cond.methodLink RX0 13 yX0_isSign ∈ wG := wG_mem (List.mem_of_getElem? (i := 356) (by decide +kernel)) (by decide +kernel)
theorem mw_357 : Cond.methodLink RX9 119 yX0_put ∈ wG := wG_mem (List.mem_of_getElem? (i := 357) (by decide +kernel)) (by decide +kernel)
theorem mw_358 : Cond.instanceMethod yX0_put ∈ wG := wG_mem (List.mem_of_getElem? (i := 358) (by decide +kernel)) (by decide +kernel)
theorem mw_359 : Cond.selects RX0 yX0_put yX0_put ∈ wG := wG_mem (List.mem_of_getElem? (i := 359) (by decide +kernel)) (by decide +kernel)
theorem mw_360 : Cond.code yX0_put cX0_put 3 none ∈ wG := wG_mem (List.mem_of_getElem? (i := 360) (by decide +kernel)) (by decide +kernel)
theorem mw_362 : Cond.instanceMethod yX9_form ∈ wG := wG_mem (List.mem_of_getElem? (i := 362) (by decide +kernel)) (by decide +kernel)
theorem mw_363 : Cond.selects RX9 yX9_form yX9_form ∈ wG := wG_mem (List.mem_of_getElem? (i := 363) (by decide +kernel)) (by decide +kernel)
theorem mw_364 : Cond.code yX9_form cX9_form 2 (some .int) ∈ wG := wG_mem (List.mem_of_getElem? (i := 364) (by decide +kernel)) (by decide +kernel)
theorem mw_366 : Cond.instanceMethod yX9_read ∈ wG := wG_mem (List.mem_of_getElem? (i := 366) (by decide +kernel)) (by decide +kernel)
theorem mw_367 : Cond.selects RX9 yX9_read yX9_read ∈ wG := wG_mem (List.mem_of_getElem? (i := 367) (by decide +kernel)) (by decide +kernel)
theorem mw_368 : Cond.code yX9_read cX9_read 3 (some .int) ∈ wG := wG_mem (List.mem_of_getElem? (i := 368) (by decide +kernel)) (by decide +kernel)
theorem mw_369 : Cond.methodLink RX9 123 yX0_nearest ∈ wG := wG_mem (List.mem_of_getElem? (i := 369) (by decide +kernel)) (by decide +kernel)
theorem mw_370 : Cond.instanceMethod yX0_nearest ∈ wG := wG_mem (List.mem_of_getElem? (i := 370) (by decide +kernel)) (by decide +kernel)
theorem mw_371 : Cond.selects RX0 yX0_nearest yX0_nearest ∈ wG := wG_mem (List.mem_of_getElem? (i := 371) (by decide +kernel)) (by decide +kernel)
theorem mw_372 : Cond.code yX0_nearest cX0_nearest 6 (some .int) ∈ wG := wG_mem (List.mem_of_getElem? (i := 372) (by decide +kernel)) (by decide +kernel)
theorem mw_373 : Cond.methodLink RX0 25 yX3_differ ∈ wG := wG_mem (List.mem_of_getElem? (i := 373) (by decide +kernel)) (by decide +kernel)
theorem mw_374 : Cond.static yX3_differ ∈ wG := wG_mem (List.mem_of_getElem? (i := 374) (by decide +kernel)) (by decide +kernel)
theorem mw_375 : Cond.code yX3_differ cX3_differ 2 (some .int) ∈ wG := wG_mem (List.mem_of_getElem? (i := 375) (by decide +kernel)) (by decide +kernel)
theorem mw_377 : Cond.instanceMethod yX9_doubts ∈ wG := wG_mem (List.mem_of_getElem? (i := 377) (by decide +kernel)) (by decide +kernel)
theorem mw_378 : Cond.selects RX9 yX9_doubts yX9_doubts ∈ wG := wG_mem (List.mem_of_getElem? (i := 378) (by decide +kernel)) (by decide +kernel)
theorem mw_379 : Cond.code yX9_doubts cX9_doubts 3 (some .int) ∈ wG := wG_mem (List.mem_of_getElem? (i := 379) (by decide +kernel)) (by decide +kernel)
theorem mw_380 : Cond.methodLink RX9 126 yX0_countAsNear ∈ wG := wG_mem (List.mem_of_getElem? (i := 380) (by decide +kernel)) (by decide +kernel)
theorem mw_381 : Cond.instanceMethod yX0_countAsNear ∈ wG := wG_mem (List.mem_of_getElem? (i := 381) (by decide +kernel)) (by decide +kernel)
theorem mw_382 : Cond.selects RX0 yX0_countAsNear yX0_countAsNear ∈ wG := wG_mem (List.mem_of_getElem? (i := 382) (by decide +kernel)) (by decide +kernel)
theorem mw_383 : Cond.code yX0_countAsNear cX0_countAsNear 6 (some .int) ∈ wG := wG_mem (List.mem_of_getElem? (i := 383) (by decide +kernel)) (by decide +kernel)
theorem mw_384 : Cond.methodLink RX0 29 yX0_formAt ∈ wG := wG_mem (List.mem_of_getElem? (i := 384) (by decide +kernel)) (by decide +kernel)
theorem mw_386 : Cond.instanceMethod yX9_apart ∈ wG := wG_mem (List.mem_of_getElem? (i := 386) (by decide +kernel)) (by decide +kernel)
theorem mw_387 : Cond.selects RX9 yX9_apart yX9_apart ∈ wG := wG_mem (List.mem_of_getElem? (i := 387) (by decide +kernel)) (by decide +kernel)
theorem mw_388 : Cond.code yX9_apart cX9_apart 2 (some .int) ∈ wG := wG_mem (List.mem_of_getElem? (i := 388) (by decide +kernel)) (by decide +kernel)
theorem mw_389 : Cond.methodLink RX9 130 yX0_leastBetweenTwo ∈ wG := wG_mem (List.mem_of_getElem? (i := 389) (by decide +kernel)) (by decide +kernel)
theorem mw_390 : Cond.instanceMethod yX0_leastBetweenTwo ∈ wG := wG_mem (List.mem_of_getElem? (i := 390) (by decide +kernel)) (by decide +kernel)
theorem mw_391 : Cond.selects RX0 yX0_leastBetweenTwo yX0_leastBetweenTwo ∈ wG := wG_mem (List.mem_of_getElem? (i := 391) (by decide +kernel)) (by decide +kernel)
theorem mw_392 : Cond.code yX0_leastBetweenTwo cX0_leastBetweenTwo 5 (some .int) ∈ wG := wG_mem (List.mem_of_getElem? (i := 392) (by decide +kernel)) (by decide +kernel)
theorem mw_394 : Cond.instanceMethod yX9_stay ∈ wG := wG_mem (List.mem_of_getElem? (i := 394) (by decide +kernel)) (by decide +kernel)
theorem mw_395 : Cond.selects RX9 yX9_stay yX9_stay ∈ wG := wG_mem (List.mem_of_getElem? (i := 395) (by decide +kernel)) (by decide +kernel)
theorem mw_396 : Cond.code yX9_stay cX9_stay 1 (some .int) ∈ wG := wG_mem (List.mem_of_getElem? (i := 396) (by decide +kernel)) (by decide +kernel)
theorem mw_397 : Cond.methodLink RX9 138 yX0_signsThatStay ∈ wG := wG_mem (List.mem_of_getElem? (i := 397) (by decide +kernel)) (by decide +kernel)
theorem mw_398 : Cond.instanceMethod yX0_signsThatStay ∈ wG := wG_mem (List.mem_of_getElem? (i := 398) (by decide +kernel)) (by decide +kernel)
theorem mw_399 : Cond.selects RX0 yX0_signsThatStay yX0_signsThatStay ∈ wG := wG_mem (List.mem_of_getElem? (i := 399) (by decide +kernel)) (by decide +kernel)
theorem mw_400 : Cond.code yX0_signsThatStay cX0_signsThatStay 4 (some .int) ∈ wG := wG_mem (List.mem_of_getElem? (i := 400) (by decide +kernel)) (by decide +kernel)
theorem mw_401 : Cond.methodLink RX0 33 yX0_nearest ∈ wG := wG_mem (List.mem_of_getElem? (i := 401) (by decide +kernel)) (by decide +kernel)
theorem mw_403 : Cond.instanceMethod yX9_forge ∈ wG := wG_mem (List.mem_of_getElem? (i := 403) (by decide +kernel)) (by decide +kernel)
theorem mw_404 : Cond.selects RX9 yX9_forge yX9_forge ∈ wG := wG_mem (List.mem_of_getElem? (i := 404) (by decide +kernel)) (by decide +kernel)
theorem mw_405 : Cond.code yX9_forge cX9_forge 4 (some .int) ∈ wG := wG_mem (List.mem_of_getElem? (i := 405) (by decide +kernel)) (by decide +kernel)
theorem mw_406 : Cond.constant RX9 141 (-1000000005) ∈ wG := wG_mem (List.mem_of_getElem? (i := 406) (by decide +kernel)) (by decide +kernel)
theorem mw_407 : Cond.methodLink RX9 142 yX0_fewestToForge ∈ wG := wG_mem (List.mem_of_getElem? (i := 407) (by decide +kernel)) (by decide +kernel)
theorem mw_408 : Cond.instanceMethod yX0_fewestToForge ∈ wG := wG_mem (List.mem_of_getElem? (i := 408) (by decide +kernel)) (by decide +kernel)
theorem mw_409 : Cond.selects RX0 yX0_fewestToForge yX0_fewestToForge ∈ wG := wG_mem (List.mem_of_getElem? (i := 409) (by decide +kernel)) (by decide +kernel)
theorem mw_410 : Cond.code yX0_fewestToForge cX0_fewestToForge 9 (some .int) ∈ wG := wG_mem (List.mem_of_getElem? (i := 410) (by decide +kernel)) (by decide +kernel)
theorem mw_411 : Cond.methodLink RX0 36 yJ6_bitCount_0f7a4 ∈ wG := wG_mem (List.mem_of_getElem? (i := 411) (by decide +kernel)) (by decide +kernel)
theorem mw_412 : Cond.methodLink RX0 41 yX0_isReadAs ∈ wG := wG_mem (List.mem_of_getElem? (i := 412) (by decide +kernel)) (by decide +kernel)
theorem mw_414 : Cond.instanceMethod yX0_isReadAs ∈ wG := wG_mem (List.mem_of_getElem? (i := 414) (by decide +kernel)) (by decide +kernel)
theorem mw_415 : Cond.code yX0_isReadAs cX0_isReadAs 6 (some .boolean) ∈ wG := wG_mem (List.mem_of_getElem? (i := 415) (by decide +kernel)) (by decide +kernel)
theorem mw_416 : Cond.methodLink RX0 45 yX3_nextPart ∈ wG := wG_mem (List.mem_of_getElem? (i := 416) (by decide +kernel)) (by decide +kernel)
theorem mw_418 : Cond.instanceMethod yX9_letter ∈ wG := wG_mem (List.mem_of_getElem? (i := 418) (by decide +kernel)) (by decide +kernel)
theorem mw_419 : Cond.selects RX9 yX9_letter yX9_letter ∈ wG := wG_mem (List.mem_of_getElem? (i := 419) (by decide +kernel)) (by decide +kernel)
theorem mw_420 : Cond.code yX9_letter cX9_letter 3 (some .int) ∈ wG := wG_mem (List.mem_of_getElem? (i := 420) (by decide +kernel)) (by decide +kernel)
theorem mw_421 : Cond.methodLink RX9 145 yX4_isKind ∈ wG := wG_mem (List.mem_of_getElem? (i := 421) (by decide +kernel)) (by decide +kernel)
theorem mw_422 : Cond.static yX4_isKind ∈ wG := wG_mem (List.mem_of_getElem? (i := 422) (by decide +kernel)) (by decide +kernel)
theorem mw_423 : Cond.code yX4_isKind cX4_isKind 1 (some .boolean) ∈ wG := wG_mem (List.mem_of_getElem? (i := 423) (by decide +kernel)) (by decide +kernel)
theorem mw_424 : Cond.methodLink RX9 150 yX5_isFull ∈ wG := wG_mem (List.mem_of_getElem? (i := 424) (by decide +kernel)) (by decide +kernel)
theorem mw_425 : Cond.instanceMethod yX5_isFull ∈ wG := wG_mem (List.mem_of_getElem? (i := 425) (by decide +kernel)) (by decide +kernel)
theorem mw_426 : Cond.selects RX5 yX5_isFull yX5_isFull ∈ wG := wG_mem (List.mem_of_getElem? (i := 426) (by decide +kernel)) (by decide +kernel)
theorem mw_427 : Cond.code yX5_isFull cX5_isFull 1 (some .boolean) ∈ wG := wG_mem (List.mem_of_getElem? (i := 427) (by decide +kernel)) (by decide +kernel)
theorem mw_428 : Cond.constant RX9 154 (-1000000002) ∈ wG := wG_mem (List.mem_of_getElem? (i := 428) (by decide +kernel)) (by decide +kernel)
theorem mw_429 : Cond.methodLink RX9 155 yX5_add ∈ wG := wG_mem (List.mem_of_getElem? (i := 429) (by decide +kernel)) (by decide +kernel)
theorem mw_430 : Cond.instanceMethod yX5_add ∈ wG := wG_mem (List.mem_of_getElem? (i := 430) (by decide +kernel)) (by decide +kernel)
theorem mw_431 : Cond.selects RX5 yX5_add yX5_add ∈ wG := wG_mem (List.mem_of_getElem? (i := 431) (by decide +kernel)) (by decide +kernel)
theorem mw_432 : Cond.code yX5_add cX5_add 4 (some .int) ∈ wG := wG_mem (List.mem_of_getElem? (i := 432) (by decide +kernel)) (by decide +kernel)
theorem mw_433 : Cond.methodLink RX5 46 yX5_isFull ∈ wG := wG_mem (List.mem_of_getElem? (i := 433) (by decide +kernel)) (by decide +kernel)
theorem mw_435 : Cond.instanceMethod yX9_of ∈ wG := wG_mem (List.mem_of_getElem? (i := 435) (by decide +kernel)) (by decide +kernel)
theorem mw_436 : Cond.selects RX9 yX9_of yX9_of ∈ wG := wG_mem (List.mem_of_getElem? (i := 436) (by decide +kernel)) (by decide +kernel)
theorem mw_437 : Cond.code yX9_of cX9_of 3 (some .int) ∈ wG := wG_mem (List.mem_of_getElem? (i := 437) (by decide +kernel)) (by decide +kernel)
theorem mw_438 : Cond.methodLink RX9 158 yX5_has ∈ wG := wG_mem (List.mem_of_getElem? (i := 438) (by decide +kernel)) (by decide +kernel)
theorem mw_439 : Cond.instanceMethod yX5_has ∈ wG := wG_mem (List.mem_of_getElem? (i := 439) (by decide +kernel)) (by decide +kernel)
theorem mw_440 : Cond.selects RX5 yX5_has yX5_has ∈ wG := wG_mem (List.mem_of_getElem? (i := 440) (by decide +kernel)) (by decide +kernel)
theorem mw_441 : Cond.code yX5_has cX5_has 2 (some .boolean) ∈ wG := wG_mem (List.mem_of_getElem? (i := 441) (by decide +kernel)) (by decide +kernel)
theorem mw_442 : Cond.methodLink RX9 170 yX5_lastsOf ∈ wG := wG_mem (List.mem_of_getElem? (i := 442) (by decide +kernel)) (by decide +kernel)
theorem mw_443 : Cond.instanceMethod yX5_lastsOf ∈ wG := wG_mem (List.mem_of_getElem? (i := 443) (by decide +kernel)) (by decide +kernel)
theorem mw_444 : Cond.selects RX5 yX5_lastsOf yX5_lastsOf ∈ wG := wG_mem (List.mem_of_getElem? (i := 444) (by decide +kernel)) (by decide +kernel)
theorem mw_445 : Cond.code yX5_lastsOf cX5_lastsOf 2 (some .int) ∈ wG := wG_mem (List.mem_of_getElem? (i := 445) (by decide +kernel)) (by decide +kernel)
theorem mw_446 : Cond.methodLink RX5 50 yX4_lasts ∈ wG := wG_mem (List.mem_of_getElem? (i := 446) (by decide +kernel)) (by decide +kernel)
theorem mw_447 : Cond.static yX4_lasts ∈ wG := wG_mem (List.mem_of_getElem? (i := 447) (by decide +kernel)) (by decide +kernel)
theorem mw_448 : Cond.code yX4_lasts cX4_lasts 2 (some .int) ∈ wG := wG_mem (List.mem_of_getElem? (i := 448) (by decide +kernel)) (by decide +kernel)
theorem mw_449 : Cond.methodLink RX9 176 yX5_shownAt ∈ wG := wG_mem (List.mem_of_getElem? (i := 449) (by decide +kernel)) (by decide +kernel)
theorem mw_450 : Cond.instanceMethod yX5_shownAt ∈ wG := wG_mem (List.mem_of_getElem? (i := 450) (by decide +kernel)) (by decide +kernel)
theorem mw_451 : Cond.selects RX5 yX5_shownAt yX5_shownAt ∈ wG := wG_mem (List.mem_of_getElem? (i := 451) (by decide +kernel)) (by decide +kernel)
theorem mw_452 : Cond.code yX5_shownAt cX5_shownAt 4 (some .int) ∈ wG := wG_mem (List.mem_of_getElem? (i := 452) (by decide +kernel)) (by decide +kernel)
theorem mw_453 : Cond.methodLink RX5 59 yX5_lastsOf ∈ wG := wG_mem (List.mem_of_getElem? (i := 453) (by decide +kernel)) (by decide +kernel)
theorem mw_454 : Cond.methodLink RX5 63 yX4_shows ∈ wG := wG_mem (List.mem_of_getElem? (i := 454) (by decide +kernel)) (by decide +kernel)
theorem mw_455 : Cond.static yX4_shows ∈ wG := wG_mem (List.mem_of_getElem? (i := 455) (by decide +kernel)) (by decide +kernel)
theorem mw_456 : Cond.code yX4_shows cX4_shows 2 (some .int) ∈ wG := wG_mem (List.mem_of_getElem? (i := 456) (by decide +kernel)) (by decide +kernel)
theorem mw_457 : Cond.methodLink RX9 179 yX5_feetOf ∈ wG := wG_mem (List.mem_of_getElem? (i := 457) (by decide +kernel)) (by decide +kernel)
theorem mw_458 : Cond.instanceMethod yX5_feetOf ∈ wG := wG_mem (List.mem_of_getElem? (i := 458) (by decide +kernel)) (by decide +kernel)
theorem mw_459 : Cond.selects RX5 yX5_feetOf yX5_feetOf ∈ wG := wG_mem (List.mem_of_getElem? (i := 459) (by decide +kernel)) (by decide +kernel)
theorem mw_460 : Cond.code yX5_feetOf cX5_feetOf 2 (some .int) ∈ wG := wG_mem (List.mem_of_getElem? (i := 460) (by decide +kernel)) (by decide +kernel)
theorem mw_461 : Cond.methodLink RX5 56 yX4_feet ∈ wG := wG_mem (List.mem_of_getElem? (i := 461) (by decide +kernel)) (by decide +kernel)
theorem mw_462 : Cond.static yX4_feet ∈ wG := wG_mem (List.mem_of_getElem? (i := 462) (by decide +kernel)) (by decide +kernel)
theorem mw_463 : Cond.code yX4_feet cX4_feet 3 (some .int) ∈ wG := wG_mem (List.mem_of_getElem? (i := 463) (by decide +kernel)) (by decide +kernel)
theorem mw_464 : Cond.methodLink RX4 13 yJ6_bitCount_0f7a4 ∈ wG := wG_mem (List.mem_of_getElem? (i := 464) (by decide +kernel)) (by decide +kernel)
theorem mw_465 : Cond.methodLink RX4 18 yX3_countStrays ∈ wG := wG_mem (List.mem_of_getElem? (i := 465) (by decide +kernel)) (by decide +kernel)
theorem mw_466 : Cond.methodLink RX9 182 yX5_seenAs ∈ wG := wG_mem (List.mem_of_getElem? (i := 466) (by decide +kernel)) (by decide +kernel)
theorem mw_467 : Cond.instanceMethod yX5_seenAs ∈ wG := wG_mem (List.mem_of_getElem? (i := 467) (by decide +kernel)) (by decide +kernel)
theorem mw_468 : Cond.selects RX5 yX5_seenAs yX5_seenAs ∈ wG := wG_mem (List.mem_of_getElem? (i := 468) (by decide +kernel)) (by decide +kernel)
theorem mw_469 : Cond.code yX5_seenAs cX5_seenAs 2 (some .int) ∈ wG := wG_mem (List.mem_of_getElem? (i := 469) (by decide +kernel)) (by decide +kernel)
theorem mw_470 : Cond.methodLink RX5 66 yX5_shownAt ∈ wG := wG_mem (List.mem_of_getElem? (i := 470) (by decide +kernel)) (by decide +kernel)
theorem mw_471 : Cond.methodLink RX5 69 yX0_nearest ∈ wG := wG_mem (List.mem_of_getElem? (i := 471) (by decide +kernel)) (by decide +kernel)
theorem mw_473 : Cond.instanceMethod yX9_set ∈ wG := wG_mem (List.mem_of_getElem? (i := 473) (by decide +kernel)) (by decide +kernel)
theorem mw_474 : Cond.selects RX9 yX9_set yX9_set ∈ wG := wG_mem (List.mem_of_getElem? (i := 474) (by decide +kernel)) (by decide +kernel)
theorem mw_475 : Cond.code yX9_set cX9_set 5 (some .int) ∈ wG := wG_mem (List.mem_of_getElem? (i := 475) (by decide +kernel)) (by decide +kernel)
theorem mw_477 : Cond.instanceMethod yX9_turn ∈ wG := wG_mem (List.mem_of_getElem? (i := 477) (by decide +kernel)) (by decide +kernel)
theorem mw_478 : Cond.selects RX9 yX9_turn yX9_turn ∈ wG := wG_mem (List.mem_of_getElem? (i := 478) (by decide +kernel)) (by decide +kernel)
theorem mw_479 : Cond.code yX9_turn cX9_turn 4 (some .int) ∈ wG := wG_mem (List.mem_of_getElem? (i := 479) (by decide +kernel)) (by decide +kernel)
theorem mw_481 : Cond.instanceMethod yX9_as ∈ wG := wG_mem (List.mem_of_getElem? (i := 481) (by decide +kernel)) (by decide +kernel)
theorem mw_482 : Cond.selects RX9 yX9_as yX9_as ∈ wG := wG_mem (List.mem_of_getElem? (i := 482) (by decide +kernel)) (by decide +kernel)
theorem mw_483 : Cond.code yX9_as cX9_as 3 (some .int) ∈ wG := wG_mem (List.mem_of_getElem? (i := 483) (by decide +kernel)) (by decide +kernel)
theorem mw_484 : Cond.methodLink RX9 185 yX4_isUnder ∈ wG := wG_mem (List.mem_of_getElem? (i := 484) (by decide +kernel)) (by decide +kernel)
theorem mw_485 : Cond.static yX4_isUnder ∈ wG := wG_mem (List.mem_of_getElem? (i := 485) (by decide +kernel)) (by decide +kernel)
theorem mw_486 : Cond.code yX4_isUnder cX4_isUnder 4 (some .boolean) ∈ wG := wG_mem (List.mem_of_getElem? (i := 486) (by decide +kernel)) (by decide +kernel)
theorem mw_487 : Cond.methodLink RX4 9 yX4_above ∈ wG := wG_mem (List.mem_of_getElem? (i := 487) (by decide +kernel)) (by decide +kernel)
theorem mw_488 : Cond.static yX4_above ∈ wG := wG_mem (List.mem_of_getElem? (i := 488) (by decide +kernel)) (by decide +kernel)
theorem mw_489 : Cond.code yX4_above cX4_above 1 (some .int) ∈ wG := wG_mem (List.mem_of_getElem? (i := 489) (by decide +kernel)) (by decide +kernel)
theorem mw_490 : Cond.constant RX9 188 (-1000000003) ∈ wG := wG_mem (List.mem_of_getElem? (i := 490) (by decide +kernel)) (by decide +kernel)
theorem mw_492 : Cond.instanceMethod yX9_sun ∈ wG := wG_mem (List.mem_of_getElem? (i := 492) (by decide +kernel)) (by decide +kernel)
theorem mw_493 : Cond.selects RX9 yX9_sun yX9_sun ∈ wG := wG_mem (List.mem_of_getElem? (i := 493) (by decide +kernel)) (by decide +kernel)
theorem mw_494 : Cond.code yX9_sun cX9_sun 3 (some .int) ∈ wG := wG_mem (List.mem_of_getElem? (i := 494) (by decide +kernel)) (by decide +kernel)
theorem mw_496 : Cond.instanceMethod yX9_hours ∈ wG := wG_mem (List.mem_of_getElem? (i := 496) (by decide +kernel)) (by decide +kernel)
theorem mw_497 : Cond.selects RX9 yX9_hours yX9_hours ∈ wG := wG_mem (List.mem_of_getElem? (i := 497) (by decide +kernel)) (by decide +kernel)
theorem mw_498 : Cond.code yX9_hours cX9_hours 3 (some .int) ∈ wG := wG_mem (List.mem_of_getElem? (i := 498) (by decide +kernel)) (by decide +kernel)
theorem mw_499 : Cond.methodLink RX9 189 yX5_countChanged ∈ wG := wG_mem (List.mem_of_getElem? (i := 499) (by decide +kernel)) (by decide +kernel)
theorem mw_500 : Cond.instanceMethod yX5_countChanged ∈ wG := wG_mem (List.mem_of_getElem? (i := 500) (by decide +kernel)) (by decide +kernel)
theorem mw_501 : Cond.selects RX5 yX5_countChanged yX5_countChanged ∈ wG := wG_mem (List.mem_of_getElem? (i := 501) (by decide +kernel)) (by decide +kernel)
theorem mw_502 : Cond.code yX5_countChanged cX5_countChanged 4 (some .int) ∈ wG := wG_mem (List.mem_of_getElem? (i := 502) (by decide +kernel)) (by decide +kernel)
theorem mw_504 : Cond.instanceMethod yX9_now ∈ wG := wG_mem (List.mem_of_getElem? (i := 504) (by decide +kernel)) (by decide +kernel)
theorem mw_505 : Cond.selects RX9 yX9_now yX9_now ∈ wG := wG_mem (List.mem_of_getElem? (i := 505) (by decide +kernel)) (by decide +kernel)
theorem mw_506 : Cond.code yX9_now cX9_now 2 (some .int) ∈ wG := wG_mem (List.mem_of_getElem? (i := 506) (by decide +kernel)) (by decide +kernel)
theorem mw_507 : Cond.methodLink RX9 192 yX5_feetOfAll ∈ wG := wG_mem (List.mem_of_getElem? (i := 507) (by decide +kernel)) (by decide +kernel)
theorem mw_508 : Cond.instanceMethod yX5_feetOfAll ∈ wG := wG_mem (List.mem_of_getElem? (i := 508) (by decide +kernel)) (by decide +kernel)
theorem mw_509 : Cond.selects RX5 yX5_feetOfAll yX5_feetOfAll ∈ wG := wG_mem (List.mem_of_getElem? (i := 509) (by decide +kernel)) (by decide +kernel)
theorem mw_510 : Cond.code yX5_feetOfAll cX5_feetOfAll 3 (some .int) ∈ wG := wG_mem (List.mem_of_getElem? (i := 510) (by decide +kernel)) (by decide +kernel)
theorem mw_511 : Cond.methodLink RX5 72 yX5_feetOf ∈ wG := wG_mem (List.mem_of_getElem? (i := 511) (by decide +kernel)) (by decide +kernel)
theorem mw_512 : Cond.methodLink RX9 195 yX5_lettersMisread ∈ wG := wG_mem (List.mem_of_getElem? (i := 512) (by decide +kernel)) (by decide +kernel)
theorem mw_513 : Cond.instanceMethod yX5_lettersMisread ∈ wG := wG_mem (List.mem_of_getElem? (i := 513) (by decide +kernel)) (by decide +kernel)
theorem mw_514 : Cond.selects RX5 yX5_lettersMisread yX5_lettersMisread ∈ wG := wG_mem (List.mem_of_getElem? (i := 514) (by decide +kernel)) (by decide +kernel)
theorem mw_515 : Cond.code yX5_lettersMisread cX5_lettersMisread 3 (some .int) ∈ wG := wG_mem (List.mem_of_getElem? (i := 515) (by decide +kernel)) (by decide +kernel)
theorem mw_516 : Cond.methodLink RX5 80 yX5_isMisreadAt ∈ wG := wG_mem (List.mem_of_getElem? (i := 516) (by decide +kernel)) (by decide +kernel)
theorem mw_517 : Cond.instanceMethod yX5_isMisreadAt ∈ wG := wG_mem (List.mem_of_getElem? (i := 517) (by decide +kernel)) (by decide +kernel)
theorem mw_518 : Cond.selects RX5 yX5_isMisreadAt yX5_isMisreadAt ∈ wG := wG_mem (List.mem_of_getElem? (i := 518) (by decide +kernel)) (by decide +kernel)
theorem mw_519 : Cond.code yX5_isMisreadAt cX5_isMisreadAt 3 (some .boolean) ∈ wG := wG_mem (List.mem_of_getElem? (i := 519) (by decide +kernel)) (by decide +kernel)
theorem mw_521 : Cond.instanceMethod yX9_on ∈ wG := wG_mem (List.mem_of_getElem? (i := 521) (by decide +kernel)) (by decide +kernel)
theorem mw_522 : Cond.selects RX9 yX9_on yX9_on ∈ wG := wG_mem (List.mem_of_getElem? (i := 522) (by decide +kernel)) (by decide +kernel)
theorem mw_523 : Cond.code yX9_on cX9_on 3 (some .int) ∈ wG := wG_mem (List.mem_of_getElem? (i := 523) (by decide +kernel)) (by decide +kernel)
theorem mw_525 : Cond.instanceMethod yX9_when ∈ wG := wG_mem (List.mem_of_getElem? (i := 525) (by decide +kernel)) (by decide +kernel)
theorem mw_526 : Cond.selects RX9 yX9_when yX9_when ∈ wG := wG_mem (List.mem_of_getElem? (i := 526) (by decide +kernel)) (by decide +kernel)
theorem mw_527 : Cond.code yX9_when cX9_when 3 (some .int) ∈ wG := wG_mem (List.mem_of_getElem? (i := 527) (by decide +kernel)) (by decide +kernel)
theorem mw_528 : Cond.methodLink RX9 198 yX5_isMisreadAt ∈ wG := wG_mem (List.mem_of_getElem? (i := 528) (by decide +kernel)) (by decide +kernel)
theorem mw_530 : Cond.instanceMethod yX9_kind ∈ wG := wG_mem (List.mem_of_getElem? (i := 530) (by decide +kernel)) (by decide +kernel)
theorem mw_531 : Cond.selects RX9 yX9_kind yX9_kind ∈ wG := wG_mem (List.mem_of_getElem? (i := 531) (by decide +kernel)) (by decide +kernel)
theorem mw_532 : Cond.code yX9_kind cX9_kind 2 (some .int) ∈ wG := wG_mem (List.mem_of_getElem? (i := 532) (by decide +kernel)) (by decide +kernel)
theorem mw_533 : Cond.methodLink RX9 201 yX4_longestForFeet ∈ wG := wG_mem (List.mem_of_getElem? (i := 533) (by decide +kernel)) (by decide +kernel)
theorem mw_534 : Cond.static yX4_longestForFeet ∈ wG := wG_mem (List.mem_of_getElem? (i := 534) (by decide +kernel)) (by decide +kernel)
theorem mw_535 : Cond.code yX4_longestForFeet cX4_longestForFeet 6 (some .int) ∈ wG := wG_mem (List.mem_of_getElem? (i := 535) (by decide +kernel)) (by decide +kernel)
theorem mw_536 : Cond.methodLink RX4 30 yX4_lastsForFeet ∈ wG := wG_mem (List.mem_of_getElem? (i := 536) (by decide +kernel)) (by decide +kernel)
theorem mw_537 : Cond.static yX4_lastsForFeet ∈ wG := wG_mem (List.mem_of_getElem? (i := 537) (by decide +kernel)) (by decide +kernel)
theorem mw_538 : Cond.code yX4_lastsForFeet cX4_lastsForFeet 4 (some .int) ∈ wG := wG_mem (List.mem_of_getElem? (i := 538) (by decide +kernel)) (by decide +kernel)
theorem mw_539 : Cond.methodLink RX4 23 yX4_feet ∈ wG := wG_mem (List.mem_of_getElem? (i := 539) (by decide +kernel)) (by decide +kernel)
theorem mw_540 : Cond.methodLink RX4 27 yX4_lasts ∈ wG := wG_mem (List.mem_of_getElem? (i := 540) (by decide +kernel)) (by decide +kernel)
theorem mw_542 : Cond.instanceMethod yX9_best ∈ wG := wG_mem (List.mem_of_getElem? (i := 542) (by decide +kernel)) (by decide +kernel)
theorem mw_543 : Cond.selects RX9 yX9_best yX9_best ∈ wG := wG_mem (List.mem_of_getElem? (i := 543) (by decide +kernel)) (by decide +kernel)
theorem mw_544 : Cond.code yX9_best cX9_best 2 (some .int) ∈ wG := wG_mem (List.mem_of_getElem? (i := 544) (by decide +kernel)) (by decide +kernel)
theorem mw_545 : Cond.methodLink RX9 204 yX1_choose ∈ wG := wG_mem (List.mem_of_getElem? (i := 545) (by decide +kernel)) (by decide +kernel)
theorem mw_546 : Cond.instanceMethod yX1_choose ∈ wG := wG_mem (List.mem_of_getElem? (i := 546) (by decide +kernel)) (by decide +kernel)
theorem mw_547 : Cond.selects RX1 yX1_choose yX1_choose ∈ wG := wG_mem (List.mem_of_getElem? (i := 547) (by decide +kernel)) (by decide +kernel)
theorem mw_548 : Cond.code yX1_choose cX1_choose 10 none ∈ wG := wG_mem (List.mem_of_getElem? (i := 548) (by decide +kernel)) (by decide +kernel)
theorem mw_549 : Cond.methodLink RX1 22 yX5_feetOf ∈ wG := wG_mem (List.mem_of_getElem? (i := 549) (by decide +kernel)) (by decide +kernel)
theorem mw_550 : Cond.methodLink RX1 26 yX5_worthOf ∈ wG := wG_mem (List.mem_of_getElem? (i := 550) (by decide +kernel)) (by decide +kernel)
theorem mw_551 : Cond.instanceMethod yX5_worthOf ∈ wG := wG_mem (List.mem_of_getElem? (i := 551) (by decide +kernel)) (by decide +kernel)
theorem mw_552 : Cond.selects RX5 yX5_worthOf yX5_worthOf ∈ wG := wG_mem (List.mem_of_getElem? (i := 552) (by decide +kernel)) (by decide +kernel)
theorem mw_553 : Cond.code yX5_worthOf cX5_worthOf 5 (some .int) ∈ wG := wG_mem (List.mem_of_getElem? (i := 553) (by decide +kernel)) (by decide +kernel)
theorem mw_554 : Cond.methodLink RX5 75 yJ6_bitCount_0f7a4 ∈ wG := wG_mem (List.mem_of_getElem? (i := 554) (by decide +kernel)) (by decide +kernel)
theorem mw_555 : Cond.methodLink RX1 35 yJ6_numberOfTrailingZeros_0f7a4 ∈ wG := wG_mem (List.mem_of_getElem? (i := 555) (by decide +kernel)) (by decide +kernel)
theorem mw_556 : Cond.static yJ6_numberOfTrailingZeros_0f7a4 ∈ wG := wG_mem (List.mem_of_getElem? (i := 556) (by decide +kernel)) (by decide +kernel)
theorem mw_557 : Cond.code yJ6_numberOfTrailingZeros_0f7a4 cJ6_numberOfTrailingZeros_0f7a4 2 (some .int) ∈ wG := wG_mem (List.mem_of_getElem? (i := 557) (by decide +kernel)) (by decide +kernel)
theorem mw_558 : Cond.constant RJ6 264 (65536) ∈ wG := wG_mem (List.mem_of_getElem? (i := 558) (by decide +kernel)) (by decide +kernel)
theorem mw_559 : Cond.methodLink RX1 40 yX1_offer ∈ wG := wG_mem (List.mem_of_getElem? (i := 559) (by decide +kernel)) (by decide +kernel)
theorem mw_561 : Cond.instanceMethod yX1_offer ∈ wG := wG_mem (List.mem_of_getElem? (i := 561) (by decide +kernel)) (by decide +kernel)
theorem mw_562 : Cond.code yX1_offer cX1_offer 3 none ∈ wG := wG_mem (List.mem_of_getElem? (i := 562) (by decide +kernel)) (by decide +kernel)
theorem mw_564 : Cond.instanceMethod yX9_worth ∈ wG := wG_mem (List.mem_of_getElem? (i := 564) (by decide +kernel)) (by decide +kernel)
theorem mw_565 : Cond.selects RX9 yX9_worth yX9_worth ∈ wG := wG_mem (List.mem_of_getElem? (i := 565) (by decide +kernel)) (by decide +kernel)
theorem mw_566 : Cond.code yX9_worth cX9_worth 2 (some .int) ∈ wG := wG_mem (List.mem_of_getElem? (i := 566) (by decide +kernel)) (by decide +kernel)
theorem mw_568 : Cond.instanceMethod yX9_meant ∈ wG := wG_mem (List.mem_of_getElem? (i := 568) (by decide +kernel)) (by decide +kernel)
theorem mw_569 : Cond.selects RX9 yX9_meant yX9_meant ∈ wG := wG_mem (List.mem_of_getElem? (i := 569) (by decide +kernel)) (by decide +kernel)
theorem mw_570 : Cond.code yX9_meant cX9_meant 2 (some .int) ∈ wG := wG_mem (List.mem_of_getElem? (i := 570) (by decide +kernel)) (by decide +kernel)
theorem mw_571 : Cond.methodLink RX9 214 yX0_signsLeftAs ∈ wG := wG_mem (List.mem_of_getElem? (i := 571) (by decide +kernel)) (by decide +kernel)
theorem mw_572 : Cond.instanceMethod yX0_signsLeftAs ∈ wG := wG_mem (List.mem_of_getElem? (i := 572) (by decide +kernel)) (by decide +kernel)
theorem mw_573 : Cond.selects RX0 yX0_signsLeftAs yX0_signsLeftAs ∈ wG := wG_mem (List.mem_of_getElem? (i := 573) (by decide +kernel)) (by decide +kernel)
theorem mw_574 : Cond.code yX0_signsLeftAs cX0_signsLeftAs 7 (some .int) ∈ wG := wG_mem (List.mem_of_getElem? (i := 574) (by decide +kernel)) (by decide +kernel)
theorem mw_576 : Cond.instanceMethod yX9_cheap ∈ wG := wG_mem (List.mem_of_getElem? (i := 576) (by decide +kernel)) (by decide +kernel)
theorem mw_577 : Cond.selects RX9 yX9_cheap yX9_cheap ∈ wG := wG_mem (List.mem_of_getElem? (i := 577) (by decide +kernel)) (by decide +kernel)
theorem mw_578 : Cond.code yX9_cheap cX9_cheap 3 (some .int) ∈ wG := wG_mem (List.mem_of_getElem? (i := 578) (by decide +kernel)) (by decide +kernel)
theorem mw_579 : Cond.methodLink RX9 217 yX0_cheapest ∈ wG := wG_mem (List.mem_of_getElem? (i := 579) (by decide +kernel)) (by decide +kernel)
theorem mw_580 : Cond.instanceMethod yX0_cheapest ∈ wG := wG_mem (List.mem_of_getElem? (i := 580) (by decide +kernel)) (by decide +kernel)
theorem mw_581 : Cond.selects RX0 yX0_cheapest yX0_cheapest ∈ wG := wG_mem (List.mem_of_getElem? (i := 581) (by decide +kernel)) (by decide +kernel)
theorem mw_582 : Cond.code yX0_cheapest cX0_cheapest 6 (some .int) ∈ wG := wG_mem (List.mem_of_getElem? (i := 582) (by decide +kernel)) (by decide +kernel)
theorem mw_583 : Cond.methodLink RX0 48 yX4_feet ∈ wG := wG_mem (List.mem_of_getElem? (i := 583) (by decide +kernel)) (by decide +kernel)
theorem mw_585 : Cond.instanceMethod yX9_feed ∈ wG := wG_mem (List.mem_of_getElem? (i := 585) (by decide +kernel)) (by decide +kernel)
theorem mw_586 : Cond.selects RX9 yX9_feed yX9_feed ∈ wG := wG_mem (List.mem_of_getElem? (i := 586) (by decide +kernel)) (by decide +kernel)
theorem mw_587 : Cond.code yX9_feed cX9_feed 3 (some .int) ∈ wG := wG_mem (List.mem_of_getElem? (i := 587) (by decide +kernel)) (by decide +kernel)
theorem mw_588 : Cond.methodLink RX9 220 yX7_hasRoomFor ∈ wG := wG_mem (List.mem_of_getElem? (i := 588) (by decide +kernel)) (by decide +kernel)
theorem mw_589 : Cond.instanceMethod yX7_hasRoomFor ∈ wG := wG_mem (List.mem_of_getElem? (i := 589) (by decide +kernel)) (by decide +kernel)
theorem mw_590 : Cond.selects RX7 yX7_hasRoomFor yX7_hasRoomFor ∈ wG := wG_mem (List.mem_of_getElem? (i := 590) (by decide +kernel)) (by decide +kernel)
theorem mw_591 : Cond.code yX7_hasRoomFor cX7_hasRoomFor 2 (some .boolean) ∈ wG := wG_mem (List.mem_of_getElem? (i := 591) (by decide +kernel)) (by decide +kernel)
theorem mw_592 : Cond.methodLink RX9 223 yX7_append ∈ wG := wG_mem (List.mem_of_getElem? (i := 592) (by decide +kernel)) (by decide +kernel)
theorem mw_593 : Cond.instanceMethod yX7_append ∈ wG := wG_mem (List.mem_of_getElem? (i := 593) (by decide +kernel)) (by decide +kernel)
theorem mw_594 : Cond.selects RX7 yX7_append yX7_append ∈ wG := wG_mem (List.mem_of_getElem? (i := 594) (by decide +kernel)) (by decide +kernel)
theorem mw_595 : Cond.code yX7_append cX7_append 4 none ∈ wG := wG_mem (List.mem_of_getElem? (i := 595) (by decide +kernel)) (by decide +kernel)
theorem mw_597 : Cond.instanceMethod yX9_wipe ∈ wG := wG_mem (List.mem_of_getElem? (i := 597) (by decide +kernel)) (by decide +kernel)
theorem mw_598 : Cond.selects RX9 yX9_wipe yX9_wipe ∈ wG := wG_mem (List.mem_of_getElem? (i := 598) (by decide +kernel)) (by decide +kernel)
theorem mw_599 : Cond.code yX9_wipe cX9_wipe 1 (some .int) ∈ wG := wG_mem (List.mem_of_getElem? (i := 599) (by decide +kernel)) (by decide +kernel)
theorem mw_600 : Cond.methodLink RX9 229 yX7_empty ∈ wG := wG_mem (List.mem_of_getElem? (i := 600) (by decide +kernel)) (by decide +kernel)
theorem mw_601 : Cond.instanceMethod yX7_empty ∈ wG := wG_mem (List.mem_of_getElem? (i := 601) (by decide +kernel)) (by decide +kernel)
theorem mw_602 : Cond.selects RX7 yX7_empty yX7_empty ∈ wG := wG_mem (List.mem_of_getElem? (i := 602) (by decide +kernel)) (by decide +kernel)
theorem mw_603 : Cond.code yX7_empty cX7_empty 2 (some .int) ∈ wG := wG_mem (List.mem_of_getElem? (i := 603) (by decide +kernel)) (by decide +kernel)
theorem mw_605 : Cond.instanceMethod yX9_field ∈ wG := wG_mem (List.mem_of_getElem? (i := 605) (by decide +kernel)) (by decide +kernel)
theorem mw_606 : Cond.selects RX9 yX9_field yX9_field ∈ wG := wG_mem (List.mem_of_getElem? (i := 606) (by decide +kernel)) (by decide +kernel)
theorem mw_607 : Cond.code yX9_field cX9_field 2 (some .int) ∈ wG := wG_mem (List.mem_of_getElem? (i := 607) (by decide +kernel)) (by decide +kernel)
theorem mw_608 : Cond.methodLink RX9 232 yX5_become ∈ wG := wG_mem (List.mem_of_getElem? (i := 608) (by decide +kernel)) (by decide +kernel)
theorem mw_609 : Cond.instanceMethod yX5_become ∈ wG := wG_mem (List.mem_of_getElem? (i := 609) (by decide +kernel)) (by decide +kernel)
theorem mw_610 : Cond.selects RX5 yX5_become yX5_become ∈ wG := wG_mem (List.mem_of_getElem? (i := 610) (by decide +kernel)) (by decide +kernel)
theorem mw_611 : Cond.code yX5_become cX5_become 2 none ∈ wG := wG_mem (List.mem_of_getElem? (i := 611) (by decide +kernel)) (by decide +kernel)
theorem mw_612 : Cond.methodLink RX5 26 yX0_become ∈ wG := wG_mem (List.mem_of_getElem? (i := 612) (by decide +kernel)) (by decide +kernel)
theorem mw_613 : Cond.instanceMethod yX0_become ∈ wG := wG_mem (List.mem_of_getElem? (i := 613) (by decide +kernel)) (by decide +kernel)
theorem mw_614 : Cond.selects RX0 yX0_become yX0_become ∈ wG := wG_mem (List.mem_of_getElem? (i := 614) (by decide +kernel)) (by decide +kernel)
theorem mw_615 : Cond.code yX0_become cX0_become 2 none ∈ wG := wG_mem (List.mem_of_getElem? (i := 615) (by decide +kernel)) (by decide +kernel)
theorem mw_616 : Cond.methodLink RX0 17 arraycopyName ∈ wG := wG_mem (List.mem_of_getElem? (i := 616) (by decide +kernel)) (by decide +kernel)
theorem mw_617 : Cond.static arraycopyName ∈ wG := wG_mem (List.mem_of_getElem? (i := 617) (by decide +kernel)) (by decide +kernel)
theorem mw_618 : Cond.native arraycopyName ∈ wG := wG_mem (List.mem_of_getElem? (i := 618) (by decide +kernel)) (by decide +kernel)
theorem mw_619 : Cond.methodLink RX5 30 arraycopyName ∈ wG := wG_mem (List.mem_of_getElem? (i := 619) (by decide +kernel)) (by decide +kernel)
theorem mw_620 : Cond.methodLink RX9 236 yX2_tell ∈ wG := wG_mem (List.mem_of_getElem? (i := 620) (by decide +kernel)) (by decide +kernel)
theorem mw_621 : Cond.instanceMethod yX2_tell ∈ wG := wG_mem (List.mem_of_getElem? (i := 621) (by decide +kernel)) (by decide +kernel)
theorem mw_622 : Cond.selects RX2 yX2_tell yX2_tell ∈ wG := wG_mem (List.mem_of_getElem? (i := 622) (by decide +kernel)) (by decide +kernel)
theorem mw_623 : Cond.code yX2_tell cX2_tell 4 (some .int) ∈ wG := wG_mem (List.mem_of_getElem? (i := 623) (by decide +kernel)) (by decide +kernel)
theorem mw_624 : Cond.methodLink RX2 16 yX8_cut ∈ wG := wG_mem (List.mem_of_getElem? (i := 624) (by decide +kernel)) (by decide +kernel)
theorem mw_625 : Cond.instanceMethod yX8_cut ∈ wG := wG_mem (List.mem_of_getElem? (i := 625) (by decide +kernel)) (by decide +kernel)
theorem mw_626 : Cond.selects RX8 yX8_cut yX8_cut ∈ wG := wG_mem (List.mem_of_getElem? (i := 626) (by decide +kernel)) (by decide +kernel)
theorem mw_627 : Cond.code yX8_cut cX8_cut 6 none ∈ wG := wG_mem (List.mem_of_getElem? (i := 627) (by decide +kernel)) (by decide +kernel)
theorem mw_628 : Cond.methodLink RX8 29 yX7_byteAt ∈ wG := wG_mem (List.mem_of_getElem? (i := 628) (by decide +kernel)) (by decide +kernel)
theorem mw_629 : Cond.instanceMethod yX7_byteAt ∈ wG := wG_mem (List.mem_of_getElem? (i := 629) (by decide +kernel)) (by decide +kernel)
theorem mw_630 : Cond.selects RX7 yX7_byteAt yX7_byteAt ∈ wG := wG_mem (List.mem_of_getElem? (i := 630) (by decide +kernel)) (by decide +kernel)
theorem mw_631 : Cond.code yX7_byteAt cX7_byteAt 2 (some .int) ∈ wG := wG_mem (List.mem_of_getElem? (i := 631) (by decide +kernel)) (by decide +kernel)
theorem mw_632 : Cond.methodLink RX8 33 yX8_typeOf ∈ wG := wG_mem (List.mem_of_getElem? (i := 632) (by decide +kernel)) (by decide +kernel)
theorem mw_633 : Cond.static yX8_typeOf ∈ wG := wG_mem (List.mem_of_getElem? (i := 633) (by decide +kernel)) (by decide +kernel)
theorem mw_634 : Cond.code yX8_typeOf cX8_typeOf 1 (some .int) ∈ wG := wG_mem (List.mem_of_getElem? (i := 634) (by decide +kernel)) (by decide +kernel)
theorem mw_635 : Cond.methodLink RX8 36 yX8_endOf ∈ wG := wG_mem (List.mem_of_getElem? (i := 635) (by decide +kernel)) (by decide +kernel)
theorem mw_636 : Cond.static yX8_endOf ∈ wG := wG_mem (List.mem_of_getElem? (i := 636) (by decide +kernel)) (by decide +kernel)
theorem mw_637 : Cond.code yX8_endOf cX8_endOf 5 (some .int) ∈ wG := wG_mem (List.mem_of_getElem? (i := 637) (by decide +kernel)) (by decide +kernel)
theorem mw_638 : Cond.methodLink RX8 40 yX8_wordIn ∈ wG := wG_mem (List.mem_of_getElem? (i := 638) (by decide +kernel)) (by decide +kernel)
theorem mw_639 : Cond.static yX8_wordIn ∈ wG := wG_mem (List.mem_of_getElem? (i := 639) (by decide +kernel)) (by decide +kernel)
theorem mw_640 : Cond.code yX8_wordIn cX8_wordIn 4 (some .int) ∈ wG := wG_mem (List.mem_of_getElem? (i := 640) (by decide +kernel)) (by decide +kernel)
theorem mw_641 : Cond.methodLink RX8 46 yX8_spellingOf ∈ wG := wG_mem (List.mem_of_getElem? (i := 641) (by decide +kernel)) (by decide +kernel)
theorem mw_642 : Cond.static yX8_spellingOf ∈ wG := wG_mem (List.mem_of_getElem? (i := 642) (by decide +kernel)) (by decide +kernel)
theorem mw_643 : Cond.code yX8_spellingOf cX8_spellingOf 1 (some (.object "java/lang/String")) ∈ wG := wG_mem (List.mem_of_getElem? (i := 643) (by decide +kernel)) (by decide +kernel)
theorem mw_656 : Cond.methodLink RX8 50 yX8_isSpelt ∈ wG := wG_mem (List.mem_of_getElem? (i := 656) (by decide +kernel)) (by decide +kernel)
theorem mw_657 : Cond.static yX8_isSpelt ∈ wG := wG_mem (List.mem_of_getElem? (i := 657) (by decide +kernel)) (by decide +kernel)
theorem mw_658 : Cond.code yX8_isSpelt cX8_isSpelt 5 (some .boolean) ∈ wG := wG_mem (List.mem_of_getElem? (i := 658) (by decide +kernel)) (by decide +kernel)
theorem mw_659 : Cond.methodLink RX8 54 yJ0_length_8abf5 ∈ wG := wG_mem (List.mem_of_getElem? (i := 659) (by decide +kernel)) (by decide +kernel)
theorem mw_660 : Cond.instanceMethod yJ0_length_8abf5 ∈ wG := wG_mem (List.mem_of_getElem? (i := 660) (by decide +kernel)) (by decide +kernel)
theorem mw_661 : Cond.selects RJ0 yJ0_length_8abf5 yJ0_length_8abf5 ∈ wG := wG_mem (List.mem_of_getElem? (i := 661) (by decide +kernel)) (by decide +kernel)
theorem mw_662 : Cond.code yJ0_length_8abf5 cJ0_length_8abf5 1 (some .int) ∈ wG := wG_mem (List.mem_of_getElem? (i := 662) (by decide +kernel)) (by decide +kernel)
theorem mw_663 : Cond.methodLink RJ0 335 yJ0_coder_7d493 ∈ wG := wG_mem (List.mem_of_getElem? (i := 663) (by decide +kernel)) (by decide +kernel)
theorem mw_664 : Cond.instanceMethod yJ0_coder_7d493 ∈ wG := wG_mem (List.mem_of_getElem? (i := 664) (by decide +kernel)) (by decide +kernel)
theorem mw_665 : Cond.selects RJ0 yJ0_coder_7d493 yJ0_coder_7d493 ∈ wG := wG_mem (List.mem_of_getElem? (i := 665) (by decide +kernel)) (by decide +kernel)
theorem mw_666 : Cond.code yJ0_coder_7d493 cJ0_coder_7d493 1 (some .byte) ∈ wG := wG_mem (List.mem_of_getElem? (i := 666) (by decide +kernel)) (by decide +kernel)
theorem mw_667 : Cond.fieldLink RJ0 38 "java/lang/String" "COMPACT_STRINGS" "Z" ∈ wG := wG_mem (List.mem_of_getElem? (i := 667) (by decide +kernel)) (by decide +kernel)
theorem mw_669 : Cond.methodLink RX8 59 yJ0_charAt_5068e ∈ wG := wG_mem (List.mem_of_getElem? (i := 669) (by decide +kernel)) (by decide +kernel)
theorem mw_670 : Cond.instanceMethod yJ0_charAt_5068e ∈ wG := wG_mem (List.mem_of_getElem? (i := 670) (by decide +kernel)) (by decide +kernel)
theorem mw_671 : Cond.selects RJ0 yJ0_charAt_5068e yJ0_charAt_5068e ∈ wG := wG_mem (List.mem_of_getElem? (i := 671) (by decide +kernel)) (by decide +kernel)
theorem mw_672 : Cond.code yJ0_charAt_5068e cJ0_charAt_5068e 2 (some .char) ∈ wG := wG_mem (List.mem_of_getElem? (i := 672) (by decide +kernel)) (by decide +kernel)
theorem mw_673 : Cond.methodLink RJ0 492 yJ0_isLatin1_aae02 ∈ wG := wG_mem (List.mem_of_getElem? (i := 673) (by decide +kernel)) (by decide +kernel)
theorem mw_674 : Cond.instanceMethod yJ0_isLatin1_aae02 ∈ wG := wG_mem (List.mem_of_getElem? (i := 674) (by decide +kernel)) (by decide +kernel)
theorem mw_675 : Cond.selects RJ0 yJ0_isLatin1_aae02 yJ0_isLatin1_aae02 ∈ wG := wG_mem (List.mem_of_getElem? (i := 675) (by decide +kernel)) (by decide +kernel)
theorem mw_676 : Cond.code yJ0_isLatin1_aae02 cJ0_isLatin1_aae02 1 (some .boolean) ∈ wG := wG_mem (List.mem_of_getElem? (i := 676) (by decide +kernel)) (by decide +kernel)
theorem mw_677 : Cond.methodLink RJ0 495 yJ1_charAt_3b067 ∈ wG := wG_mem (List.mem_of_getElem? (i := 677) (by decide +kernel)) (by decide +kernel)
theorem mw_678 : Cond.static yJ1_charAt_3b067 ∈ wG := wG_mem (List.mem_of_getElem? (i := 678) (by decide +kernel)) (by decide +kernel)
theorem mw_679 : Cond.code yJ1_charAt_3b067 cJ1_charAt_3b067 2 (some .char) ∈ wG := wG_mem (List.mem_of_getElem? (i := 679) (by decide +kernel)) (by decide +kernel)
theorem mw_680 : Cond.methodLink RJ1 9 yJ0_checkIndex_df160 ∈ wG := wG_mem (List.mem_of_getElem? (i := 680) (by decide +kernel)) (by decide +kernel)
theorem mw_681 : Cond.static yJ0_checkIndex_df160 ∈ wG := wG_mem (List.mem_of_getElem? (i := 681) (by decide +kernel)) (by decide +kernel)
theorem mw_682 : Cond.code yJ0_checkIndex_df160 cJ0_checkIndex_df160 2 none ∈ wG := wG_mem (List.mem_of_getElem? (i := 682) (by decide +kernel)) (by decide +kernel)
theorem mw_683 : Cond.fieldLink RJ0 1053 "jdk/internal/util/Preconditions" "SIOOBE_FORMATTER" "Ljava/util/function/BiFunction;" ∈ wG := wG_mem (List.mem_of_getElem? (i := 683) (by decide +kernel)) (by decide +kernel)
theorem mw_685 : Cond.methodLink RJ0 1059 yJ3_checkIndex_8e157 ∈ wG := wG_mem (List.mem_of_getElem? (i := 685) (by decide +kernel)) (by decide +kernel)
theorem mw_686 : Cond.static yJ3_checkIndex_8e157 ∈ wG := wG_mem (List.mem_of_getElem? (i := 686) (by decide +kernel)) (by decide +kernel)
theorem mw_687 : Cond.code yJ3_checkIndex_8e157 cJ3_checkIndex_8e157 3 (some .int) ∈ wG := wG_mem (List.mem_of_getElem? (i := 687) (by decide +kernel)) (by decide +kernel)
theorem mw_707 : Cond.methodLink RX8 43 yX8_numberIn ∈ wG := wG_mem (List.mem_of_getElem? (i := 707) (by decide +kernel)) (by decide +kernel)
theorem mw_708 : Cond.static yX8_numberIn ∈ wG := wG_mem (List.mem_of_getElem? (i := 708) (by decide +kernel)) (by decide +kernel)
theorem mw_709 : Cond.code yX8_numberIn cX8_numberIn 5 (some .int) ∈ wG := wG_mem (List.mem_of_getElem? (i := 709) (by decide +kernel)) (by decide +kernel)
theorem mw_710 : Cond.methodLink RX8 87 Lib.Math.min.name ∈ wG := wG_mem (List.mem_of_getElem? (i := 710) (by decide +kernel)) (by decide +kernel)
theorem mw_711 : Cond.static Lib.Math.min.name ∈ wG := wG_mem (List.mem_of_getElem? (i := 711) (by decide +kernel)) (by decide +kernel)
theorem mw_712 : Cond.code Lib.Math.min.name Lib.Math.min.code 2 (some .int) ∈ wG := wG_mem (List.mem_of_getElem? (i := 712) (by decide +kernel)) (by decide +kernel)
theorem mw_713 : Cond.methodLink RX2 26 yX2_passItem ∈ wG := wG_mem (List.mem_of_getElem? (i := 713) (by decide +kernel)) (by decide +kernel)
theorem mw_715 : Cond.instanceMethod yX2_passItem ∈ wG := wG_mem (List.mem_of_getElem? (i := 715) (by decide +kernel)) (by decide +kernel)
theorem mw_716 : Cond.code yX2_passItem cX2_passItem 3 (some .boolean) ∈ wG := wG_mem (List.mem_of_getElem? (i := 716) (by decide +kernel)) (by decide +kernel)
theorem mw_717 : Cond.methodLink RX2 37 yX2_passWord ∈ wG := wG_mem (List.mem_of_getElem? (i := 717) (by decide +kernel)) (by decide +kernel)
theorem mw_719 : Cond.instanceMethod yX2_passWord ∈ wG := wG_mem (List.mem_of_getElem? (i := 719) (by decide +kernel)) (by decide +kernel)
theorem mw_720 : Cond.code yX2_passWord cX2_passWord 2 (some .boolean) ∈ wG := wG_mem (List.mem_of_getElem? (i := 720) (by decide +kernel)) (by decide +kernel)
theorem mw_721 : Cond.methodLink RX2 47 yX8_valueAt ∈ wG := wG_mem (List.mem_of_getElem? (i := 721) (by decide +kernel)) (by decide +kernel)
theorem mw_722 : Cond.instanceMethod yX8_valueAt ∈ wG := wG_mem (List.mem_of_getElem? (i := 722) (by decide +kernel)) (by decide +kernel)
theorem mw_723 : Cond.selects RX8 yX8_valueAt yX8_valueAt ∈ wG := wG_mem (List.mem_of_getElem? (i := 723) (by decide +kernel)) (by decide +kernel)
theorem mw_724 : Cond.code yX8_valueAt cX8_valueAt 3 (some .int) ∈ wG := wG_mem (List.mem_of_getElem? (i := 724) (by decide +kernel)) (by decide +kernel)
theorem mw_725 : Cond.methodLink RX2 41 yX2_passSign ∈ wG := wG_mem (List.mem_of_getElem? (i := 725) (by decide +kernel)) (by decide +kernel)
theorem mw_727 : Cond.instanceMethod yX2_passSign ∈ wG := wG_mem (List.mem_of_getElem? (i := 727) (by decide +kernel)) (by decide +kernel)
theorem mw_728 : Cond.code yX2_passSign cX2_passSign 4 (some .boolean) ∈ wG := wG_mem (List.mem_of_getElem? (i := 728) (by decide +kernel)) (by decide +kernel)
theorem mw_729 : Cond.methodLink RX2 68 yX2_passNumber ∈ wG := wG_mem (List.mem_of_getElem? (i := 729) (by decide +kernel)) (by decide +kernel)
theorem mw_731 : Cond.instanceMethod yX2_passNumber ∈ wG := wG_mem (List.mem_of_getElem? (i := 731) (by decide +kernel)) (by decide +kernel)
theorem mw_732 : Cond.code yX2_passNumber cX2_passNumber 3 (some .int) ∈ wG := wG_mem (List.mem_of_getElem? (i := 732) (by decide +kernel)) (by decide +kernel)
theorem mw_733 : Cond.methodLink RX2 77 yX0_put ∈ wG := wG_mem (List.mem_of_getElem? (i := 733) (by decide +kernel)) (by decide +kernel)
theorem mw_734 : Cond.methodLink RX2 44 yX2_passSun ∈ wG := wG_mem (List.mem_of_getElem? (i := 734) (by decide +kernel)) (by decide +kernel)
theorem mw_736 : Cond.instanceMethod yX2_passSun ∈ wG := wG_mem (List.mem_of_getElem? (i := 736) (by decide +kernel)) (by decide +kernel)
theorem mw_737 : Cond.code yX2_passSun cX2_passSun 3 (some .boolean) ∈ wG := wG_mem (List.mem_of_getElem? (i := 737) (by decide +kernel)) (by decide +kernel)
theorem mw_738 : Cond.methodLink RX2 51 yX4_isKind ∈ wG := wG_mem (List.mem_of_getElem? (i := 738) (by decide +kernel)) (by decide +kernel)
theorem mw_739 : Cond.methodLink RX2 56 yX5_isFull ∈ wG := wG_mem (List.mem_of_getElem? (i := 739) (by decide +kernel)) (by decide +kernel)
theorem mw_740 : Cond.methodLink RX2 62 yX2_passLetter ∈ wG := wG_mem (List.mem_of_getElem? (i := 740) (by decide +kernel)) (by decide +kernel)
theorem mw_742 : Cond.instanceMethod yX2_passLetter ∈ wG := wG_mem (List.mem_of_getElem? (i := 742) (by decide +kernel)) (by decide +kernel)
theorem mw_743 : Cond.code yX2_passLetter cX2_passLetter 5 (some .boolean) ∈ wG := wG_mem (List.mem_of_getElem? (i := 743) (by decide +kernel)) (by decide +kernel)
theorem mw_744 : Cond.methodLink RX2 84 yX2_passForm ∈ wG := wG_mem (List.mem_of_getElem? (i := 744) (by decide +kernel)) (by decide +kernel)
theorem mw_746 : Cond.instanceMethod yX2_passForm ∈ wG := wG_mem (List.mem_of_getElem? (i := 746) (by decide +kernel)) (by decide +kernel)
theorem mw_747 : Cond.code yX2_passForm cX2_passForm 3 (some .int) ∈ wG := wG_mem (List.mem_of_getElem? (i := 747) (by decide +kernel)) (by decide +kernel)
theorem mw_748 : Cond.methodLink RX2 92 yX0_formAt ∈ wG := wG_mem (List.mem_of_getElem? (i := 748) (by decide +kernel)) (by decide +kernel)
theorem mw_749 : Cond.methodLink RX2 88 yX5_add ∈ wG := wG_mem (List.mem_of_getElem? (i := 749) (by decide +kernel)) (by decide +kernel)
theorem mw_750 : Cond.methodLink RX2 30 yX8_typeAt ∈ wG := wG_mem (List.mem_of_getElem? (i := 750) (by decide +kernel)) (by decide +kernel)
theorem mw_751 : Cond.instanceMethod yX8_typeAt ∈ wG := wG_mem (List.mem_of_getElem? (i := 751) (by decide +kernel)) (by decide +kernel)
theorem mw_752 : Cond.selects RX8 yX8_typeAt yX8_typeAt ∈ wG := wG_mem (List.mem_of_getElem? (i := 752) (by decide +kernel)) (by decide +kernel)
theorem mw_753 : Cond.code yX8_typeAt cX8_typeAt 2 (some .int) ∈ wG := wG_mem (List.mem_of_getElem? (i := 753) (by decide +kernel)) (by decide +kernel)
theorem mw_754 : Cond.methodLink RX2 34 yX8_placeAt ∈ wG := wG_mem (List.mem_of_getElem? (i := 754) (by decide +kernel)) (by decide +kernel)
theorem mw_755 : Cond.instanceMethod yX8_placeAt ∈ wG := wG_mem (List.mem_of_getElem? (i := 755) (by decide +kernel)) (by decide +kernel)
theorem mw_756 : Cond.selects RX8 yX8_placeAt yX8_placeAt ∈ wG := wG_mem (List.mem_of_getElem? (i := 756) (by decide +kernel)) (by decide +kernel)
theorem mw_757 : Cond.code yX8_placeAt cX8_placeAt 2 (some .int) ∈ wG := wG_mem (List.mem_of_getElem? (i := 757) (by decide +kernel)) (by decide +kernel)
theorem mw_759 : Cond.instanceMethod yX9_sheet ∈ wG := wG_mem (List.mem_of_getElem? (i := 759) (by decide +kernel)) (by decide +kernel)
theorem mw_760 : Cond.selects RX9 yX9_sheet yX9_sheet ∈ wG := wG_mem (List.mem_of_getElem? (i := 760) (by decide +kernel)) (by decide +kernel)
theorem mw_761 : Cond.code yX9_sheet cX9_sheet 4 (some .int) ∈ wG := wG_mem (List.mem_of_getElem? (i := 761) (by decide +kernel)) (by decide +kernel)
theorem mw_762 : Cond.methodLink RX9 240 yX6_isSheet ∈ wG := wG_mem (List.mem_of_getElem? (i := 762) (by decide +kernel)) (by decide +kernel)
theorem mw_763 : Cond.static yX6_isSheet ∈ wG := wG_mem (List.mem_of_getElem? (i := 763) (by decide +kernel)) (by decide +kernel)
theorem mw_764 : Cond.code yX6_isSheet cX6_isSheet 1 (some .boolean) ∈ wG := wG_mem (List.mem_of_getElem? (i := 764) (by decide +kernel)) (by decide +kernel)
theorem mw_765 : Cond.methodLink RX9 243 yX6_isWidth ∈ wG := wG_mem (List.mem_of_getElem? (i := 765) (by decide +kernel)) (by decide +kernel)
theorem mw_766 : Cond.static yX6_isWidth ∈ wG := wG_mem (List.mem_of_getElem? (i := 766) (by decide +kernel)) (by decide +kernel)
theorem mw_767 : Cond.code yX6_isWidth cX6_isWidth 1 (some .boolean) ∈ wG := wG_mem (List.mem_of_getElem? (i := 767) (by decide +kernel)) (by decide +kernel)
theorem mw_768 : Cond.constant RX9 246 (-1000000007) ∈ wG := wG_mem (List.mem_of_getElem? (i := 768) (by decide +kernel)) (by decide +kernel)
theorem mw_769 : Cond.methodLink RX9 247 yX6_lay ∈ wG := wG_mem (List.mem_of_getElem? (i := 769) (by decide +kernel)) (by decide +kernel)
theorem mw_770 : Cond.instanceMethod yX6_lay ∈ wG := wG_mem (List.mem_of_getElem? (i := 770) (by decide +kernel)) (by decide +kernel)
theorem mw_771 : Cond.selects RX6 yX6_lay yX6_lay ∈ wG := wG_mem (List.mem_of_getElem? (i := 771) (by decide +kernel)) (by decide +kernel)
theorem mw_772 : Cond.code yX6_lay cX6_lay 5 (some .int) ∈ wG := wG_mem (List.mem_of_getElem? (i := 772) (by decide +kernel)) (by decide +kernel)
theorem mw_773 : Cond.methodLink RX6 20 yX6_isSheet ∈ wG := wG_mem (List.mem_of_getElem? (i := 773) (by decide +kernel)) (by decide +kernel)
theorem mw_775 : Cond.instanceMethod yX9_write ∈ wG := wG_mem (List.mem_of_getElem? (i := 775) (by decide +kernel)) (by decide +kernel)
theorem mw_776 : Cond.selects RX9 yX9_write yX9_write ∈ wG := wG_mem (List.mem_of_getElem? (i := 776) (by decide +kernel)) (by decide +kernel)
theorem mw_777 : Cond.code yX9_write cX9_write 7 (some .long) ∈ wG := wG_mem (List.mem_of_getElem? (i := 777) (by decide +kernel)) (by decide +kernel)
theorem mw_778 : Cond.methodLink RX9 250 yX6_isMissing ∈ wG := wG_mem (List.mem_of_getElem? (i := 778) (by decide +kernel)) (by decide +kernel)
theorem mw_779 : Cond.instanceMethod yX6_isMissing ∈ wG := wG_mem (List.mem_of_getElem? (i := 779) (by decide +kernel)) (by decide +kernel)
theorem mw_780 : Cond.selects RX6 yX6_isMissing yX6_isMissing ∈ wG := wG_mem (List.mem_of_getElem? (i := 780) (by decide +kernel)) (by decide +kernel)
theorem mw_781 : Cond.code yX6_isMissing cX6_isMissing 2 (some .boolean) ∈ wG := wG_mem (List.mem_of_getElem? (i := 781) (by decide +kernel)) (by decide +kernel)
theorem mw_782 : Cond.constant RX9 253 (-1000000006) ∈ wG := wG_mem (List.mem_of_getElem? (i := 782) (by decide +kernel)) (by decide +kernel)
theorem mw_783 : Cond.methodLink RX9 254 yX6_sizeOf ∈ wG := wG_mem (List.mem_of_getElem? (i := 783) (by decide +kernel)) (by decide +kernel)
theorem mw_784 : Cond.instanceMethod yX6_sizeOf ∈ wG := wG_mem (List.mem_of_getElem? (i := 784) (by decide +kernel)) (by decide +kernel)
theorem mw_785 : Cond.selects RX6 yX6_sizeOf yX6_sizeOf ∈ wG := wG_mem (List.mem_of_getElem? (i := 785) (by decide +kernel)) (by decide +kernel)
theorem mw_786 : Cond.code yX6_sizeOf cX6_sizeOf 2 (some .int) ∈ wG := wG_mem (List.mem_of_getElem? (i := 786) (by decide +kernel)) (by decide +kernel)
theorem mw_787 : Cond.methodLink RX9 257 yX6_at ∈ wG := wG_mem (List.mem_of_getElem? (i := 787) (by decide +kernel)) (by decide +kernel)
theorem mw_788 : Cond.instanceMethod yX6_at ∈ wG := wG_mem (List.mem_of_getElem? (i := 788) (by decide +kernel)) (by decide +kernel)
theorem mw_789 : Cond.selects RX6 yX6_at yX6_at ∈ wG := wG_mem (List.mem_of_getElem? (i := 789) (by decide +kernel)) (by decide +kernel)
theorem mw_790 : Cond.code yX6_at cX6_at 3 (some .long) ∈ wG := wG_mem (List.mem_of_getElem? (i := 790) (by decide +kernel)) (by decide +kernel)
theorem mw_791 : Cond.methodLink RX6 24 yX6_sizeOf ∈ wG := wG_mem (List.mem_of_getElem? (i := 791) (by decide +kernel)) (by decide +kernel)
theorem mw_792 : Cond.methodLink RX9 261 yX6_put ∈ wG := wG_mem (List.mem_of_getElem? (i := 792) (by decide +kernel)) (by decide +kernel)
theorem mw_793 : Cond.instanceMethod yX6_put ∈ wG := wG_mem (List.mem_of_getElem? (i := 793) (by decide +kernel)) (by decide +kernel)
theorem mw_794 : Cond.selects RX6 yX6_put yX6_put ∈ wG := wG_mem (List.mem_of_getElem? (i := 794) (by decide +kernel)) (by decide +kernel)
theorem mw_795 : Cond.code yX6_put cX6_put 5 none ∈ wG := wG_mem (List.mem_of_getElem? (i := 795) (by decide +kernel)) (by decide +kernel)
theorem mw_796 : Cond.methodLink RX6 28 yX6_lowest ∈ wG := wG_mem (List.mem_of_getElem? (i := 796) (by decide +kernel)) (by decide +kernel)
theorem mw_797 : Cond.static yX6_lowest ∈ wG := wG_mem (List.mem_of_getElem? (i := 797) (by decide +kernel)) (by decide +kernel)
theorem mw_798 : Cond.code yX6_lowest cX6_lowest 3 (some .long) ∈ wG := wG_mem (List.mem_of_getElem? (i := 798) (by decide +kernel)) (by decide +kernel)
theorem mw_800 : Cond.instanceMethod yX9_copy ∈ wG := wG_mem (List.mem_of_getElem? (i := 800) (by decide +kernel)) (by decide +kernel)
theorem mw_801 : Cond.selects RX9 yX9_copy yX9_copy ∈ wG := wG_mem (List.mem_of_getElem? (i := 801) (by decide +kernel)) (by decide +kernel)
theorem mw_802 : Cond.code yX9_copy cX9_copy 6 (some .int) ∈ wG := wG_mem (List.mem_of_getElem? (i := 802) (by decide +kernel)) (by decide +kernel)
theorem mw_803 : Cond.methodLink RX9 264 yX6_areAlike ∈ wG := wG_mem (List.mem_of_getElem? (i := 803) (by decide +kernel)) (by decide +kernel)
theorem mw_804 : Cond.instanceMethod yX6_areAlike ∈ wG := wG_mem (List.mem_of_getElem? (i := 804) (by decide +kernel)) (by decide +kernel)
theorem mw_805 : Cond.selects RX6 yX6_areAlike yX6_areAlike ∈ wG := wG_mem (List.mem_of_getElem? (i := 805) (by decide +kernel)) (by decide +kernel)
theorem mw_806 : Cond.code yX6_areAlike cX6_areAlike 3 (some .boolean) ∈ wG := wG_mem (List.mem_of_getElem? (i := 806) (by decide +kernel)) (by decide +kernel)
theorem mw_807 : Cond.methodLink RX9 267 yX6_holds ∈ wG := wG_mem (List.mem_of_getElem? (i := 807) (by decide +kernel)) (by decide +kernel)
theorem mw_808 : Cond.instanceMethod yX6_holds ∈ wG := wG_mem (List.mem_of_getElem? (i := 808) (by decide +kernel)) (by decide +kernel)
theorem mw_809 : Cond.selects RX6 yX6_holds yX6_holds ∈ wG := wG_mem (List.mem_of_getElem? (i := 809) (by decide +kernel)) (by decide +kernel)
theorem mw_810 : Cond.code yX6_holds cX6_holds 5 (some .boolean) ∈ wG := wG_mem (List.mem_of_getElem? (i := 810) (by decide +kernel)) (by decide +kernel)
theorem mw_811 : Cond.methodLink RX9 271 yX6_move ∈ wG := wG_mem (List.mem_of_getElem? (i := 811) (by decide +kernel)) (by decide +kernel)
theorem mw_812 : Cond.instanceMethod yX6_move ∈ wG := wG_mem (List.mem_of_getElem? (i := 812) (by decide +kernel)) (by decide +kernel)
theorem mw_813 : Cond.selects RX6 yX6_move yX6_move ∈ wG := wG_mem (List.mem_of_getElem? (i := 813) (by decide +kernel)) (by decide +kernel)
theorem mw_814 : Cond.code yX6_move cX6_move 6 none ∈ wG := wG_mem (List.mem_of_getElem? (i := 814) (by decide +kernel)) (by decide +kernel)
theorem mw_815 : Cond.methodLink RX6 32 yX6_holds ∈ wG := wG_mem (List.mem_of_getElem? (i := 815) (by decide +kernel)) (by decide +kernel)
theorem mw_816 : Cond.methodLink RX6 36 arraycopyName ∈ wG := wG_mem (List.mem_of_getElem? (i := 816) (by decide +kernel)) (by decide +kernel)
theorem mw_818 : Cond.instanceMethod yX9_lays ∈ wG := wG_mem (List.mem_of_getElem? (i := 818) (by decide +kernel)) (by decide +kernel)
theorem mw_819 : Cond.selects RX9 yX9_lays yX9_lays ∈ wG := wG_mem (List.mem_of_getElem? (i := 819) (by decide +kernel)) (by decide +kernel)
theorem mw_820 : Cond.code yX9_lays cX9_lays 2 (some .int) ∈ wG := wG_mem (List.mem_of_getElem? (i := 820) (by decide +kernel)) (by decide +kernel)
theorem mw_821 : Cond.methodLink RX9 275 yX6_toBook ∈ wG := wG_mem (List.mem_of_getElem? (i := 821) (by decide +kernel)) (by decide +kernel)
theorem mw_822 : Cond.instanceMethod yX6_toBook ∈ wG := wG_mem (List.mem_of_getElem? (i := 822) (by decide +kernel)) (by decide +kernel)
theorem mw_823 : Cond.selects RX6 yX6_toBook yX6_toBook ∈ wG := wG_mem (List.mem_of_getElem? (i := 823) (by decide +kernel)) (by decide +kernel)
theorem mw_824 : Cond.code yX6_toBook cX6_toBook 8 (some .int) ∈ wG := wG_mem (List.mem_of_getElem? (i := 824) (by decide +kernel)) (by decide +kernel)
theorem mw_825 : Cond.methodLink RX6 44 Lib.Math.min.name ∈ wG := wG_mem (List.mem_of_getElem? (i := 825) (by decide +kernel)) (by decide +kernel)
theorem mw_826 : Cond.methodLink RX6 50 yX6_at ∈ wG := wG_mem (List.mem_of_getElem? (i := 826) (by decide +kernel)) (by decide +kernel)
theorem mw_827 : Cond.constantLong RX6 56 (4095) ∈ wG := wG_mem (List.mem_of_getElem? (i := 827) (by decide +kernel)) (by decide +kernel)
theorem mw_828 : Cond.methodLink RX6 58 yX0_put ∈ wG := wG_mem (List.mem_of_getElem? (i := 828) (by decide +kernel)) (by decide +kernel)
theorem mw_830 : Cond.instanceMethod yX9_show ∈ wG := wG_mem (List.mem_of_getElem? (i := 830) (by decide +kernel)) (by decide +kernel)
theorem mw_831 : Cond.selects RX9 yX9_show yX9_show ∈ wG := wG_mem (List.mem_of_getElem? (i := 831) (by decide +kernel)) (by decide +kernel)
theorem mw_832 : Cond.code yX9_show cX9_show 4 (some .int) ∈ wG := wG_mem (List.mem_of_getElem? (i := 832) (by decide +kernel)) (by decide +kernel)
theorem mw_833 : Cond.methodLink RX9 282 Lib.Math.min.name ∈ wG := wG_mem (List.mem_of_getElem? (i := 833) (by decide +kernel)) (by decide +kernel)
theorem mw_835 : Cond.instanceMethod yX9_walk ∈ wG := wG_mem (List.mem_of_getElem? (i := 835) (by decide +kernel)) (by decide +kernel)
theorem mw_836 : Cond.selects RX9 yX9_walk yX9_walk ∈ wG := wG_mem (List.mem_of_getElem? (i := 836) (by decide +kernel)) (by decide +kernel)
theorem mw_837 : Cond.code yX9_walk cX9_walk 3 (some .int) ∈ wG := wG_mem (List.mem_of_getElem? (i := 837) (by decide +kernel)) (by decide +kernel)
theorem mw_838 : Cond.methodLink RX9 287 yX6_walkOver ∈ wG := wG_mem (List.mem_of_getElem? (i := 838) (by decide +kernel)) (by decide +kernel)
theorem mw_839 : Cond.instanceMethod yX6_walkOver ∈ wG := wG_mem (List.mem_of_getElem? (i := 839) (by decide +kernel)) (by decide +kernel)
theorem mw_840 : Cond.selects RX6 yX6_walkOver yX6_walkOver ∈ wG := wG_mem (List.mem_of_getElem? (i := 840) (by decide +kernel)) (by decide +kernel)
theorem mw_841 : Cond.code yX6_walkOver cX6_walkOver 7 (some .int) ∈ wG := wG_mem (List.mem_of_getElem? (i := 841) (by decide +kernel)) (by decide +kernel)
theorem mw_842 : Cond.methodLink RX6 62 yX3_isPoint ∈ wG := wG_mem (List.mem_of_getElem? (i := 842) (by decide +kernel)) (by decide +kernel)
theorem mw_843 : Cond.methodLink RX6 66 yX3_between ∈ wG := wG_mem (List.mem_of_getElem? (i := 843) (by decide +kernel)) (by decide +kernel)
theorem mw_844 : Cond.static yX3_between ∈ wG := wG_mem (List.mem_of_getElem? (i := 844) (by decide +kernel)) (by decide +kernel)
theorem mw_845 : Cond.code yX3_between cX3_between 3 (some .int) ∈ wG := wG_mem (List.mem_of_getElem? (i := 845) (by decide +kernel)) (by decide +kernel)
theorem mw_846 : Cond.methodLink RX6 69 yX3_hasStroke ∈ wG := wG_mem (List.mem_of_getElem? (i := 846) (by decide +kernel)) (by decide +kernel)
theorem mw_848 : Cond.instanceMethod yX9_image ∈ wG := wG_mem (List.mem_of_getElem? (i := 848) (by decide +kernel)) (by decide +kernel)
theorem mw_849 : Cond.selects RX9 yX9_image yX9_image ∈ wG := wG_mem (List.mem_of_getElem? (i := 849) (by decide +kernel)) (by decide +kernel)
theorem mw_850 : Cond.code yX9_image cX9_image 1 (some .int) ∈ wG := wG_mem (List.mem_of_getElem? (i := 850) (by decide +kernel)) (by decide +kernel)
theorem mw_852 : Cond.instanceMethod yX9_undo ∈ wG := wG_mem (List.mem_of_getElem? (i := 852) (by decide +kernel)) (by decide +kernel)
theorem mw_853 : Cond.selects RX9 yX9_undo yX9_undo ∈ wG := wG_mem (List.mem_of_getElem? (i := 853) (by decide +kernel)) (by decide +kernel)
theorem mw_854 : Cond.code yX9_undo cX9_undo 1 (some .int) ∈ wG := wG_mem (List.mem_of_getElem? (i := 854) (by decide +kernel)) (by decide +kernel)
theorem mw_856 : Cond.instanceMethod yX9_tear ∈ wG := wG_mem (List.mem_of_getElem? (i := 856) (by decide +kernel)) (by decide +kernel)
theorem mw_857 : Cond.selects RX9 yX9_tear yX9_tear ∈ wG := wG_mem (List.mem_of_getElem? (i := 857) (by decide +kernel)) (by decide +kernel)
theorem mw_858 : Cond.code yX9_tear cX9_tear 2 (some .int) ∈ wG := wG_mem (List.mem_of_getElem? (i := 858) (by decide +kernel)) (by decide +kernel)
theorem mw_860 : Cond.instanceMethod yX9_count ∈ wG := wG_mem (List.mem_of_getElem? (i := 860) (by decide +kernel)) (by decide +kernel)
theorem mw_861 : Cond.selects RX9 yX9_count yX9_count ∈ wG := wG_mem (List.mem_of_getElem? (i := 861) (by decide +kernel)) (by decide +kernel)
theorem mw_862 : Cond.code yX9_count cX9_count 2 (some .int) ∈ wG := wG_mem (List.mem_of_getElem? (i := 862) (by decide +kernel)) (by decide +kernel)
theorem mw_863 : Cond.methodLink RX9 290 yX0_countSigns ∈ wG := wG_mem (List.mem_of_getElem? (i := 863) (by decide +kernel)) (by decide +kernel)
theorem mw_864 : Cond.instanceMethod yX0_countSigns ∈ wG := wG_mem (List.mem_of_getElem? (i := 864) (by decide +kernel)) (by decide +kernel)
theorem mw_865 : Cond.selects RX0 yX0_countSigns yX0_countSigns ∈ wG := wG_mem (List.mem_of_getElem? (i := 865) (by decide +kernel)) (by decide +kernel)
theorem mw_866 : Cond.code yX0_countSigns cX0_countSigns 3 (some .int) ∈ wG := wG_mem (List.mem_of_getElem? (i := 866) (by decide +kernel)) (by decide +kernel)
theorem mw_867 : Cond.methodLink RX9 293 yX5_strokesOfAll ∈ wG := wG_mem (List.mem_of_getElem? (i := 867) (by decide +kernel)) (by decide +kernel)
theorem mw_868 : Cond.instanceMethod yX5_strokesOfAll ∈ wG := wG_mem (List.mem_of_getElem? (i := 868) (by decide +kernel)) (by decide +kernel)
theorem mw_869 : Cond.selects RX5 yX5_strokesOfAll yX5_strokesOfAll ∈ wG := wG_mem (List.mem_of_getElem? (i := 869) (by decide +kernel)) (by decide +kernel)
theorem mw_870 : Cond.code yX5_strokesOfAll cX5_strokesOfAll 3 (some .int) ∈ wG := wG_mem (List.mem_of_getElem? (i := 870) (by decide +kernel)) (by decide +kernel)
theorem mw_872 : Cond.instanceMethod yX9_status ∈ wG := wG_mem (List.mem_of_getElem? (i := 872) (by decide +kernel)) (by decide +kernel)
theorem mw_873 : Cond.selects RX9 yX9_status yX9_status ∈ wG := wG_mem (List.mem_of_getElem? (i := 873) (by decide +kernel)) (by decide +kernel)
theorem mw_874 : Cond.code yX9_status cX9_status 4 (some .int) ∈ wG := wG_mem (List.mem_of_getElem? (i := 874) (by decide +kernel)) (by decide +kernel)
theorem mw_881 : Cond.fieldLink RX10 9 "SnowLettersModel" "s" "[I" ∈ wG := wG_mem (List.mem_of_getElem? (i := 881) (by decide +kernel)) (by decide +kernel)
theorem mw_882 : Cond.fieldLink RX10 13 "SnowLettersModel" "kept" "[I" ∈ wG := wG_mem (List.mem_of_getElem? (i := 882) (by decide +kernel)) (by decide +kernel)
theorem mw_883 : Cond.fieldLink RX10 16 "SnowLettersModel" "before" "[I" ∈ wG := wG_mem (List.mem_of_getElem? (i := 883) (by decide +kernel)) (by decide +kernel)
theorem mw_884 : Cond.fieldLink RX10 293 "SnowLettersModel" "isKept" "Z" ∈ wG := wG_mem (List.mem_of_getElem? (i := 884) (by decide +kernel)) (by decide +kernel)
theorem mw_885 : Cond.fieldLink RX10 19 "SnowLettersModel" "findings" "[I" ∈ wG := wG_mem (List.mem_of_getElem? (i := 885) (by decide +kernel)) (by decide +kernel)
theorem mw_886 : Cond.fieldLink RX10 22 "SnowLettersModel" "shown" "[I" ∈ wG := wG_mem (List.mem_of_getElem? (i := 886) (by decide +kernel)) (by decide +kernel)
theorem mw_887 : Cond.fieldLink RX10 166 "SnowLettersModel" "most" "I" ∈ wG := wG_mem (List.mem_of_getElem? (i := 887) (by decide +kernel)) (by decide +kernel)
theorem mw_888 : Cond.fieldLink RX10 25 "SnowLettersModel" "worths" "[I" ∈ wG := wG_mem (List.mem_of_getElem? (i := 888) (by decide +kernel)) (by decide +kernel)
theorem mw_889 : Cond.fieldLink RX10 28 "SnowLettersModel" "steps" "[I" ∈ wG := wG_mem (List.mem_of_getElem? (i := 889) (by decide +kernel)) (by decide +kernel)
theorem mw_890 : Cond.fieldLink RX10 31 "SnowLettersModel" "tape" "[I" ∈ wG := wG_mem (List.mem_of_getElem? (i := 890) (by decide +kernel)) (by decide +kernel)
theorem mw_891 : Cond.fieldLink RX10 173 "SnowLettersModel" "taped" "I" ∈ wG := wG_mem (List.mem_of_getElem? (i := 891) (by decide +kernel)) (by decide +kernel)
theorem mw_892 : Cond.fieldLink RX10 176 "SnowLettersModel" "here" "I" ∈ wG := wG_mem (List.mem_of_getElem? (i := 892) (by decide +kernel)) (by decide +kernel)
theorem mw_893 : Cond.fieldLink RX10 182 "SnowLettersModel" "fault" "I" ∈ wG := wG_mem (List.mem_of_getElem? (i := 893) (by decide +kernel)) (by decide +kernel)
theorem mw_894 : Cond.fieldLink RX10 230 "SnowLettersModel" "value" "I" ∈ wG := wG_mem (List.mem_of_getElem? (i := 894) (by decide +kernel)) (by decide +kernel)
theorem mw_895 : Cond.fieldLink RX10 34 "SnowLettersModel" "bits" "[I" ∈ wG := wG_mem (List.mem_of_getElem? (i := 895) (by decide +kernel)) (by decide +kernel)
theorem mw_896 : Cond.fieldLink RX10 37 "SnowLettersModel" "longs" "[I" ∈ wG := wG_mem (List.mem_of_getElem? (i := 896) (by decide +kernel)) (by decide +kernel)
theorem mw_897 : Cond.fieldLink RX10 40 "SnowLettersModel" "cells" "[J" ∈ wG := wG_mem (List.mem_of_getElem? (i := 897) (by decide +kernel)) (by decide +kernel)
theorem mw_898 : Cond.fieldLink RX10 44 "SnowLettersModel" "between" "[J" ∈ wG := wG_mem (List.mem_of_getElem? (i := 898) (by decide +kernel)) (by decide +kernel)
theorem mw_937 : Cond.instanceMethod yX10_odd ∈ wG := wG_mem (List.mem_of_getElem? (i := 937) (by decide +kernel)) (by decide +kernel)
theorem mw_938 : Cond.selects RX10 yX10_odd yX10_odd ∈ wG := wG_mem (List.mem_of_getElem? (i := 938) (by decide +kernel)) (by decide +kernel)
theorem mw_939 : Cond.code yX10_odd cX10_odd 2 (some .int) ∈ wG := wG_mem (List.mem_of_getElem? (i := 939) (by decide +kernel)) (by decide +kernel)
theorem mw_940 : Cond.methodLink RX10 85 yX10_isForm ∈ wG := wG_mem (List.mem_of_getElem? (i := 940) (by decide +kernel)) (by decide +kernel)
theorem mw_941 : Cond.static yX10_isForm ∈ wG := wG_mem (List.mem_of_getElem? (i := 941) (by decide +kernel)) (by decide +kernel)
theorem mw_942 : Cond.code yX10_isForm cX10_isForm 1 (some .boolean) ∈ wG := wG_mem (List.mem_of_getElem? (i := 942) (by decide +kernel)) (by decide +kernel)
theorem mw_943 : Cond.methodLink RX10 48 yX10_in ∈ wG := wG_mem (List.mem_of_getElem? (i := 943) (by decide +kernel)) (by decide +kernel)
theorem mw_944 : Cond.static yX10_in ∈ wG := wG_mem (List.mem_of_getElem? (i := 944) (by decide +kernel)) (by decide +kernel)
theorem mw_945 : Cond.code yX10_in cX10_in 3 (some .boolean) ∈ wG := wG_mem (List.mem_of_getElem? (i := 945) (by decide +kernel)) (by decide +kernel)
theorem mw_946 : Cond.methodLink RX10 76 yX10_odds ∈ wG := wG_mem (List.mem_of_getElem? (i := 946) (by decide +kernel)) (by decide +kernel)
theorem mw_947 : Cond.static yX10_odds ∈ wG := wG_mem (List.mem_of_getElem? (i := 947) (by decide +kernel)) (by decide +kernel)
theorem mw_948 : Cond.code yX10_odds cX10_odds 3 (some .int) ∈ wG := wG_mem (List.mem_of_getElem? (i := 948) (by decide +kernel)) (by decide +kernel)
theorem mw_949 : Cond.methodLink RX10 66 yX10_degree ∈ wG := wG_mem (List.mem_of_getElem? (i := 949) (by decide +kernel)) (by decide +kernel)
theorem mw_950 : Cond.static yX10_degree ∈ wG := wG_mem (List.mem_of_getElem? (i := 950) (by decide +kernel)) (by decide +kernel)
theorem mw_951 : Cond.code yX10_degree cX10_degree 4 (some .int) ∈ wG := wG_mem (List.mem_of_getElem? (i := 951) (by decide +kernel)) (by decide +kernel)
theorem mw_952 : Cond.methodLink RX10 59 yX10_has ∈ wG := wG_mem (List.mem_of_getElem? (i := 952) (by decide +kernel)) (by decide +kernel)
theorem mw_953 : Cond.static yX10_has ∈ wG := wG_mem (List.mem_of_getElem? (i := 953) (by decide +kernel)) (by decide +kernel)
theorem mw_954 : Cond.code yX10_has cX10_has 2 (some .boolean) ∈ wG := wG_mem (List.mem_of_getElem? (i := 954) (by decide +kernel)) (by decide +kernel)
theorem mw_955 : Cond.methodLink RX10 63 yX10_ends ∈ wG := wG_mem (List.mem_of_getElem? (i := 955) (by decide +kernel)) (by decide +kernel)
theorem mw_956 : Cond.static yX10_ends ∈ wG := wG_mem (List.mem_of_getElem? (i := 956) (by decide +kernel)) (by decide +kernel)
theorem mw_957 : Cond.code yX10_ends cX10_ends 2 (some .boolean) ∈ wG := wG_mem (List.mem_of_getElem? (i := 957) (by decide +kernel)) (by decide +kernel)
theorem mw_958 : Cond.methodLink RX10 52 yX10_oneEnd ∈ wG := wG_mem (List.mem_of_getElem? (i := 958) (by decide +kernel)) (by decide +kernel)
theorem mw_959 : Cond.static yX10_oneEnd ∈ wG := wG_mem (List.mem_of_getElem? (i := 959) (by decide +kernel)) (by decide +kernel)
theorem mw_960 : Cond.code yX10_oneEnd cX10_oneEnd 1 (some .int) ∈ wG := wG_mem (List.mem_of_getElem? (i := 960) (by decide +kernel)) (by decide +kernel)
theorem mw_961 : Cond.methodLink RX10 56 yX10_otherEnd ∈ wG := wG_mem (List.mem_of_getElem? (i := 961) (by decide +kernel)) (by decide +kernel)
theorem mw_962 : Cond.static yX10_otherEnd ∈ wG := wG_mem (List.mem_of_getElem? (i := 962) (by decide +kernel)) (by decide +kernel)
theorem mw_963 : Cond.code yX10_otherEnd cX10_otherEnd 1 (some .int) ∈ wG := wG_mem (List.mem_of_getElem? (i := 963) (by decide +kernel)) (by decide +kernel)
theorem mw_964 : Cond.methodLink RX10 89 yX10_no ∈ wG := wG_mem (List.mem_of_getElem? (i := 964) (by decide +kernel)) (by decide +kernel)
theorem mw_966 : Cond.instanceMethod yX10_no ∈ wG := wG_mem (List.mem_of_getElem? (i := 966) (by decide +kernel)) (by decide +kernel)
theorem mw_967 : Cond.code yX10_no cX10_no 2 (some .int) ∈ wG := wG_mem (List.mem_of_getElem? (i := 967) (by decide +kernel)) (by decide +kernel)
theorem mw_968 : Cond.constant RX10 47 (-1000000001) ∈ wG := wG_mem (List.mem_of_getElem? (i := 968) (by decide +kernel)) (by decide +kernel)
theorem mw_970 : Cond.instanceMethod yX10_pieces ∈ wG := wG_mem (List.mem_of_getElem? (i := 970) (by decide +kernel)) (by decide +kernel)
theorem mw_971 : Cond.selects RX10 yX10_pieces yX10_pieces ∈ wG := wG_mem (List.mem_of_getElem? (i := 971) (by decide +kernel)) (by decide +kernel)
theorem mw_972 : Cond.code yX10_pieces cX10_pieces 2 (some .int) ∈ wG := wG_mem (List.mem_of_getElem? (i := 972) (by decide +kernel)) (by decide +kernel)
theorem mw_973 : Cond.methodLink RX10 92 yX10_piecesOf ∈ wG := wG_mem (List.mem_of_getElem? (i := 973) (by decide +kernel)) (by decide +kernel)
theorem mw_974 : Cond.static yX10_piecesOf ∈ wG := wG_mem (List.mem_of_getElem? (i := 974) (by decide +kernel)) (by decide +kernel)
theorem mw_975 : Cond.code yX10_piecesOf cX10_piecesOf 3 (some .int) ∈ wG := wG_mem (List.mem_of_getElem? (i := 975) (by decide +kernel)) (by decide +kernel)
theorem mw_976 : Cond.methodLink RX10 70 yX10_least ∈ wG := wG_mem (List.mem_of_getElem? (i := 976) (by decide +kernel)) (by decide +kernel)
theorem mw_977 : Cond.static yX10_least ∈ wG := wG_mem (List.mem_of_getElem? (i := 977) (by decide +kernel)) (by decide +kernel)
theorem mw_978 : Cond.code yX10_least cX10_least 2 (some .int) ∈ wG := wG_mem (List.mem_of_getElem? (i := 978) (by decide +kernel)) (by decide +kernel)
theorem mw_979 : Cond.methodLink RX10 73 yX10_pieceOf ∈ wG := wG_mem (List.mem_of_getElem? (i := 979) (by decide +kernel)) (by decide +kernel)
theorem mw_980 : Cond.static yX10_pieceOf ∈ wG := wG_mem (List.mem_of_getElem? (i := 980) (by decide +kernel)) (by decide +kernel)
theorem mw_981 : Cond.code yX10_pieceOf cX10_pieceOf 6 (some .int) ∈ wG := wG_mem (List.mem_of_getElem? (i := 981) (by decide +kernel)) (by decide +kernel)
theorem mw_983 : Cond.instanceMethod yX10_lines ∈ wG := wG_mem (List.mem_of_getElem? (i := 983) (by decide +kernel)) (by decide +kernel)
theorem mw_984 : Cond.selects RX10 yX10_lines yX10_lines ∈ wG := wG_mem (List.mem_of_getElem? (i := 984) (by decide +kernel)) (by decide +kernel)
theorem mw_985 : Cond.code yX10_lines cX10_lines 2 (some .int) ∈ wG := wG_mem (List.mem_of_getElem? (i := 985) (by decide +kernel)) (by decide +kernel)
theorem mw_986 : Cond.methodLink RX10 82 yX10_linesOf ∈ wG := wG_mem (List.mem_of_getElem? (i := 986) (by decide +kernel)) (by decide +kernel)
theorem mw_987 : Cond.static yX10_linesOf ∈ wG := wG_mem (List.mem_of_getElem? (i := 987) (by decide +kernel)) (by decide +kernel)
theorem mw_988 : Cond.code yX10_linesOf cX10_linesOf 5 (some .int) ∈ wG := wG_mem (List.mem_of_getElem? (i := 988) (by decide +kernel)) (by decide +kernel)
theorem mw_989 : Cond.methodLink RX10 79 yX10_ones ∈ wG := wG_mem (List.mem_of_getElem? (i := 989) (by decide +kernel)) (by decide +kernel)
theorem mw_990 : Cond.static yX10_ones ∈ wG := wG_mem (List.mem_of_getElem? (i := 990) (by decide +kernel)) (by decide +kernel)
theorem mw_991 : Cond.code yX10_ones cX10_ones 3 (some .int) ∈ wG := wG_mem (List.mem_of_getElem? (i := 991) (by decide +kernel)) (by decide +kernel)
theorem mw_993 : Cond.instanceMethod yX10_strays ∈ wG := wG_mem (List.mem_of_getElem? (i := 993) (by decide +kernel)) (by decide +kernel)
theorem mw_994 : Cond.selects RX10 yX10_strays yX10_strays ∈ wG := wG_mem (List.mem_of_getElem? (i := 994) (by decide +kernel)) (by decide +kernel)
theorem mw_995 : Cond.code yX10_strays cX10_strays 2 (some .int) ∈ wG := wG_mem (List.mem_of_getElem? (i := 995) (by decide +kernel)) (by decide +kernel)
theorem mw_996 : Cond.methodLink RX10 95 yX10_straysOf ∈ wG := wG_mem (List.mem_of_getElem? (i := 996) (by decide +kernel)) (by decide +kernel)
theorem mw_997 : Cond.static yX10_straysOf ∈ wG := wG_mem (List.mem_of_getElem? (i := 997) (by decide +kernel)) (by decide +kernel)
theorem mw_998 : Cond.code yX10_straysOf cX10_straysOf 1 (some .int) ∈ wG := wG_mem (List.mem_of_getElem? (i := 998) (by decide +kernel)) (by decide +kernel)
theorem mw_1000 : Cond.instanceMethod yX10_ways ∈ wG := wG_mem (List.mem_of_getElem? (i := 1000) (by decide +kernel)) (by decide +kernel)
theorem mw_1001 : Cond.selects RX10 yX10_ways yX10_ways ∈ wG := wG_mem (List.mem_of_getElem? (i := 1001) (by decide +kernel)) (by decide +kernel)
theorem mw_1002 : Cond.code yX10_ways cX10_ways 3 (some .long) ∈ wG := wG_mem (List.mem_of_getElem? (i := 1002) (by decide +kernel)) (by decide +kernel)
theorem mw_1003 : Cond.methodLink RX10 102 yX10_isPoint ∈ wG := wG_mem (List.mem_of_getElem? (i := 1003) (by decide +kernel)) (by decide +kernel)
theorem mw_1004 : Cond.static yX10_isPoint ∈ wG := wG_mem (List.mem_of_getElem? (i := 1004) (by decide +kernel)) (by decide +kernel)
theorem mw_1005 : Cond.code yX10_isPoint cX10_isPoint 1 (some .boolean) ∈ wG := wG_mem (List.mem_of_getElem? (i := 1005) (by decide +kernel)) (by decide +kernel)
theorem mw_1006 : Cond.methodLink RX10 98 yX10_waysFrom ∈ wG := wG_mem (List.mem_of_getElem? (i := 1006) (by decide +kernel)) (by decide +kernel)
theorem mw_1007 : Cond.static yX10_waysFrom ∈ wG := wG_mem (List.mem_of_getElem? (i := 1007) (by decide +kernel)) (by decide +kernel)
theorem mw_1008 : Cond.code yX10_waysFrom cX10_waysFrom 5 (some .long) ∈ wG := wG_mem (List.mem_of_getElem? (i := 1008) (by decide +kernel)) (by decide +kernel)
theorem mw_1010 : Cond.instanceMethod yX10_ith ∈ wG := wG_mem (List.mem_of_getElem? (i := 1010) (by decide +kernel)) (by decide +kernel)
theorem mw_1011 : Cond.selects RX10 yX10_ith yX10_ith ∈ wG := wG_mem (List.mem_of_getElem? (i := 1011) (by decide +kernel)) (by decide +kernel)
theorem mw_1012 : Cond.code yX10_ith cX10_ith 8 (some .int) ∈ wG := wG_mem (List.mem_of_getElem? (i := 1012) (by decide +kernel)) (by decide +kernel)
theorem mw_1013 : Cond.methodLink RX10 105 yX10_nextStroke ∈ wG := wG_mem (List.mem_of_getElem? (i := 1013) (by decide +kernel)) (by decide +kernel)
theorem mw_1014 : Cond.static yX10_nextStroke ∈ wG := wG_mem (List.mem_of_getElem? (i := 1014) (by decide +kernel)) (by decide +kernel)
theorem mw_1015 : Cond.code yX10_nextStroke cX10_nextStroke 3 (some .int) ∈ wG := wG_mem (List.mem_of_getElem? (i := 1015) (by decide +kernel)) (by decide +kernel)
theorem mw_1017 : Cond.instanceMethod yX10_again ∈ wG := wG_mem (List.mem_of_getElem? (i := 1017) (by decide +kernel)) (by decide +kernel)
theorem mw_1018 : Cond.selects RX10 yX10_again yX10_again ∈ wG := wG_mem (List.mem_of_getElem? (i := 1018) (by decide +kernel)) (by decide +kernel)
theorem mw_1019 : Cond.code yX10_again cX10_again 5 (some .int) ∈ wG := wG_mem (List.mem_of_getElem? (i := 1019) (by decide +kernel)) (by decide +kernel)
theorem mw_1021 : Cond.instanceMethod yX10_turned ∈ wG := wG_mem (List.mem_of_getElem? (i := 1021) (by decide +kernel)) (by decide +kernel)
theorem mw_1022 : Cond.selects RX10 yX10_turned yX10_turned ∈ wG := wG_mem (List.mem_of_getElem? (i := 1022) (by decide +kernel)) (by decide +kernel)
theorem mw_1023 : Cond.code yX10_turned cX10_turned 7 (some .int) ∈ wG := wG_mem (List.mem_of_getElem? (i := 1023) (by decide +kernel)) (by decide +kernel)
theorem mw_1024 : Cond.methodLink RX10 108 yX10_quarter ∈ wG := wG_mem (List.mem_of_getElem? (i := 1024) (by decide +kernel)) (by decide +kernel)
theorem mw_1025 : Cond.static yX10_quarter ∈ wG := wG_mem (List.mem_of_getElem? (i := 1025) (by decide +kernel)) (by decide +kernel)
theorem mw_1026 : Cond.code yX10_quarter cX10_quarter 1 (some .int) ∈ wG := wG_mem (List.mem_of_getElem? (i := 1026) (by decide +kernel)) (by decide +kernel)
theorem mw_1027 : Cond.methodLink RX10 111 yX10_strokeOf ∈ wG := wG_mem (List.mem_of_getElem? (i := 1027) (by decide +kernel)) (by decide +kernel)
theorem mw_1028 : Cond.static yX10_strokeOf ∈ wG := wG_mem (List.mem_of_getElem? (i := 1028) (by decide +kernel)) (by decide +kernel)
theorem mw_1029 : Cond.code yX10_strokeOf cX10_strokeOf 3 (some .int) ∈ wG := wG_mem (List.mem_of_getElem? (i := 1029) (by decide +kernel)) (by decide +kernel)
theorem mw_1031 : Cond.instanceMethod yX10_sign ∈ wG := wG_mem (List.mem_of_getElem? (i := 1031) (by decide +kernel)) (by decide +kernel)
theorem mw_1032 : Cond.selects RX10 yX10_sign yX10_sign ∈ wG := wG_mem (List.mem_of_getElem? (i := 1032) (by decide +kernel)) (by decide +kernel)
theorem mw_1033 : Cond.code yX10_sign cX10_sign 3 (some .int) ∈ wG := wG_mem (List.mem_of_getElem? (i := 1033) (by decide +kernel)) (by decide +kernel)
theorem mw_1034 : Cond.methodLink RX10 114 yX10_isSign ∈ wG := wG_mem (List.mem_of_getElem? (i := 1034) (by decide +kernel)) (by decide +kernel)
theorem mw_1035 : Cond.static yX10_isSign ∈ wG := wG_mem (List.mem_of_getElem? (i := 1035) (by decide +kernel)) (by decide +kernel)
theorem mw_1036 : Cond.code yX10_isSign cX10_isSign 1 (some .boolean) ∈ wG := wG_mem (List.mem_of_getElem? (i := 1036) (by decide +kernel)) (by decide +kernel)
theorem mw_1037 : Cond.methodLink RX10 117 yX10_puts ∈ wG := wG_mem (List.mem_of_getElem? (i := 1037) (by decide +kernel)) (by decide +kernel)
theorem mw_1039 : Cond.instanceMethod yX10_puts ∈ wG := wG_mem (List.mem_of_getElem? (i := 1039) (by decide +kernel)) (by decide +kernel)
theorem mw_1040 : Cond.code yX10_puts cX10_puts 4 (some .int) ∈ wG := wG_mem (List.mem_of_getElem? (i := 1040) (by decide +kernel)) (by decide +kernel)
theorem mw_1042 : Cond.instanceMethod yX10_form ∈ wG := wG_mem (List.mem_of_getElem? (i := 1042) (by decide +kernel)) (by decide +kernel)
theorem mw_1043 : Cond.selects RX10 yX10_form yX10_form ∈ wG := wG_mem (List.mem_of_getElem? (i := 1043) (by decide +kernel)) (by decide +kernel)
theorem mw_1044 : Cond.code yX10_form cX10_form 2 (some .int) ∈ wG := wG_mem (List.mem_of_getElem? (i := 1044) (by decide +kernel)) (by decide +kernel)
theorem mw_1046 : Cond.instanceMethod yX10_read ∈ wG := wG_mem (List.mem_of_getElem? (i := 1046) (by decide +kernel)) (by decide +kernel)
theorem mw_1047 : Cond.selects RX10 yX10_read yX10_read ∈ wG := wG_mem (List.mem_of_getElem? (i := 1047) (by decide +kernel)) (by decide +kernel)
theorem mw_1048 : Cond.code yX10_read cX10_read 3 (some .int) ∈ wG := wG_mem (List.mem_of_getElem? (i := 1048) (by decide +kernel)) (by decide +kernel)
theorem mw_1049 : Cond.methodLink RX10 123 yX10_readAs ∈ wG := wG_mem (List.mem_of_getElem? (i := 1049) (by decide +kernel)) (by decide +kernel)
theorem mw_1051 : Cond.instanceMethod yX10_readAs ∈ wG := wG_mem (List.mem_of_getElem? (i := 1051) (by decide +kernel)) (by decide +kernel)
theorem mw_1052 : Cond.code yX10_readAs cX10_readAs 4 (some .int) ∈ wG := wG_mem (List.mem_of_getElem? (i := 1052) (by decide +kernel)) (by decide +kernel)
theorem mw_1053 : Cond.methodLink RX10 120 yX10_apartFrom ∈ wG := wG_mem (List.mem_of_getElem? (i := 1053) (by decide +kernel)) (by decide +kernel)
theorem mw_1055 : Cond.instanceMethod yX10_apartFrom ∈ wG := wG_mem (List.mem_of_getElem? (i := 1055) (by decide +kernel)) (by decide +kernel)
theorem mw_1056 : Cond.code yX10_apartFrom cX10_apartFrom 3 (some .int) ∈ wG := wG_mem (List.mem_of_getElem? (i := 1056) (by decide +kernel)) (by decide +kernel)
theorem mw_1058 : Cond.instanceMethod yX10_doubts ∈ wG := wG_mem (List.mem_of_getElem? (i := 1058) (by decide +kernel)) (by decide +kernel)
theorem mw_1059 : Cond.selects RX10 yX10_doubts yX10_doubts ∈ wG := wG_mem (List.mem_of_getElem? (i := 1059) (by decide +kernel)) (by decide +kernel)
theorem mw_1060 : Cond.code yX10_doubts cX10_doubts 5 (some .int) ∈ wG := wG_mem (List.mem_of_getElem? (i := 1060) (by decide +kernel)) (by decide +kernel)
theorem mw_1062 : Cond.instanceMethod yX10_apart ∈ wG := wG_mem (List.mem_of_getElem? (i := 1062) (by decide +kernel)) (by decide +kernel)
theorem mw_1063 : Cond.selects RX10 yX10_apart yX10_apart ∈ wG := wG_mem (List.mem_of_getElem? (i := 1063) (by decide +kernel)) (by decide +kernel)
theorem mw_1064 : Cond.code yX10_apart cX10_apart 4 (some .int) ∈ wG := wG_mem (List.mem_of_getElem? (i := 1064) (by decide +kernel)) (by decide +kernel)
theorem mw_1066 : Cond.instanceMethod yX10_stay ∈ wG := wG_mem (List.mem_of_getElem? (i := 1066) (by decide +kernel)) (by decide +kernel)
theorem mw_1067 : Cond.selects RX10 yX10_stay yX10_stay ∈ wG := wG_mem (List.mem_of_getElem? (i := 1067) (by decide +kernel)) (by decide +kernel)
theorem mw_1068 : Cond.code yX10_stay cX10_stay 3 (some .int) ∈ wG := wG_mem (List.mem_of_getElem? (i := 1068) (by decide +kernel)) (by decide +kernel)
theorem mw_1070 : Cond.instanceMethod yX10_forge ∈ wG := wG_mem (List.mem_of_getElem? (i := 1070) (by decide +kernel)) (by decide +kernel)
theorem mw_1071 : Cond.selects RX10 yX10_forge yX10_forge ∈ wG := wG_mem (List.mem_of_getElem? (i := 1071) (by decide +kernel)) (by decide +kernel)
theorem mw_1072 : Cond.code yX10_forge cX10_forge 5 (some .int) ∈ wG := wG_mem (List.mem_of_getElem? (i := 1072) (by decide +kernel)) (by decide +kernel)
theorem mw_1074 : Cond.instanceMethod yX10_letter ∈ wG := wG_mem (List.mem_of_getElem? (i := 1074) (by decide +kernel)) (by decide +kernel)
theorem mw_1075 : Cond.selects RX10 yX10_letter yX10_letter ∈ wG := wG_mem (List.mem_of_getElem? (i := 1075) (by decide +kernel)) (by decide +kernel)
theorem mw_1076 : Cond.code yX10_letter cX10_letter 3 (some .int) ∈ wG := wG_mem (List.mem_of_getElem? (i := 1076) (by decide +kernel)) (by decide +kernel)
theorem mw_1077 : Cond.methodLink RX10 129 yX10_isKind ∈ wG := wG_mem (List.mem_of_getElem? (i := 1077) (by decide +kernel)) (by decide +kernel)
theorem mw_1078 : Cond.static yX10_isKind ∈ wG := wG_mem (List.mem_of_getElem? (i := 1078) (by decide +kernel)) (by decide +kernel)
theorem mw_1079 : Cond.code yX10_isKind cX10_isKind 1 (some .boolean) ∈ wG := wG_mem (List.mem_of_getElem? (i := 1079) (by decide +kernel)) (by decide +kernel)
theorem mw_1080 : Cond.methodLink RX10 132 yX10_adds ∈ wG := wG_mem (List.mem_of_getElem? (i := 1080) (by decide +kernel)) (by decide +kernel)
theorem mw_1082 : Cond.instanceMethod yX10_adds ∈ wG := wG_mem (List.mem_of_getElem? (i := 1082) (by decide +kernel)) (by decide +kernel)
theorem mw_1083 : Cond.code yX10_adds cX10_adds 5 none ∈ wG := wG_mem (List.mem_of_getElem? (i := 1083) (by decide +kernel)) (by decide +kernel)
theorem mw_1084 : Cond.methodLink RX10 126 yX10_at ∈ wG := wG_mem (List.mem_of_getElem? (i := 1084) (by decide +kernel)) (by decide +kernel)
theorem mw_1086 : Cond.instanceMethod yX10_at ∈ wG := wG_mem (List.mem_of_getElem? (i := 1086) (by decide +kernel)) (by decide +kernel)
theorem mw_1087 : Cond.code yX10_at cX10_at 3 (some .int) ∈ wG := wG_mem (List.mem_of_getElem? (i := 1087) (by decide +kernel)) (by decide +kernel)
theorem mw_1089 : Cond.instanceMethod yX10_of ∈ wG := wG_mem (List.mem_of_getElem? (i := 1089) (by decide +kernel)) (by decide +kernel)
theorem mw_1090 : Cond.selects RX10 yX10_of yX10_of ∈ wG := wG_mem (List.mem_of_getElem? (i := 1090) (by decide +kernel)) (by decide +kernel)
theorem mw_1091 : Cond.code yX10_of cX10_of 3 (some .int) ∈ wG := wG_mem (List.mem_of_getElem? (i := 1091) (by decide +kernel)) (by decide +kernel)
theorem mw_1092 : Cond.methodLink RX10 145 yX10_isLetter ∈ wG := wG_mem (List.mem_of_getElem? (i := 1092) (by decide +kernel)) (by decide +kernel)
theorem mw_1094 : Cond.instanceMethod yX10_isLetter ∈ wG := wG_mem (List.mem_of_getElem? (i := 1094) (by decide +kernel)) (by decide +kernel)
theorem mw_1095 : Cond.code yX10_isLetter cX10_isLetter 2 (some .boolean) ∈ wG := wG_mem (List.mem_of_getElem? (i := 1095) (by decide +kernel)) (by decide +kernel)
theorem mw_1096 : Cond.methodLink RX10 139 yX10_lasts ∈ wG := wG_mem (List.mem_of_getElem? (i := 1096) (by decide +kernel)) (by decide +kernel)
theorem mw_1098 : Cond.instanceMethod yX10_lasts ∈ wG := wG_mem (List.mem_of_getElem? (i := 1098) (by decide +kernel)) (by decide +kernel)
theorem mw_1099 : Cond.code yX10_lasts cX10_lasts 2 (some .int) ∈ wG := wG_mem (List.mem_of_getElem? (i := 1099) (by decide +kernel)) (by decide +kernel)
theorem mw_1100 : Cond.methodLink RX10 136 yX10_lastsBy ∈ wG := wG_mem (List.mem_of_getElem? (i := 1100) (by decide +kernel)) (by decide +kernel)
theorem mw_1101 : Cond.static yX10_lastsBy ∈ wG := wG_mem (List.mem_of_getElem? (i := 1101) (by decide +kernel)) (by decide +kernel)
theorem mw_1102 : Cond.code yX10_lastsBy cX10_lastsBy 2 (some .int) ∈ wG := wG_mem (List.mem_of_getElem? (i := 1102) (by decide +kernel)) (by decide +kernel)
theorem mw_1103 : Cond.methodLink RX10 148 yX10_shows ∈ wG := wG_mem (List.mem_of_getElem? (i := 1103) (by decide +kernel)) (by decide +kernel)
theorem mw_1105 : Cond.instanceMethod yX10_shows ∈ wG := wG_mem (List.mem_of_getElem? (i := 1105) (by decide +kernel)) (by decide +kernel)
theorem mw_1106 : Cond.code yX10_shows cX10_shows 4 (some .int) ∈ wG := wG_mem (List.mem_of_getElem? (i := 1106) (by decide +kernel)) (by decide +kernel)
theorem mw_1107 : Cond.methodLink RX10 151 yX10_feet ∈ wG := wG_mem (List.mem_of_getElem? (i := 1107) (by decide +kernel)) (by decide +kernel)
theorem mw_1109 : Cond.instanceMethod yX10_feet ∈ wG := wG_mem (List.mem_of_getElem? (i := 1109) (by decide +kernel)) (by decide +kernel)
theorem mw_1110 : Cond.code yX10_feet cX10_feet 2 (some .int) ∈ wG := wG_mem (List.mem_of_getElem? (i := 1110) (by decide +kernel)) (by decide +kernel)
theorem mw_1111 : Cond.methodLink RX10 142 yX10_feetBy ∈ wG := wG_mem (List.mem_of_getElem? (i := 1111) (by decide +kernel)) (by decide +kernel)
theorem mw_1112 : Cond.static yX10_feetBy ∈ wG := wG_mem (List.mem_of_getElem? (i := 1112) (by decide +kernel)) (by decide +kernel)
theorem mw_1113 : Cond.code yX10_feetBy cX10_feetBy 3 (some .int) ∈ wG := wG_mem (List.mem_of_getElem? (i := 1113) (by decide +kernel)) (by decide +kernel)
theorem mw_1115 : Cond.instanceMethod yX10_set ∈ wG := wG_mem (List.mem_of_getElem? (i := 1115) (by decide +kernel)) (by decide +kernel)
theorem mw_1116 : Cond.selects RX10 yX10_set yX10_set ∈ wG := wG_mem (List.mem_of_getElem? (i := 1116) (by decide +kernel)) (by decide +kernel)
theorem mw_1117 : Cond.code yX10_set cX10_set 5 (some .int) ∈ wG := wG_mem (List.mem_of_getElem? (i := 1117) (by decide +kernel)) (by decide +kernel)
theorem mw_1119 : Cond.instanceMethod yX10_turn ∈ wG := wG_mem (List.mem_of_getElem? (i := 1119) (by decide +kernel)) (by decide +kernel)
theorem mw_1120 : Cond.selects RX10 yX10_turn yX10_turn ∈ wG := wG_mem (List.mem_of_getElem? (i := 1120) (by decide +kernel)) (by decide +kernel)
theorem mw_1121 : Cond.code yX10_turn cX10_turn 3 (some .int) ∈ wG := wG_mem (List.mem_of_getElem? (i := 1121) (by decide +kernel)) (by decide +kernel)
theorem mw_1123 : Cond.instanceMethod yX10_as ∈ wG := wG_mem (List.mem_of_getElem? (i := 1123) (by decide +kernel)) (by decide +kernel)
theorem mw_1124 : Cond.selects RX10 yX10_as yX10_as ∈ wG := wG_mem (List.mem_of_getElem? (i := 1124) (by decide +kernel)) (by decide +kernel)
theorem mw_1125 : Cond.code yX10_as cX10_as 3 (some .int) ∈ wG := wG_mem (List.mem_of_getElem? (i := 1125) (by decide +kernel)) (by decide +kernel)
theorem mw_1126 : Cond.methodLink RX10 154 yX10_isUnder ∈ wG := wG_mem (List.mem_of_getElem? (i := 1126) (by decide +kernel)) (by decide +kernel)
theorem mw_1127 : Cond.static yX10_isUnder ∈ wG := wG_mem (List.mem_of_getElem? (i := 1127) (by decide +kernel)) (by decide +kernel)
theorem mw_1128 : Cond.code yX10_isUnder cX10_isUnder 2 (some .boolean) ∈ wG := wG_mem (List.mem_of_getElem? (i := 1128) (by decide +kernel)) (by decide +kernel)
theorem mw_1130 : Cond.instanceMethod yX10_sun ∈ wG := wG_mem (List.mem_of_getElem? (i := 1130) (by decide +kernel)) (by decide +kernel)
theorem mw_1131 : Cond.selects RX10 yX10_sun yX10_sun ∈ wG := wG_mem (List.mem_of_getElem? (i := 1131) (by decide +kernel)) (by decide +kernel)
theorem mw_1132 : Cond.code yX10_sun cX10_sun 2 (some .int) ∈ wG := wG_mem (List.mem_of_getElem? (i := 1132) (by decide +kernel)) (by decide +kernel)
theorem mw_1134 : Cond.instanceMethod yX10_hours ∈ wG := wG_mem (List.mem_of_getElem? (i := 1134) (by decide +kernel)) (by decide +kernel)
theorem mw_1135 : Cond.selects RX10 yX10_hours yX10_hours ∈ wG := wG_mem (List.mem_of_getElem? (i := 1135) (by decide +kernel)) (by decide +kernel)
theorem mw_1136 : Cond.code yX10_hours cX10_hours 4 (some .int) ∈ wG := wG_mem (List.mem_of_getElem? (i := 1136) (by decide +kernel)) (by decide +kernel)
theorem mw_1138 : Cond.instanceMethod yX10_now ∈ wG := wG_mem (List.mem_of_getElem? (i := 1138) (by decide +kernel)) (by decide +kernel)
theorem mw_1139 : Cond.selects RX10 yX10_now yX10_now ∈ wG := wG_mem (List.mem_of_getElem? (i := 1139) (by decide +kernel)) (by decide +kernel)
theorem mw_1140 : Cond.code yX10_now cX10_now 5 (some .int) ∈ wG := wG_mem (List.mem_of_getElem? (i := 1140) (by decide +kernel)) (by decide +kernel)
theorem mw_1141 : Cond.methodLink RX10 157 yX10_isOther ∈ wG := wG_mem (List.mem_of_getElem? (i := 1141) (by decide +kernel)) (by decide +kernel)
theorem mw_1143 : Cond.instanceMethod yX10_isOther ∈ wG := wG_mem (List.mem_of_getElem? (i := 1143) (by decide +kernel)) (by decide +kernel)
theorem mw_1144 : Cond.code yX10_isOther cX10_isOther 2 (some .boolean) ∈ wG := wG_mem (List.mem_of_getElem? (i := 1144) (by decide +kernel)) (by decide +kernel)
theorem mw_1146 : Cond.instanceMethod yX10_on ∈ wG := wG_mem (List.mem_of_getElem? (i := 1146) (by decide +kernel)) (by decide +kernel)
theorem mw_1147 : Cond.selects RX10 yX10_on yX10_on ∈ wG := wG_mem (List.mem_of_getElem? (i := 1147) (by decide +kernel)) (by decide +kernel)
theorem mw_1148 : Cond.code yX10_on cX10_on 4 (some .int) ∈ wG := wG_mem (List.mem_of_getElem? (i := 1148) (by decide +kernel)) (by decide +kernel)
theorem mw_1150 : Cond.instanceMethod yX10_when ∈ wG := wG_mem (List.mem_of_getElem? (i := 1150) (by decide +kernel)) (by decide +kernel)
theorem mw_1151 : Cond.selects RX10 yX10_when yX10_when ∈ wG := wG_mem (List.mem_of_getElem? (i := 1151) (by decide +kernel)) (by decide +kernel)
theorem mw_1152 : Cond.code yX10_when cX10_when 5 (some .int) ∈ wG := wG_mem (List.mem_of_getElem? (i := 1152) (by decide +kernel)) (by decide +kernel)
theorem mw_1154 : Cond.instanceMethod yX10_kind ∈ wG := wG_mem (List.mem_of_getElem? (i := 1154) (by decide +kernel)) (by decide +kernel)
theorem mw_1155 : Cond.selects RX10 yX10_kind yX10_kind ∈ wG := wG_mem (List.mem_of_getElem? (i := 1155) (by decide +kernel)) (by decide +kernel)
theorem mw_1156 : Cond.code yX10_kind cX10_kind 2 (some .int) ∈ wG := wG_mem (List.mem_of_getElem? (i := 1156) (by decide +kernel)) (by decide +kernel)
theorem mw_1157 : Cond.methodLink RX10 160 yX10_longest ∈ wG := wG_mem (List.mem_of_getElem? (i := 1157) (by decide +kernel)) (by decide +kernel)
theorem mw_1158 : Cond.static yX10_longest ∈ wG := wG_mem (List.mem_of_getElem? (i := 1158) (by decide +kernel)) (by decide +kernel)
theorem mw_1159 : Cond.code yX10_longest cX10_longest 7 (some .int) ∈ wG := wG_mem (List.mem_of_getElem? (i := 1159) (by decide +kernel)) (by decide +kernel)
theorem mw_1161 : Cond.instanceMethod yX10_best ∈ wG := wG_mem (List.mem_of_getElem? (i := 1161) (by decide +kernel)) (by decide +kernel)
theorem mw_1162 : Cond.selects RX10 yX10_best yX10_best ∈ wG := wG_mem (List.mem_of_getElem? (i := 1162) (by decide +kernel)) (by decide +kernel)
theorem mw_1163 : Cond.code yX10_best cX10_best 2 (some .int) ∈ wG := wG_mem (List.mem_of_getElem? (i := 1163) (by decide +kernel)) (by decide +kernel)
theorem mw_1164 : Cond.methodLink RX10 170 yX10_bestSet ∈ wG := wG_mem (List.mem_of_getElem? (i := 1164) (by decide +kernel)) (by decide +kernel)
theorem mw_1166 : Cond.instanceMethod yX10_bestSet ∈ wG := wG_mem (List.mem_of_getElem? (i := 1166) (by decide +kernel)) (by decide +kernel)
theorem mw_1167 : Cond.code yX10_bestSet cX10_bestSet 7 (some .int) ∈ wG := wG_mem (List.mem_of_getElem? (i := 1167) (by decide +kernel)) (by decide +kernel)
theorem mw_1168 : Cond.methodLink RX10 163 yX10_worthOf ∈ wG := wG_mem (List.mem_of_getElem? (i := 1168) (by decide +kernel)) (by decide +kernel)
theorem mw_1170 : Cond.instanceMethod yX10_worthOf ∈ wG := wG_mem (List.mem_of_getElem? (i := 1170) (by decide +kernel)) (by decide +kernel)
theorem mw_1171 : Cond.code yX10_worthOf cX10_worthOf 3 (some .int) ∈ wG := wG_mem (List.mem_of_getElem? (i := 1171) (by decide +kernel)) (by decide +kernel)
theorem mw_1173 : Cond.instanceMethod yX10_worth ∈ wG := wG_mem (List.mem_of_getElem? (i := 1173) (by decide +kernel)) (by decide +kernel)
theorem mw_1174 : Cond.selects RX10 yX10_worth yX10_worth ∈ wG := wG_mem (List.mem_of_getElem? (i := 1174) (by decide +kernel)) (by decide +kernel)
theorem mw_1175 : Cond.code yX10_worth cX10_worth 2 (some .int) ∈ wG := wG_mem (List.mem_of_getElem? (i := 1175) (by decide +kernel)) (by decide +kernel)
theorem mw_1177 : Cond.instanceMethod yX10_meant ∈ wG := wG_mem (List.mem_of_getElem? (i := 1177) (by decide +kernel)) (by decide +kernel)
theorem mw_1178 : Cond.selects RX10 yX10_meant yX10_meant ∈ wG := wG_mem (List.mem_of_getElem? (i := 1178) (by decide +kernel)) (by decide +kernel)
theorem mw_1179 : Cond.code yX10_meant cX10_meant 6 (some .int) ∈ wG := wG_mem (List.mem_of_getElem? (i := 1179) (by decide +kernel)) (by decide +kernel)
theorem mw_1181 : Cond.instanceMethod yX10_cheap ∈ wG := wG_mem (List.mem_of_getElem? (i := 1181) (by decide +kernel)) (by decide +kernel)
theorem mw_1182 : Cond.selects RX10 yX10_cheap yX10_cheap ∈ wG := wG_mem (List.mem_of_getElem? (i := 1182) (by decide +kernel)) (by decide +kernel)
theorem mw_1183 : Cond.code yX10_cheap cX10_cheap 5 (some .int) ∈ wG := wG_mem (List.mem_of_getElem? (i := 1183) (by decide +kernel)) (by decide +kernel)
theorem mw_1185 : Cond.instanceMethod yX10_feed ∈ wG := wG_mem (List.mem_of_getElem? (i := 1185) (by decide +kernel)) (by decide +kernel)
theorem mw_1186 : Cond.selects RX10 yX10_feed yX10_feed ∈ wG := wG_mem (List.mem_of_getElem? (i := 1186) (by decide +kernel)) (by decide +kernel)
theorem mw_1187 : Cond.code yX10_feed cX10_feed 4 (some .int) ∈ wG := wG_mem (List.mem_of_getElem? (i := 1187) (by decide +kernel)) (by decide +kernel)
theorem mw_1189 : Cond.instanceMethod yX10_wipe ∈ wG := wG_mem (List.mem_of_getElem? (i := 1189) (by decide +kernel)) (by decide +kernel)
theorem mw_1190 : Cond.selects RX10 yX10_wipe yX10_wipe ∈ wG := wG_mem (List.mem_of_getElem? (i := 1190) (by decide +kernel)) (by decide +kernel)
theorem mw_1191 : Cond.code yX10_wipe cX10_wipe 2 (some .int) ∈ wG := wG_mem (List.mem_of_getElem? (i := 1191) (by decide +kernel)) (by decide +kernel)
theorem mw_1193 : Cond.instanceMethod yX10_field ∈ wG := wG_mem (List.mem_of_getElem? (i := 1193) (by decide +kernel)) (by decide +kernel)
theorem mw_1194 : Cond.selects RX10 yX10_field yX10_field ∈ wG := wG_mem (List.mem_of_getElem? (i := 1194) (by decide +kernel)) (by decide +kernel)
theorem mw_1195 : Cond.code yX10_field cX10_field 3 (some .int) ∈ wG := wG_mem (List.mem_of_getElem? (i := 1195) (by decide +kernel)) (by decide +kernel)
theorem mw_1196 : Cond.methodLink RX10 271 yX10_lay ∈ wG := wG_mem (List.mem_of_getElem? (i := 1196) (by decide +kernel)) (by decide +kernel)
theorem mw_1197 : Cond.static yX10_lay ∈ wG := wG_mem (List.mem_of_getElem? (i := 1197) (by decide +kernel)) (by decide +kernel)
theorem mw_1198 : Cond.code yX10_lay cX10_lay 3 none ∈ wG := wG_mem (List.mem_of_getElem? (i := 1198) (by decide +kernel)) (by decide +kernel)
theorem mw_1199 : Cond.methodLink RX10 275 yX10_item ∈ wG := wG_mem (List.mem_of_getElem? (i := 1199) (by decide +kernel)) (by decide +kernel)
theorem mw_1201 : Cond.instanceMethod yX10_item ∈ wG := wG_mem (List.mem_of_getElem? (i := 1201) (by decide +kernel)) (by decide +kernel)
theorem mw_1202 : Cond.code yX10_item cX10_item 2 (some .boolean) ∈ wG := wG_mem (List.mem_of_getElem? (i := 1202) (by decide +kernel)) (by decide +kernel)
theorem mw_1203 : Cond.methodLink RX10 257 yX10_kindName ∈ wG := wG_mem (List.mem_of_getElem? (i := 1203) (by decide +kernel)) (by decide +kernel)
theorem mw_1204 : Cond.static yX10_kindName ∈ wG := wG_mem (List.mem_of_getElem? (i := 1204) (by decide +kernel)) (by decide +kernel)
theorem mw_1205 : Cond.code yX10_kindName cX10_kindName 1 (some (.object "java/lang/String")) ∈ wG := wG_mem (List.mem_of_getElem? (i := 1205) (by decide +kernel)) (by decide +kernel)
theorem mw_1212 : Cond.methodLink RX10 204 yX10_isWord ∈ wG := wG_mem (List.mem_of_getElem? (i := 1212) (by decide +kernel)) (by decide +kernel)
theorem mw_1214 : Cond.instanceMethod yX10_isWord ∈ wG := wG_mem (List.mem_of_getElem? (i := 1214) (by decide +kernel)) (by decide +kernel)
theorem mw_1215 : Cond.code yX10_isWord cX10_isWord 4 (some .boolean) ∈ wG := wG_mem (List.mem_of_getElem? (i := 1215) (by decide +kernel)) (by decide +kernel)
theorem mw_1216 : Cond.methodLink RX10 188 yX10_blanks ∈ wG := wG_mem (List.mem_of_getElem? (i := 1216) (by decide +kernel)) (by decide +kernel)
theorem mw_1218 : Cond.instanceMethod yX10_blanks ∈ wG := wG_mem (List.mem_of_getElem? (i := 1218) (by decide +kernel)) (by decide +kernel)
theorem mw_1219 : Cond.code yX10_blanks cX10_blanks 1 none ∈ wG := wG_mem (List.mem_of_getElem? (i := 1219) (by decide +kernel)) (by decide +kernel)
theorem mw_1220 : Cond.methodLink RX10 179 yX10_byteAt ∈ wG := wG_mem (List.mem_of_getElem? (i := 1220) (by decide +kernel)) (by decide +kernel)
theorem mw_1222 : Cond.instanceMethod yX10_byteAt ∈ wG := wG_mem (List.mem_of_getElem? (i := 1222) (by decide +kernel)) (by decide +kernel)
theorem mw_1223 : Cond.code yX10_byteAt cX10_byteAt 2 (some .int) ∈ wG := wG_mem (List.mem_of_getElem? (i := 1223) (by decide +kernel)) (by decide +kernel)
theorem mw_1224 : Cond.methodLink RX10 191 yX10_wordEnd ∈ wG := wG_mem (List.mem_of_getElem? (i := 1224) (by decide +kernel)) (by decide +kernel)
theorem mw_1226 : Cond.instanceMethod yX10_wordEnd ∈ wG := wG_mem (List.mem_of_getElem? (i := 1226) (by decide +kernel)) (by decide +kernel)
theorem mw_1227 : Cond.code yX10_wordEnd cX10_wordEnd 2 (some .int) ∈ wG := wG_mem (List.mem_of_getElem? (i := 1227) (by decide +kernel)) (by decide +kernel)
theorem mw_1228 : Cond.methodLink RX10 185 yX10_isLow ∈ wG := wG_mem (List.mem_of_getElem? (i := 1228) (by decide +kernel)) (by decide +kernel)
theorem mw_1229 : Cond.static yX10_isLow ∈ wG := wG_mem (List.mem_of_getElem? (i := 1229) (by decide +kernel)) (by decide +kernel)
theorem mw_1230 : Cond.code yX10_isLow cX10_isLow 1 (some .boolean) ∈ wG := wG_mem (List.mem_of_getElem? (i := 1230) (by decide +kernel)) (by decide +kernel)
theorem mw_1231 : Cond.methodLink RX10 195 yJ0_length_8abf5 ∈ wG := wG_mem (List.mem_of_getElem? (i := 1231) (by decide +kernel)) (by decide +kernel)
theorem mw_1232 : Cond.methodLink RX10 200 yJ0_charAt_5068e ∈ wG := wG_mem (List.mem_of_getElem? (i := 1232) (by decide +kernel)) (by decide +kernel)
theorem mw_1233 : Cond.methodLink RX10 211 yX10_fails ∈ wG := wG_mem (List.mem_of_getElem? (i := 1233) (by decide +kernel)) (by decide +kernel)
theorem mw_1235 : Cond.instanceMethod yX10_fails ∈ wG := wG_mem (List.mem_of_getElem? (i := 1235) (by decide +kernel)) (by decide +kernel)
theorem mw_1236 : Cond.code yX10_fails cX10_fails 1 (some .boolean) ∈ wG := wG_mem (List.mem_of_getElem? (i := 1236) (by decide +kernel)) (by decide +kernel)
theorem mw_1237 : Cond.methodLink RX10 208 yX10_may ∈ wG := wG_mem (List.mem_of_getElem? (i := 1237) (by decide +kernel)) (by decide +kernel)
theorem mw_1239 : Cond.instanceMethod yX10_may ∈ wG := wG_mem (List.mem_of_getElem? (i := 1239) (by decide +kernel)) (by decide +kernel)
theorem mw_1240 : Cond.code yX10_may cX10_may 3 (some .boolean) ∈ wG := wG_mem (List.mem_of_getElem? (i := 1240) (by decide +kernel)) (by decide +kernel)
theorem mw_1241 : Cond.methodLink RX10 261 yX10_letterTold ∈ wG := wG_mem (List.mem_of_getElem? (i := 1241) (by decide +kernel)) (by decide +kernel)
theorem mw_1243 : Cond.instanceMethod yX10_letterTold ∈ wG := wG_mem (List.mem_of_getElem? (i := 1243) (by decide +kernel)) (by decide +kernel)
theorem mw_1244 : Cond.code yX10_letterTold cX10_letterTold 5 (some .boolean) ∈ wG := wG_mem (List.mem_of_getElem? (i := 1244) (by decide +kernel)) (by decide +kernel)
theorem mw_1247 : Cond.methodLink RX10 249 yX10_must ∈ wG := wG_mem (List.mem_of_getElem? (i := 1247) (by decide +kernel)) (by decide +kernel)
theorem mw_1249 : Cond.instanceMethod yX10_must ∈ wG := wG_mem (List.mem_of_getElem? (i := 1249) (by decide +kernel)) (by decide +kernel)
theorem mw_1250 : Cond.code yX10_must cX10_must 2 (some .boolean) ∈ wG := wG_mem (List.mem_of_getElem? (i := 1250) (by decide +kernel)) (by decide +kernel)
theorem mw_1251 : Cond.methodLink RX10 252 yX10_number ∈ wG := wG_mem (List.mem_of_getElem? (i := 1251) (by decide +kernel)) (by decide +kernel)
theorem mw_1253 : Cond.instanceMethod yX10_number ∈ wG := wG_mem (List.mem_of_getElem? (i := 1253) (by decide +kernel)) (by decide +kernel)
theorem mw_1254 : Cond.code yX10_number cX10_number 6 (some .boolean) ∈ wG := wG_mem (List.mem_of_getElem? (i := 1254) (by decide +kernel)) (by decide +kernel)
theorem mw_1255 : Cond.methodLink RX10 215 yX10_isDigit ∈ wG := wG_mem (List.mem_of_getElem? (i := 1255) (by decide +kernel)) (by decide +kernel)
theorem mw_1256 : Cond.static yX10_isDigit ∈ wG := wG_mem (List.mem_of_getElem? (i := 1256) (by decide +kernel)) (by decide +kernel)
theorem mw_1257 : Cond.code yX10_isDigit cX10_isDigit 1 (some .boolean) ∈ wG := wG_mem (List.mem_of_getElem? (i := 1257) (by decide +kernel)) (by decide +kernel)
theorem mw_1258 : Cond.constantLong RX10 218 (99999) ∈ wG := wG_mem (List.mem_of_getElem? (i := 1258) (by decide +kernel)) (by decide +kernel)
theorem mw_1259 : Cond.constantLong RX10 220 (10) ∈ wG := wG_mem (List.mem_of_getElem? (i := 1259) (by decide +kernel)) (by decide +kernel)
theorem mw_1260 : Cond.constantLong RX10 222 (48) ∈ wG := wG_mem (List.mem_of_getElem? (i := 1260) (by decide +kernel)) (by decide +kernel)
theorem mw_1261 : Cond.methodLink RX10 224 Lib.MathLoose.min_long.x ∈ wG := wG_mem (List.mem_of_getElem? (i := 1261) (by decide +kernel)) (by decide +kernel)
theorem mw_1262 : Cond.static Lib.MathLoose.min_long.x ∈ wG := wG_mem (List.mem_of_getElem? (i := 1262) (by decide +kernel)) (by decide +kernel)
theorem mw_1263 : Cond.code Lib.MathLoose.min_long.x Lib.MathLoose.min_long.code 4 (some .long) ∈ wG := wG_mem (List.mem_of_getElem? (i := 1263) (by decide +kernel)) (by decide +kernel)
theorem mw_1266 : Cond.methodLink RX10 266 yX10_signTold ∈ wG := wG_mem (List.mem_of_getElem? (i := 1266) (by decide +kernel)) (by decide +kernel)
theorem mw_1268 : Cond.instanceMethod yX10_signTold ∈ wG := wG_mem (List.mem_of_getElem? (i := 1268) (by decide +kernel)) (by decide +kernel)
theorem mw_1269 : Cond.code yX10_signTold cX10_signTold 2 (some .boolean) ∈ wG := wG_mem (List.mem_of_getElem? (i := 1269) (by decide +kernel)) (by decide +kernel)
theorem mw_1272 : Cond.instanceMethod yX10_sheet ∈ wG := wG_mem (List.mem_of_getElem? (i := 1272) (by decide +kernel)) (by decide +kernel)
theorem mw_1273 : Cond.selects RX10 yX10_sheet yX10_sheet ∈ wG := wG_mem (List.mem_of_getElem? (i := 1273) (by decide +kernel)) (by decide +kernel)
theorem mw_1274 : Cond.code yX10_sheet cX10_sheet 5 (some .int) ∈ wG := wG_mem (List.mem_of_getElem? (i := 1274) (by decide +kernel)) (by decide +kernel)
theorem mw_1275 : Cond.methodLink RX10 278 yX10_isSheet ∈ wG := wG_mem (List.mem_of_getElem? (i := 1275) (by decide +kernel)) (by decide +kernel)
theorem mw_1276 : Cond.static yX10_isSheet ∈ wG := wG_mem (List.mem_of_getElem? (i := 1276) (by decide +kernel)) (by decide +kernel)
theorem mw_1277 : Cond.code yX10_isSheet cX10_isSheet 1 (some .boolean) ∈ wG := wG_mem (List.mem_of_getElem? (i := 1277) (by decide +kernel)) (by decide +kernel)
theorem mw_1279 : Cond.instanceMethod yX10_write ∈ wG := wG_mem (List.mem_of_getElem? (i := 1279) (by decide +kernel)) (by decide +kernel)
theorem mw_1280 : Cond.selects RX10 yX10_write yX10_write ∈ wG := wG_mem (List.mem_of_getElem? (i := 1280) (by decide +kernel)) (by decide +kernel)
theorem mw_1281 : Cond.code yX10_write cX10_write 7 (some .long) ∈ wG := wG_mem (List.mem_of_getElem? (i := 1281) (by decide +kernel)) (by decide +kernel)
theorem mw_1282 : Cond.methodLink RX10 281 yX10_writes ∈ wG := wG_mem (List.mem_of_getElem? (i := 1282) (by decide +kernel)) (by decide +kernel)
theorem mw_1284 : Cond.instanceMethod yX10_writes ∈ wG := wG_mem (List.mem_of_getElem? (i := 1284) (by decide +kernel)) (by decide +kernel)
theorem mw_1285 : Cond.code yX10_writes cX10_writes 5 none ∈ wG := wG_mem (List.mem_of_getElem? (i := 1285) (by decide +kernel)) (by decide +kernel)
theorem mw_1287 : Cond.instanceMethod yX10_copy ∈ wG := wG_mem (List.mem_of_getElem? (i := 1287) (by decide +kernel)) (by decide +kernel)
theorem mw_1288 : Cond.selects RX10 yX10_copy yX10_copy ∈ wG := wG_mem (List.mem_of_getElem? (i := 1288) (by decide +kernel)) (by decide +kernel)
theorem mw_1289 : Cond.code yX10_copy cX10_copy 7 (some .int) ∈ wG := wG_mem (List.mem_of_getElem? (i := 1289) (by decide +kernel)) (by decide +kernel)
theorem mw_1291 : Cond.instanceMethod yX10_lays ∈ wG := wG_mem (List.mem_of_getElem? (i := 1291) (by decide +kernel)) (by decide +kernel)
theorem mw_1292 : Cond.selects RX10 yX10_lays yX10_lays ∈ wG := wG_mem (List.mem_of_getElem? (i := 1292) (by decide +kernel)) (by decide +kernel)
theorem mw_1293 : Cond.code yX10_lays cX10_lays 6 (some .int) ∈ wG := wG_mem (List.mem_of_getElem? (i := 1293) (by decide +kernel)) (by decide +kernel)
theorem mw_1294 : Cond.constantLong RX10 285 (4096) ∈ wG := wG_mem (List.mem_of_getElem? (i := 1294) (by decide +kernel)) (by decide +kernel)
theorem mw_1296 : Cond.instanceMethod yX10_show ∈ wG := wG_mem (List.mem_of_getElem? (i := 1296) (by decide +kernel)) (by decide +kernel)
theorem mw_1297 : Cond.selects RX10 yX10_show yX10_show ∈ wG := wG_mem (List.mem_of_getElem? (i := 1297) (by decide +kernel)) (by decide +kernel)
theorem mw_1298 : Cond.code yX10_show cX10_show 4 (some .int) ∈ wG := wG_mem (List.mem_of_getElem? (i := 1298) (by decide +kernel)) (by decide +kernel)
theorem mw_1300 : Cond.instanceMethod yX10_walk ∈ wG := wG_mem (List.mem_of_getElem? (i := 1300) (by decide +kernel)) (by decide +kernel)
theorem mw_1301 : Cond.selects RX10 yX10_walk yX10_walk ∈ wG := wG_mem (List.mem_of_getElem? (i := 1301) (by decide +kernel)) (by decide +kernel)
theorem mw_1302 : Cond.code yX10_walk cX10_walk 10 (some .int) ∈ wG := wG_mem (List.mem_of_getElem? (i := 1302) (by decide +kernel)) (by decide +kernel)
theorem mw_1303 : Cond.constantLong RX10 287 (9) ∈ wG := wG_mem (List.mem_of_getElem? (i := 1303) (by decide +kernel)) (by decide +kernel)
theorem mw_1304 : Cond.methodLink RX10 289 yX10_leads ∈ wG := wG_mem (List.mem_of_getElem? (i := 1304) (by decide +kernel)) (by decide +kernel)
theorem mw_1305 : Cond.static yX10_leads ∈ wG := wG_mem (List.mem_of_getElem? (i := 1305) (by decide +kernel)) (by decide +kernel)
theorem mw_1306 : Cond.code yX10_leads cX10_leads 5 (some .int) ∈ wG := wG_mem (List.mem_of_getElem? (i := 1306) (by decide +kernel)) (by decide +kernel)
theorem mw_1308 : Cond.instanceMethod yX10_image ∈ wG := wG_mem (List.mem_of_getElem? (i := 1308) (by decide +kernel)) (by decide +kernel)
theorem mw_1309 : Cond.selects RX10 yX10_image yX10_image ∈ wG := wG_mem (List.mem_of_getElem? (i := 1309) (by decide +kernel)) (by decide +kernel)
theorem mw_1310 : Cond.code yX10_image cX10_image 1 (some .int) ∈ wG := wG_mem (List.mem_of_getElem? (i := 1310) (by decide +kernel)) (by decide +kernel)
theorem mw_1312 : Cond.instanceMethod yX10_undo ∈ wG := wG_mem (List.mem_of_getElem? (i := 1312) (by decide +kernel)) (by decide +kernel)
theorem mw_1313 : Cond.selects RX10 yX10_undo yX10_undo ∈ wG := wG_mem (List.mem_of_getElem? (i := 1313) (by decide +kernel)) (by decide +kernel)
theorem mw_1314 : Cond.code yX10_undo cX10_undo 1 (some .int) ∈ wG := wG_mem (List.mem_of_getElem? (i := 1314) (by decide +kernel)) (by decide +kernel)
theorem mw_1316 : Cond.instanceMethod yX10_tear ∈ wG := wG_mem (List.mem_of_getElem? (i := 1316) (by decide +kernel)) (by decide +kernel)
theorem mw_1317 : Cond.selects RX10 yX10_tear yX10_tear ∈ wG := wG_mem (List.mem_of_getElem? (i := 1317) (by decide +kernel)) (by decide +kernel)
theorem mw_1318 : Cond.code yX10_tear cX10_tear 2 (some .int) ∈ wG := wG_mem (List.mem_of_getElem? (i := 1318) (by decide +kernel)) (by decide +kernel)
theorem mw_1320 : Cond.instanceMethod yX10_count ∈ wG := wG_mem (List.mem_of_getElem? (i := 1320) (by decide +kernel)) (by decide +kernel)
theorem mw_1321 : Cond.selects RX10 yX10_count yX10_count ∈ wG := wG_mem (List.mem_of_getElem? (i := 1321) (by decide +kernel)) (by decide +kernel)
theorem mw_1322 : Cond.code yX10_count cX10_count 2 (some .int) ∈ wG := wG_mem (List.mem_of_getElem? (i := 1322) (by decide +kernel)) (by decide +kernel)
theorem mw_1323 : Cond.methodLink RX10 297 yX10_signsTold ∈ wG := wG_mem (List.mem_of_getElem? (i := 1323) (by decide +kernel)) (by decide +kernel)
theorem mw_1325 : Cond.instanceMethod yX10_signsTold ∈ wG := wG_mem (List.mem_of_getElem? (i := 1325) (by decide +kernel)) (by decide +kernel)
theorem mw_1326 : Cond.code yX10_signsTold cX10_signsTold 3 (some .int) ∈ wG := wG_mem (List.mem_of_getElem? (i := 1326) (by decide +kernel)) (by decide +kernel)
theorem mw_1327 : Cond.methodLink RX10 300 yX10_strokesOfAll ∈ wG := wG_mem (List.mem_of_getElem? (i := 1327) (by decide +kernel)) (by decide +kernel)
theorem mw_1329 : Cond.instanceMethod yX10_strokesOfAll ∈ wG := wG_mem (List.mem_of_getElem? (i := 1329) (by decide +kernel)) (by decide +kernel)
theorem mw_1330 : Cond.code yX10_strokesOfAll cX10_strokesOfAll 3 (some .int) ∈ wG := wG_mem (List.mem_of_getElem? (i := 1330) (by decide +kernel)) (by decide +kernel)
theorem mw_1332 : Cond.instanceMethod yX10_status ∈ wG := wG_mem (List.mem_of_getElem? (i := 1332) (by decide +kernel)) (by decide +kernel)
theorem mw_1333 : Cond.selects RX10 yX10_status yX10_status ∈ wG := wG_mem (List.mem_of_getElem? (i := 1333) (by decide +kernel)) (by decide +kernel)
theorem mw_1334 : Cond.code yX10_status cX10_status 4 (some .int) ∈ wG := wG_mem (List.mem_of_getElem? (i := 1334) (by decide +kernel)) (by decide +kernel)
theorem mw_1336 : Cond.fieldLink RJ0 9 "java/lang/String" "value" "[B" ∈ wG := wG_mem (List.mem_of_getElem? (i := 1336) (by decide +kernel)) (by decide +kernel)
theorem mw_1337 : Cond.fieldLink RJ0 15 "java/lang/String" "coder" "B" ∈ wG := wG_mem (List.mem_of_getElem? (i := 1337) (by decide +kernel)) (by decide +kernel)
theorem fn_S_again : fV yX9_again cX9_again 2 (some .int) 1 := ⟨mw_329, mw_327, mw_328, mw_38, by decide +kernel⟩
theorem fn_S_apart : fV yX9_apart cX9_apart 2 (some .int) 0 := ⟨mw_388, mw_386, mw_387, mw_38, by decide +kernel⟩
theorem fn_S_as : fV yX9_as cX9_as 3 (some .int) 2 := ⟨mw_483, mw_481, mw_482, mw_38, by decide +kernel⟩
theorem fn_S_best : fV yX9_best cX9_best 2 (some .int) 1 := ⟨mw_544, mw_542, mw_543, mw_38, by decide +kernel⟩
theorem fn_S_cheap : fV yX9_cheap cX9_cheap 3 (some .int) 1 := ⟨mw_578, mw_576, mw_577, mw_38, by decide +kernel⟩
theorem fn_S_copy : fV yX9_copy cX9_copy 6 (some .int) 5 := ⟨mw_802, mw_800, mw_801, mw_38, by decide +kernel⟩
theorem fn_S_count : fV yX9_count cX9_count 2 (some .int) 1 := ⟨mw_862, mw_860, mw_861, mw_38, by decide +kernel⟩
theorem fn_S_doubts : fV yX9_doubts cX9_doubts 3 (some .int) 1 := ⟨mw_379, mw_377, mw_378, mw_38, by decide +kernel⟩
theorem fn_S_feed : fV yX9_feed cX9_feed 3 (some .int) 2 := ⟨mw_587, mw_585, mw_586, mw_38, by decide +kernel⟩
theorem fn_S_field : fV yX9_field cX9_field 2 (some .int) 0 := ⟨mw_607, mw_605, mw_606, mw_38, by decide +kernel⟩
theorem fn_S_finding : fV yX9_finding cX9_finding 3 (some .int) 1 := ⟨mw_241, mw_240, mw_0, mw_38, by decide +kernel⟩
theorem fn_S_forge : fV yX9_forge cX9_forge 4 (some .int) 2 := ⟨mw_405, mw_403, mw_404, mw_38, by decide +kernel⟩
theorem fn_S_form : fV yX9_form cX9_form 2 (some .int) 1 := ⟨mw_364, mw_362, mw_363, mw_38, by decide +kernel⟩
theorem fn_S_hours : fV yX9_hours cX9_hours 3 (some .int) 1 := ⟨mw_498, mw_496, mw_497, mw_38, by decide +kernel⟩
theorem fn_S_image : fV yX9_image cX9_image 1 (some .int) 0 := ⟨mw_850, mw_848, mw_849, mw_38, by decide +kernel⟩
theorem fn_S_isWithin : fS yX9_isWithin cX9_isWithin 2 (some .boolean) 2 := ⟨mw_317, mw_316, mw_38, by decide +kernel⟩
theorem fn_S_ith : fV yX9_ith cX9_ith 5 (some .int) 3 := ⟨mw_314, mw_312, mw_313, mw_38, by decide +kernel⟩
theorem fn_S_kind : fV yX9_kind cX9_kind 2 (some .int) 1 := ⟨mw_532, mw_530, mw_531, mw_38, by decide +kernel⟩
theorem fn_S_lays : fV yX9_lays cX9_lays 2 (some .int) 1 := ⟨mw_820, mw_818, mw_819, mw_38, by decide +kernel⟩
theorem fn_S_letter : fV yX9_letter cX9_letter 3 (some .int) 2 := ⟨mw_420, mw_418, mw_419, mw_38, by decide +kernel⟩
theorem fn_S_lines : fV yX9_lines cX9_lines 2 (some .int) 1 := ⟨mw_260, mw_258, mw_259, mw_38, by decide +kernel⟩
theorem fn_S_meant : fV yX9_meant cX9_meant 2 (some .int) 1 := ⟨mw_570, mw_568, mw_569, mw_38, by decide +kernel⟩
theorem fn_S_now : fV yX9_now cX9_now 2 (some .int) 1 := ⟨mw_506, mw_504, mw_505, mw_38, by decide +kernel⟩
theorem fn_S_odd : fV yX9_odd cX9_odd 2 (some .int) 1 := ⟨mw_233, mw_231, mw_232, mw_38, by decide +kernel⟩
theorem fn_S_of : fV yX9_of cX9_of 3 (some .int) 2 := ⟨mw_437, mw_435, mw_436, mw_38, by decide +kernel⟩
theorem fn_S_on : fV yX9_on cX9_on 3 (some .int) 2 := ⟨mw_523, mw_521, mw_522, mw_38, by decide +kernel⟩
theorem fn_S_pieces : fV yX9_pieces cX9_pieces 2 (some .int) 1 := ⟨mw_250, mw_248, mw_249, mw_38, by decide +kernel⟩
theorem fn_S_read : fV yX9_read cX9_read 3 (some .int) 1 := ⟨mw_368, mw_366, mw_367, mw_38, by decide +kernel⟩
theorem fn_S_set : fV yX9_set cX9_set 5 (some .int) 3 := ⟨mw_475, mw_473, mw_474, mw_38, by decide +kernel⟩
theorem fn_S_sheet : fV yX9_sheet cX9_sheet 4 (some .int) 3 := ⟨mw_761, mw_759, mw_760, mw_38, by decide +kernel⟩
theorem fn_S_show : fV yX9_show cX9_show 4 (some .int) 1 := ⟨mw_832, mw_830, mw_831, mw_38, by decide +kernel⟩
theorem fn_S_sign : fV yX9_sign cX9_sign 4 (some .int) 2 := ⟨mw_348, mw_346, mw_347, mw_38, by decide +kernel⟩
theorem fn_S_status : fV yX9_status cX9_status 4 (some .int) 1 := ⟨mw_874, mw_872, mw_873, mw_38, by decide +kernel⟩
theorem fn_S_stay : fV yX9_stay cX9_stay 1 (some .int) 0 := ⟨mw_396, mw_394, mw_395, mw_38, by decide +kernel⟩
theorem fn_S_strays : fV yX9_strays cX9_strays 2 (some .int) 1 := ⟨mw_277, mw_275, mw_276, mw_38, by decide +kernel⟩
theorem fn_S_sun : fV yX9_sun cX9_sun 3 (some .int) 1 := ⟨mw_494, mw_492, mw_493, mw_38, by decide +kernel⟩
theorem fn_S_tear : fV yX9_tear cX9_tear 2 (some .int) 0 := ⟨mw_858, mw_856, mw_857, mw_38, by decide +kernel⟩
theorem fn_S_turn : fV yX9_turn cX9_turn 4 (some .int) 2 := ⟨mw_479, mw_477, mw_478, mw_38, by decide +kernel⟩
theorem fn_S_turned : fV yX9_turned cX9_turned 5 (some .int) 2 := ⟨mw_339, mw_337, mw_338, mw_38, by decide +kernel⟩
theorem fn_S_undo : fV yX9_undo cX9_undo 1 (some .int) 0 := ⟨mw_854, mw_852, mw_853, mw_38, by decide +kernel⟩
theorem fn_S_walk : fV yX9_walk cX9_walk 3 (some .int) 2 := ⟨mw_837, mw_835, mw_836, mw_38, by decide +kernel⟩
theorem fn_S_ways : fV yX9_ways cX9_ways 3 (some .long) 2 := ⟨mw_285, mw_283, mw_284, mw_38, by decide +kernel⟩
theorem fn_S_when : fV yX9_when cX9_when 3 (some .int) 1 := ⟨mw_527, mw_525, mw_526, mw_38, by decide +kernel⟩
theorem fn_S_wipe : fV yX9_wipe cX9_wipe 1 (some .int) 0 := ⟨mw_599, mw_597, mw_598, mw_38, by decide +kernel⟩
theorem fn_S_worth : fV yX9_worth cX9_worth 2 (some .int) 1 := ⟨mw_566, mw_564, mw_565, mw_38, by decide +kernel⟩
theorem fn_S_write : fV yX9_write cX9_write 7 (some .long) 3 := ⟨mw_777, mw_775, mw_776, mw_38, by decide +kernel⟩
theorem fn_Book_become : fV yX0_become cX0_become 2 none 1 := ⟨mw_615, mw_613, mw_614, mw_40, by decide +kernel⟩
theorem fn_Book_cheapest : fV yX0_cheapest cX0_cheapest 6 (some .int) 1 := ⟨mw_582, mw_580, mw_581, mw_40, by decide +kernel⟩
theorem fn_Book_countAsNear : fV yX0_countAsNear cX0_countAsNear 6 (some .int) 2 := ⟨mw_383, mw_381, mw_382, mw_40, by decide +kernel⟩
theorem fn_Book_countSigns : fV yX0_countSigns cX0_countSigns 3 (some .int) 0 := ⟨mw_866, mw_864, mw_865, mw_40, by decide +kernel⟩
theorem fn_Book_fewestToForge : fV yX0_fewestToForge cX0_fewestToForge 9 (some .int) 2 := ⟨mw_410, mw_408, mw_409, mw_40, by decide +kernel⟩
theorem fn_Book_formAt : fV yX0_formAt cX0_formAt 2 (some .int) 1 := ⟨mw_355, mw_353, mw_354, mw_40, by decide +kernel⟩
theorem fn_Book_isReadAs : fV yX0_isReadAs cX0_isReadAs 6 (some .boolean) 2 := ⟨mw_415, mw_414, mw_1, mw_40, by decide +kernel⟩
theorem fn_Book_isSign : fS yX0_isSign cX0_isSign 1 (some .boolean) 1 := ⟨mw_351, mw_350, mw_40, by decide +kernel⟩
theorem fn_Book_leastBetweenTwo : fV yX0_leastBetweenTwo cX0_leastBetweenTwo 5 (some .int) 0 := ⟨mw_392, mw_390, mw_391, mw_40, by decide +kernel⟩
theorem fn_Book_nearest : fV yX0_nearest cX0_nearest 6 (some .int) 1 := ⟨mw_372, mw_370, mw_371, mw_40, by decide +kernel⟩
theorem fn_Book_put : fV yX0_put cX0_put 3 none 2 := ⟨mw_360, mw_358, mw_359, mw_40, by decide +kernel⟩
theorem fn_Book_signsLeftAs : fV yX0_signsLeftAs cX0_signsLeftAs 7 (some .int) 2 := ⟨mw_574, mw_572, mw_573, mw_40, by decide +kernel⟩
theorem fn_Book_signsThatStay : fV yX0_signsThatStay cX0_signsThatStay 4 (some .int) 1 := ⟨mw_400, mw_398, mw_399, mw_40, by decide +kernel⟩
theorem fn_Choice_choose : fV yX1_choose cX1_choose 10 none 2 := ⟨mw_548, mw_546, mw_547, mw_45, by decide +kernel⟩
theorem fn_Choice_offer : fV yX1_offer cX1_offer 3 none 2 := ⟨mw_562, mw_561, mw_2, mw_45, by decide +kernel⟩
theorem fn_FieldText_passForm : fV yX2_passForm cX2_passForm 3 (some .int) 1 := ⟨mw_747, mw_746, mw_9, mw_42, by decide +kernel⟩
theorem fn_FieldText_passItem : fV yX2_passItem cX2_passItem 3 (some .boolean) 1 := ⟨mw_716, mw_715, mw_3, mw_42, by decide +kernel⟩
theorem fn_FieldText_passLetter : fV yX2_passLetter cX2_passLetter 5 (some .boolean) 2 := ⟨mw_743, mw_742, mw_8, mw_42, by decide +kernel⟩
theorem fn_FieldText_passNumber : fV yX2_passNumber cX2_passNumber 3 (some .int) 1 := ⟨mw_732, mw_731, mw_6, mw_42, by decide +kernel⟩
theorem fn_FieldText_passSign : fV yX2_passSign cX2_passSign 4 (some .boolean) 1 := ⟨mw_728, mw_727, mw_5, mw_42, by decide +kernel⟩
theorem fn_FieldText_passSun : fV yX2_passSun cX2_passSun 3 (some .boolean) 1 := ⟨mw_737, mw_736, mw_7, mw_42, by decide +kernel⟩
theorem fn_FieldText_passWord : fV yX2_passWord cX2_passWord 2 (some .boolean) 1 := ⟨mw_720, mw_719, mw_4, mw_42, by decide +kernel⟩
theorem fn_FieldText_tell : fV yX2_tell cX2_tell 4 (some .int) 2 := ⟨mw_623, mw_621, mw_622, mw_42, by decide +kernel⟩
theorem fn_Forms_across : fS yX3_across cX3_across 2 (some .int) 2 := ⟨mw_301, mw_300, mw_47, by decide +kernel⟩
theorem fn_Forms_between : fS yX3_between cX3_between 3 (some .int) 2 := ⟨mw_845, mw_844, mw_47, by decide +kernel⟩
theorem fn_Forms_byAQuarter : fS yX3_byAQuarter cX3_byAQuarter 3 (some .int) 1 := ⟨mw_342, mw_341, mw_47, by decide +kernel⟩
theorem fn_Forms_canBeTrodden : fS yX3_canBeTrodden cX3_canBeTrodden 3 (some .boolean) 2 := ⟨mw_292, mw_291, mw_47, by decide +kernel⟩
theorem fn_Forms_countLines : fS yX3_countLines cX3_countLines 5 (some .int) 1 := ⟨mw_263, mw_262, mw_47, by decide +kernel⟩
theorem fn_Forms_countPieces : fS yX3_countPieces cX3_countPieces 4 (some .int) 1 := ⟨mw_253, mw_252, mw_47, by decide +kernel⟩
theorem fn_Forms_countStrays : fS yX3_countStrays cX3_countStrays 1 (some .int) 1 := ⟨mw_280, mw_279, mw_47, by decide +kernel⟩
theorem fn_Forms_countWays : fS yX3_countWays cX3_countWays 7 (some .long) 3 := ⟨mw_309, mw_308, mw_47, by decide +kernel⟩
theorem fn_Forms_differ : fS yX3_differ cX3_differ 2 (some .int) 2 := ⟨mw_375, mw_374, mw_47, by decide +kernel⟩
theorem fn_Forms_fewestToClose : fS yX3_fewestToClose cX3_fewestToClose 5 (some .int) 1 := ⟨mw_332, mw_331, mw_47, by decide +kernel⟩
theorem fn_Forms_firstPiece : fS yX3_firstPiece cX3_firstPiece 8 (some .int) 1 := ⟨mw_256, mw_255, mw_47, by decide +kernel⟩
theorem fn_Forms_hasStroke : fS yX3_hasStroke cX3_hasStroke 2 (some .boolean) 2 := ⟨mw_298, mw_297, mw_47, by decide +kernel⟩
theorem fn_Forms_isForm : fS yX3_isForm cX3_isForm 1 (some .boolean) 1 := ⟨mw_236, mw_235, mw_47, by decide +kernel⟩
theorem fn_Forms_isPoint : fS yX3_isPoint cX3_isPoint 2 (some .boolean) 1 := ⟨mw_288, mw_287, mw_47, by decide +kernel⟩
theorem fn_Forms_leastOnward : fS yX3_leastOnward cX3_leastOnward 4 (some .int) 2 := ⟨mw_324, mw_323, mw_47, by decide +kernel⟩
theorem fn_Forms_nextPart : fS yX3_nextPart cX3_nextPart 2 (some .int) 2 := ⟨mw_335, mw_334, mw_47, by decide +kernel⟩
theorem fn_Forms_oddPoints : fS yX3_oddPoints cX3_oddPoints 3 (some .int) 1 := ⟨mw_244, mw_243, mw_47, by decide +kernel⟩
theorem fn_Forms_strokeOfFirstWay : fS yX3_strokeOfFirstWay cX3_strokeOfFirstWay 7 (some .int) 3 := ⟨mw_320, mw_319, mw_47, by decide +kernel⟩
theorem fn_Forms_touches : fS yX3_touches cX3_touches 3 (some .boolean) 2 := ⟨mw_295, mw_294, mw_47, by decide +kernel⟩
theorem fn_Kinds_above : fS yX4_above cX4_above 1 (some .int) 1 := ⟨mw_489, mw_488, mw_50, by decide +kernel⟩
theorem fn_Kinds_feet : fS yX4_feet cX4_feet 3 (some .int) 2 := ⟨mw_463, mw_462, mw_50, by decide +kernel⟩
theorem fn_Kinds_isKind : fS yX4_isKind cX4_isKind 1 (some .boolean) 1 := ⟨mw_423, mw_422, mw_50, by decide +kernel⟩
theorem fn_Kinds_isUnder : fS yX4_isUnder cX4_isUnder 4 (some .boolean) 2 := ⟨mw_486, mw_485, mw_50, by decide +kernel⟩
theorem fn_Kinds_lasts : fS yX4_lasts cX4_lasts 2 (some .int) 2 := ⟨mw_448, mw_447, mw_50, by decide +kernel⟩
theorem fn_Kinds_lastsForFeet : fS yX4_lastsForFeet cX4_lastsForFeet 4 (some .int) 3 := ⟨mw_538, mw_537, mw_50, by decide +kernel⟩
theorem fn_Kinds_longestForFeet : fS yX4_longestForFeet cX4_longestForFeet 6 (some .int) 2 := ⟨mw_535, mw_534, mw_50, by decide +kernel⟩
theorem fn_Kinds_shows : fS yX4_shows cX4_shows 2 (some .int) 2 := ⟨mw_456, mw_455, mw_50, by decide +kernel⟩
theorem fn_Plain_add : fV yX5_add cX5_add 4 (some .int) 3 := ⟨mw_432, mw_430, mw_431, mw_39, by decide +kernel⟩
theorem fn_Plain_become : fV yX5_become cX5_become 2 none 1 := ⟨mw_611, mw_609, mw_610, mw_39, by decide +kernel⟩
theorem fn_Plain_countChanged : fV yX5_countChanged cX5_countChanged 4 (some .int) 1 := ⟨mw_502, mw_500, mw_501, mw_39, by decide +kernel⟩
theorem fn_Plain_feetOf : fV yX5_feetOf cX5_feetOf 2 (some .int) 1 := ⟨mw_460, mw_458, mw_459, mw_39, by decide +kernel⟩
theorem fn_Plain_feetOfAll : fV yX5_feetOfAll cX5_feetOfAll 3 (some .int) 0 := ⟨mw_510, mw_508, mw_509, mw_39, by decide +kernel⟩
theorem fn_Plain_has : fV yX5_has cX5_has 2 (some .boolean) 1 := ⟨mw_441, mw_439, mw_440, mw_39, by decide +kernel⟩
theorem fn_Plain_isFull : fV yX5_isFull cX5_isFull 1 (some .boolean) 0 := ⟨mw_427, mw_425, mw_426, mw_39, by decide +kernel⟩
theorem fn_Plain_isMisreadAt : fV yX5_isMisreadAt cX5_isMisreadAt 3 (some .boolean) 2 := ⟨mw_519, mw_517, mw_518, mw_39, by decide +kernel⟩
theorem fn_Plain_lastsOf : fV yX5_lastsOf cX5_lastsOf 2 (some .int) 1 := ⟨mw_445, mw_443, mw_444, mw_39, by decide +kernel⟩
theorem fn_Plain_lettersMisread : fV yX5_lettersMisread cX5_lettersMisread 3 (some .int) 0 := ⟨mw_515, mw_513, mw_514, mw_39, by decide +kernel⟩
theorem fn_Plain_seenAs : fV yX5_seenAs cX5_seenAs 2 (some .int) 1 := ⟨mw_469, mw_467, mw_468, mw_39, by decide +kernel⟩
theorem fn_Plain_shownAt : fV yX5_shownAt cX5_shownAt 4 (some .int) 2 := ⟨mw_452, mw_450, mw_451, mw_39, by decide +kernel⟩
theorem fn_Plain_strokesOfAll : fV yX5_strokesOfAll cX5_strokesOfAll 3 (some .int) 0 := ⟨mw_870, mw_868, mw_869, mw_39, by decide +kernel⟩
theorem fn_Plain_worthOf : fV yX5_worthOf cX5_worthOf 5 (some .int) 1 := ⟨mw_553, mw_551, mw_552, mw_39, by decide +kernel⟩
theorem fn_Sheets_areAlike : fV yX6_areAlike cX6_areAlike 3 (some .boolean) 2 := ⟨mw_806, mw_804, mw_805, mw_44, by decide +kernel⟩
theorem fn_Sheets_at : fV yX6_at cX6_at 3 (some .long) 2 := ⟨mw_790, mw_788, mw_789, mw_44, by decide +kernel⟩
theorem fn_Sheets_holds : fV yX6_holds cX6_holds 5 (some .boolean) 3 := ⟨mw_810, mw_808, mw_809, mw_44, by decide +kernel⟩
theorem fn_Sheets_isMissing : fV yX6_isMissing cX6_isMissing 2 (some .boolean) 1 := ⟨mw_781, mw_779, mw_780, mw_44, by decide +kernel⟩
theorem fn_Sheets_isSheet : fS yX6_isSheet cX6_isSheet 1 (some .boolean) 1 := ⟨mw_764, mw_763, mw_44, by decide +kernel⟩
theorem fn_Sheets_isWidth : fS yX6_isWidth cX6_isWidth 1 (some .boolean) 1 := ⟨mw_767, mw_766, mw_44, by decide +kernel⟩
theorem fn_Sheets_lay : fV yX6_lay cX6_lay 5 (some .int) 3 := ⟨mw_772, mw_770, mw_771, mw_44, by decide +kernel⟩
theorem fn_Sheets_lowest : fS yX6_lowest cX6_lowest 3 (some .long) 2 := ⟨mw_798, mw_797, mw_44, by decide +kernel⟩
theorem fn_Sheets_move : fV yX6_move cX6_move 6 none 5 := ⟨mw_814, mw_812, mw_813, mw_44, by decide +kernel⟩
theorem fn_Sheets_put : fV yX6_put cX6_put 5 none 3 := ⟨mw_795, mw_793, mw_794, mw_44, by decide +kernel⟩
theorem fn_Sheets_sizeOf : fV yX6_sizeOf cX6_sizeOf 2 (some .int) 1 := ⟨mw_786, mw_784, mw_785, mw_44, by decide +kernel⟩
theorem fn_Sheets_toBook : fV yX6_toBook cX6_toBook 8 (some .int) 2 := ⟨mw_824, mw_822, mw_823, mw_44, by decide +kernel⟩
theorem fn_Sheets_walkOver : fV yX6_walkOver cX6_walkOver 7 (some .int) 2 := ⟨mw_841, mw_839, mw_840, mw_44, by decide +kernel⟩
theorem fn_Tape_append : fV yX7_append cX7_append 4 none 2 := ⟨mw_595, mw_593, mw_594, mw_41, by decide +kernel⟩
theorem fn_Tape_byteAt : fV yX7_byteAt cX7_byteAt 2 (some .int) 1 := ⟨mw_631, mw_629, mw_630, mw_41, by decide +kernel⟩
theorem fn_Tape_empty : fV yX7_empty cX7_empty 2 (some .int) 0 := ⟨mw_603, mw_601, mw_602, mw_41, by decide +kernel⟩
theorem fn_Tape_hasRoomFor : fV yX7_hasRoomFor cX7_hasRoomFor 2 (some .boolean) 1 := ⟨mw_591, mw_589, mw_590, mw_41, by decide +kernel⟩
theorem fn_Tokens_cut : fV yX8_cut cX8_cut 6 none 1 := ⟨mw_627, mw_625, mw_626, mw_43, by decide +kernel⟩
theorem fn_Tokens_endOf : fS yX8_endOf cX8_endOf 5 (some .int) 3 := ⟨mw_637, mw_636, mw_43, by decide +kernel⟩
theorem fn_Tokens_isSpelt : fS yX8_isSpelt cX8_isSpelt 5 (some .boolean) 4 := ⟨mw_658, mw_657, mw_43, by decide +kernel⟩
theorem fn_Tokens_numberIn : fS yX8_numberIn cX8_numberIn 5 (some .int) 3 := ⟨mw_709, mw_708, mw_43, by decide +kernel⟩
theorem fn_Tokens_placeAt : fV yX8_placeAt cX8_placeAt 2 (some .int) 1 := ⟨mw_757, mw_755, mw_756, mw_43, by decide +kernel⟩
theorem fn_Tokens_spellingOf : fS yX8_spellingOf cX8_spellingOf 1 (some (.object "java/lang/String")) 1 := ⟨mw_643, mw_642, mw_43, by decide +kernel⟩
theorem fn_Tokens_typeAt : fV yX8_typeAt cX8_typeAt 2 (some .int) 1 := ⟨mw_753, mw_751, mw_752, mw_43, by decide +kernel⟩
theorem fn_Tokens_typeOf : fS yX8_typeOf cX8_typeOf 1 (some .int) 1 := ⟨mw_634, mw_633, mw_43, by decide +kernel⟩
theorem fn_Tokens_valueAt : fV yX8_valueAt cX8_valueAt 3 (some .int) 2 := ⟨mw_724, mw_722, mw_723, mw_43, by decide +kernel⟩
theorem fn_Tokens_wordIn : fS yX8_wordIn cX8_wordIn 4 (some .int) 3 := ⟨mw_640, mw_639, mw_43, by decide +kernel⟩
theorem fn_M_adds : fV yX10_adds cX10_adds 5 none 3 := ⟨mw_1083, mw_1082, mw_14, mw_46, by decide +kernel⟩
theorem fn_M_again : fV yX10_again cX10_again 5 (some .int) 1 := ⟨mw_1019, mw_1017, mw_1018, mw_46, by decide +kernel⟩
theorem fn_M_apart : fV yX10_apart cX10_apart 4 (some .int) 0 := ⟨mw_1064, mw_1062, mw_1063, mw_46, by decide +kernel⟩
theorem fn_M_apartFrom : fV yX10_apartFrom cX10_apartFrom 3 (some .int) 2 := ⟨mw_1056, mw_1055, mw_13, mw_46, by decide +kernel⟩
theorem fn_M_as : fV yX10_as cX10_as 3 (some .int) 2 := ⟨mw_1125, mw_1123, mw_1124, mw_46, by decide +kernel⟩
theorem fn_M_at : fV yX10_at cX10_at 3 (some .int) 2 := ⟨mw_1087, mw_1086, mw_15, mw_46, by decide +kernel⟩
theorem fn_M_best : fV yX10_best cX10_best 2 (some .int) 1 := ⟨mw_1163, mw_1161, mw_1162, mw_46, by decide +kernel⟩
theorem fn_M_bestSet : fV yX10_bestSet cX10_bestSet 7 (some .int) 1 := ⟨mw_1167, mw_1166, mw_21, mw_46, by decide +kernel⟩
theorem fn_M_blanks : fV yX10_blanks cX10_blanks 1 none 0 := ⟨mw_1219, mw_1218, mw_25, mw_46, by decide +kernel⟩
theorem fn_M_byteAt : fV yX10_byteAt cX10_byteAt 2 (some .int) 1 := ⟨mw_1223, mw_1222, mw_26, mw_46, by decide +kernel⟩
theorem fn_M_cheap : fV yX10_cheap cX10_cheap 5 (some .int) 1 := ⟨mw_1183, mw_1181, mw_1182, mw_46, by decide +kernel⟩
theorem fn_M_copy : fV yX10_copy cX10_copy 7 (some .int) 5 := ⟨mw_1289, mw_1287, mw_1288, mw_46, by decide +kernel⟩
theorem fn_M_count : fV yX10_count cX10_count 2 (some .int) 1 := ⟨mw_1322, mw_1320, mw_1321, mw_46, by decide +kernel⟩
theorem fn_M_degree : fS yX10_degree cX10_degree 4 (some .int) 2 := ⟨mw_951, mw_950, mw_46, by decide +kernel⟩
theorem fn_M_doubts : fV yX10_doubts cX10_doubts 5 (some .int) 1 := ⟨mw_1060, mw_1058, mw_1059, mw_46, by decide +kernel⟩
theorem fn_M_ends : fS yX10_ends cX10_ends 2 (some .boolean) 2 := ⟨mw_957, mw_956, mw_46, by decide +kernel⟩
theorem fn_M_fails : fV yX10_fails cX10_fails 1 (some .boolean) 0 := ⟨mw_1236, mw_1235, mw_28, mw_46, by decide +kernel⟩
theorem fn_M_feed : fV yX10_feed cX10_feed 4 (some .int) 2 := ⟨mw_1187, mw_1185, mw_1186, mw_46, by decide +kernel⟩
theorem fn_M_feet : fV yX10_feet cX10_feet 2 (some .int) 1 := ⟨mw_1110, mw_1109, mw_19, mw_46, by decide +kernel⟩
theorem fn_M_feetBy : fS yX10_feetBy cX10_feetBy 3 (some .int) 2 := ⟨mw_1113, mw_1112, mw_46, by decide +kernel⟩
theorem fn_M_field : fV yX10_field cX10_field 3 (some .int) 0 := ⟨mw_1195, mw_1193, mw_1194, mw_46, by decide +kernel⟩
theorem fn_M_forge : fV yX10_forge cX10_forge 5 (some .int) 2 := ⟨mw_1072, mw_1070, mw_1071, mw_46, by decide +kernel⟩
theorem fn_M_form : fV yX10_form cX10_form 2 (some .int) 1 := ⟨mw_1044, mw_1042, mw_1043, mw_46, by decide +kernel⟩
theorem fn_M_has : fS yX10_has cX10_has 2 (some .boolean) 2 := ⟨mw_954, mw_953, mw_46, by decide +kernel⟩
theorem fn_M_hours : fV yX10_hours cX10_hours 4 (some .int) 1 := ⟨mw_1136, mw_1134, mw_1135, mw_46, by decide +kernel⟩
theorem fn_M_image : fV yX10_image cX10_image 1 (some .int) 0 := ⟨mw_1310, mw_1308, mw_1309, mw_46, by decide +kernel⟩
theorem fn_M_in : fS yX10_in cX10_in 3 (some .boolean) 3 := ⟨mw_945, mw_944, mw_46, by decide +kernel⟩
theorem fn_M_isDigit : fS yX10_isDigit cX10_isDigit 1 (some .boolean) 1 := ⟨mw_1257, mw_1256, mw_46, by decide +kernel⟩
theorem fn_M_isForm : fS yX10_isForm cX10_isForm 1 (some .boolean) 1 := ⟨mw_942, mw_941, mw_46, by decide +kernel⟩
theorem fn_M_isKind : fS yX10_isKind cX10_isKind 1 (some .boolean) 1 := ⟨mw_1079, mw_1078, mw_46, by decide +kernel⟩
theorem fn_M_isLetter : fV yX10_isLetter cX10_isLetter 2 (some .boolean) 1 := ⟨mw_1095, mw_1094, mw_16, mw_46, by decide +kernel⟩
theorem fn_M_isLow : fS yX10_isLow cX10_isLow 1 (some .boolean) 1 := ⟨mw_1230, mw_1229, mw_46, by decide +kernel⟩
theorem fn_M_isOther : fV yX10_isOther cX10_isOther 2 (some .boolean) 1 := ⟨mw_1144, mw_1143, mw_20, mw_46, by decide +kernel⟩
theorem fn_M_isPoint : fS yX10_isPoint cX10_isPoint 1 (some .boolean) 1 := ⟨mw_1005, mw_1004, mw_46, by decide +kernel⟩
theorem fn_M_isSheet : fS yX10_isSheet cX10_isSheet 1 (some .boolean) 1 := ⟨mw_1277, mw_1276, mw_46, by decide +kernel⟩
theorem fn_M_isSign : fS yX10_isSign cX10_isSign 1 (some .boolean) 1 := ⟨mw_1036, mw_1035, mw_46, by decide +kernel⟩
theorem fn_M_isUnder : fS yX10_isUnder cX10_isUnder 2 (some .boolean) 2 := ⟨mw_1128, mw_1127, mw_46, by decide +kernel⟩
theorem fn_M_isWord : fV yX10_isWord cX10_isWord 4 (some .boolean) 1 := ⟨mw_1215, mw_1214, mw_24, mw_46, by decide +kernel⟩
theorem fn_M_item : fV yX10_item cX10_item 2 (some .boolean) 0 := ⟨mw_1202, mw_1201, mw_23, mw_46, by decide +kernel⟩
theorem fn_M_ith : fV yX10_ith cX10_ith 8 (some .int) 3 := ⟨mw_1012, mw_1010, mw_1011, mw_46, by decide +kernel⟩
theorem fn_M_kind : fV yX10_kind cX10_kind 2 (some .int) 1 := ⟨mw_1156, mw_1154, mw_1155, mw_46, by decide +kernel⟩
theorem fn_M_kindName : fS yX10_kindName cX10_kindName 1 (some (.object "java/lang/String")) 1 := ⟨mw_1205, mw_1204, mw_46, by decide +kernel⟩
theorem fn_M_lasts : fV yX10_lasts cX10_lasts 2 (some .int) 1 := ⟨mw_1099, mw_1098, mw_17, mw_46, by decide +kernel⟩
theorem fn_M_lastsBy : fS yX10_lastsBy cX10_lastsBy 2 (some .int) 2 := ⟨mw_1102, mw_1101, mw_46, by decide +kernel⟩
theorem fn_M_lay : fS yX10_lay cX10_lay 3 none 2 := ⟨mw_1198, mw_1197, mw_46, by decide +kernel⟩
theorem fn_M_lays : fV yX10_lays cX10_lays 6 (some .int) 1 := ⟨mw_1293, mw_1291, mw_1292, mw_46, by decide +kernel⟩
theorem fn_M_leads : fS yX10_leads cX10_leads 5 (some .int) 3 := ⟨mw_1306, mw_1305, mw_46, by decide +kernel⟩
theorem fn_M_least : fS yX10_least cX10_least 2 (some .int) 1 := ⟨mw_978, mw_977, mw_46, by decide +kernel⟩
theorem fn_M_letter : fV yX10_letter cX10_letter 3 (some .int) 2 := ⟨mw_1076, mw_1074, mw_1075, mw_46, by decide +kernel⟩
theorem fn_M_letterTold : fV yX10_letterTold cX10_letterTold 5 (some .boolean) 1 := ⟨mw_1244, mw_1243, mw_30, mw_46, by decide +kernel⟩
theorem fn_M_lines : fV yX10_lines cX10_lines 2 (some .int) 1 := ⟨mw_985, mw_983, mw_984, mw_46, by decide +kernel⟩
theorem fn_M_linesOf : fS yX10_linesOf cX10_linesOf 5 (some .int) 1 := ⟨mw_988, mw_987, mw_46, by decide +kernel⟩
theorem fn_M_longest : fS yX10_longest cX10_longest 7 (some .int) 2 := ⟨mw_1159, mw_1158, mw_46, by decide +kernel⟩
theorem fn_M_may : fV yX10_may cX10_may 3 (some .boolean) 1 := ⟨mw_1240, mw_1239, mw_29, mw_46, by decide +kernel⟩
theorem fn_M_meant : fV yX10_meant cX10_meant 6 (some .int) 1 := ⟨mw_1179, mw_1177, mw_1178, mw_46, by decide +kernel⟩
theorem fn_M_must : fV yX10_must cX10_must 2 (some .boolean) 1 := ⟨mw_1250, mw_1249, mw_31, mw_46, by decide +kernel⟩
theorem fn_M_nextStroke : fS yX10_nextStroke cX10_nextStroke 3 (some .int) 2 := ⟨mw_1015, mw_1014, mw_46, by decide +kernel⟩
theorem fn_M_no : fV yX10_no cX10_no 2 (some .int) 1 := ⟨mw_967, mw_966, mw_10, mw_46, by decide +kernel⟩
theorem fn_M_now : fV yX10_now cX10_now 5 (some .int) 1 := ⟨mw_1140, mw_1138, mw_1139, mw_46, by decide +kernel⟩
theorem fn_M_number : fV yX10_number cX10_number 6 (some .boolean) 2 := ⟨mw_1254, mw_1253, mw_32, mw_46, by decide +kernel⟩
theorem fn_M_odd : fV yX10_odd cX10_odd 2 (some .int) 1 := ⟨mw_939, mw_937, mw_938, mw_46, by decide +kernel⟩
theorem fn_M_odds : fS yX10_odds cX10_odds 3 (some .int) 1 := ⟨mw_948, mw_947, mw_46, by decide +kernel⟩
theorem fn_M_of : fV yX10_of cX10_of 3 (some .int) 2 := ⟨mw_1091, mw_1089, mw_1090, mw_46, by decide +kernel⟩
theorem fn_M_on : fV yX10_on cX10_on 4 (some .int) 2 := ⟨mw_1148, mw_1146, mw_1147, mw_46, by decide +kernel⟩
theorem fn_M_oneEnd : fS yX10_oneEnd cX10_oneEnd 1 (some .int) 1 := ⟨mw_960, mw_959, mw_46, by decide +kernel⟩
theorem fn_M_ones : fS yX10_ones cX10_ones 3 (some .int) 1 := ⟨mw_991, mw_990, mw_46, by decide +kernel⟩
theorem fn_M_otherEnd : fS yX10_otherEnd cX10_otherEnd 1 (some .int) 1 := ⟨mw_963, mw_962, mw_46, by decide +kernel⟩
theorem fn_M_pieceOf : fS yX10_pieceOf cX10_pieceOf 6 (some .int) 2 := ⟨mw_981, mw_980, mw_46, by decide +kernel⟩
theorem fn_M_pieces : fV yX10_pieces cX10_pieces 2 (some .int) 1 := ⟨mw_972, mw_970, mw_971, mw_46, by decide +kernel⟩
theorem fn_M_piecesOf : fS yX10_piecesOf cX10_piecesOf 3 (some .int) 1 := ⟨mw_975, mw_974, mw_46, by decide +kernel⟩
theorem fn_M_puts : fV yX10_puts cX10_puts 4 (some .int) 2 := ⟨mw_1040, mw_1039, mw_11, mw_46, by decide +kernel⟩
theorem fn_M_quarter : fS yX10_quarter cX10_quarter 1 (some .int) 1 := ⟨mw_1026, mw_1025, mw_46, by decide +kernel⟩
theorem fn_M_read : fV yX10_read cX10_read 3 (some .int) 1 := ⟨mw_1048, mw_1046, mw_1047, mw_46, by decide +kernel⟩
theorem fn_M_readAs : fV yX10_readAs cX10_readAs 4 (some .int) 1 := ⟨mw_1052, mw_1051, mw_12, mw_46, by decide +kernel⟩
theorem fn_M_set : fV yX10_set cX10_set 5 (some .int) 3 := ⟨mw_1117, mw_1115, mw_1116, mw_46, by decide +kernel⟩
theorem fn_M_sheet : fV yX10_sheet cX10_sheet 5 (some .int) 3 := ⟨mw_1274, mw_1272, mw_1273, mw_46, by decide +kernel⟩
theorem fn_M_show : fV yX10_show cX10_show 4 (some .int) 1 := ⟨mw_1298, mw_1296, mw_1297, mw_46, by decide +kernel⟩
theorem fn_M_shows : fV yX10_shows cX10_shows 4 (some .int) 1 := ⟨mw_1106, mw_1105, mw_18, mw_46, by decide +kernel⟩
theorem fn_M_sign : fV yX10_sign cX10_sign 3 (some .int) 2 := ⟨mw_1033, mw_1031, mw_1032, mw_46, by decide +kernel⟩
theorem fn_M_signTold : fV yX10_signTold cX10_signTold 2 (some .boolean) 0 := ⟨mw_1269, mw_1268, mw_33, mw_46, by decide +kernel⟩
theorem fn_M_signsTold : fV yX10_signsTold cX10_signsTold 3 (some .int) 0 := ⟨mw_1326, mw_1325, mw_35, mw_46, by decide +kernel⟩
theorem fn_M_status : fV yX10_status cX10_status 4 (some .int) 1 := ⟨mw_1334, mw_1332, mw_1333, mw_46, by decide +kernel⟩
theorem fn_M_stay : fV yX10_stay cX10_stay 3 (some .int) 0 := ⟨mw_1068, mw_1066, mw_1067, mw_46, by decide +kernel⟩
theorem fn_M_strays : fV yX10_strays cX10_strays 2 (some .int) 1 := ⟨mw_995, mw_993, mw_994, mw_46, by decide +kernel⟩
theorem fn_M_straysOf : fS yX10_straysOf cX10_straysOf 1 (some .int) 1 := ⟨mw_998, mw_997, mw_46, by decide +kernel⟩
theorem fn_M_strokeOf : fS yX10_strokeOf cX10_strokeOf 3 (some .int) 2 := ⟨mw_1029, mw_1028, mw_46, by decide +kernel⟩
theorem fn_M_strokesOfAll : fV yX10_strokesOfAll cX10_strokesOfAll 3 (some .int) 0 := ⟨mw_1330, mw_1329, mw_36, mw_46, by decide +kernel⟩
theorem fn_M_sun : fV yX10_sun cX10_sun 2 (some .int) 1 := ⟨mw_1132, mw_1130, mw_1131, mw_46, by decide +kernel⟩
theorem fn_M_tear : fV yX10_tear cX10_tear 2 (some .int) 0 := ⟨mw_1318, mw_1316, mw_1317, mw_46, by decide +kernel⟩
theorem fn_M_turn : fV yX10_turn cX10_turn 3 (some .int) 2 := ⟨mw_1121, mw_1119, mw_1120, mw_46, by decide +kernel⟩
theorem fn_M_turned : fV yX10_turned cX10_turned 7 (some .int) 2 := ⟨mw_1023, mw_1021, mw_1022, mw_46, by decide +kernel⟩
theorem fn_M_undo : fV yX10_undo cX10_undo 1 (some .int) 0 := ⟨mw_1314, mw_1312, mw_1313, mw_46, by decide +kernel⟩
theorem fn_M_walk : fV yX10_walk cX10_walk 10 (some .int) 2 := ⟨mw_1302, mw_1300, mw_1301, mw_46, by decide +kernel⟩
theorem fn_M_ways : fV yX10_ways cX10_ways 3 (some .long) 2 := ⟨mw_1002, mw_1000, mw_1001, mw_46, by decide +kernel⟩
theorem fn_M_waysFrom : fS yX10_waysFrom cX10_waysFrom 5 (some .long) 2 := ⟨mw_1008, mw_1007, mw_46, by decide +kernel⟩
theorem fn_M_when : fV yX10_when cX10_when 5 (some .int) 1 := ⟨mw_1152, mw_1150, mw_1151, mw_46, by decide +kernel⟩
theorem fn_M_wipe : fV yX10_wipe cX10_wipe 2 (some .int) 0 := ⟨mw_1191, mw_1189, mw_1190, mw_46, by decide +kernel⟩
theorem fn_M_wordEnd : fV yX10_wordEnd cX10_wordEnd 2 (some .int) 0 := ⟨mw_1227, mw_1226, mw_27, mw_46, by decide +kernel⟩
theorem fn_M_worth : fV yX10_worth cX10_worth 2 (some .int) 1 := ⟨mw_1175, mw_1173, mw_1174, mw_46, by decide +kernel⟩
theorem fn_M_worthOf : fV yX10_worthOf cX10_worthOf 3 (some .int) 1 := ⟨mw_1171, mw_1170, mw_22, mw_46, by decide +kernel⟩
theorem fn_M_write : fV yX10_write cX10_write 7 (some .long) 3 := ⟨mw_1281, mw_1279, mw_1280, mw_46, by decide +kernel⟩
theorem fn_M_writes : fV yX10_writes cX10_writes 5 none 3 := ⟨mw_1285, mw_1284, mw_34, mw_46, by decide +kernel⟩
theorem fn_Int_bitCount : fS yJ6_bitCount_0f7a4 cJ6_bitCount_0f7a4 1 (some .int) 1 := ⟨mw_267, mw_266, mw_48, by decide +kernel⟩
theorem fn_Int_numberOfTrailingZeros : fS yJ6_numberOfTrailingZeros_0f7a4 cJ6_numberOfTrailingZeros_0f7a4 2 (some .int) 1 := ⟨mw_557, mw_556, mw_48, by decide +kernel⟩
theorem fn_Str_charAt : fV yJ0_charAt_5068e cJ0_charAt_5068e 2 (some .char) 1 := ⟨mw_672, mw_670, mw_671, mw_52, by decide +kernel⟩
theorem fn_Str_checkIndex : fS yJ0_checkIndex_df160 cJ0_checkIndex_df160 2 none 2 := ⟨mw_682, mw_681, mw_52, by decide +kernel⟩
theorem fn_Str_coder : fV yJ0_coder_7d493 cJ0_coder_7d493 1 (some .byte) 0 := ⟨mw_666, mw_664, mw_665, mw_52, by decide +kernel⟩
theorem fn_Str_isLatin1 : fV yJ0_isLatin1_aae02 cJ0_isLatin1_aae02 1 (some .boolean) 0 := ⟨mw_676, mw_674, mw_675, mw_52, by decide +kernel⟩
theorem fn_Str_length : fV yJ0_length_8abf5 cJ0_length_8abf5 1 (some .int) 0 := ⟨mw_662, mw_660, mw_661, mw_52, by decide +kernel⟩
theorem fn_Lat_charAt : fS yJ1_charAt_3b067 cJ1_charAt_3b067 2 (some .char) 2 := ⟨mw_679, mw_678, mw_53, by decide +kernel⟩
theorem fn_J3_checkIndex : fS yJ3_checkIndex_8e157 cJ3_checkIndex_8e157 3 (some .int) 3 := ⟨mw_687, mw_686, mw_54, by decide +kernel⟩
