theorem sR_0 {E : kE} {A : Nat → Prop} {s : State} (hT : sT E A s s.heap) : vk_R RX8 63 "letter" (eK E 0) s := hT.2.2.1 ("SnowLetters$Tokens", 63, "letter", 0) (List.mem_of_getElem? (i := 0) rfl)
theorem sR_1 {E : kE} {A : Nat → Prop} {s : State} (hT : sT E A s s.heap) : vk_R RX8 65 "capital" (eK E 1) s := hT.2.2.1 ("SnowLetters$Tokens", 65, "capital", 1) (List.mem_of_getElem? (i := 1) rfl)
theorem sR_2 {E : kE} {A : Nat → Prop} {s : State} (hT : sT E A s s.heap) : vk_R RX8 67 "soft" (eK E 2) s := hT.2.2.1 ("SnowLetters$Tokens", 67, "soft", 2) (List.mem_of_getElem? (i := 2) rfl)
theorem sR_3 {E : kE} {A : Nat → Prop} {s : State} (hT : sT E A s s.heap) : vk_R RX8 69 "crossed" (eK E 3) s := hT.2.2.1 ("SnowLetters$Tokens", 69, "crossed", 3) (List.mem_of_getElem? (i := 3) rfl)
theorem sR_4 {E : kE} {A : Nat → Prop} {s : State} (hT : sT E A s s.heap) : vk_R RX8 71 "underlined" (eK E 4) s := hT.2.2.1 ("SnowLetters$Tokens", 71, "underlined", 4) (List.mem_of_getElem? (i := 4) rfl)
theorem sR_5 {E : kE} {A : Nat → Prop} {s : State} (hT : sT E A s s.heap) : vk_R RX8 73 "icy" (eK E 5) s := hT.2.2.1 ("SnowLetters$Tokens", 73, "icy", 5) (List.mem_of_getElem? (i := 5) rfl)
theorem sR_6 {E : kE} {A : Nat → Prop} {s : State} (hT : sT E A s s.heap) : vk_R RX8 75 "sign" (eK E 6) s := hT.2.2.1 ("SnowLetters$Tokens", 75, "sign", 6) (List.mem_of_getElem? (i := 6) rfl)
theorem sR_7 {E : kE} {A : Nat → Prop} {s : State} (hT : sT E A s s.heap) : vk_R RX8 77 "sun" (eK E 7) s := hT.2.2.1 ("SnowLetters$Tokens", 77, "sun", 7) (List.mem_of_getElem? (i := 7) rfl)
theorem sR_8 {E : kE} {A : Nat → Prop} {s : State} (hT : sT E A s s.heap) : vk_R RX8 79 "form" (eK E 8) s := hT.2.2.1 ("SnowLetters$Tokens", 79, "form", 8) (List.mem_of_getElem? (i := 8) rfl)
theorem sR_9 {E : kE} {A : Nat → Prop} {s : State} (hT : sT E A s s.heap) : vk_R RX8 81 "as" (eK E 9) s := hT.2.2.1 ("SnowLetters$Tokens", 81, "as", 9) (List.mem_of_getElem? (i := 9) rfl)
theorem sR_10 {E : kE} {A : Nat → Prop} {s : State} (hT : sT E A s s.heap) : vk_R RX8 83 "deep" (eK E 10) s := hT.2.2.1 ("SnowLetters$Tokens", 83, "deep", 10) (List.mem_of_getElem? (i := 10) rfl)
theorem sR_11 {E : kE} {A : Nat → Prop} {s : State} (hT : sT E A s s.heap) : vk_R RX8 85 "" (eK E 11) s := hT.2.2.1 ("SnowLetters$Tokens", 85, "", 11) (List.mem_of_getElem? (i := 11) rfl)
theorem sR_12 {E : kE} {A : Nat → Prop} {s : State} (hT : sT E A s s.heap) : vk_R RX10 233 "letter" (eK E 0) s := hT.2.2.1 ("SnowLettersModel", 233, "letter", 0) (List.mem_of_getElem? (i := 12) rfl)
theorem sR_13 {E : kE} {A : Nat → Prop} {s : State} (hT : sT E A s s.heap) : vk_R RX10 235 "capital" (eK E 1) s := hT.2.2.1 ("SnowLettersModel", 235, "capital", 1) (List.mem_of_getElem? (i := 13) rfl)
theorem sR_14 {E : kE} {A : Nat → Prop} {s : State} (hT : sT E A s s.heap) : vk_R RX10 237 "soft" (eK E 2) s := hT.2.2.1 ("SnowLettersModel", 237, "soft", 2) (List.mem_of_getElem? (i := 14) rfl)
theorem sR_15 {E : kE} {A : Nat → Prop} {s : State} (hT : sT E A s s.heap) : vk_R RX10 239 "crossed" (eK E 3) s := hT.2.2.1 ("SnowLettersModel", 239, "crossed", 3) (List.mem_of_getElem? (i := 15) rfl)
theorem sR_16 {E : kE} {A : Nat → Prop} {s : State} (hT : sT E A s s.heap) : vk_R RX10 241 "underlined" (eK E 4) s := hT.2.2.1 ("SnowLettersModel", 241, "underlined", 4) (List.mem_of_getElem? (i := 16) rfl)
theorem sR_17 {E : kE} {A : Nat → Prop} {s : State} (hT : sT E A s s.heap) : vk_R RX10 243 "icy" (eK E 5) s := hT.2.2.1 ("SnowLettersModel", 243, "icy", 5) (List.mem_of_getElem? (i := 17) rfl)
theorem sR_18 {E : kE} {A : Nat → Prop} {s : State} (hT : sT E A s s.heap) : vk_R RX10 245 "form" (eK E 8) s := hT.2.2.1 ("SnowLettersModel", 245, "form", 8) (List.mem_of_getElem? (i := 18) rfl)
theorem sR_19 {E : kE} {A : Nat → Prop} {s : State} (hT : sT E A s s.heap) : vk_R RX10 247 "as" (eK E 9) s := hT.2.2.1 ("SnowLettersModel", 247, "as", 9) (List.mem_of_getElem? (i := 19) rfl)
theorem sR_20 {E : kE} {A : Nat → Prop} {s : State} (hT : sT E A s s.heap) : vk_R RX10 255 "deep" (eK E 10) s := hT.2.2.1 ("SnowLettersModel", 255, "deep", 10) (List.mem_of_getElem? (i := 20) rfl)
theorem sR_21 {E : kE} {A : Nat → Prop} {s : State} (hT : sT E A s s.heap) : vk_R RX10 264 "sign" (eK E 6) s := hT.2.2.1 ("SnowLettersModel", 264, "sign", 6) (List.mem_of_getElem? (i := 21) rfl)
theorem sR_22 {E : kE} {A : Nat → Prop} {s : State} (hT : sT E A s s.heap) : vk_R RX10 269 "sun" (eK E 7) s := hT.2.2.1 ("SnowLettersModel", 269, "sun", 7) (List.mem_of_getElem? (i := 22) rfl)
theorem sF_0 {E : kE} {A : Nat → Prop} {s : State} (hT : sT E A s s.heap) : va_Nw (.fieldLinkNest RX2 73 "SnowLetters$Plain" "book" "LSnowLetters$Book;" "SnowLetters") s := hT.2.2.2.1 ("SnowLetters$FieldText", 73, "SnowLetters$Plain", "book", "LSnowLetters$Book;") (List.mem_of_getElem? (i := 0) rfl)
theorem sF_1 {E : kE} {A : Nat → Prop} {s : State} (hT : sT E A s s.heap) : va_Nw (.fieldLinkNest RX9 112 "SnowLetters$Plain" "book" "LSnowLetters$Book;" "SnowLetters") s := hT.2.2.2.1 ("SnowLetters", 112, "SnowLetters$Plain", "book", "LSnowLetters$Book;") (List.mem_of_getElem? (i := 1) rfl)
theorem sF_2 {E : kE} {A : Nat → Prop} {s : State} (hT : sT E A s s.heap) : va_Nw (.fieldLinkNest RX9 161 "SnowLetters$Plain" "kinds" "[I" "SnowLetters") s := hT.2.2.2.1 ("SnowLetters", 161, "SnowLetters$Plain", "kinds", "[I") (List.mem_of_getElem? (i := 2) rfl)
theorem sF_3 {E : kE} {A : Nat → Prop} {s : State} (hT : sT E A s s.heap) : va_Nw (.fieldLinkNest RX9 164 "SnowLetters$Plain" "forms" "[I" "SnowLetters") s := hT.2.2.2.1 ("SnowLetters", 164, "SnowLetters$Plain", "forms", "[I") (List.mem_of_getElem? (i := 3) rfl)
theorem sF_4 {E : kE} {A : Nat → Prop} {s : State} (hT : sT E A s s.heap) : va_Nw (.fieldLinkNest RX9 167 "SnowLetters$Plain" "deeps" "[I" "SnowLetters") s := hT.2.2.2.1 ("SnowLetters", 167, "SnowLetters$Plain", "deeps", "[I") (List.mem_of_getElem? (i := 4) rfl)
theorem sF_5 {E : kE} {A : Nat → Prop} {s : State} (hT : sT E A s s.heap) : va_Nw (.fieldLinkNest RX1 18 "SnowLetters$Plain" "size" "I" "SnowLetters") s := hT.2.2.2.1 ("SnowLetters$Choice", 18, "SnowLetters$Plain", "size", "I") (List.mem_of_getElem? (i := 5) rfl)
theorem sF_6 {E : kE} {A : Nat → Prop} {s : State} (hT : sT E A s s.heap) : va_Nw (.fieldLinkNest RX9 279 "SnowLetters$Plain" "size" "I" "SnowLetters") s := hT.2.2.2.1 ("SnowLetters", 279, "SnowLetters$Plain", "size", "I") (List.mem_of_getElem? (i := 6) rfl)
theorem sF_7 {E : kE} {A : Nat → Prop} {s : State} (hT : sT E A s s.heap) : va_Nw (.fieldLinkNest RX9 173 "SnowLetters$Plain" "hour" "I" "SnowLetters") s := hT.2.2.2.1 ("SnowLetters", 173, "SnowLetters$Plain", "hour", "I") (List.mem_of_getElem? (i := 7) rfl)
theorem sF_8 {E : kE} {A : Nat → Prop} {s : State} (hT : sT E A s s.heap) : va_Nw (.fieldLinkNest RX2 81 "SnowLetters$Plain" "sunny" "I" "SnowLetters") s := hT.2.2.2.1 ("SnowLetters$FieldText", 81, "SnowLetters$Plain", "sunny", "I") (List.mem_of_getElem? (i := 8) rfl)
theorem sF_9 {E : kE} {A : Nat → Prop} {s : State} (hT : sT E A s s.heap) : va_Nw (.fieldLinkNest RX9 134 "SnowLetters$Plain" "sunny" "I" "SnowLetters") s := hT.2.2.2.1 ("SnowLetters", 134, "SnowLetters$Plain", "sunny", "I") (List.mem_of_getElem? (i := 9) rfl)
theorem sF_10 {E : kE} {A : Nat → Prop} {s : State} (hT : sT E A s s.heap) : va_Nw (.fieldLinkNest RX8 25 "SnowLetters$Tape" "length" "I" "SnowLetters") s := hT.2.2.2.1 ("SnowLetters$Tokens", 25, "SnowLetters$Tape", "length", "I") (List.mem_of_getElem? (i := 10) rfl)
theorem sF_11 {E : kE} {A : Nat → Prop} {s : State} (hT : sT E A s s.heap) : va_Nw (.fieldLinkNest RX9 226 "SnowLetters$Tape" "length" "I" "SnowLetters") s := hT.2.2.2.1 ("SnowLetters", 226, "SnowLetters$Tape", "length", "I") (List.mem_of_getElem? (i := 11) rfl)
theorem sF_12 {E : kE} {A : Nat → Prop} {s : State} (hT : sT E A s s.heap) : va_Nw (.fieldLinkNest RX9 208 "SnowLetters$Choice" "chosen" "I" "SnowLetters") s := hT.2.2.2.1 ("SnowLetters", 208, "SnowLetters$Choice", "chosen", "I") (List.mem_of_getElem? (i := 12) rfl)
theorem sF_13 {E : kE} {A : Nat → Prop} {s : State} (hT : sT E A s s.heap) : va_Nw (.fieldLinkNest RX9 211 "SnowLetters$Choice" "mostWorth" "I" "SnowLetters") s := hT.2.2.2.1 ("SnowLetters", 211, "SnowLetters$Choice", "mostWorth", "I") (List.mem_of_getElem? (i := 13) rfl)
-- ===== THE TEXTS: the JDK's own members over the claim's literals =====
theorem sS {E : kE} {A : Nat → Prop} {s : State} (hT : sT E A s s.heap) : vk_S 12 sLen sByt (eK E) (eV E) A s s.heap := hT.2.1.2.1
theorem sLen_lt : ∀ i, i < 12 → sLen.getD i 0 < 2 ^ 31 := by decide +kernel
theorem fcharAt_some {i : Nat} {k r : Int32} (h : f_Str_charAt i k = some r) : i < 12 ∧ rd (fun j => (sByt.getD i []).getD j 0 &&& 255) (sLen.getD i 0) k = some r := by
  unfold f_Str_charAt at h
  split at h
  · exact ⟨by assumption, h⟩
  · cases h
theorem flength_some {i : Nat} {r : Int32} (h : f_Str_length i = some r) : i < 12 ∧ nI (sLen.getD i 0) = r := by
  unfold f_Str_length at h
  split at h
  · exact ⟨by assumption, Option.some.inj h⟩
  · cases h
theorem s_recv {E : kE} {A : Nat → Prop} {s : State} {H : Heap} {locs : List Loc} {i : Nat} {k r : Int32} (hT : sT E A s s.heap) (hS : va_S A s.heap H locs) (h : f_Str_charAt i k = some r) : ∃ cell : Cell, H[eK E i]? = some cell ∧ cell.vm.isStatics = false ∧ s.vm.findClass yJ0_charAt_5068e.cls = some cell.cls := vk_recv (sS hT) (fcharAt_some h).1 hS
theorem s_recvL {E : kE} {A : Nat → Prop} {s : State} {H : Heap} {locs : List Loc} {i : Nat} {r : Int32} (hT : sT E A s s.heap) (hS : va_S A s.heap H locs) (h : f_Str_length i = some r) : ∃ cell : Cell, H[eK E i]? = some cell ∧ cell.vm.isStatics = false ∧ s.vm.findClass yJ0_length_8abf5.cls = some cell.cls := vk_recv (sS hT) (flength_some h).1 hS
set_option maxHeartbeats 4000000 in
set_option maxRecDepth 100000 in
theorem k_Str_coder (l : Launch) (E : kE) (i : Nat) (hi : i < 12) : Met l yJ0_coder_7d493 (Cond.code yJ0_coder_7d493 cJ0_coder_7d493 1 (some .byte) :: wG) (rm 1) (pR E [] [.ref (eK E i)]) (qR (.int 0)) 0 0 (fun _ => False) := by
  refine met_R (by decide) (Nat.le_of_ble_eq_true rfl) ?_
  intro p e s m args below meth c ls C hP hK hT hl
  obtain ⟨hx, hb, hr, hml, hown, hw, hlocks⟩ := id C
  have hS : va_S (fun _ => False) s.heap s.heap [] := va_S.rf
  have hl : lv_has ls 1 [(0, .ref (eK E i))] := hl
  refine va_gets (v := .int 1) hx hb hT.2.1.1 hS hown (hw _ mw_667) (fun _ h9 => h9) dJ0_coder_7d493_0 ?_
  refine lv_if_eq (tgt := 13) hx hb dJ0_coder_7d493_3 (by decide) (fun q => absurd q (by decide)) (fun q => ?_)
  refine lv_aload_n hx hb dJ0_coder_7d493_6 rfl (lv_at hl 0 rfl) ?_
  refine vk_getf hx hb ((sS hT).1 i hi).2.1 hS hown (hw _ mw_1337) (fun _ h9 => h9) dJ0_coder_7d493_7 ?_
  refine lv_goto (tgt := 14) hx hb dJ0_coder_7d493_10 (by decide) ?_
  exact W.zret (ty := .byte) hx hb hr rfl (fun t ht hW => ⟨rfl, ht⟩) nofun dJ0_coder_7d493_14
set_option maxHeartbeats 4000000 in
set_option maxRecDepth 100000 in
theorem k_Str_isLatin1 (l : Launch) (E : kE) (i : Nat) (hi : i < 12) : Met l yJ0_isLatin1_aae02 (Cond.code yJ0_isLatin1_aae02 cJ0_isLatin1_aae02 1 (some .boolean) :: wG) (rm 1) (pR E [] [.ref (eK E i)]) (qR (.int 1)) 0 0 (fun _ => False) := by
  refine met_R (by decide) (Nat.le_of_ble_eq_true rfl) ?_
  intro p e s m args below meth c ls C hP hK hT hl
  obtain ⟨hx, hb, hr, hml, hown, hw, hlocks⟩ := id C
  have hS : va_S (fun _ => False) s.heap s.heap [] := va_S.rf
  have hl : lv_has ls 1 [(0, .ref (eK E i))] := hl
  refine va_gets (v := .int 1) hx hb hT.2.1.1 hS hown (hw _ mw_667) (fun _ h9 => h9) dJ0_isLatin1_aae02_0 ?_
  refine lv_if_eq (tgt := 17) hx hb dJ0_isLatin1_aae02_3 (by decide) (fun q => absurd q (by decide)) (fun q => ?_)
  refine lv_aload_n hx hb dJ0_isLatin1_aae02_6 rfl (lv_at hl 0 rfl) ?_
  refine vk_getf hx hb ((sS hT).1 i hi).2.1 hS hown (hw _ mw_1337) (fun _ h9 => h9) dJ0_isLatin1_aae02_7 ?_
  refine lv_if_ne (tgt := 17) hx hb dJ0_isLatin1_aae02_10 (by decide) (fun q => absurd rfl q) (fun q => ?_)
  refine lv_iconst (v := 1) hx hb dJ0_isLatin1_aae02_13 (by decide) ?_
  refine lv_goto (tgt := 18) hx hb dJ0_isLatin1_aae02_14 (by decide) ?_
  exact W.zret (ty := .boolean) hx hb hr rfl (fun t ht hW => ⟨rfl, ht⟩) nofun dJ0_isLatin1_aae02_18
set_option maxHeartbeats 4000000 in
set_option maxRecDepth 100000 in
theorem k_Str_length (l : Launch) (E : kE) (i : Nat) (out : Int32) (hF : f_Str_length i = some out) : Met l yJ0_length_8abf5 (Cond.code yJ0_length_8abf5 cJ0_length_8abf5 1 (some .int) :: wG) (rm 3) (pR E [] [.ref (eK E i)]) (qR (.int out)) 0 0 (fun _ => False) := by
  obtain ⟨hi, rfl⟩ := flength_some hF
  refine met_R (by decide) (Nat.le_of_ble_eq_true rfl) ?_
  intro p e s m args below meth c ls C hP hK hT hl
  obtain ⟨hx, hb, hr, hml, hown, hw, hlocks⟩ := id C
  have hS : va_S (fun _ => False) s.heap s.heap [] := va_S.rf
  have hl : lv_has ls 1 [(0, .ref (eK E i))] := hl
  refine lv_aload_n hx hb dJ0_length_8abf5_0 rfl (lv_at hl 0 rfl) ?_
  refine vk_getf hx hb ((sS hT).1 i hi).2.2.1 hS hown (hw _ mw_1336) (fun _ h9 => h9) dJ0_length_8abf5_1 ?_
  refine va_tlen (v := nI (sLen.getD i 0)) hx hb ((sS hT).1 i hi).2.2.2 hS rfl dJ0_length_8abf5_4 ?_
  refine lv_aload_n hx hb dJ0_length_8abf5_5 rfl (lv_at hl 0 rfl) ?_
  refine kRV (rest := [.int (nI (sLen.getD i 0))]) C (k_Str_coder l E i hi) fn_Str_coder mw_663 ⟨Nat.le_of_ble_eq_true rfl, Nat.le_of_ble_eq_true rfl⟩ hK hT hS (vk_recv (sS hT) hi hS) hP [] rfl rfl rfl hl (Nat.le_of_ble_eq_true rfl) dJ0_length_8abf5_6 ?_
  refine lv_ishr hx hb dJ0_length_8abf5_9 ?_
  rw [sb_shr0]
  exact W.iret hx hb hr (fun t ht hW => ⟨rfl, ht⟩) nofun dJ0_length_8abf5_10
set_option maxHeartbeats 4000000 in
set_option maxRecDepth 100000 in
theorem k_Pre_checkIndex (l : Launch) (E : kE) (a0 a1 : Int32) (f : Value) (hf : f = .null ∨ ∃ q, f = .ref q) (h0 : ¬ a0 < 0) (h1 : a0 < a1) : Met l yJ3_checkIndex_8e157 (Cond.code yJ3_checkIndex_8e157 cJ3_checkIndex_8e157 3 (some .int) :: wG) (rm 1) (pR E [] [.int a0, .int a1, f]) (qR (.int a0)) 0 0 (fun _ => False) := by
  have hn : (lg_sl [.int a0, .int a1, f]).length ≤ 3 := by
    rcases hf with rfl | ⟨q, rfl⟩ <;> exact Nat.le_of_ble_eq_true rfl
  refine met_R (by decide) hn ?_
  intro p e s m args below meth c ls C hP hK hT hl
  obtain ⟨hx, hb, hr, hml, hown, hw, hlocks⟩ := id C
  have hl : lv_has ls 3 [(0, .int a0), (1, .int a1), (2, f)] := hl
  refine lv_iload_n hx hb dJ3_checkIndex_8e157_0 rfl (lv_at hl 0 rfl) ?_
  refine lv_if_lt (tgt := 9) hx hb dJ3_checkIndex_8e157_1 (by decide) (fun q => absurd q h0) (fun q => ?_)
  refine lv_iload_n hx hb dJ3_checkIndex_8e157_4 rfl (lv_at hl 0 rfl) ?_
  refine lv_iload_n hx hb dJ3_checkIndex_8e157_5 rfl (lv_at hl 1 rfl) ?_
  refine lv_icmp_lt (tgt := 16) hx hb dJ3_checkIndex_8e157_6 (by decide) (fun q => ?_) (fun q => absurd h1 q)
  refine lv_iload_n hx hb dJ3_checkIndex_8e157_16 rfl (lv_at hl 0 rfl) ?_
  exact W.iret hx hb hr (fun t ht hW => ⟨rfl, ht⟩) nofun dJ3_checkIndex_8e157_17
set_option maxHeartbeats 4000000 in
set_option maxRecDepth 100000 in
theorem k_Str_checkIndex (l : Launch) (E : kE) (a0 a1 : Int32) (h0 : ¬ a0 < 0) (h1 : a0 < a1) : Met l yJ0_checkIndex_df160 (Cond.code yJ0_checkIndex_df160 cJ0_checkIndex_df160 2 none :: wG) (rm 2) (pR E [] [.int a0, .int a1]) qV 0 0 (fun _ => False) := by
  refine met_V (by decide) (Nat.le_of_ble_eq_true rfl) ?_
  intro p e s m args below meth c ls C hP hK hT hl
  obtain ⟨hx, hb, hr, hml, hown, hw, hlocks⟩ := id C
  have hS : va_S (fun _ => False) s.heap s.heap [] := va_S.rf
  have hl : lv_has ls 2 [(0, .int a0), (1, .int a1)] := hl
  refine lv_iload_n hx hb dJ0_checkIndex_df160_0 rfl (lv_at hl 0 rfl) ?_
  refine lv_iload_n hx hb dJ0_checkIndex_df160_1 rfl (lv_at hl 1 rfl) ?_
  rcases hT.2.1.2.2 with hZ | ⟨t, hZ⟩
  · refine va_gets (v := .null) hx hb hZ hS hown (hw _ mw_683) (fun _ h9 => h9) dJ0_checkIndex_df160_2 ?_
    refine kRS (rest := []) C (k_Pre_checkIndex l E a0 a1 .null (Or.inl rfl) h0 h1) fn_J3_checkIndex mw_685 ⟨Nat.le_of_ble_eq_true rfl, Nat.le_of_ble_eq_true rfl⟩ hK hT hS hP [] rfl rfl rfl hl (Nat.le_of_ble_eq_true rfl) dJ0_checkIndex_df160_5 ?_
    refine lv_pop hx hb dJ0_checkIndex_df160_8 rfl ?_
    exact W.vret hx hb hr (fun t ht hW => ⟨rfl, ht⟩) nofun dJ0_checkIndex_df160_9
  · refine va_gets (v := .ref t) hx hb hZ hS hown (hw _ mw_683) (fun _ h9 => h9) dJ0_checkIndex_df160_2 ?_
    refine kRS (rest := []) C (k_Pre_checkIndex l E a0 a1 (.ref t) (Or.inr ⟨_, rfl⟩) h0 h1) fn_J3_checkIndex mw_685 ⟨Nat.le_of_ble_eq_true rfl, Nat.le_of_ble_eq_true rfl⟩ hK hT hS hP [] rfl rfl rfl hl (Nat.le_of_ble_eq_true rfl) dJ0_checkIndex_df160_5 ?_
    refine lv_pop hx hb dJ0_checkIndex_df160_8 rfl ?_
    exact W.vret hx hb hr (fun t ht hW => ⟨rfl, ht⟩) nofun dJ0_checkIndex_df160_9
set_option maxHeartbeats 4000000 in
set_option maxRecDepth 100000 in
theorem k_Lat_charAt (l : Launch) (E : kE) (i : Nat) (a1 out : Int32) (hF : f_Str_charAt i a1 = some out) : Met l yJ1_charAt_3b067 (Cond.code yJ1_charAt_3b067 cJ1_charAt_3b067 2 (some .char) :: wG) (rm 3) (pR E [] [.ref (eV E i), .int a1]) (qR (.int out)) 0 0 (fun _ => False) := by
  obtain ⟨hi, hF⟩ := fcharAt_some hF
  obtain ⟨hin, rfl⟩ := rd_some hF
  obtain ⟨j, hj, rfl⟩ := vp_in_of hin (sLen_lt i hi)
  have hlt := sLen_lt i hi
  refine met_R (by decide) (Nat.le_of_ble_eq_true rfl) ?_
  intro p e s m args below meth c ls C hP hK hT hl
  obtain ⟨hx, hb, hr, hml, hown, hw, hlocks⟩ := id C
  have hS : va_S (fun _ => False) s.heap s.heap [] := va_S.rf
  have hl : lv_has ls 2 [(0, .ref (eV E i)), (1, .int (nI j))] := hl
  refine lv_iload_n hx hb dJ1_charAt_3b067_0 rfl (lv_at hl 1 rfl) ?_
  refine lv_aload_n hx hb dJ1_charAt_3b067_1 rfl (lv_at hl 0 rfl) ?_
  refine va_tlen (v := nI (sLen.getD i 0)) hx hb ((sS hT).1 i hi).2.2.2 hS rfl dJ1_charAt_3b067_2 ?_
  refine kVS (rest := []) C (k_Str_checkIndex l E (nI j) (nI (sLen.getD i 0)) (nI_pos (by omega)) (nI_lt hj hlt)) fn_Str_checkIndex mw_680 ⟨Nat.le_of_ble_eq_true rfl, Nat.le_of_ble_eq_true rfl⟩ hK hT hS hP [] rfl rfl rfl hl (Nat.le_of_ble_eq_true rfl) dJ1_charAt_3b067_3 ?_
  refine lv_aload_n hx hb dJ1_charAt_3b067_6 rfl (lv_at hl 0 rfl) ?_
  refine lv_iload_n hx hb dJ1_charAt_3b067_7 rfl (lv_at hl 1 rfl) ?_
  refine va_tb hx hb ((sS hT).1 i hi).2.2.2 hS hin rfl dJ1_charAt_3b067_8 ?_
  refine lv_sipush (v := 255) hx hb dJ1_charAt_3b067_9 (by decide) ?_
  refine lv_iand hx hb dJ1_charAt_3b067_12 ?_
  refine lv_i2c (v := (sByt.getD i []).getD (nI j).toNatClampNeg 0 &&& 255) hx hb dJ1_charAt_3b067_13 (sc_c2 _) ?_
  exact W.zret (ty := .char) hx hb hr (sc_nar _) (fun t ht hW => ⟨rfl, ht⟩) nofun dJ1_charAt_3b067_14
set_option maxHeartbeats 4000000 in
set_option maxRecDepth 100000 in
theorem k_Str_charAt (l : Launch) (E : kE) (i : Nat) (a1 out : Int32) (hF : f_Str_charAt i a1 = some out) : Met l yJ0_charAt_5068e (Cond.code yJ0_charAt_5068e cJ0_charAt_5068e 2 (some .char) :: wG) (rm 5) (pR E [] [.ref (eK E i), .int a1]) (qR (.int out)) 0 0 (fun _ => False) := by
  have hi := (fcharAt_some hF).1
  have hn : narrow .char (.int out) = .int out := by
    obtain ⟨h1, h2⟩ := fcharAt_some hF
    obtain ⟨h3, rfl⟩ := rd_some h2
    exact sc_nar _
  refine met_R (by decide) (Nat.le_of_ble_eq_true rfl) ?_
  intro p e s m args below meth c ls C hP hK hT hl
  obtain ⟨hx, hb, hr, hml, hown, hw, hlocks⟩ := id C
  have hS : va_S (fun _ => False) s.heap s.heap [] := va_S.rf
  have hl : lv_has ls 2 [(0, .ref (eK E i)), (1, .int a1)] := hl
  refine lv_aload_n hx hb dJ0_charAt_5068e_0 rfl (lv_at hl 0 rfl) ?_
  refine kRV (rest := []) C (k_Str_isLatin1 l E i hi) fn_Str_isLatin1 mw_673 ⟨Nat.le_of_ble_eq_true rfl, Nat.le_of_ble_eq_true rfl⟩ hK hT hS (vk_recv (sS hT) hi hS) hP [] rfl rfl rfl hl (Nat.le_of_ble_eq_true rfl) dJ0_charAt_5068e_1 ?_
  refine lv_if_eq (tgt := 16) hx hb dJ0_charAt_5068e_4 (by decide) (fun q => absurd q (by decide)) (fun q => ?_)
  refine lv_aload_n hx hb dJ0_charAt_5068e_7 rfl (lv_at hl 0 rfl) ?_
  refine vk_getf hx hb ((sS hT).1 i hi).2.2.1 hS hown (hw _ mw_1336) (fun _ h9 => h9) dJ0_charAt_5068e_8 ?_
  refine lv_iload_n hx hb dJ0_charAt_5068e_11 rfl (lv_at hl 1 rfl) ?_
  refine kRS (rest := []) C (k_Lat_charAt l E i a1 out hF) fn_Lat_charAt mw_677 ⟨Nat.le_of_ble_eq_true rfl, Nat.le_of_ble_eq_true rfl⟩ hK hT hS hP [] rfl rfl rfl hl (Nat.le_of_ble_eq_true rfl) dJ0_charAt_5068e_12 ?_
  exact W.zret (ty := .char) hx hb hr hn (fun t ht hW => ⟨rfl, ht⟩) nofun dJ0_charAt_5068e_15

