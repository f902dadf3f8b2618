abbrev w_S_finding (E : kE) (h_t : Nat) (h_t_found : Nat) (x_t_plain : Nat) (x_t_kept : Nat) (x_t_trial : Nat) (x_t_tape : Nat) (x_t_text : Nat) (x_t_sheets : Nat) (x_t_choice : Nat) (c_t_isKept : Int32) (c_t_found : (Nat → Int32)) : va_W := [(h_t, .inr (7, [.ref x_t_plain, .ref x_t_kept, .ref x_t_trial, .ref x_t_tape, .ref x_t_text, .ref x_t_sheets, .ref x_t_choice, .ref h_t_found, .int c_t_isKept])), (h_t_found, .inl (eI E, 7, .inl c_t_found))]
set_option maxHeartbeats 4000000 in
set_option maxRecDepth 100000 in
theorem k_S_finding (l : Launch) (E : kE) (h_t : Nat) (h_t_found : Nat) (x_t_plain : Nat) (x_t_kept : Nat) (x_t_trial : Nat) (x_t_tape : Nat) (x_t_text : Nat) (x_t_sheets : Nat) (x_t_choice : Nat) (sz : Nat) (c_t_isKept : Int32) (c_t_found : (Nat → Int32)) (a1 : Int32) (out : Int32 × (Nat → Int32)) (hF : f_S_finding c_t_found a1 = some out) : Met l yX9_finding (Cond.code yX9_finding cX9_finding 3 (some .int) :: wG) (rm 1) (pW E (w_S_finding E h_t h_t_found x_t_plain x_t_kept x_t_trial x_t_tape x_t_text x_t_sheets x_t_choice c_t_isKept c_t_found) sz [.ref h_t, .int a1]) (qW (some (.int out.1)) E (w_S_finding E h_t h_t_found x_t_plain x_t_kept x_t_trial x_t_tape x_t_text x_t_sheets x_t_choice c_t_isKept out.2) (va_A (w_S_finding E h_t h_t_found x_t_plain x_t_kept x_t_trial x_t_tape x_t_text x_t_sheets x_t_choice c_t_isKept c_t_found) sz)) 0 0 (va_A (w_S_finding E h_t h_t_found x_t_plain x_t_kept x_t_trial x_t_tape x_t_text x_t_sheets x_t_choice c_t_isKept c_t_found) sz) := by
  refine met_W (by decide) (Nat.le_of_ble_eq_true rfl) ?_
  intro p e s m args below meth c A ls C hP hD hS hA hK hT hl
  obtain ⟨hx, hb, hr, hml, hown, hw, hlocks⟩ := id C
  have hl : lv_has ls 3 [(0, .ref h_t), (1, .int a1)] := hl
  rw [f_S_finding] at hF
  refine lv_ldc (v := (-1000000001 : Int32)) hx hb hown (hw _ mw_237) dX9_finding_0 ?_
  refine lv_iload_n hx hb dX9_finding_2 rfl (lv_at hl 1 rfl) ?_
  refine lv_isub hx hb dX9_finding_3 ?_
  refine lv_istore_n (lv' := [(2, .int ((-1000000001 : Int32) - a1)), (0, .ref h_t), (1, .int a1)]) hx hb dX9_finding_4 rfl hl (by decide) rfl (fun ls hl => ?_)
  refine lv_iload_n hx hb dX9_finding_5 rfl (lv_at hl 0 rfl) ?_
  refine lv_if_lt (tgt := 28) hx hb dX9_finding_6 (by decide) (fun q1 => ?_) (fun q1 => ?_)
  · have hF := kp hF q1
    refine lv_iload_n hx hb dX9_finding_28 rfl (lv_at hl 2 rfl) ?_
    obtain rfl := Option.some.inj hF
    exact W.iret hx hb hr (fun t ht hW => ⟨⟨rfl, by rw [ht]; exact hP, hD⟩, hS.F ht⟩) hS.2.2 dX9_finding_29
  · have hF := kn hF q1
    refine lv_iload_n hx hb dX9_finding_9 rfl (lv_at hl 0 rfl) ?_
    refine lv_aload_n hx hb dX9_finding_10 rfl (lv_at hl 1 rfl) ?_
    refine va_get (D := eD E) (ci := 7) (C := RX9) (T := TX9) (N := 9) (v := .ref h_t_found) hx hb hw inX9 hown hK hP 0 rfl rfl 7 (by decide) (hw _ mw_209) (fun _ h9 => h9) rfl dX9_finding_11 ?_
    refine va_alen (v := (7 : Int32)) hx hb hK hP 1 0 rfl rfl (show Int32.ofNat 7 = (7 : Int32) by decide) dX9_finding_14 ?_
    refine lv_icmp_ge (tgt := 28) hx hb dX9_finding_15 (by decide) (fun q2 => ?_) (fun q2 => ?_)
    · have hF := kp hF q2
      refine lv_iload_n hx hb dX9_finding_28 rfl (lv_at hl 2 rfl) ?_
      obtain rfl := Option.some.inj hF
      exact W.iret hx hb hr (fun t ht hW => ⟨⟨rfl, by rw [ht]; exact hP, hD⟩, hS.F ht⟩) hS.2.2 dX9_finding_29
    · have hF := kn hF q2
      refine lv_aload_n hx hb dX9_finding_18 rfl (lv_at hl 1 rfl) ?_
      refine va_get (D := eD E) (ci := 7) (C := RX9) (T := TX9) (N := 9) (v := .ref h_t_found) hx hb hw inX9 hown hK hP 0 rfl rfl 7 (by decide) (hw _ mw_209) (fun _ h9 => h9) rfl dX9_finding_19 ?_
      refine lv_iload_n hx hb dX9_finding_22 rfl (lv_at hl 0 rfl) ?_
      refine lv_dup2_11 hx hb dX9_finding_23 rfl rfl ?_
      obtain ⟨r3, er3, hF⟩ := kb hF
      refine wa_iald hx hb hK hP 1 0 rfl rfl er3 dX9_finding_24 ?_
      refine lv_iconst (v := (1 : Int32)) hx hb dX9_finding_25 (by decide) ?_
      refine lv_iadd hx hb dX9_finding_26 ?_
      obtain ⟨r4, er4, hF⟩ := kb hF
      refine wa_iast hx hb hK hP hD hS 1 0 rfl rfl er4 dX9_finding_27 (fun H locs hP hD hS => ?_)
      have hP : va_P (eD E) vwCl (w_S_finding E h_t h_t_found x_t_plain x_t_kept x_t_trial x_t_tape x_t_text x_t_sheets x_t_choice c_t_isKept r4) H := hP
      have hD : va_D A (w_S_finding E h_t h_t_found x_t_plain x_t_kept x_t_trial x_t_tape x_t_text x_t_sheets x_t_choice c_t_isKept r4) := hD
      refine lv_iload_n hx hb dX9_finding_28 rfl (lv_at hl 2 rfl) ?_
      obtain rfl := Option.some.inj hF
      exact W.iret hx hb hr (fun t ht hW => ⟨⟨rfl, by rw [ht]; exact hP, hD⟩, hS.F ht⟩) hS.2.2 dX9_finding_29
abbrev w_S_odd (E : kE) (h_t : Nat) (h_t_found : Nat) (x_t_plain : Nat) (x_t_kept : Nat) (x_t_trial : Nat) (x_t_tape : Nat) (x_t_text : Nat) (x_t_sheets : Nat) (x_t_choice : Nat) (c_t_isKept : Int32) (c_t_found : (Nat → Int32)) : va_W := [(h_t, .inr (7, [.ref x_t_plain, .ref x_t_kept, .ref x_t_trial, .ref x_t_tape, .ref x_t_text, .ref x_t_sheets, .ref x_t_choice, .ref h_t_found, .int c_t_isKept])), (h_t_found, .inl (eI E, 7, .inl c_t_found))]
set_option maxHeartbeats 4000000 in
set_option maxRecDepth 100000 in
theorem k_S_odd (l : Launch) (E : kE) (h_t : Nat) (h_t_found : Nat) (x_t_plain : Nat) (x_t_kept : Nat) (x_t_trial : Nat) (x_t_tape : Nat) (x_t_text : Nat) (x_t_sheets : Nat) (x_t_choice : Nat) (sz : Nat) (c_t_isKept : Int32) (c_t_found : (Nat → Int32)) (a1 : Int32) (out : Int32 × (Nat → Int32)) (hF : f_S_odd c_t_found a1 = some out) : Met l yX9_odd (Cond.code yX9_odd cX9_odd 2 (some .int) :: wG) (rm 2) (pW E (w_S_odd E h_t h_t_found x_t_plain x_t_kept x_t_trial x_t_tape x_t_text x_t_sheets x_t_choice c_t_isKept c_t_found) sz [.ref h_t, .int a1]) (qW (some (.int out.1)) E (w_S_odd E h_t h_t_found x_t_plain x_t_kept x_t_trial x_t_tape x_t_text x_t_sheets x_t_choice c_t_isKept out.2) (va_A (w_S_odd E h_t h_t_found x_t_plain x_t_kept x_t_trial x_t_tape x_t_text x_t_sheets x_t_choice c_t_isKept c_t_found) sz)) 0 0 (va_A (w_S_odd E h_t h_t_found x_t_plain x_t_kept x_t_trial x_t_tape x_t_text x_t_sheets x_t_choice c_t_isKept c_t_found) sz) := by
  refine met_W (by decide) (Nat.le_of_ble_eq_true rfl) ?_
  intro p e s m args below meth c A ls C hP hD hS hA hK hT hl
  obtain ⟨hx, hb, hr, hml, hown, hw, hlocks⟩ := id C
  have hl : lv_has ls 2 [(0, .ref h_t), (1, .int a1)] := hl
  rw [f_S_odd] at hF
  refine lv_iload_n hx hb dX9_odd_0 rfl (lv_at hl 1 rfl) ?_
  obtain ⟨r1, er1, hF⟩ := kb hF
  refine kRS (rest := []) C (k_Forms_isForm l E a1 r1 er1) fn_Forms_isForm mw_234 ⟨Nat.le_of_ble_eq_true rfl, Nat.le_of_ble_eq_true rfl⟩ hK hT hS hP [] rfl rfl rfl hl (Nat.le_of_ble_eq_true rfl) dX9_odd_1 ?_
  refine lv_if_ne (tgt := 14) hx hb dX9_odd_4 (by decide) (fun q2 => ?_) (fun q2 => ?_)
  · have hF := kn hF q2
    refine lv_iload_n hx hb dX9_odd_14 rfl (lv_at hl 1 rfl) ?_
    obtain ⟨r3, er3, hF⟩ := kb hF
    refine kRS (rest := []) C (k_Forms_oddPoints l E a1 r3 er3) fn_Forms_oddPoints mw_242 ⟨Nat.le_of_ble_eq_true rfl, Nat.le_of_ble_eq_true rfl⟩ hK hT hS hP [] rfl rfl rfl hl (Nat.le_of_ble_eq_true rfl) dX9_odd_15 ?_
    obtain rfl := Option.some.inj hF
    exact W.iret hx hb hr (fun t ht hW => ⟨⟨rfl, by rw [ht]; exact hP, hD⟩, hS.F ht⟩) hS.2.2 dX9_odd_18
  · have hF := kp hF q2
    refine lv_aload_n hx hb dX9_odd_7 rfl (lv_at hl 0 rfl) ?_
    refine lv_ldc (v := (-1000000001 : Int32)) hx hb hown (hw _ mw_237) dX9_odd_8 ?_
    obtain ⟨r4, er4, hF⟩ := kb hF
    refine kWV (rest := []) (Wr := []) (Wn := (w_S_odd E h_t h_t_found x_t_plain x_t_kept x_t_trial x_t_tape x_t_text x_t_sheets x_t_choice c_t_isKept r4.2)) C (k_S_finding l E h_t h_t_found x_t_plain x_t_kept x_t_trial x_t_tape x_t_text x_t_sheets x_t_choice s.heap.size c_t_isKept c_t_found (-1000000001 : Int32) r4 er4) fn_S_finding mw_238 ⟨Nat.le_of_ble_eq_true rfl, Nat.le_of_ble_eq_true rfl⟩ hK hT hS hA (va_recv hK hP (ci := 7) (q0 := 0) rfl rfl) hP hD [0, 1] rfl (by decide) [] rfl (by decide) (by decide) [0, 1] rfl (by decide) rfl rfl hl (Nat.le_of_ble_eq_true rfl) dX9_odd_10 (fun H locs hP hD hS => ?_)
    refine W.eq (g2 := F0 m 13 ls [.int r4.1]) rfl ?_
    obtain rfl := Option.some.inj hF
    exact W.iret hx hb hr (fun t ht hW => ⟨⟨rfl, by rw [ht]; exact hP, hD⟩, hS.F ht⟩) hS.2.2 dX9_odd_13
abbrev w_S_pieces (E : kE) (h_t : Nat) (h_t_found : Nat) (x_t_plain : Nat) (x_t_kept : Nat) (x_t_trial : Nat) (x_t_tape : Nat) (x_t_text : Nat) (x_t_sheets : Nat) (x_t_choice : Nat) (c_t_isKept : Int32) (c_t_found : (Nat → Int32)) : va_W := [(h_t, .inr (7, [.ref x_t_plain, .ref x_t_kept, .ref x_t_trial, .ref x_t_tape, .ref x_t_text, .ref x_t_sheets, .ref x_t_choice, .ref h_t_found, .int c_t_isKept])), (h_t_found, .inl (eI E, 7, .inl c_t_found))]
set_option maxHeartbeats 4000000 in
set_option maxRecDepth 100000 in
theorem k_S_pieces (l : Launch) (E : kE) (h_t : Nat) (h_t_found : Nat) (x_t_plain : Nat) (x_t_kept : Nat) (x_t_trial : Nat) (x_t_tape : Nat) (x_t_text : Nat) (x_t_sheets : Nat) (x_t_choice : Nat) (sz : Nat) (c_t_isKept : Int32) (c_t_found : (Nat → Int32)) (a1 : Int32) (out : Int32 × (Nat → Int32)) (hF : f_S_pieces c_t_found a1 = some out) : Met l yX9_pieces (Cond.code yX9_pieces cX9_pieces 2 (some .int) :: wG) (rm 3) (pW E (w_S_pieces E h_t h_t_found x_t_plain x_t_kept x_t_trial x_t_tape x_t_text x_t_sheets x_t_choice c_t_isKept c_t_found) sz [.ref h_t, .int a1]) (qW (some (.int out.1)) E (w_S_pieces E h_t h_t_found x_t_plain x_t_kept x_t_trial x_t_tape x_t_text x_t_sheets x_t_choice c_t_isKept out.2) (va_A (w_S_pieces E h_t h_t_found x_t_plain x_t_kept x_t_trial x_t_tape x_t_text x_t_sheets x_t_choice c_t_isKept c_t_found) sz)) 0 0 (va_A (w_S_pieces E h_t h_t_found x_t_plain x_t_kept x_t_trial x_t_tape x_t_text x_t_sheets x_t_choice c_t_isKept c_t_found) sz) := by
  refine met_W (by decide) (Nat.le_of_ble_eq_true rfl) ?_
  intro p e s m args below meth c A ls C hP hD hS hA hK hT hl
  obtain ⟨hx, hb, hr, hml, hown, hw, hlocks⟩ := id C
  have hl : lv_has ls 2 [(0, .ref h_t), (1, .int a1)] := hl
  rw [f_S_pieces] at hF
  refine lv_iload_n hx hb dX9_pieces_0 rfl (lv_at hl 1 rfl) ?_
  obtain ⟨r1, er1, hF⟩ := kb hF
  refine kRS (rest := []) C (k_Forms_isForm l E a1 r1 er1) fn_Forms_isForm mw_234 ⟨Nat.le_of_ble_eq_true rfl, Nat.le_of_ble_eq_true rfl⟩ hK hT hS hP [] rfl rfl rfl hl (Nat.le_of_ble_eq_true rfl) dX9_pieces_1 ?_
  refine lv_if_ne (tgt := 14) hx hb dX9_pieces_4 (by decide) (fun q2 => ?_) (fun q2 => ?_)
  · have hF := kn hF q2
    refine lv_iload_n hx hb dX9_pieces_14 rfl (lv_at hl 1 rfl) ?_
    obtain ⟨r3, er3, hF⟩ := kb hF
    refine kRS (rest := []) C (k_Forms_countPieces l E a1 r3 er3) fn_Forms_countPieces mw_251 ⟨Nat.le_of_ble_eq_true rfl, Nat.le_of_ble_eq_true rfl⟩ hK hT hS hP [] rfl rfl rfl hl (Nat.le_of_ble_eq_true rfl) dX9_pieces_15 ?_
    obtain rfl := Option.some.inj hF
    exact W.iret hx hb hr (fun t ht hW => ⟨⟨rfl, by rw [ht]; exact hP, hD⟩, hS.F ht⟩) hS.2.2 dX9_pieces_18
  · have hF := kp hF q2
    refine lv_aload_n hx hb dX9_pieces_7 rfl (lv_at hl 0 rfl) ?_
    refine lv_ldc (v := (-1000000001 : Int32)) hx hb hown (hw _ mw_237) dX9_pieces_8 ?_
    obtain ⟨r4, er4, hF⟩ := kb hF
    refine kWV (rest := []) (Wr := []) (Wn := (w_S_pieces E h_t h_t_found x_t_plain x_t_kept x_t_trial x_t_tape x_t_text x_t_sheets x_t_choice c_t_isKept r4.2)) C (k_S_finding l E h_t h_t_found x_t_plain x_t_kept x_t_trial x_t_tape x_t_text x_t_sheets x_t_choice s.heap.size c_t_isKept c_t_found (-1000000001 : Int32) r4 er4) fn_S_finding mw_238 ⟨Nat.le_of_ble_eq_true rfl, Nat.le_of_ble_eq_true rfl⟩ hK hT hS hA (va_recv hK hP (ci := 7) (q0 := 0) rfl rfl) hP hD [0, 1] rfl (by decide) [] rfl (by decide) (by decide) [0, 1] rfl (by decide) rfl rfl hl (Nat.le_of_ble_eq_true rfl) dX9_pieces_10 (fun H locs hP hD hS => ?_)
    refine W.eq (g2 := F0 m 13 ls [.int r4.1]) rfl ?_
    obtain rfl := Option.some.inj hF
    exact W.iret hx hb hr (fun t ht hW => ⟨⟨rfl, by rw [ht]; exact hP, hD⟩, hS.F ht⟩) hS.2.2 dX9_pieces_13
abbrev w_S_lines (E : kE) (h_t : Nat) (h_t_found : Nat) (x_t_plain : Nat) (x_t_kept : Nat) (x_t_trial : Nat) (x_t_tape : Nat) (x_t_text : Nat) (x_t_sheets : Nat) (x_t_choice : Nat) (c_t_isKept : Int32) (c_t_found : (Nat → Int32)) : va_W := [(h_t, .inr (7, [.ref x_t_plain, .ref x_t_kept, .ref x_t_trial, .ref x_t_tape, .ref x_t_text, .ref x_t_sheets, .ref x_t_choice, .ref h_t_found, .int c_t_isKept])), (h_t_found, .inl (eI E, 7, .inl c_t_found))]
set_option maxHeartbeats 4000000 in
set_option maxRecDepth 100000 in
theorem k_S_lines (l : Launch) (E : kE) (h_t : Nat) (h_t_found : Nat) (x_t_plain : Nat) (x_t_kept : Nat) (x_t_trial : Nat) (x_t_tape : Nat) (x_t_text : Nat) (x_t_sheets : Nat) (x_t_choice : Nat) (sz : Nat) (c_t_isKept : Int32) (c_t_found : (Nat → Int32)) (a1 : Int32) (out : Int32 × (Nat → Int32)) (hF : f_S_lines c_t_found a1 = some out) : Met l yX9_lines (Cond.code yX9_lines cX9_lines 2 (some .int) :: wG) (rm 3) (pW E (w_S_lines E h_t h_t_found x_t_plain x_t_kept x_t_trial x_t_tape x_t_text x_t_sheets x_t_choice c_t_isKept c_t_found) sz [.ref h_t, .int a1]) (qW (some (.int out.1)) E (w_S_lines E h_t h_t_found x_t_plain x_t_kept x_t_trial x_t_tape x_t_text x_t_sheets x_t_choice c_t_isKept out.2) (va_A (w_S_lines E h_t h_t_found x_t_plain x_t_kept x_t_trial x_t_tape x_t_text x_t_sheets x_t_choice c_t_isKept c_t_found) sz)) 0 0 (va_A (w_S_lines E h_t h_t_found x_t_plain x_t_kept x_t_trial x_t_tape x_t_text x_t_sheets x_t_choice c_t_isKept c_t_found) sz) := by
  refine met_W (by decide) (Nat.le_of_ble_eq_true rfl) ?_
  intro p e s m args below meth c A ls C hP hD hS hA hK hT hl
  obtain ⟨hx, hb, hr, hml, hown, hw, hlocks⟩ := id C
  have hl : lv_has ls 2 [(0, .ref h_t), (1, .int a1)] := hl
  rw [f_S_lines] at hF
  refine lv_iload_n hx hb dX9_lines_0 rfl (lv_at hl 1 rfl) ?_
  obtain ⟨r1, er1, hF⟩ := kb hF
  refine kRS (rest := []) C (k_Forms_isForm l E a1 r1 er1) fn_Forms_isForm mw_234 ⟨Nat.le_of_ble_eq_true rfl, Nat.le_of_ble_eq_true rfl⟩ hK hT hS hP [] rfl rfl rfl hl (Nat.le_of_ble_eq_true rfl) dX9_lines_1 ?_
  refine lv_if_ne (tgt := 14) hx hb dX9_lines_4 (by decide) (fun q2 => ?_) (fun q2 => ?_)
  · have hF := kn hF q2
    refine lv_iload_n hx hb dX9_lines_14 rfl (lv_at hl 1 rfl) ?_
    obtain ⟨r3, er3, hF⟩ := kb hF
    refine kRS (rest := []) C (k_Forms_countLines l E a1 r3 er3) fn_Forms_countLines mw_261 ⟨Nat.le_of_ble_eq_true rfl, Nat.le_of_ble_eq_true rfl⟩ hK hT hS hP [] rfl rfl rfl hl (Nat.le_of_ble_eq_true rfl) dX9_lines_15 ?_
    obtain rfl := Option.some.inj hF
    exact W.iret hx hb hr (fun t ht hW => ⟨⟨rfl, by rw [ht]; exact hP, hD⟩, hS.F ht⟩) hS.2.2 dX9_lines_18
  · have hF := kp hF q2
    refine lv_aload_n hx hb dX9_lines_7 rfl (lv_at hl 0 rfl) ?_
    refine lv_ldc (v := (-1000000001 : Int32)) hx hb hown (hw _ mw_237) dX9_lines_8 ?_
    obtain ⟨r4, er4, hF⟩ := kb hF
    refine kWV (rest := []) (Wr := []) (Wn := (w_S_lines E h_t h_t_found x_t_plain x_t_kept x_t_trial x_t_tape x_t_text x_t_sheets x_t_choice c_t_isKept r4.2)) C (k_S_finding l E h_t h_t_found x_t_plain x_t_kept x_t_trial x_t_tape x_t_text x_t_sheets x_t_choice s.heap.size c_t_isKept c_t_found (-1000000001 : Int32) r4 er4) fn_S_finding mw_238 ⟨Nat.le_of_ble_eq_true rfl, Nat.le_of_ble_eq_true rfl⟩ hK hT hS hA (va_recv hK hP (ci := 7) (q0 := 0) rfl rfl) hP hD [0, 1] rfl (by decide) [] rfl (by decide) (by decide) [0, 1] rfl (by decide) rfl rfl hl (Nat.le_of_ble_eq_true rfl) dX9_lines_10 (fun H locs hP hD hS => ?_)
    refine W.eq (g2 := F0 m 13 ls [.int r4.1]) rfl ?_
    obtain rfl := Option.some.inj hF
    exact W.iret hx hb hr (fun t ht hW => ⟨⟨rfl, by rw [ht]; exact hP, hD⟩, hS.F ht⟩) hS.2.2 dX9_lines_13
abbrev w_S_strays (E : kE) (h_t : Nat) (h_t_found : Nat) (x_t_plain : Nat) (x_t_kept : Nat) (x_t_trial : Nat) (x_t_tape : Nat) (x_t_text : Nat) (x_t_sheets : Nat) (x_t_choice : Nat) (c_t_isKept : Int32) (c_t_found : (Nat → Int32)) : va_W := [(h_t, .inr (7, [.ref x_t_plain, .ref x_t_kept, .ref x_t_trial, .ref x_t_tape, .ref x_t_text, .ref x_t_sheets, .ref x_t_choice, .ref h_t_found, .int c_t_isKept])), (h_t_found, .inl (eI E, 7, .inl c_t_found))]
set_option maxHeartbeats 4000000 in
set_option maxRecDepth 100000 in
theorem k_S_strays (l : Launch) (E : kE) (h_t : Nat) (h_t_found : Nat) (x_t_plain : Nat) (x_t_kept : Nat) (x_t_trial : Nat) (x_t_tape : Nat) (x_t_text : Nat) (x_t_sheets : Nat) (x_t_choice : Nat) (sz : Nat) (c_t_isKept : Int32) (c_t_found : (Nat → Int32)) (a1 : Int32) (out : Int32 × (Nat → Int32)) (hF : f_S_strays c_t_found a1 = some out) : Met l yX9_strays (Cond.code yX9_strays cX9_strays 2 (some .int) :: wG) (rm 4) (pW E (w_S_strays E h_t h_t_found x_t_plain x_t_kept x_t_trial x_t_tape x_t_text x_t_sheets x_t_choice c_t_isKept c_t_found) sz [.ref h_t, .int a1]) (qW (some (.int out.1)) E (w_S_strays E h_t h_t_found x_t_plain x_t_kept x_t_trial x_t_tape x_t_text x_t_sheets x_t_choice c_t_isKept out.2) (va_A (w_S_strays E h_t h_t_found x_t_plain x_t_kept x_t_trial x_t_tape x_t_text x_t_sheets x_t_choice c_t_isKept c_t_found) sz)) 0 0 (va_A (w_S_strays E h_t h_t_found x_t_plain x_t_kept x_t_trial x_t_tape x_t_text x_t_sheets x_t_choice c_t_isKept c_t_found) sz) := by
  refine met_W (by decide) (Nat.le_of_ble_eq_true rfl) ?_
  intro p e s m args below meth c A ls C hP hD hS hA hK hT hl
  obtain ⟨hx, hb, hr, hml, hown, hw, hlocks⟩ := id C
  have hl : lv_has ls 2 [(0, .ref h_t), (1, .int a1)] := hl
  rw [f_S_strays] at hF
  refine lv_iload_n hx hb dX9_strays_0 rfl (lv_at hl 1 rfl) ?_
  obtain ⟨r1, er1, hF⟩ := kb hF
  refine kRS (rest := []) C (k_Forms_isForm l E a1 r1 er1) fn_Forms_isForm mw_234 ⟨Nat.le_of_ble_eq_true rfl, Nat.le_of_ble_eq_true rfl⟩ hK hT hS hP [] rfl rfl rfl hl (Nat.le_of_ble_eq_true rfl) dX9_strays_1 ?_
  refine lv_if_ne (tgt := 14) hx hb dX9_strays_4 (by decide) (fun q2 => ?_) (fun q2 => ?_)
  · have hF := kn hF q2
    refine lv_iload_n hx hb dX9_strays_14 rfl (lv_at hl 1 rfl) ?_
    obtain ⟨r3, er3, hF⟩ := kb hF
    refine kRS (rest := []) C (k_Forms_countStrays l E a1 r3 er3) fn_Forms_countStrays mw_278 ⟨Nat.le_of_ble_eq_true rfl, Nat.le_of_ble_eq_true rfl⟩ hK hT hS hP [] rfl rfl rfl hl (Nat.le_of_ble_eq_true rfl) dX9_strays_15 ?_
    obtain rfl := Option.some.inj hF
    exact W.iret hx hb hr (fun t ht hW => ⟨⟨rfl, by rw [ht]; exact hP, hD⟩, hS.F ht⟩) hS.2.2 dX9_strays_18
  · have hF := kp hF q2
    refine lv_aload_n hx hb dX9_strays_7 rfl (lv_at hl 0 rfl) ?_
    refine lv_ldc (v := (-1000000001 : Int32)) hx hb hown (hw _ mw_237) dX9_strays_8 ?_
    obtain ⟨r4, er4, hF⟩ := kb hF
    refine kWV (rest := []) (Wr := []) (Wn := (w_S_strays E h_t h_t_found x_t_plain x_t_kept x_t_trial x_t_tape x_t_text x_t_sheets x_t_choice c_t_isKept r4.2)) C (k_S_finding l E h_t h_t_found x_t_plain x_t_kept x_t_trial x_t_tape x_t_text x_t_sheets x_t_choice s.heap.size c_t_isKept c_t_found (-1000000001 : Int32) r4 er4) fn_S_finding mw_238 ⟨Nat.le_of_ble_eq_true rfl, Nat.le_of_ble_eq_true rfl⟩ hK hT hS hA (va_recv hK hP (ci := 7) (q0 := 0) rfl rfl) hP hD [0, 1] rfl (by decide) [] rfl (by decide) (by decide) [0, 1] rfl (by decide) rfl rfl hl (Nat.le_of_ble_eq_true rfl) dX9_strays_10 (fun H locs hP hD hS => ?_)
    refine W.eq (g2 := F0 m 13 ls [.int r4.1]) rfl ?_
    obtain rfl := Option.some.inj hF
    exact W.iret hx hb hr (fun t ht hW => ⟨⟨rfl, by rw [ht]; exact hP, hD⟩, hS.F ht⟩) hS.2.2 dX9_strays_13
abbrev w_S_ways (E : kE) (h_t : Nat) (h_t_found : Nat) (x_t_plain : Nat) (x_t_kept : Nat) (x_t_trial : Nat) (x_t_tape : Nat) (x_t_text : Nat) (x_t_sheets : Nat) (x_t_choice : Nat) (c_t_isKept : Int32) (c_t_found : (Nat → Int32)) : va_W := [(h_t, .inr (7, [.ref x_t_plain, .ref x_t_kept, .ref x_t_trial, .ref x_t_tape, .ref x_t_text, .ref x_t_sheets, .ref x_t_choice, .ref h_t_found, .int c_t_isKept])), (h_t_found, .inl (eI E, 7, .inl c_t_found))]
set_option maxHeartbeats 4000000 in
set_option maxRecDepth 100000 in
theorem wk_S_ways_b15 {p : Program} {l : Launch} {e : Env} {s : State} {m : MethodId} {args : Array Value} {below : List Frame} {meth : Method} {c : Code} {A : Nat → Prop} (E : kE) (h_t : Nat) (h_t_found : Nat) (x_t_plain : Nat) (x_t_kept : Nat) (x_t_trial : Nat) (x_t_tape : Nat) (x_t_text : Nat) (x_t_sheets : Nat) (x_t_choice : Nat) (c_t_isKept : Int32) (a1 : Int32) (a2 : Int32) {out : Int64 × (Nat → Int32)} (C : kC RX9 cX9_ways 3 (some .long) p s m args meth c) (hA : ∀ q : Nat, s.heap.size ≤ q → A q) (hK : va_K (eD E) vwCl (eT E) s) (hT : sT E A s s.heap)  :
    ∀ (c_t_found : (Nat → Int32)), f_S_ways_b15  a1 a2 c_t_found = some out → ∀ (H : Heap) (locs : List Loc), va_P (eD E) vwCl (w_S_ways E h_t h_t_found x_t_plain x_t_kept x_t_trial x_t_tape x_t_text x_t_sheets x_t_choice c_t_isKept c_t_found) H → va_D A (w_S_ways E h_t h_t_found x_t_plain x_t_kept x_t_trial x_t_tape x_t_text x_t_sheets x_t_choice c_t_isKept c_t_found) → va_S A s.heap H locs → ∀ (ls : Array Slot), lv_has ls 3 [(0, .ref h_t)] → W p l e (rm 20) s m args below meth c H locs 0 0 (MQ below (qW (some (.long out.1)) E (w_S_ways E h_t h_t_found x_t_plain x_t_kept x_t_trial x_t_tape x_t_text x_t_sheets x_t_choice c_t_isKept out.2) A) args s 0 0 A) (F0 m 15 ls []) := by
  obtain ⟨hx, hb, hr, hml, hown, hw, hlocks⟩ := id C
  intro c_t_found hF H locs hP hD hS ls hl
  rw [f_S_ways_b15] at hF
  refine lv_aload_n hx hb dX9_ways_15 rfl (lv_at hl 0 rfl) ?_
  refine lv_ldc (v := (-1000000001 : Int32)) hx hb hown (hw _ mw_237) dX9_ways_16 ?_
  obtain ⟨r1, er1, hF⟩ := kb hF
  refine kWV (rest := []) (Wr := []) (Wn := (w_S_ways E h_t h_t_found x_t_plain x_t_kept x_t_trial x_t_tape x_t_text x_t_sheets x_t_choice c_t_isKept r1.2)) C (k_S_finding l E h_t h_t_found x_t_plain x_t_kept x_t_trial x_t_tape x_t_text x_t_sheets x_t_choice H.size c_t_isKept c_t_found (-1000000001 : Int32) r1 er1) fn_S_finding mw_238 ⟨Nat.le_of_ble_eq_true rfl, Nat.le_of_ble_eq_true rfl⟩ hK hT hS hA (va_recv hK hP (ci := 7) (q0 := 0) rfl rfl) hP hD [0, 1] rfl (by decide) [] rfl (by decide) (by decide) [0, 1] rfl (by decide) rfl rfl hl (Nat.le_of_ble_eq_true rfl) dX9_ways_18 (fun H locs hP hD hS => ?_)
  refine W.eq (g2 := F0 m 21 ls [.int r1.1]) rfl ?_
  refine lv_i2l (v := r1.1.toInt64) hx hb dX9_ways_21 rfl ?_
  obtain rfl := Option.some.inj hF
  exact W.lret hx hb hr (fun t ht hW => ⟨⟨rfl, by rw [ht]; exact hP, hD⟩, hS.F ht⟩) hS.2.2 dX9_ways_22
set_option maxHeartbeats 4000000 in
set_option maxRecDepth 100000 in
theorem k_S_ways (l : Launch) (E : kE) (h_t : Nat) (h_t_found : Nat) (x_t_plain : Nat) (x_t_kept : Nat) (x_t_trial : Nat) (x_t_tape : Nat) (x_t_text : Nat) (x_t_sheets : Nat) (x_t_choice : Nat) (sz : Nat) (c_t_isKept : Int32) (c_t_found : (Nat → Int32)) (a1 : Int32) (a2 : Int32) (out : Int64 × (Nat → Int32)) (hF : f_S_ways c_t_found a1 a2 = some out) : Met l yX9_ways (Cond.code yX9_ways cX9_ways 3 (some .long) :: wG) (rm 20) (pW E (w_S_ways E h_t h_t_found x_t_plain x_t_kept x_t_trial x_t_tape x_t_text x_t_sheets x_t_choice c_t_isKept c_t_found) sz [.ref h_t, .int a1, .int a2]) (qW (some (.long out.1)) E (w_S_ways E h_t h_t_found x_t_plain x_t_kept x_t_trial x_t_tape x_t_text x_t_sheets x_t_choice c_t_isKept out.2) (va_A (w_S_ways E h_t h_t_found x_t_plain x_t_kept x_t_trial x_t_tape x_t_text x_t_sheets x_t_choice c_t_isKept c_t_found) sz)) 0 0 (va_A (w_S_ways E h_t h_t_found x_t_plain x_t_kept x_t_trial x_t_tape x_t_text x_t_sheets x_t_choice c_t_isKept c_t_found) sz) := by
  refine met_W (by decide) (Nat.le_of_ble_eq_true rfl) ?_
  intro p e s m args below meth c A ls C hP hD hS hA hK hT hl
  obtain ⟨hx, hb, hr, hml, hown, hw, hlocks⟩ := id C
  have hl : lv_has ls 3 [(0, .ref h_t), (1, .int a1), (2, .int a2)] := hl
  rw [f_S_ways] at hF
  refine lv_iload_n hx hb dX9_ways_0 rfl (lv_at hl 1 rfl) ?_
  obtain ⟨r2, er2, hF⟩ := kb hF
  refine kRS (rest := []) C (k_Forms_isForm l E a1 r2 er2) fn_Forms_isForm mw_234 ⟨Nat.le_of_ble_eq_true rfl, Nat.le_of_ble_eq_true rfl⟩ hK hT hS hP [] rfl rfl rfl hl (Nat.le_of_ble_eq_true rfl) dX9_ways_1 ?_
  refine lv_if_eq (tgt := 15) hx hb dX9_ways_4 (by decide) (fun q3 => ?_) (fun q3 => ?_)
  · have hF := kp hF q3
    exact wk_S_ways_b15 E h_t h_t_found x_t_plain x_t_kept x_t_trial x_t_tape x_t_text x_t_sheets x_t_choice c_t_isKept a1 a2 C hA  hK hT  c_t_found hF _ _ hP hD hS _ (lv_sub hl [0] rfl)
  · have hF := kn hF q3
    refine lv_iload_n hx hb dX9_ways_7 rfl (lv_at hl 2 rfl) ?_
    refine lv_i2l (v := a2.toInt64) hx hb dX9_ways_8 rfl ?_
    obtain ⟨r4, er4, hF⟩ := kb hF
    refine kRS (rest := []) C (k_Forms_isPoint l E a2.toInt64 r4 er4) fn_Forms_isPoint mw_286 ⟨Nat.le_of_ble_eq_true rfl, Nat.le_of_ble_eq_true rfl⟩ hK hT hS hP [] rfl rfl rfl hl (Nat.le_of_ble_eq_true rfl) dX9_ways_9 ?_
    refine lv_if_ne (tgt := 23) hx hb dX9_ways_12 (by decide) (fun q5 => ?_) (fun q5 => ?_)
    · have hF := kn hF q5
      refine lv_iload_n hx hb dX9_ways_23 rfl (lv_at hl 1 rfl) ?_
      refine lv_iload_n hx hb dX9_ways_24 rfl (lv_at hl 2 rfl) ?_
      obtain ⟨r6, er6, hF⟩ := kb hF
      refine kRS (rest := []) C (k_Forms_canBeTrodden l E a1 a2 r6 er6) fn_Forms_canBeTrodden mw_290 ⟨Nat.le_of_ble_eq_true rfl, Nat.le_of_ble_eq_true rfl⟩ hK hT hS hP [] rfl rfl rfl hl (Nat.le_of_ble_eq_true rfl) dX9_ways_25 ?_
      refine lv_if_ne (tgt := 33) hx hb dX9_ways_28 (by decide) (fun q7 => ?_) (fun q7 => ?_)
      · have hF := kn hF q7
        refine lv_iload_n hx hb dX9_ways_33 rfl (lv_at hl 1 rfl) ?_
        refine lv_iload_n hx hb dX9_ways_34 rfl (lv_at hl 2 rfl) ?_
        refine lv_iconst (v := (0 : Int32)) hx hb dX9_ways_35 (by decide) ?_
        obtain ⟨r8, er8, hF⟩ := kb hF
        refine kRS (rest := []) C (k_Forms_countWays l E a1 a2 (0 : Int32) r8 er8) fn_Forms_countWays mw_307 ⟨Nat.le_of_ble_eq_true rfl, Nat.le_of_ble_eq_true rfl⟩ hK hT hS hP [] rfl rfl rfl hl (Nat.le_of_ble_eq_true rfl) dX9_ways_36 ?_
        obtain rfl := Option.some.inj hF
        exact W.lret hx hb hr (fun t ht hW => ⟨⟨rfl, by rw [ht]; exact hP, hD⟩, hS.F ht⟩) hS.2.2 dX9_ways_39
      · have hF := kp hF q7
        refine lv_lconst (v := (0 : Int64)) hx hb dX9_ways_31 (by decide) ?_
        obtain rfl := Option.some.inj hF
        exact W.lret hx hb hr (fun t ht hW => ⟨⟨rfl, by rw [ht]; exact hP, hD⟩, hS.F ht⟩) hS.2.2 dX9_ways_32
    · have hF := kp hF q5
      exact wk_S_ways_b15 E h_t h_t_found x_t_plain x_t_kept x_t_trial x_t_tape x_t_text x_t_sheets x_t_choice c_t_isKept a1 a2 C hA  hK hT  c_t_found hF _ _ hP hD hS _ (lv_sub hl [0] rfl)
abbrev w_S_isWithin (E : kE)    : va_W := []
set_option maxHeartbeats 4000000 in
set_option maxRecDepth 100000 in
theorem k_S_isWithin (l : Launch) (E : kE)    (a0 : Int32) (a1 : Int32) (out : Int32) (hF : f_S_isWithin  a0 a1 = some out) : Met l yX9_isWithin (Cond.code yX9_isWithin cX9_isWithin 2 (some .boolean) :: wG) (rm 1) (pR E (w_S_isWithin E ) [.int a0, .int a1]) (qR (.int out)) 0 0 (fun _ => False) := by
  refine met_R (by decide) (Nat.le_of_ble_eq_true rfl) ?_
  intro p e s m args below meth c ls C hP hK hT hl
  obtain ⟨hx, hb, hr, hml, hown, hw, hlocks⟩ := id C
  have hS : va_S (fun _ => False) s.heap s.heap [] := va_S.rf
  have hl : lv_has ls 2 [(0, .int a0), (1, .int a1)] := hl
  rw [f_S_isWithin] at hF
  refine lv_iload_n hx hb dX9_isWithin_0 rfl (lv_at hl 0 rfl) ?_
  refine lv_if_lt (tgt := 13) hx hb dX9_isWithin_1 (by decide) (fun q1 => ?_) (fun q1 => ?_)
  · have hF := kp hF q1
    refine lv_iconst (v := (0 : Int32)) hx hb dX9_isWithin_13 (by decide) ?_
    obtain rfl := Option.some.inj hF
    exact W.zret (ty := .boolean) hx hb hr rfl (fun t ht hW => ⟨rfl, ht⟩) nofun dX9_isWithin_14
  · have hF := kn hF q1
    refine lv_iload_n hx hb dX9_isWithin_4 rfl (lv_at hl 0 rfl) ?_
    refine lv_iload_n hx hb dX9_isWithin_5 rfl (lv_at hl 1 rfl) ?_
    refine lv_icmp_gt (tgt := 13) hx hb dX9_isWithin_6 (by decide) (fun q2 => ?_) (fun q2 => ?_)
    · have hF := kp hF q2
      refine lv_iconst (v := (0 : Int32)) hx hb dX9_isWithin_13 (by decide) ?_
      obtain rfl := Option.some.inj hF
      exact W.zret (ty := .boolean) hx hb hr rfl (fun t ht hW => ⟨rfl, ht⟩) nofun dX9_isWithin_14
    · have hF := kn hF q2
      refine lv_iconst (v := (1 : Int32)) hx hb dX9_isWithin_9 (by decide) ?_
      refine lv_goto (tgt := 14) hx hb dX9_isWithin_10 (by decide) ?_
      obtain rfl := Option.some.inj hF
      exact W.zret (ty := .boolean) hx hb hr rfl (fun t ht hW => ⟨rfl, ht⟩) nofun dX9_isWithin_14
abbrev w_S_ith (E : kE) (h_t : Nat) (h_t_found : Nat) (x_t_plain : Nat) (x_t_kept : Nat) (x_t_trial : Nat) (x_t_tape : Nat) (x_t_text : Nat) (x_t_sheets : Nat) (x_t_choice : Nat) (c_t_isKept : Int32) (c_t_found : (Nat → Int32)) : va_W := [(h_t, .inr (7, [.ref x_t_plain, .ref x_t_kept, .ref x_t_trial, .ref x_t_tape, .ref x_t_text, .ref x_t_sheets, .ref x_t_choice, .ref h_t_found, .int c_t_isKept])), (h_t_found, .inl (eI E, 7, .inl c_t_found))]
set_option maxHeartbeats 4000000 in
set_option maxRecDepth 100000 in
theorem wk_S_ith_b24 {p : Program} {l : Launch} {e : Env} {s : State} {m : MethodId} {args : Array Value} {below : List Frame} {meth : Method} {c : Code} {A : Nat → Prop} (E : kE) (h_t : Nat) (h_t_found : Nat) (x_t_plain : Nat) (x_t_kept : Nat) (x_t_trial : Nat) (x_t_tape : Nat) (x_t_text : Nat) (x_t_sheets : Nat) (x_t_choice : Nat) (c_t_isKept : Int32) (a1 : Int32) (a2 : Int32) (a3 : Int32) {out : Int32 × (Nat → Int32)} (C : kC RX9 cX9_ith 5 (some .int) p s m args meth c) (hA : ∀ q : Nat, s.heap.size ≤ q → A q) (hK : va_K (eD E) vwCl (eT E) s) (hT : sT E A s s.heap)  :
    ∀ (c_t_found : (Nat → Int32)), f_S_ith_b24  a1 a2 a3 c_t_found = some out → ∀ (H : Heap) (locs : List Loc), va_P (eD E) vwCl (w_S_ith E h_t h_t_found x_t_plain x_t_kept x_t_trial x_t_tape x_t_text x_t_sheets x_t_choice c_t_isKept c_t_found) H → va_D A (w_S_ith E h_t h_t_found x_t_plain x_t_kept x_t_trial x_t_tape x_t_text x_t_sheets x_t_choice c_t_isKept c_t_found) → va_S A s.heap H locs → ∀ (ls : Array Slot), lv_has ls 5 [(0, .ref h_t)] → W p l e (rm 6) s m args below meth c H locs 0 0 (MQ below (qW (some (.int out.1)) E (w_S_ith E h_t h_t_found x_t_plain x_t_kept x_t_trial x_t_tape x_t_text x_t_sheets x_t_choice c_t_isKept out.2) A) args s 0 0 A) (F0 m 24 ls []) := by
  obtain ⟨hx, hb, hr, hml, hown, hw, hlocks⟩ := id C
  intro c_t_found hF H locs hP hD hS ls hl
  rw [f_S_ith_b24] at hF
  refine lv_aload_n hx hb dX9_ith_24 rfl (lv_at hl 0 rfl) ?_
  refine lv_ldc (v := (-1000000001 : Int32)) hx hb hown (hw _ mw_237) dX9_ith_25 ?_
  obtain ⟨r1, er1, hF⟩ := kb hF
  refine kWV (rest := []) (Wr := []) (Wn := (w_S_ith E h_t h_t_found x_t_plain x_t_kept x_t_trial x_t_tape x_t_text x_t_sheets x_t_choice c_t_isKept r1.2)) C (k_S_finding l E h_t h_t_found x_t_plain x_t_kept x_t_trial x_t_tape x_t_text x_t_sheets x_t_choice H.size c_t_isKept c_t_found (-1000000001 : Int32) r1 er1) fn_S_finding mw_238 ⟨Nat.le_of_ble_eq_true rfl, Nat.le_of_ble_eq_true rfl⟩ hK hT hS hA (va_recv hK hP (ci := 7) (q0 := 0) rfl rfl) hP hD [0, 1] rfl (by decide) [] rfl (by decide) (by decide) [0, 1] rfl (by decide) rfl rfl hl (Nat.le_of_ble_eq_true rfl) dX9_ith_27 (fun H locs hP hD hS => ?_)
  refine W.eq (g2 := F0 m 30 ls [.int r1.1]) rfl ?_
  obtain rfl := Option.some.inj hF
  exact W.iret hx hb hr (fun t ht hW => ⟨⟨rfl, by rw [ht]; exact hP, hD⟩, hS.F ht⟩) hS.2.2 dX9_ith_30
set_option maxHeartbeats 4000000 in
set_option maxRecDepth 100000 in
theorem k_S_ith (l : Launch) (E : kE) (h_t : Nat) (h_t_found : Nat) (x_t_plain : Nat) (x_t_kept : Nat) (x_t_trial : Nat) (x_t_tape : Nat) (x_t_text : Nat) (x_t_sheets : Nat) (x_t_choice : Nat) (sz : Nat) (c_t_isKept : Int32) (c_t_found : (Nat → Int32)) (a1 : Int32) (a2 : Int32) (a3 : Int32) (out : Int32 × (Nat → Int32)) (hF : f_S_ith c_t_found a1 a2 a3 = some out) : Met l yX9_ith (Cond.code yX9_ith cX9_ith 5 (some .int) :: wG) (rm 6) (pW E (w_S_ith E h_t h_t_found x_t_plain x_t_kept x_t_trial x_t_tape x_t_text x_t_sheets x_t_choice c_t_isKept c_t_found) sz [.ref h_t, .int a1, .int a2, .int a3]) (qW (some (.int out.1)) E (w_S_ith E h_t h_t_found x_t_plain x_t_kept x_t_trial x_t_tape x_t_text x_t_sheets x_t_choice c_t_isKept out.2) (va_A (w_S_ith E h_t h_t_found x_t_plain x_t_kept x_t_trial x_t_tape x_t_text x_t_sheets x_t_choice c_t_isKept c_t_found) sz)) 0 0 (va_A (w_S_ith E h_t h_t_found x_t_plain x_t_kept x_t_trial x_t_tape x_t_text x_t_sheets x_t_choice c_t_isKept c_t_found) sz) := by
  refine met_W (by decide) (Nat.le_of_ble_eq_true rfl) ?_
  intro p e s m args below meth c A ls C hP hD hS hA hK hT hl
  obtain ⟨hx, hb, hr, hml, hown, hw, hlocks⟩ := id C
  have hl : lv_has ls 5 [(0, .ref h_t), (1, .int a1), (2, .int a2), (3, .int a3)] := hl
  rw [f_S_ith] at hF
  refine lv_iload_n hx hb dX9_ith_0 rfl (lv_at hl 1 rfl) ?_
  obtain ⟨r2, er2, hF⟩ := kb hF
  refine kRS (rest := []) C (k_Forms_isForm l E a1 r2 er2) fn_Forms_isForm mw_234 ⟨Nat.le_of_ble_eq_true rfl, Nat.le_of_ble_eq_true rfl⟩ hK hT hS hP [] rfl rfl rfl hl (Nat.le_of_ble_eq_true rfl) dX9_ith_1 ?_
  refine lv_if_eq (tgt := 24) hx hb dX9_ith_4 (by decide) (fun q3 => ?_) (fun q3 => ?_)
  · have hF := kp hF q3
    exact wk_S_ith_b24 E h_t h_t_found x_t_plain x_t_kept x_t_trial x_t_tape x_t_text x_t_sheets x_t_choice c_t_isKept a1 a2 a3 C hA  hK hT  c_t_found hF _ _ hP hD hS _ (lv_sub hl [0] rfl)
  · have hF := kn hF q3
    refine lv_iload_n hx hb dX9_ith_7 rfl (lv_at hl 2 rfl) ?_
    refine lv_i2l (v := a2.toInt64) hx hb dX9_ith_8 rfl ?_
    obtain ⟨r4, er4, hF⟩ := kb hF
    refine kRS (rest := []) C (k_Forms_isPoint l E a2.toInt64 r4 er4) fn_Forms_isPoint mw_286 ⟨Nat.le_of_ble_eq_true rfl, Nat.le_of_ble_eq_true rfl⟩ hK hT hS hP [] rfl rfl rfl hl (Nat.le_of_ble_eq_true rfl) dX9_ith_9 ?_
    refine lv_if_eq (tgt := 24) hx hb dX9_ith_12 (by decide) (fun q5 => ?_) (fun q5 => ?_)
    · have hF := kp hF q5
      exact wk_S_ith_b24 E h_t h_t_found x_t_plain x_t_kept x_t_trial x_t_tape x_t_text x_t_sheets x_t_choice c_t_isKept a1 a2 a3 C hA  hK hT  c_t_found hF _ _ hP hD hS _ (lv_sub hl [0] rfl)
    · have hF := kn hF q5
      refine lv_iload_n hx hb dX9_ith_15 rfl (lv_at hl 3 rfl) ?_
      refine lv_bipush (v := (11 : Int32)) hx hb dX9_ith_16 (by decide) ?_
      obtain ⟨r6, er6, hF⟩ := kb hF
      refine kRS (rest := []) C (k_S_isWithin l E a3 (11 : Int32) r6 er6) fn_S_isWithin mw_315 ⟨Nat.le_of_ble_eq_true rfl, Nat.le_of_ble_eq_true rfl⟩ hK hT hS hP [] rfl rfl rfl hl (Nat.le_of_ble_eq_true rfl) dX9_ith_18 ?_
      refine lv_if_ne (tgt := 31) hx hb dX9_ith_21 (by decide) (fun q7 => ?_) (fun q7 => ?_)
      · have hF := kn hF q7
        refine lv_iload_n hx hb dX9_ith_31 rfl (lv_at hl 1 rfl) ?_
        refine lv_iload_n hx hb dX9_ith_32 rfl (lv_at hl 2 rfl) ?_
        refine lv_iload_n hx hb dX9_ith_33 rfl (lv_at hl 3 rfl) ?_
        obtain ⟨r8, er8, hF⟩ := kb hF
        refine kRS (rest := []) C (k_Forms_strokeOfFirstWay l E a1 a2 a3 r8 er8) fn_Forms_strokeOfFirstWay mw_318 ⟨Nat.le_of_ble_eq_true rfl, Nat.le_of_ble_eq_true rfl⟩ hK hT hS hP [] rfl rfl rfl hl (Nat.le_of_ble_eq_true rfl) dX9_ith_34 ?_
        refine lv_istore (lv' := [(4, .int r8), (0, .ref h_t), (1, .int a1), (2, .int a2), (3, .int a3)]) hx hb dX9_ith_37 hl (by decide) rfl (fun ls hl => ?_)
        refine lv_iload hx hb dX9_ith_39 (lv_at hl 0 rfl) ?_
        refine lv_if_ge (tgt := 53) hx hb dX9_ith_41 (by decide) (fun q9 => ?_) (fun q9 => ?_)
        · have hF := kp hF q9
          refine lv_iload hx hb dX9_ith_53 (lv_at hl 0 rfl) ?_
          obtain rfl := Option.some.inj hF
          exact W.iret hx hb hr (fun t ht hW => ⟨⟨rfl, by rw [ht]; exact hP, hD⟩, hS.F ht⟩) hS.2.2 dX9_ith_55
        · have hF := kn hF q9
          refine lv_aload_n hx hb dX9_ith_44 rfl (lv_at hl 1 rfl) ?_
          refine lv_ldc (v := (-1000000004 : Int32)) hx hb hown (hw _ mw_325) dX9_ith_45 ?_
          obtain ⟨r10, er10, hF⟩ := kb hF
          refine kWV (rest := []) (Wr := []) (Wn := (w_S_ith E h_t h_t_found x_t_plain x_t_kept x_t_trial x_t_tape x_t_text x_t_sheets x_t_choice c_t_isKept r10.2)) C (k_S_finding l E h_t h_t_found x_t_plain x_t_kept x_t_trial x_t_tape x_t_text x_t_sheets x_t_choice s.heap.size c_t_isKept c_t_found (-1000000004 : Int32) r10 er10) fn_S_finding mw_238 ⟨Nat.le_of_ble_eq_true rfl, Nat.le_of_ble_eq_true rfl⟩ hK hT hS hA (va_recv hK hP (ci := 7) (q0 := 0) rfl rfl) hP hD [0, 1] rfl (by decide) [] rfl (by decide) (by decide) [0, 1] rfl (by decide) rfl rfl hl (Nat.le_of_ble_eq_true rfl) dX9_ith_47 (fun H locs hP hD hS => ?_)
          refine W.eq (g2 := F0 m 50 ls [.int r10.1]) rfl ?_
          refine lv_goto (tgt := 55) hx hb dX9_ith_50 (by decide) ?_
          obtain rfl := Option.some.inj hF
          exact W.iret hx hb hr (fun t ht hW => ⟨⟨rfl, by rw [ht]; exact hP, hD⟩, hS.F ht⟩) hS.2.2 dX9_ith_55
      · have hF := kp hF q7
        exact wk_S_ith_b24 E h_t h_t_found x_t_plain x_t_kept x_t_trial x_t_tape x_t_text x_t_sheets x_t_choice c_t_isKept a1 a2 a3 C hA  hK hT  c_t_found hF _ _ hP hD hS _ (lv_sub hl [0] rfl)
abbrev w_S_again (E : kE) (h_t : Nat) (h_t_found : Nat) (x_t_plain : Nat) (x_t_kept : Nat) (x_t_trial : Nat) (x_t_tape : Nat) (x_t_text : Nat) (x_t_sheets : Nat) (x_t_choice : Nat) (c_t_isKept : Int32) (c_t_found : (Nat → Int32)) : va_W := [(h_t, .inr (7, [.ref x_t_plain, .ref x_t_kept, .ref x_t_trial, .ref x_t_tape, .ref x_t_text, .ref x_t_sheets, .ref x_t_choice, .ref h_t_found, .int c_t_isKept])), (h_t_found, .inl (eI E, 7, .inl c_t_found))]
set_option maxHeartbeats 4000000 in
set_option maxRecDepth 100000 in
theorem k_S_again (l : Launch) (E : kE) (h_t : Nat) (h_t_found : Nat) (x_t_plain : Nat) (x_t_kept : Nat) (x_t_trial : Nat) (x_t_tape : Nat) (x_t_text : Nat) (x_t_sheets : Nat) (x_t_choice : Nat) (sz : Nat) (c_t_isKept : Int32) (c_t_found : (Nat → Int32)) (a1 : Int32) (out : Int32 × (Nat → Int32)) (hF : f_S_again c_t_found a1 = some out) : Met l yX9_again (Cond.code yX9_again cX9_again 2 (some .int) :: wG) (rm 3) (pW E (w_S_again E h_t h_t_found x_t_plain x_t_kept x_t_trial x_t_tape x_t_text x_t_sheets x_t_choice c_t_isKept c_t_found) sz [.ref h_t, .int a1]) (qW (some (.int out.1)) E (w_S_again E h_t h_t_found x_t_plain x_t_kept x_t_trial x_t_tape x_t_text x_t_sheets x_t_choice c_t_isKept out.2) (va_A (w_S_again E h_t h_t_found x_t_plain x_t_kept x_t_trial x_t_tape x_t_text x_t_sheets x_t_choice c_t_isKept c_t_found) sz)) 0 0 (va_A (w_S_again E h_t h_t_found x_t_plain x_t_kept x_t_trial x_t_tape x_t_text x_t_sheets x_t_choice c_t_isKept c_t_found) sz) := by
  refine met_W (by decide) (Nat.le_of_ble_eq_true rfl) ?_
  intro p e s m args below meth c A ls C hP hD hS hA hK hT hl
  obtain ⟨hx, hb, hr, hml, hown, hw, hlocks⟩ := id C
  have hl : lv_has ls 2 [(0, .ref h_t), (1, .int a1)] := hl
  rw [f_S_again] at hF
  refine lv_iload_n hx hb dX9_again_0 rfl (lv_at hl 1 rfl) ?_
  obtain ⟨r1, er1, hF⟩ := kb hF
  refine kRS (rest := []) C (k_Forms_isForm l E a1 r1 er1) fn_Forms_isForm mw_234 ⟨Nat.le_of_ble_eq_true rfl, Nat.le_of_ble_eq_true rfl⟩ hK hT hS hP [] rfl rfl rfl hl (Nat.le_of_ble_eq_true rfl) dX9_again_1 ?_
  refine lv_if_ne (tgt := 14) hx hb dX9_again_4 (by decide) (fun q2 => ?_) (fun q2 => ?_)
  · have hF := kn hF q2
    refine lv_iload_n hx hb dX9_again_14 rfl (lv_at hl 1 rfl) ?_
    obtain ⟨r3, er3, hF⟩ := kb hF
    refine kRS (rest := []) C (k_Forms_countPieces l E a1 r3 er3) fn_Forms_countPieces mw_251 ⟨Nat.le_of_ble_eq_true rfl, Nat.le_of_ble_eq_true rfl⟩ hK hT hS hP [] rfl rfl rfl hl (Nat.le_of_ble_eq_true rfl) dX9_again_15 ?_
    refine lv_iconst (v := (1 : Int32)) hx hb dX9_again_18 (by decide) ?_
    refine lv_icmp_le (tgt := 29) hx hb dX9_again_19 (by decide) (fun q4 => ?_) (fun q4 => ?_)
    · have hF := kp hF q4
      refine lv_iload_n hx hb dX9_again_29 rfl (lv_at hl 1 rfl) ?_
      obtain ⟨r5, er5, hF⟩ := kb hF
      refine kRS (rest := []) C (k_Forms_fewestToClose l E a1 r5 er5) fn_Forms_fewestToClose mw_330 ⟨Nat.le_of_ble_eq_true rfl, Nat.le_of_ble_eq_true rfl⟩ hK hT hS hP [] rfl rfl rfl hl (Nat.le_of_ble_eq_true rfl) dX9_again_30 ?_
      obtain rfl := Option.some.inj hF
      exact W.iret hx hb hr (fun t ht hW => ⟨⟨rfl, by rw [ht]; exact hP, hD⟩, hS.F ht⟩) hS.2.2 dX9_again_33
    · have hF := kn hF q4
      refine lv_aload_n hx hb dX9_again_22 rfl (lv_at hl 0 rfl) ?_
      refine lv_ldc (v := (-1000000004 : Int32)) hx hb hown (hw _ mw_325) dX9_again_23 ?_
      obtain ⟨r6, er6, hF⟩ := kb hF
      refine kWV (rest := []) (Wr := []) (Wn := (w_S_again E h_t h_t_found x_t_plain x_t_kept x_t_trial x_t_tape x_t_text x_t_sheets x_t_choice c_t_isKept r6.2)) C (k_S_finding l E h_t h_t_found x_t_plain x_t_kept x_t_trial x_t_tape x_t_text x_t_sheets x_t_choice s.heap.size c_t_isKept c_t_found (-1000000004 : Int32) r6 er6) fn_S_finding mw_238 ⟨Nat.le_of_ble_eq_true rfl, Nat.le_of_ble_eq_true rfl⟩ hK hT hS hA (va_recv hK hP (ci := 7) (q0 := 0) rfl rfl) hP hD [0, 1] rfl (by decide) [] rfl (by decide) (by decide) [0, 1] rfl (by decide) rfl rfl hl (Nat.le_of_ble_eq_true rfl) dX9_again_25 (fun H locs hP hD hS => ?_)
      refine W.eq (g2 := F0 m 28 ls [.int r6.1]) rfl ?_
      obtain rfl := Option.some.inj hF
      exact W.iret hx hb hr (fun t ht hW => ⟨⟨rfl, by rw [ht]; exact hP, hD⟩, hS.F ht⟩) hS.2.2 dX9_again_28
  · have hF := kp hF q2
    refine lv_aload_n hx hb dX9_again_7 rfl (lv_at hl 0 rfl) ?_
    refine lv_ldc (v := (-1000000001 : Int32)) hx hb hown (hw _ mw_237) dX9_again_8 ?_
    obtain ⟨r7, er7, hF⟩ := kb hF
    refine kWV (rest := []) (Wr := []) (Wn := (w_S_again E h_t h_t_found x_t_plain x_t_kept x_t_trial x_t_tape x_t_text x_t_sheets x_t_choice c_t_isKept r7.2)) C (k_S_finding l E h_t h_t_found x_t_plain x_t_kept x_t_trial x_t_tape x_t_text x_t_sheets x_t_choice s.heap.size c_t_isKept c_t_found (-1000000001 : Int32) r7 er7) fn_S_finding mw_238 ⟨Nat.le_of_ble_eq_true rfl, Nat.le_of_ble_eq_true rfl⟩ hK hT hS hA (va_recv hK hP (ci := 7) (q0 := 0) rfl rfl) hP hD [0, 1] rfl (by decide) [] rfl (by decide) (by decide) [0, 1] rfl (by decide) rfl rfl hl (Nat.le_of_ble_eq_true rfl) dX9_again_10 (fun H locs hP hD hS => ?_)
    refine W.eq (g2 := F0 m 13 ls [.int r7.1]) rfl ?_
    obtain rfl := Option.some.inj hF
    exact W.iret hx hb hr (fun t ht hW => ⟨⟨rfl, by rw [ht]; exact hP, hD⟩, hS.F ht⟩) hS.2.2 dX9_again_13
abbrev w_S_turned (E : kE) (h_t : Nat) (h_t_found : Nat) (x_t_plain : Nat) (x_t_kept : Nat) (x_t_trial : Nat) (x_t_tape : Nat) (x_t_text : Nat) (x_t_sheets : Nat) (x_t_choice : Nat) (c_t_isKept : Int32) (c_t_found : (Nat → Int32)) : va_W := [(h_t, .inr (7, [.ref x_t_plain, .ref x_t_kept, .ref x_t_trial, .ref x_t_tape, .ref x_t_text, .ref x_t_sheets, .ref x_t_choice, .ref h_t_found, .int c_t_isKept])), (h_t_found, .inl (eI E, 7, .inl c_t_found))]
set_option maxHeartbeats 4000000 in
set_option maxRecDepth 100000 in
theorem wk_S_turned_b15 {p : Program} {l : Launch} {e : Env} {s : State} {m : MethodId} {args : Array Value} {below : List Frame} {meth : Method} {c : Code} {A : Nat → Prop} (E : kE) (h_t : Nat) (h_t_found : Nat) (x_t_plain : Nat) (x_t_kept : Nat) (x_t_trial : Nat) (x_t_tape : Nat) (x_t_text : Nat) (x_t_sheets : Nat) (x_t_choice : Nat) (c_t_isKept : Int32) (a1 : Int32) (a2 : Int32) {out : Int32 × (Nat → Int32)} (C : kC RX9 cX9_turned 5 (some .int) p s m args meth c) (hA : ∀ q : Nat, s.heap.size ≤ q → A q) (hK : va_K (eD E) vwCl (eT E) s) (hT : sT E A s s.heap)  :
    ∀ (c_t_found : (Nat → Int32)), f_S_turned_b15  a1 a2 c_t_found = some out → ∀ (H : Heap) (locs : List Loc), va_P (eD E) vwCl (w_S_turned E h_t h_t_found x_t_plain x_t_kept x_t_trial x_t_tape x_t_text x_t_sheets x_t_choice c_t_isKept c_t_found) H → va_D A (w_S_turned E h_t h_t_found x_t_plain x_t_kept x_t_trial x_t_tape x_t_text x_t_sheets x_t_choice c_t_isKept c_t_found) → va_S A s.heap H locs → ∀ (ls : Array Slot), lv_has ls 5 [(0, .ref h_t)] → W p l e (rm 3) s m args below meth c H locs 0 0 (MQ below (qW (some (.int out.1)) E (w_S_turned E h_t h_t_found x_t_plain x_t_kept x_t_trial x_t_tape x_t_text x_t_sheets x_t_choice c_t_isKept out.2) A) args s 0 0 A) (F0 m 15 ls []) := by
  obtain ⟨hx, hb, hr, hml, hown, hw, hlocks⟩ := id C
  intro c_t_found hF H locs hP hD hS ls hl
  rw [f_S_turned_b15] at hF
  refine lv_aload_n hx hb dX9_turned_15 rfl (lv_at hl 0 rfl) ?_
  refine lv_ldc (v := (-1000000001 : Int32)) hx hb hown (hw _ mw_237) dX9_turned_16 ?_
  obtain ⟨r1, er1, hF⟩ := kb hF
  refine kWV (rest := []) (Wr := []) (Wn := (w_S_turned E h_t h_t_found x_t_plain x_t_kept x_t_trial x_t_tape x_t_text x_t_sheets x_t_choice c_t_isKept r1.2)) C (k_S_finding l E h_t h_t_found x_t_plain x_t_kept x_t_trial x_t_tape x_t_text x_t_sheets x_t_choice H.size c_t_isKept c_t_found (-1000000001 : Int32) r1 er1) fn_S_finding mw_238 ⟨Nat.le_of_ble_eq_true rfl, Nat.le_of_ble_eq_true rfl⟩ hK hT hS hA (va_recv hK hP (ci := 7) (q0 := 0) rfl rfl) hP hD [0, 1] rfl (by decide) [] rfl (by decide) (by decide) [0, 1] rfl (by decide) rfl rfl hl (Nat.le_of_ble_eq_true rfl) dX9_turned_18 (fun H locs hP hD hS => ?_)
  refine W.eq (g2 := F0 m 21 ls [.int r1.1]) rfl ?_
  obtain rfl := Option.some.inj hF
  exact W.iret hx hb hr (fun t ht hW => ⟨⟨rfl, by rw [ht]; exact hP, hD⟩, hS.F ht⟩) hS.2.2 dX9_turned_21
set_option maxHeartbeats 4000000 in
set_option maxRecDepth 100000 in
theorem wk_S_turned_b27 {p : Program} {l : Launch} {e : Env} {s : State} {m : MethodId} {args : Array Value} {below : List Frame} {meth : Method} {c : Code} {A : Nat → Prop} (E : kE) (h_t : Nat) (h_t_found : Nat) (x_t_plain : Nat) (x_t_kept : Nat) (x_t_trial : Nat) (x_t_tape : Nat) (x_t_text : Nat) (x_t_sheets : Nat) (x_t_choice : Nat) (c_t_isKept : Int32) (a1 : Int32) (a2 : Int32) {out : Int32 × (Nat → Int32)} (C : kC RX9 cX9_turned 5 (some .int) p s m args meth c) (hA : ∀ q : Nat, s.heap.size ≤ q → A q) (hK : va_K (eD E) vwCl (eT E) s) (hT : sT E A s s.heap)  :
    ∀ (n : Nat), ∀ (c_t_found : (Nat → Int32)) (v3 : Int32) (v4 : Int32), f_S_turned_b27  a1 a2 n c_t_found v3 v4 = some out → ∀ (H : Heap) (locs : List Loc), va_P (eD E) vwCl (w_S_turned E h_t h_t_found x_t_plain x_t_kept x_t_trial x_t_tape x_t_text x_t_sheets x_t_choice c_t_isKept c_t_found) H → va_D A (w_S_turned E h_t h_t_found x_t_plain x_t_kept x_t_trial x_t_tape x_t_text x_t_sheets x_t_choice c_t_isKept c_t_found) → va_S A s.heap H locs → ∀ (ls : Array Slot), lv_has ls 5 [(2, .int a2), (3, .int v3), (4, .int v4)] → W p l e (rm 3) s m args below meth c H locs 0 0 (MQ below (qW (some (.int out.1)) E (w_S_turned E h_t h_t_found x_t_plain x_t_kept x_t_trial x_t_tape x_t_text x_t_sheets x_t_choice c_t_isKept out.2) A) args s 0 0 A) (F0 m 27 ls []) := by
  obtain ⟨hx, hb, hr, hml, hown, hw, hlocks⟩ := id C
  intro n
  induction n with
  | zero =>
    intro c_t_found v3 v4 hF
    exact absurd (show (none : Option (Int32 × (Nat → Int32))) = some out from hF) nofun
  | succ n ih =>
    intro c_t_found v3 v4 hF H locs hP hD hS ls hl
    rw [f_S_turned_b27] at hF
    refine lv_iload hx hb dX9_turned_27 (lv_at hl 2 rfl) ?_
    refine lv_iload_n hx hb dX9_turned_29 rfl (lv_at hl 0 rfl) ?_
    refine lv_icmp_ge (tgt := 44) hx hb dX9_turned_30 (by decide) (fun q2 => ?_) (fun q2 => ?_)
    · have hF := kp hF q2
      refine lv_iload_n hx hb dX9_turned_44 rfl (lv_at hl 1 rfl) ?_
      obtain rfl := Option.some.inj hF
      exact W.iret hx hb hr (fun t ht hW => ⟨⟨rfl, by rw [ht]; exact hP, hD⟩, hS.F ht⟩) hS.2.2 dX9_turned_45
    · have hF := kn hF q2
      refine lv_iload_n hx hb dX9_turned_33 rfl (lv_at hl 1 rfl) ?_
      obtain ⟨r3, er3, hF⟩ := kb hF
      refine kRS (rest := []) C (k_Forms_byAQuarter l E v3 r3 er3) fn_Forms_byAQuarter mw_340 ⟨Nat.le_of_ble_eq_true rfl, Nat.le_of_ble_eq_true rfl⟩ hK hT hS hP [] rfl rfl rfl hl (Nat.le_of_ble_eq_true rfl) dX9_turned_34 ?_
      refine lv_istore_n (lv' := [(3, .int r3), (2, .int a2), (4, .int v4)]) hx hb dX9_turned_37 rfl hl (by decide) rfl (fun ls hl => ?_)
      refine lv_iinc (v := (v4 + (1))) (lv' := [(4, .int (v4 + (1))), (3, .int r3), (2, .int a2)]) hx hb dX9_turned_38 hl (k := 2) rfl rfl (by decide) rfl (fun ls hl => ?_)
      refine lv_goto (tgt := 27) hx hb dX9_turned_41 (by decide) ?_
      exact ih c_t_found r3 (v4 + (1)) hF _ _ hP hD hS _ (lv_sub hl [2, 1, 0] rfl)
set_option maxHeartbeats 4000000 in
set_option maxRecDepth 100000 in
theorem k_S_turned (l : Launch) (E : kE) (h_t : Nat) (h_t_found : Nat) (x_t_plain : Nat) (x_t_kept : Nat) (x_t_trial : Nat) (x_t_tape : Nat) (x_t_text : Nat) (x_t_sheets : Nat) (x_t_choice : Nat) (sz : Nat) (c_t_isKept : Int32) (c_t_found : (Nat → Int32)) (a1 : Int32) (a2 : Int32) (out : Int32 × (Nat → Int32)) (hF : f_S_turned c_t_found a1 a2 = some out) : Met l yX9_turned (Cond.code yX9_turned cX9_turned 5 (some .int) :: wG) (rm 3) (pW E (w_S_turned E h_t h_t_found x_t_plain x_t_kept x_t_trial x_t_tape x_t_text x_t_sheets x_t_choice c_t_isKept c_t_found) sz [.ref h_t, .int a1, .int a2]) (qW (some (.int out.1)) E (w_S_turned E h_t h_t_found x_t_plain x_t_kept x_t_trial x_t_tape x_t_text x_t_sheets x_t_choice c_t_isKept out.2) (va_A (w_S_turned E h_t h_t_found x_t_plain x_t_kept x_t_trial x_t_tape x_t_text x_t_sheets x_t_choice c_t_isKept c_t_found) sz)) 0 0 (va_A (w_S_turned E h_t h_t_found x_t_plain x_t_kept x_t_trial x_t_tape x_t_text x_t_sheets x_t_choice c_t_isKept c_t_found) sz) := by
  refine met_W (by decide) (Nat.le_of_ble_eq_true rfl) ?_
  intro p e s m args below meth c A ls C hP hD hS hA hK hT hl
  obtain ⟨hx, hb, hr, hml, hown, hw, hlocks⟩ := id C
  have hl : lv_has ls 5 [(0, .ref h_t), (1, .int a1), (2, .int a2)] := hl
  rw [f_S_turned] at hF
  refine lv_iload_n hx hb dX9_turned_0 rfl (lv_at hl 1 rfl) ?_
  obtain ⟨r4, er4, hF⟩ := kb hF
  refine kRS (rest := []) C (k_Forms_isForm l E a1 r4 er4) fn_Forms_isForm mw_234 ⟨Nat.le_of_ble_eq_true rfl, Nat.le_of_ble_eq_true rfl⟩ hK hT hS hP [] rfl rfl rfl hl (Nat.le_of_ble_eq_true rfl) dX9_turned_1 ?_
  refine lv_if_eq (tgt := 15) hx hb dX9_turned_4 (by decide) (fun q5 => ?_) (fun q5 => ?_)
  · have hF := kp hF q5
    exact wk_S_turned_b15 E h_t h_t_found x_t_plain x_t_kept x_t_trial x_t_tape x_t_text x_t_sheets x_t_choice c_t_isKept a1 a2 C hA  hK hT  c_t_found hF _ _ hP hD hS _ (lv_sub hl [0] rfl)
  · have hF := kn hF q5
    refine lv_iload_n hx hb dX9_turned_7 rfl (lv_at hl 2 rfl) ?_
    refine lv_iconst (v := (3 : Int32)) hx hb dX9_turned_8 (by decide) ?_
    obtain ⟨r6, er6, hF⟩ := kb hF
    refine kRS (rest := []) C (k_S_isWithin l E a2 (3 : Int32) r6 er6) fn_S_isWithin mw_315 ⟨Nat.le_of_ble_eq_true rfl, Nat.le_of_ble_eq_true rfl⟩ hK hT hS hP [] rfl rfl rfl hl (Nat.le_of_ble_eq_true rfl) dX9_turned_9 ?_
    refine lv_if_ne (tgt := 22) hx hb dX9_turned_12 (by decide) (fun q7 => ?_) (fun q7 => ?_)
    · have hF := kn hF q7
      refine lv_iload_n hx hb dX9_turned_22 rfl (lv_at hl 1 rfl) ?_
      refine lv_istore_n (lv' := [(3, .int a1), (0, .ref h_t), (1, .int a1), (2, .int a2)]) hx hb dX9_turned_23 rfl hl (by decide) rfl (fun ls hl => ?_)
      refine lv_iconst (v := (0 : Int32)) hx hb dX9_turned_24 (by decide) ?_
      refine lv_istore (lv' := [(4, .int (0 : Int32)), (3, .int a1), (0, .ref h_t), (1, .int a1), (2, .int a2)]) hx hb dX9_turned_25 hl (by decide) rfl (fun ls hl => ?_)
      exact wk_S_turned_b27 E h_t h_t_found x_t_plain x_t_kept x_t_trial x_t_tape x_t_text x_t_sheets x_t_choice c_t_isKept a1 a2 C hA  hK hT  5000 c_t_found a1 (0 : Int32) hF _ _ hP hD hS _ (lv_sub hl [4, 1, 0] rfl)
    · have hF := kp hF q7
      exact wk_S_turned_b15 E h_t h_t_found x_t_plain x_t_kept x_t_trial x_t_tape x_t_text x_t_sheets x_t_choice c_t_isKept a1 a2 C hA  hK hT  c_t_found hF _ _ hP hD hS _ (lv_sub hl [0] rfl)
abbrev w_S_sign (E : kE) (h_t : Nat) (h_t_found : Nat) (h_t_plain : Nat) (h_t_plain_book : Nat) (h_t_plain_book_forms : Nat) (x_t_kept : Nat) (x_t_trial : Nat) (x_t_tape : Nat) (x_t_text : Nat) (x_t_sheets : Nat) (x_t_choice : Nat) (x_t_plain_kinds : Nat) (x_t_plain_forms : Nat) (x_t_plain_deeps : Nat) (c_t_isKept : Int32) (c_t_found : (Nat → Int32)) (c_t_plain_size : Int32) (c_t_plain_hour : Int32) (c_t_plain_sunny : Int32) (c_t_plain_book_forms : (Nat → Int32)) : va_W := [(h_t, .inr (7, [.ref h_t_plain, .ref x_t_kept, .ref x_t_trial, .ref x_t_tape, .ref x_t_text, .ref x_t_sheets, .ref x_t_choice, .ref h_t_found, .int c_t_isKept])), (h_t_found, .inl (eI E, 7, .inl c_t_found)), (h_t_plain, .inr (3, [.ref h_t_plain_book, .ref x_t_plain_kinds, .ref x_t_plain_forms, .ref x_t_plain_deeps, .int c_t_plain_size, .int c_t_plain_hour, .int c_t_plain_sunny])), (h_t_plain_book, .inr (0, [.ref h_t_plain_book_forms])), (h_t_plain_book_forms, .inl (eI E, 26, .inl c_t_plain_book_forms))]
set_option maxHeartbeats 4000000 in
set_option maxRecDepth 100000 in
theorem wk_S_sign_b14 {p : Program} {l : Launch} {e : Env} {s : State} {m : MethodId} {args : Array Value} {below : List Frame} {meth : Method} {c : Code} {A : Nat → Prop} (E : kE) (h_t : Nat) (h_t_found : Nat) (h_t_plain : Nat) (h_t_plain_book : Nat) (h_t_plain_book_forms : Nat) (x_t_kept : Nat) (x_t_trial : Nat) (x_t_tape : Nat) (x_t_text : Nat) (x_t_sheets : Nat) (x_t_choice : Nat) (x_t_plain_kinds : Nat) (x_t_plain_forms : Nat) (x_t_plain_deeps : Nat) (c_t_isKept : Int32) (c_t_plain_size : Int32) (c_t_plain_hour : Int32) (c_t_plain_sunny : Int32) (a1 : Int32) (a2 : Int32) {out : Int32 × (Nat → Int32) × (Nat → Int32)} (C : kC RX9 cX9_sign 4 (some .int) p s m args meth c) (hA : ∀ q : Nat, s.heap.size ≤ q → A q) (hK : va_K (eD E) vwCl (eT E) s) (hT : sT E A s s.heap)  :
    ∀ (c_t_found : (Nat → Int32)) (c_t_plain_book_forms : (Nat → Int32)), f_S_sign_b14  a1 a2 c_t_found c_t_plain_book_forms = some out → ∀ (H : Heap) (locs : List Loc), va_P (eD E) vwCl (w_S_sign E h_t h_t_found h_t_plain h_t_plain_book h_t_plain_book_forms x_t_kept x_t_trial x_t_tape x_t_text x_t_sheets x_t_choice x_t_plain_kinds x_t_plain_forms x_t_plain_deeps c_t_isKept c_t_found c_t_plain_size c_t_plain_hour c_t_plain_sunny c_t_plain_book_forms) H → va_D A (w_S_sign E h_t h_t_found h_t_plain h_t_plain_book h_t_plain_book_forms x_t_kept x_t_trial x_t_tape x_t_text x_t_sheets x_t_choice x_t_plain_kinds x_t_plain_forms x_t_plain_deeps c_t_isKept c_t_found c_t_plain_size c_t_plain_hour c_t_plain_sunny c_t_plain_book_forms) → va_S A s.heap H locs → ∀ (ls : Array Slot), lv_has ls 4 [(0, .ref h_t)] → W p l e (rm 3) s m args below meth c H locs 0 0 (MQ below (qW (some (.int out.1)) E (w_S_sign E h_t h_t_found h_t_plain h_t_plain_book h_t_plain_book_forms x_t_kept x_t_trial x_t_tape x_t_text x_t_sheets x_t_choice x_t_plain_kinds x_t_plain_forms x_t_plain_deeps c_t_isKept out.2.1 c_t_plain_size c_t_plain_hour c_t_plain_sunny out.2.2) A) args s 0 0 A) (F0 m 14 ls []) := by
  obtain ⟨hx, hb, hr, hml, hown, hw, hlocks⟩ := id C
  intro c_t_found c_t_plain_book_forms hF H locs hP hD hS ls hl
  rw [f_S_sign_b14] at hF
  refine lv_aload_n hx hb dX9_sign_14 rfl (lv_at hl 0 rfl) ?_
  refine lv_ldc (v := (-1000000001 : Int32)) hx hb hown (hw _ mw_237) dX9_sign_15 ?_
  obtain ⟨r1, er1, hF⟩ := kb hF
  refine kWV (rest := []) (Wr := [(h_t_plain, .inr (3, [.ref h_t_plain_book, .ref x_t_plain_kinds, .ref x_t_plain_forms, .ref x_t_plain_deeps, .int c_t_plain_size, .int c_t_plain_hour, .int c_t_plain_sunny])), (h_t_plain_book, .inr (0, [.ref h_t_plain_book_forms])), (h_t_plain_book_forms, .inl (eI E, 26, .inl c_t_plain_book_forms))]) (Wn := (w_S_sign E h_t h_t_found h_t_plain h_t_plain_book h_t_plain_book_forms x_t_kept x_t_trial x_t_tape x_t_text x_t_sheets x_t_choice x_t_plain_kinds x_t_plain_forms x_t_plain_deeps c_t_isKept r1.2 c_t_plain_size c_t_plain_hour c_t_plain_sunny c_t_plain_book_forms)) C (k_S_finding l E h_t h_t_found h_t_plain x_t_kept x_t_trial x_t_tape x_t_text x_t_sheets x_t_choice H.size c_t_isKept c_t_found (-1000000001 : Int32) r1 er1) fn_S_finding mw_238 ⟨Nat.le_of_ble_eq_true rfl, Nat.le_of_ble_eq_true rfl⟩ hK hT hS hA (va_recv hK hP (ci := 7) (q0 := 0) rfl rfl) hP hD [0, 1] rfl (by decide) [2, 3, 4] rfl (by decide) (by decide) [3, 4, 0, 1, 2] rfl (by decide) rfl rfl hl (Nat.le_of_ble_eq_true rfl) dX9_sign_17 (fun H locs hP hD hS => ?_)
  refine W.eq (g2 := F0 m 20 ls [.int r1.1]) rfl ?_
  obtain rfl := Option.some.inj hF
  exact W.iret hx hb hr (fun t ht hW => ⟨⟨rfl, by rw [ht]; exact hP, hD⟩, hS.F ht⟩) hS.2.2 dX9_sign_20
set_option maxHeartbeats 4000000 in
set_option maxRecDepth 100000 in
theorem k_S_sign (l : Launch) (E : kE) (h_t : Nat) (h_t_found : Nat) (h_t_plain : Nat) (h_t_plain_book : Nat) (h_t_plain_book_forms : Nat) (x_t_kept : Nat) (x_t_trial : Nat) (x_t_tape : Nat) (x_t_text : Nat) (x_t_sheets : Nat) (x_t_choice : Nat) (x_t_plain_kinds : Nat) (x_t_plain_forms : Nat) (x_t_plain_deeps : Nat) (sz : Nat) (c_t_isKept : Int32) (c_t_found : (Nat → Int32)) (c_t_plain_size : Int32) (c_t_plain_hour : Int32) (c_t_plain_sunny : Int32) (c_t_plain_book_forms : (Nat → Int32)) (a1 : Int32) (a2 : Int32) (out : Int32 × (Nat → Int32) × (Nat → Int32)) (hF : f_S_sign c_t_found c_t_plain_book_forms a1 a2 = some out) : Met l yX9_sign (Cond.code yX9_sign cX9_sign 4 (some .int) :: wG) (rm 3) (pW E (w_S_sign E h_t h_t_found h_t_plain h_t_plain_book h_t_plain_book_forms x_t_kept x_t_trial x_t_tape x_t_text x_t_sheets x_t_choice x_t_plain_kinds x_t_plain_forms x_t_plain_deeps c_t_isKept c_t_found c_t_plain_size c_t_plain_hour c_t_plain_sunny c_t_plain_book_forms) sz [.ref h_t, .int a1, .int a2]) (qW (some (.int out.1)) E (w_S_sign E h_t h_t_found h_t_plain h_t_plain_book h_t_plain_book_forms x_t_kept x_t_trial x_t_tape x_t_text x_t_sheets x_t_choice x_t_plain_kinds x_t_plain_forms x_t_plain_deeps c_t_isKept out.2.1 c_t_plain_size c_t_plain_hour c_t_plain_sunny out.2.2) (va_A (w_S_sign E h_t h_t_found h_t_plain h_t_plain_book h_t_plain_book_forms x_t_kept x_t_trial x_t_tape x_t_text x_t_sheets x_t_choice x_t_plain_kinds x_t_plain_forms x_t_plain_deeps c_t_isKept c_t_found c_t_plain_size c_t_plain_hour c_t_plain_sunny c_t_plain_book_forms) sz)) 0 0 (va_A (w_S_sign E h_t h_t_found h_t_plain h_t_plain_book h_t_plain_book_forms x_t_kept x_t_trial x_t_tape x_t_text x_t_sheets x_t_choice x_t_plain_kinds x_t_plain_forms x_t_plain_deeps c_t_isKept c_t_found c_t_plain_size c_t_plain_hour c_t_plain_sunny c_t_plain_book_forms) sz) := by
  refine met_W (by decide) (Nat.le_of_ble_eq_true rfl) ?_
  intro p e s m args below meth c A ls C hP hD hS hA hK hT hl
  obtain ⟨hx, hb, hr, hml, hown, hw, hlocks⟩ := id C
  have hl : lv_has ls 4 [(0, .ref h_t), (1, .int a1), (2, .int a2)] := hl
  rw [f_S_sign] at hF
  refine lv_iload_n hx hb dX9_sign_0 rfl (lv_at hl 1 rfl) ?_
  obtain ⟨r2, er2, hF⟩ := kb hF
  refine kRS (rest := []) C (k_Book_isSign l E a1 r2 er2) fn_Book_isSign mw_349 ⟨Nat.le_of_ble_eq_true rfl, Nat.le_of_ble_eq_true rfl⟩ hK hT hS hP [] rfl rfl rfl hl (Nat.le_of_ble_eq_true rfl) dX9_sign_1 ?_
  refine lv_if_eq (tgt := 14) hx hb dX9_sign_4 (by decide) (fun q3 => ?_) (fun q3 => ?_)
  · have hF := kp hF q3
    exact wk_S_sign_b14 E h_t h_t_found h_t_plain h_t_plain_book h_t_plain_book_forms x_t_kept x_t_trial x_t_tape x_t_text x_t_sheets x_t_choice x_t_plain_kinds x_t_plain_forms x_t_plain_deeps c_t_isKept c_t_plain_size c_t_plain_hour c_t_plain_sunny a1 a2 C hA  hK hT  c_t_found c_t_plain_book_forms hF _ _ hP hD hS _ (lv_sub hl [0] rfl)
  · have hF := kn hF q3
    refine lv_iload_n hx hb dX9_sign_7 rfl (lv_at hl 2 rfl) ?_
    obtain ⟨r4, er4, hF⟩ := kb hF
    refine kRS (rest := []) C (k_Forms_isForm l E a2 r4 er4) fn_Forms_isForm mw_234 ⟨Nat.le_of_ble_eq_true rfl, Nat.le_of_ble_eq_true rfl⟩ hK hT hS hP [] rfl rfl rfl hl (Nat.le_of_ble_eq_true rfl) dX9_sign_8 ?_
    refine lv_if_ne (tgt := 21) hx hb dX9_sign_11 (by decide) (fun q5 => ?_) (fun q5 => ?_)
    · have hF := kn hF q5
      refine lv_aload_n hx hb dX9_sign_21 rfl (lv_at hl 0 rfl) ?_
      refine va_get (D := eD E) (ci := 7) (C := RX9) (T := TX9) (N := 9) (v := .ref h_t_plain) hx hb hw inX9 hown hK hP 0 rfl rfl 0 (by decide) (hw _ mw_202) (fun _ h9 => h9) rfl dX9_sign_22 ?_
      refine va_getN (D := eD E) (ci := 3) (C := RX5) (T := TX5) (N := 7) (v := .ref h_t_plain_book) hx hb hw inX5 hown hK hP 2 rfl rfl 0 (by decide) ((sF_1 hT).use rfl) (fun _ h9 => h9) rfl dX9_sign_25 ?_
      refine lv_iload_n hx hb dX9_sign_28 rfl (lv_at hl 1 rfl) ?_
      obtain ⟨r6, er6, hF⟩ := kb hF
      refine kRV (rest := []) C (k_Book_formAt l E h_t_plain_book h_t_plain_book_forms c_t_plain_book_forms a1 r6 er6) fn_Book_formAt mw_352 ⟨Nat.le_of_ble_eq_true rfl, Nat.le_of_ble_eq_true rfl⟩ hK hT hS (va_recv hK hP (ci := 0) (q0 := 3) rfl rfl) hP [3, 4] rfl rfl rfl hl (Nat.le_of_ble_eq_true rfl) dX9_sign_29 ?_
      refine lv_istore_n (lv' := [(3, .int r6), (0, .ref h_t), (1, .int a1), (2, .int a2)]) hx hb dX9_sign_32 rfl hl (by decide) rfl (fun ls hl => ?_)
      refine lv_aload_n hx hb dX9_sign_33 rfl (lv_at hl 1 rfl) ?_
      refine va_get (D := eD E) (ci := 7) (C := RX9) (T := TX9) (N := 9) (v := .ref h_t_plain) hx hb hw inX9 hown hK hP 0 rfl rfl 0 (by decide) (hw _ mw_202) (fun _ h9 => h9) rfl dX9_sign_34 ?_
      refine va_getN (D := eD E) (ci := 3) (C := RX5) (T := TX5) (N := 7) (v := .ref h_t_plain_book) hx hb hw inX5 hown hK hP 2 rfl rfl 0 (by decide) ((sF_1 hT).use rfl) (fun _ h9 => h9) rfl dX9_sign_37 ?_
      refine lv_iload_n hx hb dX9_sign_40 rfl (lv_at hl 2 rfl) ?_
      refine lv_iload_n hx hb dX9_sign_41 rfl (lv_at hl 3 rfl) ?_
      obtain ⟨r7, er7, hF⟩ := kb hF
      refine kWV (rest := []) (Wr := [(h_t, .inr (7, [.ref h_t_plain, .ref x_t_kept, .ref x_t_trial, .ref x_t_tape, .ref x_t_text, .ref x_t_sheets, .ref x_t_choice, .ref h_t_found, .int c_t_isKept])), (h_t_found, .inl (eI E, 7, .inl c_t_found)), (h_t_plain, .inr (3, [.ref h_t_plain_book, .ref x_t_plain_kinds, .ref x_t_plain_forms, .ref x_t_plain_deeps, .int c_t_plain_size, .int c_t_plain_hour, .int c_t_plain_sunny]))]) (Wn := (w_S_sign E h_t h_t_found h_t_plain h_t_plain_book h_t_plain_book_forms x_t_kept x_t_trial x_t_tape x_t_text x_t_sheets x_t_choice x_t_plain_kinds x_t_plain_forms x_t_plain_deeps c_t_isKept c_t_found c_t_plain_size c_t_plain_hour c_t_plain_sunny r7)) C (k_Book_put l E h_t_plain_book h_t_plain_book_forms s.heap.size c_t_plain_book_forms a1 a2 r7 er7) fn_Book_put mw_357 ⟨Nat.le_of_ble_eq_true rfl, Nat.le_of_ble_eq_true rfl⟩ hK hT hS hA (va_recv hK hP (ci := 0) (q0 := 3) rfl rfl) hP hD [3, 4] rfl (by decide) [0, 1, 2] rfl (by decide) (by decide) [0, 1, 2, 3, 4] rfl (by decide) rfl rfl hl (Nat.le_of_ble_eq_true rfl) dX9_sign_42 (fun H locs hP hD hS => ?_)
      refine W.eq (g2 := F0 m 45 ls []) rfl ?_
      refine lv_iload_n hx hb dX9_sign_45 rfl (lv_at hl 0 rfl) ?_
      obtain rfl := Option.some.inj hF
      exact W.iret hx hb hr (fun t ht hW => ⟨⟨rfl, by rw [ht]; exact hP, hD⟩, hS.F ht⟩) hS.2.2 dX9_sign_46
    · have hF := kp hF q5
      exact wk_S_sign_b14 E h_t h_t_found h_t_plain h_t_plain_book h_t_plain_book_forms x_t_kept x_t_trial x_t_tape x_t_text x_t_sheets x_t_choice x_t_plain_kinds x_t_plain_forms x_t_plain_deeps c_t_isKept c_t_plain_size c_t_plain_hour c_t_plain_sunny a1 a2 C hA  hK hT  c_t_found c_t_plain_book_forms hF _ _ hP hD hS _ (lv_sub hl [0] rfl)
abbrev w_S_form (E : kE) (h_t : Nat) (h_t_found : Nat) (h_t_plain : Nat) (h_t_plain_book : Nat) (h_t_plain_book_forms : Nat) (x_t_kept : Nat) (x_t_trial : Nat) (x_t_tape : Nat) (x_t_text : Nat) (x_t_sheets : Nat) (x_t_choice : Nat) (x_t_plain_kinds : Nat) (x_t_plain_forms : Nat) (x_t_plain_deeps : Nat) (c_t_isKept : Int32) (c_t_found : (Nat → Int32)) (c_t_plain_size : Int32) (c_t_plain_hour : Int32) (c_t_plain_sunny : Int32) (c_t_plain_book_forms : (Nat → Int32)) : va_W := [(h_t, .inr (7, [.ref h_t_plain, .ref x_t_kept, .ref x_t_trial, .ref x_t_tape, .ref x_t_text, .ref x_t_sheets, .ref x_t_choice, .ref h_t_found, .int c_t_isKept])), (h_t_found, .inl (eI E, 7, .inl c_t_found)), (h_t_plain, .inr (3, [.ref h_t_plain_book, .ref x_t_plain_kinds, .ref x_t_plain_forms, .ref x_t_plain_deeps, .int c_t_plain_size, .int c_t_plain_hour, .int c_t_plain_sunny])), (h_t_plain_book, .inr (0, [.ref h_t_plain_book_forms])), (h_t_plain_book_forms, .inl (eI E, 26, .inl c_t_plain_book_forms))]
set_option maxHeartbeats 4000000 in
set_option maxRecDepth 100000 in
theorem k_S_form (l : Launch) (E : kE) (h_t : Nat) (h_t_found : Nat) (h_t_plain : Nat) (h_t_plain_book : Nat) (h_t_plain_book_forms : Nat) (x_t_kept : Nat) (x_t_trial : Nat) (x_t_tape : Nat) (x_t_text : Nat) (x_t_sheets : Nat) (x_t_choice : Nat) (x_t_plain_kinds : Nat) (x_t_plain_forms : Nat) (x_t_plain_deeps : Nat) (sz : Nat) (c_t_isKept : Int32) (c_t_found : (Nat → Int32)) (c_t_plain_size : Int32) (c_t_plain_hour : Int32) (c_t_plain_sunny : Int32) (c_t_plain_book_forms : (Nat → Int32)) (a1 : Int32) (out : Int32 × (Nat → Int32)) (hF : f_S_form c_t_found c_t_plain_book_forms a1 = some out) : Met l yX9_form (Cond.code yX9_form cX9_form 2 (some .int) :: wG) (rm 3) (pW E (w_S_form E h_t h_t_found h_t_plain h_t_plain_book h_t_plain_book_forms x_t_kept x_t_trial x_t_tape x_t_text x_t_sheets x_t_choice x_t_plain_kinds x_t_plain_forms x_t_plain_deeps c_t_isKept c_t_found c_t_plain_size c_t_plain_hour c_t_plain_sunny c_t_plain_book_forms) sz [.ref h_t, .int a1]) (qW (some (.int out.1)) E (w_S_form E h_t h_t_found h_t_plain h_t_plain_book h_t_plain_book_forms x_t_kept x_t_trial x_t_tape x_t_text x_t_sheets x_t_choice x_t_plain_kinds x_t_plain_forms x_t_plain_deeps c_t_isKept out.2 c_t_plain_size c_t_plain_hour c_t_plain_sunny c_t_plain_book_forms) (va_A (w_S_form E h_t h_t_found h_t_plain h_t_plain_book h_t_plain_book_forms x_t_kept x_t_trial x_t_tape x_t_text x_t_sheets x_t_choice x_t_plain_kinds x_t_plain_forms x_t_plain_deeps c_t_isKept c_t_found c_t_plain_size c_t_plain_hour c_t_plain_sunny c_t_plain_book_forms) sz)) 0 0 (va_A (w_S_form E h_t h_t_found h_t_plain h_t_plain_book h_t_plain_book_forms x_t_kept x_t_trial x_t_tape x_t_text x_t_sheets x_t_choice x_t_plain_kinds x_t_plain_forms x_t_plain_deeps c_t_isKept c_t_found c_t_plain_size c_t_plain_hour c_t_plain_sunny c_t_plain_book_forms) sz) := by
  refine met_W (by decide) (Nat.le_of_ble_eq_true rfl) ?_
  intro p e s m args below meth c A ls C hP hD hS hA hK hT hl
  obtain ⟨hx, hb, hr, hml, hown, hw, hlocks⟩ := id C
  have hl : lv_has ls 2 [(0, .ref h_t), (1, .int a1)] := hl
  rw [f_S_form] at hF
  refine lv_iload_n hx hb dX9_form_0 rfl (lv_at hl 1 rfl) ?_
  obtain ⟨r1, er1, hF⟩ := kb hF
  refine kRS (rest := []) C (k_Book_isSign l E a1 r1 er1) fn_Book_isSign mw_349 ⟨Nat.le_of_ble_eq_true rfl, Nat.le_of_ble_eq_true rfl⟩ hK hT hS hP [] rfl rfl rfl hl (Nat.le_of_ble_eq_true rfl) dX9_form_1 ?_
  refine lv_if_ne (tgt := 14) hx hb dX9_form_4 (by decide) (fun q2 => ?_) (fun q2 => ?_)
  · have hF := kn hF q2
    refine lv_aload_n hx hb dX9_form_14 rfl (lv_at hl 0 rfl) ?_
    refine va_get (D := eD E) (ci := 7) (C := RX9) (T := TX9) (N := 9) (v := .ref h_t_plain) hx hb hw inX9 hown hK hP 0 rfl rfl 0 (by decide) (hw _ mw_202) (fun _ h9 => h9) rfl dX9_form_15 ?_
    refine va_getN (D := eD E) (ci := 3) (C := RX5) (T := TX5) (N := 7) (v := .ref h_t_plain_book) hx hb hw inX5 hown hK hP 2 rfl rfl 0 (by decide) ((sF_1 hT).use rfl) (fun _ h9 => h9) rfl dX9_form_18 ?_
    refine lv_iload_n hx hb dX9_form_21 rfl (lv_at hl 1 rfl) ?_
    obtain ⟨r3, er3, hF⟩ := kb hF
    refine kRV (rest := []) C (k_Book_formAt l E h_t_plain_book h_t_plain_book_forms c_t_plain_book_forms a1 r3 er3) fn_Book_formAt mw_352 ⟨Nat.le_of_ble_eq_true rfl, Nat.le_of_ble_eq_true rfl⟩ hK hT hS (va_recv hK hP (ci := 0) (q0 := 3) rfl rfl) hP [3, 4] rfl rfl rfl hl (Nat.le_of_ble_eq_true rfl) dX9_form_22 ?_
    obtain rfl := Option.some.inj hF
    exact W.iret hx hb hr (fun t ht hW => ⟨⟨rfl, by rw [ht]; exact hP, hD⟩, hS.F ht⟩) hS.2.2 dX9_form_25
  · have hF := kp hF q2
    refine lv_aload_n hx hb dX9_form_7 rfl (lv_at hl 0 rfl) ?_
    refine lv_ldc (v := (-1000000001 : Int32)) hx hb hown (hw _ mw_237) dX9_form_8 ?_
    obtain ⟨r4, er4, hF⟩ := kb hF
    refine kWV (rest := []) (Wr := [(h_t_plain, .inr (3, [.ref h_t_plain_book, .ref x_t_plain_kinds, .ref x_t_plain_forms, .ref x_t_plain_deeps, .int c_t_plain_size, .int c_t_plain_hour, .int c_t_plain_sunny])), (h_t_plain_book, .inr (0, [.ref h_t_plain_book_forms])), (h_t_plain_book_forms, .inl (eI E, 26, .inl c_t_plain_book_forms))]) (Wn := (w_S_form E h_t h_t_found h_t_plain h_t_plain_book h_t_plain_book_forms x_t_kept x_t_trial x_t_tape x_t_text x_t_sheets x_t_choice x_t_plain_kinds x_t_plain_forms x_t_plain_deeps c_t_isKept r4.2 c_t_plain_size c_t_plain_hour c_t_plain_sunny c_t_plain_book_forms)) C (k_S_finding l E h_t h_t_found h_t_plain x_t_kept x_t_trial x_t_tape x_t_text x_t_sheets x_t_choice s.heap.size c_t_isKept c_t_found (-1000000001 : Int32) r4 er4) fn_S_finding mw_238 ⟨Nat.le_of_ble_eq_true rfl, Nat.le_of_ble_eq_true rfl⟩ hK hT hS hA (va_recv hK hP (ci := 7) (q0 := 0) rfl rfl) hP hD [0, 1] rfl (by decide) [2, 3, 4] rfl (by decide) (by decide) [3, 4, 0, 1, 2] rfl (by decide) rfl rfl hl (Nat.le_of_ble_eq_true rfl) dX9_form_10 (fun H locs hP hD hS => ?_)
    refine W.eq (g2 := F0 m 13 ls [.int r4.1]) rfl ?_
    obtain rfl := Option.some.inj hF
    exact W.iret hx hb hr (fun t ht hW => ⟨⟨rfl, by rw [ht]; exact hP, hD⟩, hS.F ht⟩) hS.2.2 dX9_form_13
abbrev w_S_read (E : kE) (h_t : Nat) (h_t_found : Nat) (h_t_plain : Nat) (h_t_plain_book : Nat) (h_t_plain_book_forms : Nat) (x_t_kept : Nat) (x_t_trial : Nat) (x_t_tape : Nat) (x_t_text : Nat) (x_t_sheets : Nat) (x_t_choice : Nat) (x_t_plain_kinds : Nat) (x_t_plain_forms : Nat) (x_t_plain_deeps : Nat) (c_t_isKept : Int32) (c_t_found : (Nat → Int32)) (c_t_plain_size : Int32) (c_t_plain_hour : Int32) (c_t_plain_sunny : Int32) (c_t_plain_book_forms : (Nat → Int32)) : va_W := [(h_t, .inr (7, [.ref h_t_plain, .ref x_t_kept, .ref x_t_trial, .ref x_t_tape, .ref x_t_text, .ref x_t_sheets, .ref x_t_choice, .ref h_t_found, .int c_t_isKept])), (h_t_found, .inl (eI E, 7, .inl c_t_found)), (h_t_plain, .inr (3, [.ref h_t_plain_book, .ref x_t_plain_kinds, .ref x_t_plain_forms, .ref x_t_plain_deeps, .int c_t_plain_size, .int c_t_plain_hour, .int c_t_plain_sunny])), (h_t_plain_book, .inr (0, [.ref h_t_plain_book_forms])), (h_t_plain_book_forms, .inl (eI E, 26, .inl c_t_plain_book_forms))]
set_option maxHeartbeats 4000000 in
set_option maxRecDepth 100000 in
theorem k_S_read (l : Launch) (E : kE) (h_t : Nat) (h_t_found : Nat) (h_t_plain : Nat) (h_t_plain_book : Nat) (h_t_plain_book_forms : Nat) (x_t_kept : Nat) (x_t_trial : Nat) (x_t_tape : Nat) (x_t_text : Nat) (x_t_sheets : Nat) (x_t_choice : Nat) (x_t_plain_kinds : Nat) (x_t_plain_forms : Nat) (x_t_plain_deeps : Nat) (sz : Nat) (c_t_isKept : Int32) (c_t_found : (Nat → Int32)) (c_t_plain_size : Int32) (c_t_plain_hour : Int32) (c_t_plain_sunny : Int32) (c_t_plain_book_forms : (Nat → Int32)) (a1 : Int32) (out : Int32 × (Nat → Int32)) (hF : f_S_read c_t_found c_t_plain_book_forms a1 = some out) : Met l yX9_read (Cond.code yX9_read cX9_read 3 (some .int) :: wG) (rm 4) (pW E (w_S_read E h_t h_t_found h_t_plain h_t_plain_book h_t_plain_book_forms x_t_kept x_t_trial x_t_tape x_t_text x_t_sheets x_t_choice x_t_plain_kinds x_t_plain_forms x_t_plain_deeps c_t_isKept c_t_found c_t_plain_size c_t_plain_hour c_t_plain_sunny c_t_plain_book_forms) sz [.ref h_t, .int a1]) (qW (some (.int out.1)) E (w_S_read E h_t h_t_found h_t_plain h_t_plain_book h_t_plain_book_forms x_t_kept x_t_trial x_t_tape x_t_text x_t_sheets x_t_choice x_t_plain_kinds x_t_plain_forms x_t_plain_deeps c_t_isKept out.2 c_t_plain_size c_t_plain_hour c_t_plain_sunny c_t_plain_book_forms) (va_A (w_S_read E h_t h_t_found h_t_plain h_t_plain_book h_t_plain_book_forms x_t_kept x_t_trial x_t_tape x_t_text x_t_sheets x_t_choice x_t_plain_kinds x_t_plain_forms x_t_plain_deeps c_t_isKept c_t_found c_t_plain_size c_t_plain_hour c_t_plain_sunny c_t_plain_book_forms) sz)) 0 0 (va_A (w_S_read E h_t h_t_found h_t_plain h_t_plain_book h_t_plain_book_forms x_t_kept x_t_trial x_t_tape x_t_text x_t_sheets x_t_choice x_t_plain_kinds x_t_plain_forms x_t_plain_deeps c_t_isKept c_t_found c_t_plain_size c_t_plain_hour c_t_plain_sunny c_t_plain_book_forms) sz) := by
  refine met_W (by decide) (Nat.le_of_ble_eq_true rfl) ?_
  intro p e s m args below meth c A ls C hP hD hS hA hK hT hl
  obtain ⟨hx, hb, hr, hml, hown, hw, hlocks⟩ := id C
  have hl : lv_has ls 3 [(0, .ref h_t), (1, .int a1)] := hl
  rw [f_S_read] at hF
  refine lv_iload_n hx hb dX9_read_0 rfl (lv_at hl 1 rfl) ?_
  obtain ⟨r1, er1, hF⟩ := kb hF
  refine kRS (rest := []) C (k_Forms_isForm l E a1 r1 er1) fn_Forms_isForm mw_234 ⟨Nat.le_of_ble_eq_true rfl, Nat.le_of_ble_eq_true rfl⟩ hK hT hS hP [] rfl rfl rfl hl (Nat.le_of_ble_eq_true rfl) dX9_read_1 ?_
  refine lv_if_ne (tgt := 14) hx hb dX9_read_4 (by decide) (fun q2 => ?_) (fun q2 => ?_)
  · have hF := kn hF q2
    refine lv_aload_n hx hb dX9_read_14 rfl (lv_at hl 0 rfl) ?_
    refine va_get (D := eD E) (ci := 7) (C := RX9) (T := TX9) (N := 9) (v := .ref h_t_plain) hx hb hw inX9 hown hK hP 0 rfl rfl 0 (by decide) (hw _ mw_202) (fun _ h9 => h9) rfl dX9_read_15 ?_
    refine va_getN (D := eD E) (ci := 3) (C := RX5) (T := TX5) (N := 7) (v := .ref h_t_plain_book) hx hb hw inX5 hown hK hP 2 rfl rfl 0 (by decide) ((sF_1 hT).use rfl) (fun _ h9 => h9) rfl dX9_read_18 ?_
    refine lv_iload_n hx hb dX9_read_21 rfl (lv_at hl 1 rfl) ?_
    obtain ⟨r3, er3, hF⟩ := kb hF
    refine kRV (rest := []) C (k_Book_nearest l E h_t_plain_book h_t_plain_book_forms c_t_plain_book_forms a1 r3 er3) fn_Book_nearest mw_369 ⟨Nat.le_of_ble_eq_true rfl, Nat.le_of_ble_eq_true rfl⟩ hK hT hS (va_recv hK hP (ci := 0) (q0 := 3) rfl rfl) hP [3, 4] rfl rfl rfl hl (Nat.le_of_ble_eq_true rfl) dX9_read_22 ?_
    refine lv_istore_n (lv' := [(2, .int r3), (0, .ref h_t), (1, .int a1)]) hx hb dX9_read_25 rfl hl (by decide) rfl (fun ls hl => ?_)
    refine lv_iload_n hx hb dX9_read_26 rfl (lv_at hl 0 rfl) ?_
    refine lv_if_ge (tgt := 39) hx hb dX9_read_27 (by decide) (fun q4 => ?_) (fun q4 => ?_)
    · have hF := kp hF q4
      refine lv_iload_n hx hb dX9_read_39 rfl (lv_at hl 0 rfl) ?_
      obtain rfl := Option.some.inj hF
      exact W.iret hx hb hr (fun t ht hW => ⟨⟨rfl, by rw [ht]; exact hP, hD⟩, hS.F ht⟩) hS.2.2 dX9_read_40
    · have hF := kn hF q4
      refine lv_aload_n hx hb dX9_read_30 rfl (lv_at hl 1 rfl) ?_
      refine lv_ldc (v := (-1000000004 : Int32)) hx hb hown (hw _ mw_325) dX9_read_31 ?_
      obtain ⟨r5, er5, hF⟩ := kb hF
      refine kWV (rest := []) (Wr := [(h_t_plain, .inr (3, [.ref h_t_plain_book, .ref x_t_plain_kinds, .ref x_t_plain_forms, .ref x_t_plain_deeps, .int c_t_plain_size, .int c_t_plain_hour, .int c_t_plain_sunny])), (h_t_plain_book, .inr (0, [.ref h_t_plain_book_forms])), (h_t_plain_book_forms, .inl (eI E, 26, .inl c_t_plain_book_forms))]) (Wn := (w_S_read E h_t h_t_found h_t_plain h_t_plain_book h_t_plain_book_forms x_t_kept x_t_trial x_t_tape x_t_text x_t_sheets x_t_choice x_t_plain_kinds x_t_plain_forms x_t_plain_deeps c_t_isKept r5.2 c_t_plain_size c_t_plain_hour c_t_plain_sunny c_t_plain_book_forms)) C (k_S_finding l E h_t h_t_found h_t_plain x_t_kept x_t_trial x_t_tape x_t_text x_t_sheets x_t_choice s.heap.size c_t_isKept c_t_found (-1000000004 : Int32) r5 er5) fn_S_finding mw_238 ⟨Nat.le_of_ble_eq_true rfl, Nat.le_of_ble_eq_true rfl⟩ hK hT hS hA (va_recv hK hP (ci := 7) (q0 := 0) rfl rfl) hP hD [0, 1] rfl (by decide) [2, 3, 4] rfl (by decide) (by decide) [3, 4, 0, 1, 2] rfl (by decide) rfl rfl hl (Nat.le_of_ble_eq_true rfl) dX9_read_33 (fun H locs hP hD hS => ?_)
      refine W.eq (g2 := F0 m 36 ls [.int r5.1]) rfl ?_
      refine lv_goto (tgt := 40) hx hb dX9_read_36 (by decide) ?_
      obtain rfl := Option.some.inj hF
      exact W.iret hx hb hr (fun t ht hW => ⟨⟨rfl, by rw [ht]; exact hP, hD⟩, hS.F ht⟩) hS.2.2 dX9_read_40
  · have hF := kp hF q2
    refine lv_aload_n hx hb dX9_read_7 rfl (lv_at hl 0 rfl) ?_
    refine lv_ldc (v := (-1000000001 : Int32)) hx hb hown (hw _ mw_237) dX9_read_8 ?_
    obtain ⟨r6, er6, hF⟩ := kb hF
    refine kWV (rest := []) (Wr := [(h_t_plain, .inr (3, [.ref h_t_plain_book, .ref x_t_plain_kinds, .ref x_t_plain_forms, .ref x_t_plain_deeps, .int c_t_plain_size, .int c_t_plain_hour, .int c_t_plain_sunny])), (h_t_plain_book, .inr (0, [.ref h_t_plain_book_forms])), (h_t_plain_book_forms, .inl (eI E, 26, .inl c_t_plain_book_forms))]) (Wn := (w_S_read E h_t h_t_found h_t_plain h_t_plain_book h_t_plain_book_forms x_t_kept x_t_trial x_t_tape x_t_text x_t_sheets x_t_choice x_t_plain_kinds x_t_plain_forms x_t_plain_deeps c_t_isKept r6.2 c_t_plain_size c_t_plain_hour c_t_plain_sunny c_t_plain_book_forms)) C (k_S_finding l E h_t h_t_found h_t_plain x_t_kept x_t_trial x_t_tape x_t_text x_t_sheets x_t_choice s.heap.size c_t_isKept c_t_found (-1000000001 : Int32) r6 er6) fn_S_finding mw_238 ⟨Nat.le_of_ble_eq_true rfl, Nat.le_of_ble_eq_true rfl⟩ hK hT hS hA (va_recv hK hP (ci := 7) (q0 := 0) rfl rfl) hP hD [0, 1] rfl (by decide) [2, 3, 4] rfl (by decide) (by decide) [3, 4, 0, 1, 2] rfl (by decide) rfl rfl hl (Nat.le_of_ble_eq_true rfl) dX9_read_10 (fun H locs hP hD hS => ?_)
    refine W.eq (g2 := F0 m 13 ls [.int r6.1]) rfl ?_
    obtain rfl := Option.some.inj hF
    exact W.iret hx hb hr (fun t ht hW => ⟨⟨rfl, by rw [ht]; exact hP, hD⟩, hS.F ht⟩) hS.2.2 dX9_read_13
abbrev w_S_doubts (E : kE) (h_t : Nat) (h_t_found : Nat) (h_t_plain : Nat) (h_t_plain_book : Nat) (h_t_plain_book_forms : Nat) (x_t_kept : Nat) (x_t_trial : Nat) (x_t_tape : Nat) (x_t_text : Nat) (x_t_sheets : Nat) (x_t_choice : Nat) (x_t_plain_kinds : Nat) (x_t_plain_forms : Nat) (x_t_plain_deeps : Nat) (c_t_isKept : Int32) (c_t_found : (Nat → Int32)) (c_t_plain_size : Int32) (c_t_plain_hour : Int32) (c_t_plain_sunny : Int32) (c_t_plain_book_forms : (Nat → Int32)) : va_W := [(h_t, .inr (7, [.ref h_t_plain, .ref x_t_kept, .ref x_t_trial, .ref x_t_tape, .ref x_t_text, .ref x_t_sheets, .ref x_t_choice, .ref h_t_found, .int c_t_isKept])), (h_t_found, .inl (eI E, 7, .inl c_t_found)), (h_t_plain, .inr (3, [.ref h_t_plain_book, .ref x_t_plain_kinds, .ref x_t_plain_forms, .ref x_t_plain_deeps, .int c_t_plain_size, .int c_t_plain_hour, .int c_t_plain_sunny])), (h_t_plain_book, .inr (0, [.ref h_t_plain_book_forms])), (h_t_plain_book_forms, .inl (eI E, 26, .inl c_t_plain_book_forms))]
set_option maxHeartbeats 4000000 in
set_option maxRecDepth 100000 in
theorem k_S_doubts (l : Launch) (E : kE) (h_t : Nat) (h_t_found : Nat) (h_t_plain : Nat) (h_t_plain_book : Nat) (h_t_plain_book_forms : Nat) (x_t_kept : Nat) (x_t_trial : Nat) (x_t_tape : Nat) (x_t_text : Nat) (x_t_sheets : Nat) (x_t_choice : Nat) (x_t_plain_kinds : Nat) (x_t_plain_forms : Nat) (x_t_plain_deeps : Nat) (sz : Nat) (c_t_isKept : Int32) (c_t_found : (Nat → Int32)) (c_t_plain_size : Int32) (c_t_plain_hour : Int32) (c_t_plain_sunny : Int32) (c_t_plain_book_forms : (Nat → Int32)) (a1 : Int32) (out : Int32 × (Nat → Int32)) (hF : f_S_doubts c_t_found c_t_plain_book_forms a1 = some out) : Met l yX9_doubts (Cond.code yX9_doubts cX9_doubts 3 (some .int) :: wG) (rm 4) (pW E (w_S_doubts E h_t h_t_found h_t_plain h_t_plain_book h_t_plain_book_forms x_t_kept x_t_trial x_t_tape x_t_text x_t_sheets x_t_choice x_t_plain_kinds x_t_plain_forms x_t_plain_deeps c_t_isKept c_t_found c_t_plain_size c_t_plain_hour c_t_plain_sunny c_t_plain_book_forms) sz [.ref h_t, .int a1]) (qW (some (.int out.1)) E (w_S_doubts E h_t h_t_found h_t_plain h_t_plain_book h_t_plain_book_forms x_t_kept x_t_trial x_t_tape x_t_text x_t_sheets x_t_choice x_t_plain_kinds x_t_plain_forms x_t_plain_deeps c_t_isKept out.2 c_t_plain_size c_t_plain_hour c_t_plain_sunny c_t_plain_book_forms) (va_A (w_S_doubts E h_t h_t_found h_t_plain h_t_plain_book h_t_plain_book_forms x_t_kept x_t_trial x_t_tape x_t_text x_t_sheets x_t_choice x_t_plain_kinds x_t_plain_forms x_t_plain_deeps c_t_isKept c_t_found c_t_plain_size c_t_plain_hour c_t_plain_sunny c_t_plain_book_forms) sz)) 0 0 (va_A (w_S_doubts E h_t h_t_found h_t_plain h_t_plain_book h_t_plain_book_forms x_t_kept x_t_trial x_t_tape x_t_text x_t_sheets x_t_choice x_t_plain_kinds x_t_plain_forms x_t_plain_deeps c_t_isKept c_t_found c_t_plain_size c_t_plain_hour c_t_plain_sunny c_t_plain_book_forms) sz) := by
  refine met_W (by decide) (Nat.le_of_ble_eq_true rfl) ?_
  intro p e s m args below meth c A ls C hP hD hS hA hK hT hl
  obtain ⟨hx, hb, hr, hml, hown, hw, hlocks⟩ := id C
  have hl : lv_has ls 3 [(0, .ref h_t), (1, .int a1)] := hl
  rw [f_S_doubts] at hF
  refine lv_iload_n hx hb dX9_doubts_0 rfl (lv_at hl 1 rfl) ?_
  obtain ⟨r1, er1, hF⟩ := kb hF
  refine kRS (rest := []) C (k_Forms_isForm l E a1 r1 er1) fn_Forms_isForm mw_234 ⟨Nat.le_of_ble_eq_true rfl, Nat.le_of_ble_eq_true rfl⟩ hK hT hS hP [] rfl rfl rfl hl (Nat.le_of_ble_eq_true rfl) dX9_doubts_1 ?_
  refine lv_if_ne (tgt := 14) hx hb dX9_doubts_4 (by decide) (fun q2 => ?_) (fun q2 => ?_)
  · have hF := kn hF q2
    refine lv_aload_n hx hb dX9_doubts_14 rfl (lv_at hl 0 rfl) ?_
    refine va_get (D := eD E) (ci := 7) (C := RX9) (T := TX9) (N := 9) (v := .ref h_t_plain) hx hb hw inX9 hown hK hP 0 rfl rfl 0 (by decide) (hw _ mw_202) (fun _ h9 => h9) rfl dX9_doubts_15 ?_
    refine va_getN (D := eD E) (ci := 3) (C := RX5) (T := TX5) (N := 7) (v := .ref h_t_plain_book) hx hb hw inX5 hown hK hP 2 rfl rfl 0 (by decide) ((sF_1 hT).use rfl) (fun _ h9 => h9) rfl dX9_doubts_18 ?_
    refine lv_iload_n hx hb dX9_doubts_21 rfl (lv_at hl 1 rfl) ?_
    obtain ⟨r3, er3, hF⟩ := kb hF
    refine kRV (rest := []) C (k_Book_nearest l E h_t_plain_book h_t_plain_book_forms c_t_plain_book_forms a1 r3 er3) fn_Book_nearest mw_369 ⟨Nat.le_of_ble_eq_true rfl, Nat.le_of_ble_eq_true rfl⟩ hK hT hS (va_recv hK hP (ci := 0) (q0 := 3) rfl rfl) hP [3, 4] rfl rfl rfl hl (Nat.le_of_ble_eq_true rfl) dX9_doubts_22 ?_
    refine lv_istore_n (lv' := [(2, .int r3), (0, .ref h_t), (1, .int a1)]) hx hb dX9_doubts_25 rfl hl (by decide) rfl (fun ls hl => ?_)
    refine lv_iload_n hx hb dX9_doubts_26 rfl (lv_at hl 0 rfl) ?_
    refine lv_if_ge (tgt := 39) hx hb dX9_doubts_27 (by decide) (fun q4 => ?_) (fun q4 => ?_)
    · have hF := kp hF q4
      refine lv_aload_n hx hb dX9_doubts_39 rfl (lv_at hl 1 rfl) ?_
      refine va_get (D := eD E) (ci := 7) (C := RX9) (T := TX9) (N := 9) (v := .ref h_t_plain) hx hb hw inX9 hown hK hP 0 rfl rfl 0 (by decide) (hw _ mw_202) (fun _ h9 => h9) rfl dX9_doubts_40 ?_
      refine va_getN (D := eD E) (ci := 3) (C := RX5) (T := TX5) (N := 7) (v := .ref h_t_plain_book) hx hb hw inX5 hown hK hP 2 rfl rfl 0 (by decide) ((sF_1 hT).use rfl) (fun _ h9 => h9) rfl dX9_doubts_43 ?_
      refine lv_iload_n hx hb dX9_doubts_46 rfl (lv_at hl 2 rfl) ?_
      refine lv_iload_n hx hb dX9_doubts_47 rfl (lv_at hl 0 rfl) ?_
      obtain ⟨r5, er5, hF⟩ := kb hF
      refine kRV (rest := []) C (k_Book_countAsNear l E h_t_plain_book h_t_plain_book_forms c_t_plain_book_forms a1 r3 r5 er5) fn_Book_countAsNear mw_380 ⟨Nat.le_of_ble_eq_true rfl, Nat.le_of_ble_eq_true rfl⟩ hK hT hS (va_recv hK hP (ci := 0) (q0 := 3) rfl rfl) hP [3, 4] rfl rfl rfl hl (Nat.le_of_ble_eq_true rfl) dX9_doubts_48 ?_
      obtain rfl := Option.some.inj hF
      exact W.iret hx hb hr (fun t ht hW => ⟨⟨rfl, by rw [ht]; exact hP, hD⟩, hS.F ht⟩) hS.2.2 dX9_doubts_51
    · have hF := kn hF q4
      refine lv_aload_n hx hb dX9_doubts_30 rfl (lv_at hl 1 rfl) ?_
      refine lv_ldc (v := (-1000000004 : Int32)) hx hb hown (hw _ mw_325) dX9_doubts_31 ?_
      obtain ⟨r6, er6, hF⟩ := kb hF
      refine kWV (rest := []) (Wr := [(h_t_plain, .inr (3, [.ref h_t_plain_book, .ref x_t_plain_kinds, .ref x_t_plain_forms, .ref x_t_plain_deeps, .int c_t_plain_size, .int c_t_plain_hour, .int c_t_plain_sunny])), (h_t_plain_book, .inr (0, [.ref h_t_plain_book_forms])), (h_t_plain_book_forms, .inl (eI E, 26, .inl c_t_plain_book_forms))]) (Wn := (w_S_doubts E h_t h_t_found h_t_plain h_t_plain_book h_t_plain_book_forms x_t_kept x_t_trial x_t_tape x_t_text x_t_sheets x_t_choice x_t_plain_kinds x_t_plain_forms x_t_plain_deeps c_t_isKept r6.2 c_t_plain_size c_t_plain_hour c_t_plain_sunny c_t_plain_book_forms)) C (k_S_finding l E h_t h_t_found h_t_plain x_t_kept x_t_trial x_t_tape x_t_text x_t_sheets x_t_choice s.heap.size c_t_isKept c_t_found (-1000000004 : Int32) r6 er6) fn_S_finding mw_238 ⟨Nat.le_of_ble_eq_true rfl, Nat.le_of_ble_eq_true rfl⟩ hK hT hS hA (va_recv hK hP (ci := 7) (q0 := 0) rfl rfl) hP hD [0, 1] rfl (by decide) [2, 3, 4] rfl (by decide) (by decide) [3, 4, 0, 1, 2] rfl (by decide) rfl rfl hl (Nat.le_of_ble_eq_true rfl) dX9_doubts_33 (fun H locs hP hD hS => ?_)
      refine W.eq (g2 := F0 m 36 ls [.int r6.1]) rfl ?_
      refine lv_goto (tgt := 51) hx hb dX9_doubts_36 (by decide) ?_
      obtain rfl := Option.some.inj hF
      exact W.iret hx hb hr (fun t ht hW => ⟨⟨rfl, by rw [ht]; exact hP, hD⟩, hS.F ht⟩) hS.2.2 dX9_doubts_51
  · have hF := kp hF q2
    refine lv_aload_n hx hb dX9_doubts_7 rfl (lv_at hl 0 rfl) ?_
    refine lv_ldc (v := (-1000000001 : Int32)) hx hb hown (hw _ mw_237) dX9_doubts_8 ?_
    obtain ⟨r7, er7, hF⟩ := kb hF
    refine kWV (rest := []) (Wr := [(h_t_plain, .inr (3, [.ref h_t_plain_book, .ref x_t_plain_kinds, .ref x_t_plain_forms, .ref x_t_plain_deeps, .int c_t_plain_size, .int c_t_plain_hour, .int c_t_plain_sunny])), (h_t_plain_book, .inr (0, [.ref h_t_plain_book_forms])), (h_t_plain_book_forms, .inl (eI E, 26, .inl c_t_plain_book_forms))]) (Wn := (w_S_doubts E h_t h_t_found h_t_plain h_t_plain_book h_t_plain_book_forms x_t_kept x_t_trial x_t_tape x_t_text x_t_sheets x_t_choice x_t_plain_kinds x_t_plain_forms x_t_plain_deeps c_t_isKept r7.2 c_t_plain_size c_t_plain_hour c_t_plain_sunny c_t_plain_book_forms)) C (k_S_finding l E h_t h_t_found h_t_plain x_t_kept x_t_trial x_t_tape x_t_text x_t_sheets x_t_choice s.heap.size c_t_isKept c_t_found (-1000000001 : Int32) r7 er7) fn_S_finding mw_238 ⟨Nat.le_of_ble_eq_true rfl, Nat.le_of_ble_eq_true rfl⟩ hK hT hS hA (va_recv hK hP (ci := 7) (q0 := 0) rfl rfl) hP hD [0, 1] rfl (by decide) [2, 3, 4] rfl (by decide) (by decide) [3, 4, 0, 1, 2] rfl (by decide) rfl rfl hl (Nat.le_of_ble_eq_true rfl) dX9_doubts_10 (fun H locs hP hD hS => ?_)
    refine W.eq (g2 := F0 m 13 ls [.int r7.1]) rfl ?_
    obtain rfl := Option.some.inj hF
    exact W.iret hx hb hr (fun t ht hW => ⟨⟨rfl, by rw [ht]; exact hP, hD⟩, hS.F ht⟩) hS.2.2 dX9_doubts_13
abbrev w_S_apart (E : kE) (h_t : Nat) (h_t_found : Nat) (h_t_plain : Nat) (h_t_plain_book : Nat) (h_t_plain_book_forms : Nat) (x_t_kept : Nat) (x_t_trial : Nat) (x_t_tape : Nat) (x_t_text : Nat) (x_t_sheets : Nat) (x_t_choice : Nat) (x_t_plain_kinds : Nat) (x_t_plain_forms : Nat) (x_t_plain_deeps : Nat) (c_t_isKept : Int32) (c_t_found : (Nat → Int32)) (c_t_plain_size : Int32) (c_t_plain_hour : Int32) (c_t_plain_sunny : Int32) (c_t_plain_book_forms : (Nat → Int32)) : va_W := [(h_t, .inr (7, [.ref h_t_plain, .ref x_t_kept, .ref x_t_trial, .ref x_t_tape, .ref x_t_text, .ref x_t_sheets, .ref x_t_choice, .ref h_t_found, .int c_t_isKept])), (h_t_found, .inl (eI E, 7, .inl c_t_found)), (h_t_plain, .inr (3, [.ref h_t_plain_book, .ref x_t_plain_kinds, .ref x_t_plain_forms, .ref x_t_plain_deeps, .int c_t_plain_size, .int c_t_plain_hour, .int c_t_plain_sunny])), (h_t_plain_book, .inr (0, [.ref h_t_plain_book_forms])), (h_t_plain_book_forms, .inl (eI E, 26, .inl c_t_plain_book_forms))]
set_option maxHeartbeats 4000000 in
set_option maxRecDepth 100000 in
theorem k_S_apart (l : Launch) (E : kE) (h_t : Nat) (h_t_found : Nat) (h_t_plain : Nat) (h_t_plain_book : Nat) (h_t_plain_book_forms : Nat) (x_t_kept : Nat) (x_t_trial : Nat) (x_t_tape : Nat) (x_t_text : Nat) (x_t_sheets : Nat) (x_t_choice : Nat) (x_t_plain_kinds : Nat) (x_t_plain_forms : Nat) (x_t_plain_deeps : Nat) (sz : Nat) (c_t_isKept : Int32) (c_t_found : (Nat → Int32)) (c_t_plain_size : Int32) (c_t_plain_hour : Int32) (c_t_plain_sunny : Int32) (c_t_plain_book_forms : (Nat → Int32))  (out : Int32 × (Nat → Int32)) (hF : f_S_apart c_t_found c_t_plain_book_forms  = some out) : Met l yX9_apart (Cond.code yX9_apart cX9_apart 2 (some .int) :: wG) (rm 4) (pW E (w_S_apart E h_t h_t_found h_t_plain h_t_plain_book h_t_plain_book_forms x_t_kept x_t_trial x_t_tape x_t_text x_t_sheets x_t_choice x_t_plain_kinds x_t_plain_forms x_t_plain_deeps c_t_isKept c_t_found c_t_plain_size c_t_plain_hour c_t_plain_sunny c_t_plain_book_forms) sz [.ref h_t]) (qW (some (.int out.1)) E (w_S_apart E h_t h_t_found h_t_plain h_t_plain_book h_t_plain_book_forms x_t_kept x_t_trial x_t_tape x_t_text x_t_sheets x_t_choice x_t_plain_kinds x_t_plain_forms x_t_plain_deeps c_t_isKept out.2 c_t_plain_size c_t_plain_hour c_t_plain_sunny c_t_plain_book_forms) (va_A (w_S_apart E h_t h_t_found h_t_plain h_t_plain_book h_t_plain_book_forms x_t_kept x_t_trial x_t_tape x_t_text x_t_sheets x_t_choice x_t_plain_kinds x_t_plain_forms x_t_plain_deeps c_t_isKept c_t_found c_t_plain_size c_t_plain_hour c_t_plain_sunny c_t_plain_book_forms) sz)) 0 0 (va_A (w_S_apart E h_t h_t_found h_t_plain h_t_plain_book h_t_plain_book_forms x_t_kept x_t_trial x_t_tape x_t_text x_t_sheets x_t_choice x_t_plain_kinds x_t_plain_forms x_t_plain_deeps c_t_isKept c_t_found c_t_plain_size c_t_plain_hour c_t_plain_sunny c_t_plain_book_forms) sz) := by
  refine met_W (by decide) (Nat.le_of_ble_eq_true rfl) ?_
  intro p e s m args below meth c A ls C hP hD hS hA hK hT hl
  obtain ⟨hx, hb, hr, hml, hown, hw, hlocks⟩ := id C
  have hl : lv_has ls 2 [(0, .ref h_t)] := hl
  rw [f_S_apart] at hF
  refine lv_aload_n hx hb dX9_apart_0 rfl (lv_at hl 0 rfl) ?_
  refine va_get (D := eD E) (ci := 7) (C := RX9) (T := TX9) (N := 9) (v := .ref h_t_plain) hx hb hw inX9 hown hK hP 0 rfl rfl 0 (by decide) (hw _ mw_202) (fun _ h9 => h9) rfl dX9_apart_1 ?_
  refine va_getN (D := eD E) (ci := 3) (C := RX5) (T := TX5) (N := 7) (v := .ref h_t_plain_book) hx hb hw inX5 hown hK hP 2 rfl rfl 0 (by decide) ((sF_1 hT).use rfl) (fun _ h9 => h9) rfl dX9_apart_4 ?_
  obtain ⟨r1, er1, hF⟩ := kb hF
  refine kRV (rest := []) C (k_Book_leastBetweenTwo l E h_t_plain_book h_t_plain_book_forms c_t_plain_book_forms r1 er1) fn_Book_leastBetweenTwo mw_389 ⟨Nat.le_of_ble_eq_true rfl, Nat.le_of_ble_eq_true rfl⟩ hK hT hS (va_recv hK hP (ci := 0) (q0 := 3) rfl rfl) hP [3, 4] rfl rfl rfl hl (Nat.le_of_ble_eq_true rfl) dX9_apart_7 ?_
  refine lv_istore_n (lv' := [(1, .int r1), (0, .ref h_t)]) hx hb dX9_apart_10 rfl hl (by decide) rfl (fun ls hl => ?_)
  refine lv_iload_n hx hb dX9_apart_11 rfl (lv_at hl 0 rfl) ?_
  refine lv_if_ge (tgt := 24) hx hb dX9_apart_12 (by decide) (fun q2 => ?_) (fun q2 => ?_)
  · have hF := kp hF q2
    refine lv_iload_n hx hb dX9_apart_24 rfl (lv_at hl 0 rfl) ?_
    obtain rfl := Option.some.inj hF
    exact W.iret hx hb hr (fun t ht hW => ⟨⟨rfl, by rw [ht]; exact hP, hD⟩, hS.F ht⟩) hS.2.2 dX9_apart_25
  · have hF := kn hF q2
    refine lv_aload_n hx hb dX9_apart_15 rfl (lv_at hl 1 rfl) ?_
    refine lv_ldc (v := (-1000000004 : Int32)) hx hb hown (hw _ mw_325) dX9_apart_16 ?_
    obtain ⟨r3, er3, hF⟩ := kb hF
    refine kWV (rest := []) (Wr := [(h_t_plain, .inr (3, [.ref h_t_plain_book, .ref x_t_plain_kinds, .ref x_t_plain_forms, .ref x_t_plain_deeps, .int c_t_plain_size, .int c_t_plain_hour, .int c_t_plain_sunny])), (h_t_plain_book, .inr (0, [.ref h_t_plain_book_forms])), (h_t_plain_book_forms, .inl (eI E, 26, .inl c_t_plain_book_forms))]) (Wn := (w_S_apart E h_t h_t_found h_t_plain h_t_plain_book h_t_plain_book_forms x_t_kept x_t_trial x_t_tape x_t_text x_t_sheets x_t_choice x_t_plain_kinds x_t_plain_forms x_t_plain_deeps c_t_isKept r3.2 c_t_plain_size c_t_plain_hour c_t_plain_sunny c_t_plain_book_forms)) C (k_S_finding l E h_t h_t_found h_t_plain x_t_kept x_t_trial x_t_tape x_t_text x_t_sheets x_t_choice s.heap.size c_t_isKept c_t_found (-1000000004 : Int32) r3 er3) fn_S_finding mw_238 ⟨Nat.le_of_ble_eq_true rfl, Nat.le_of_ble_eq_true rfl⟩ hK hT hS hA (va_recv hK hP (ci := 7) (q0 := 0) rfl rfl) hP hD [0, 1] rfl (by decide) [2, 3, 4] rfl (by decide) (by decide) [3, 4, 0, 1, 2] rfl (by decide) rfl rfl hl (Nat.le_of_ble_eq_true rfl) dX9_apart_18 (fun H locs hP hD hS => ?_)
    refine W.eq (g2 := F0 m 21 ls [.int r3.1]) rfl ?_
    refine lv_goto (tgt := 25) hx hb dX9_apart_21 (by decide) ?_
    obtain rfl := Option.some.inj hF
    exact W.iret hx hb hr (fun t ht hW => ⟨⟨rfl, by rw [ht]; exact hP, hD⟩, hS.F ht⟩) hS.2.2 dX9_apart_25
abbrev w_S_stay (E : kE) (h_t : Nat) (h_t_plain : Nat) (h_t_plain_book : Nat) (h_t_plain_book_forms : Nat) (x_t_kept : Nat) (x_t_trial : Nat) (x_t_tape : Nat) (x_t_text : Nat) (x_t_sheets : Nat) (x_t_choice : Nat) (x_t_found : Nat) (x_t_plain_kinds : Nat) (x_t_plain_forms : Nat) (x_t_plain_deeps : Nat) (c_t_isKept : Int32) (c_t_plain_size : Int32) (c_t_plain_hour : Int32) (c_t_plain_sunny : Int32) (c_t_plain_book_forms : (Nat → Int32)) : va_W := [(h_t, .inr (7, [.ref h_t_plain, .ref x_t_kept, .ref x_t_trial, .ref x_t_tape, .ref x_t_text, .ref x_t_sheets, .ref x_t_choice, .ref x_t_found, .int c_t_isKept])), (h_t_plain, .inr (3, [.ref h_t_plain_book, .ref x_t_plain_kinds, .ref x_t_plain_forms, .ref x_t_plain_deeps, .int c_t_plain_size, .int c_t_plain_hour, .int c_t_plain_sunny])), (h_t_plain_book, .inr (0, [.ref h_t_plain_book_forms])), (h_t_plain_book_forms, .inl (eI E, 26, .inl c_t_plain_book_forms))]
set_option maxHeartbeats 4000000 in
set_option maxRecDepth 100000 in
theorem k_S_stay (l : Launch) (E : kE) (h_t : Nat) (h_t_plain : Nat) (h_t_plain_book : Nat) (h_t_plain_book_forms : Nat) (x_t_kept : Nat) (x_t_trial : Nat) (x_t_tape : Nat) (x_t_text : Nat) (x_t_sheets : Nat) (x_t_choice : Nat) (x_t_found : Nat) (x_t_plain_kinds : Nat) (x_t_plain_forms : Nat) (x_t_plain_deeps : Nat) (c_t_isKept : Int32) (c_t_plain_size : Int32) (c_t_plain_hour : Int32) (c_t_plain_sunny : Int32) (c_t_plain_book_forms : (Nat → Int32))  (out : Int32) (hF : f_S_stay c_t_plain_sunny c_t_plain_book_forms  = some out) : Met l yX9_stay (Cond.code yX9_stay cX9_stay 1 (some .int) :: wG) (rm 5) (pR E (w_S_stay E h_t h_t_plain h_t_plain_book h_t_plain_book_forms x_t_kept x_t_trial x_t_tape x_t_text x_t_sheets x_t_choice x_t_found x_t_plain_kinds x_t_plain_forms x_t_plain_deeps c_t_isKept c_t_plain_size c_t_plain_hour c_t_plain_sunny c_t_plain_book_forms) [.ref h_t]) (qR (.int out)) 0 0 (fun _ => False) := by
  refine met_R (by decide) (Nat.le_of_ble_eq_true rfl) ?_
  intro p e s m args below meth c ls C hP hK hT hl
  obtain ⟨hx, hb, hr, hml, hown, hw, hlocks⟩ := id C
  have hS : va_S (fun _ => False) s.heap s.heap [] := va_S.rf
  have hl : lv_has ls 1 [(0, .ref h_t)] := hl
  rw [f_S_stay] at hF
  refine lv_aload_n hx hb dX9_stay_0 rfl (lv_at hl 0 rfl) ?_
  refine va_get (D := eD E) (ci := 7) (C := RX9) (T := TX9) (N := 9) (v := .ref h_t_plain) hx hb hw inX9 hown hK hP 0 rfl rfl 0 (by decide) (hw _ mw_202) (fun _ h9 => h9) rfl dX9_stay_1 ?_
  refine va_getN (D := eD E) (ci := 3) (C := RX5) (T := TX5) (N := 7) (v := .ref h_t_plain_book) hx hb hw inX5 hown hK hP 1 rfl rfl 0 (by decide) ((sF_1 hT).use rfl) (fun _ h9 => h9) rfl dX9_stay_4 ?_
  refine lv_aload_n hx hb dX9_stay_7 rfl (lv_at hl 0 rfl) ?_
  refine va_get (D := eD E) (ci := 7) (C := RX9) (T := TX9) (N := 9) (v := .ref h_t_plain) hx hb hw inX9 hown hK hP 0 rfl rfl 0 (by decide) (hw _ mw_202) (fun _ h9 => h9) rfl dX9_stay_8 ?_
  refine va_getN (D := eD E) (ci := 3) (C := RX5) (T := TX5) (N := 7) (v := .int c_t_plain_sunny) hx hb hw inX5 hown hK hP 1 rfl rfl 6 (by decide) ((sF_9 hT).use rfl) (fun _ h9 => h9) rfl dX9_stay_11 ?_
  obtain ⟨r1, er1, hF⟩ := kb hF
  refine kRV (rest := []) C (k_Book_signsThatStay l E h_t_plain_book h_t_plain_book_forms c_t_plain_book_forms c_t_plain_sunny r1 er1) fn_Book_signsThatStay mw_397 ⟨Nat.le_of_ble_eq_true rfl, Nat.le_of_ble_eq_true rfl⟩ hK hT hS (va_recv hK hP (ci := 0) (q0 := 2) rfl rfl) hP [2, 3] rfl rfl rfl hl (Nat.le_of_ble_eq_true rfl) dX9_stay_14 ?_
  obtain rfl := Option.some.inj hF
  exact W.iret hx hb hr (fun t ht hW => ⟨rfl, ht⟩) nofun dX9_stay_17
abbrev w_S_forge (E : kE) (h_t : Nat) (h_t_found : Nat) (h_t_plain : Nat) (h_t_plain_book : Nat) (h_t_plain_book_forms : Nat) (x_t_kept : Nat) (x_t_trial : Nat) (x_t_tape : Nat) (x_t_text : Nat) (x_t_sheets : Nat) (x_t_choice : Nat) (x_t_plain_kinds : Nat) (x_t_plain_forms : Nat) (x_t_plain_deeps : Nat) (c_t_isKept : Int32) (c_t_found : (Nat → Int32)) (c_t_plain_size : Int32) (c_t_plain_hour : Int32) (c_t_plain_sunny : Int32) (c_t_plain_book_forms : (Nat → Int32)) : va_W := [(h_t, .inr (7, [.ref h_t_plain, .ref x_t_kept, .ref x_t_trial, .ref x_t_tape, .ref x_t_text, .ref x_t_sheets, .ref x_t_choice, .ref h_t_found, .int c_t_isKept])), (h_t_found, .inl (eI E, 7, .inl c_t_found)), (h_t_plain, .inr (3, [.ref h_t_plain_book, .ref x_t_plain_kinds, .ref x_t_plain_forms, .ref x_t_plain_deeps, .int c_t_plain_size, .int c_t_plain_hour, .int c_t_plain_sunny])), (h_t_plain_book, .inr (0, [.ref h_t_plain_book_forms])), (h_t_plain_book_forms, .inl (eI E, 26, .inl c_t_plain_book_forms))]
set_option maxHeartbeats 4000000 in
set_option maxRecDepth 100000 in
theorem wk_S_forge_b19 {p : Program} {l : Launch} {e : Env} {s : State} {m : MethodId} {args : Array Value} {below : List Frame} {meth : Method} {c : Code} {A : Nat → Prop} (E : kE) (h_t : Nat) (h_t_found : Nat) (h_t_plain : Nat) (h_t_plain_book : Nat) (h_t_plain_book_forms : Nat) (x_t_kept : Nat) (x_t_trial : Nat) (x_t_tape : Nat) (x_t_text : Nat) (x_t_sheets : Nat) (x_t_choice : Nat) (x_t_plain_kinds : Nat) (x_t_plain_forms : Nat) (x_t_plain_deeps : Nat) (c_t_isKept : Int32) (c_t_plain_size : Int32) (c_t_plain_hour : Int32) (c_t_plain_sunny : Int32) (c_t_plain_book_forms : (Nat → Int32)) (a1 : Int32) (a2 : Int32) {out : Int32 × (Nat → Int32)} (C : kC RX9 cX9_forge 4 (some .int) p s m args meth c) (hA : ∀ q : Nat, s.heap.size ≤ q → A q) (hK : va_K (eD E) vwCl (eT E) s) (hT : sT E A s s.heap)  :
    ∀ (c_t_found : (Nat → Int32)), f_S_forge_b19  c_t_plain_book_forms a1 a2 c_t_found = some out → ∀ (H : Heap) (locs : List Loc), va_P (eD E) vwCl (w_S_forge E h_t h_t_found h_t_plain h_t_plain_book h_t_plain_book_forms x_t_kept x_t_trial x_t_tape x_t_text x_t_sheets x_t_choice x_t_plain_kinds x_t_plain_forms x_t_plain_deeps c_t_isKept c_t_found c_t_plain_size c_t_plain_hour c_t_plain_sunny c_t_plain_book_forms) H → va_D A (w_S_forge E h_t h_t_found h_t_plain h_t_plain_book h_t_plain_book_forms x_t_kept x_t_trial x_t_tape x_t_text x_t_sheets x_t_choice x_t_plain_kinds x_t_plain_forms x_t_plain_deeps c_t_isKept c_t_found c_t_plain_size c_t_plain_hour c_t_plain_sunny c_t_plain_book_forms) → va_S A s.heap H locs → ∀ (ls : Array Slot), lv_has ls 4 [(0, .ref h_t)] → W p l e (rm 5) s m args below meth c H locs 0 0 (MQ below (qW (some (.int out.1)) E (w_S_forge E h_t h_t_found h_t_plain h_t_plain_book h_t_plain_book_forms x_t_kept x_t_trial x_t_tape x_t_text x_t_sheets x_t_choice x_t_plain_kinds x_t_plain_forms x_t_plain_deeps c_t_isKept out.2 c_t_plain_size c_t_plain_hour c_t_plain_sunny c_t_plain_book_forms) A) args s 0 0 A) (F0 m 19 ls []) := by
  obtain ⟨hx, hb, hr, hml, hown, hw, hlocks⟩ := id C
  intro c_t_found hF H locs hP hD hS ls hl
  rw [f_S_forge_b19] at hF
  refine lv_aload_n hx hb dX9_forge_19 rfl (lv_at hl 0 rfl) ?_
  refine lv_ldc (v := (-1000000001 : Int32)) hx hb hown (hw _ mw_237) dX9_forge_20 ?_
  obtain ⟨r1, er1, hF⟩ := kb hF
  refine kWV (rest := []) (Wr := [(h_t_plain, .inr (3, [.ref h_t_plain_book, .ref x_t_plain_kinds, .ref x_t_plain_forms, .ref x_t_plain_deeps, .int c_t_plain_size, .int c_t_plain_hour, .int c_t_plain_sunny])), (h_t_plain_book, .inr (0, [.ref h_t_plain_book_forms])), (h_t_plain_book_forms, .inl (eI E, 26, .inl c_t_plain_book_forms))]) (Wn := (w_S_forge E h_t h_t_found h_t_plain h_t_plain_book h_t_plain_book_forms x_t_kept x_t_trial x_t_tape x_t_text x_t_sheets x_t_choice x_t_plain_kinds x_t_plain_forms x_t_plain_deeps c_t_isKept r1.2 c_t_plain_size c_t_plain_hour c_t_plain_sunny c_t_plain_book_forms)) C (k_S_finding l E h_t h_t_found h_t_plain x_t_kept x_t_trial x_t_tape x_t_text x_t_sheets x_t_choice H.size c_t_isKept c_t_found (-1000000001 : Int32) r1 er1) fn_S_finding mw_238 ⟨Nat.le_of_ble_eq_true rfl, Nat.le_of_ble_eq_true rfl⟩ hK hT hS hA (va_recv hK hP (ci := 7) (q0 := 0) rfl rfl) hP hD [0, 1] rfl (by decide) [2, 3, 4] rfl (by decide) (by decide) [3, 4, 0, 1, 2] rfl (by decide) rfl rfl hl (Nat.le_of_ble_eq_true rfl) dX9_forge_22 (fun H locs hP hD hS => ?_)
  refine W.eq (g2 := F0 m 25 ls [.int r1.1]) rfl ?_
  obtain rfl := Option.some.inj hF
  exact W.iret hx hb hr (fun t ht hW => ⟨⟨rfl, by rw [ht]; exact hP, hD⟩, hS.F ht⟩) hS.2.2 dX9_forge_25
set_option maxHeartbeats 4000000 in
set_option maxRecDepth 100000 in
theorem wk_S_forge_b54 {p : Program} {l : Launch} {e : Env} {s : State} {m : MethodId} {args : Array Value} {below : List Frame} {meth : Method} {c : Code} {A : Nat → Prop} (E : kE) (h_t : Nat) (h_t_found : Nat) (h_t_plain : Nat) (h_t_plain_book : Nat) (h_t_plain_book_forms : Nat) (x_t_kept : Nat) (x_t_trial : Nat) (x_t_tape : Nat) (x_t_text : Nat) (x_t_sheets : Nat) (x_t_choice : Nat) (x_t_plain_kinds : Nat) (x_t_plain_forms : Nat) (x_t_plain_deeps : Nat) (c_t_isKept : Int32) (c_t_plain_size : Int32) (c_t_plain_hour : Int32) (c_t_plain_sunny : Int32) (c_t_plain_book_forms : (Nat → Int32)) (a1 : Int32) (a2 : Int32) {out : Int32 × (Nat → Int32)} (C : kC RX9 cX9_forge 4 (some .int) p s m args meth c) (hA : ∀ q : Nat, s.heap.size ≤ q → A q) (hK : va_K (eD E) vwCl (eT E) s) (hT : sT E A s s.heap)  :
    ∀ (c_t_found : (Nat → Int32)), f_S_forge_b54  c_t_plain_book_forms a1 a2 c_t_found = some out → ∀ (H : Heap) (locs : List Loc), va_P (eD E) vwCl (w_S_forge E h_t h_t_found h_t_plain h_t_plain_book h_t_plain_book_forms x_t_kept x_t_trial x_t_tape x_t_text x_t_sheets x_t_choice x_t_plain_kinds x_t_plain_forms x_t_plain_deeps c_t_isKept c_t_found c_t_plain_size c_t_plain_hour c_t_plain_sunny c_t_plain_book_forms) H → va_D A (w_S_forge E h_t h_t_found h_t_plain h_t_plain_book h_t_plain_book_forms x_t_kept x_t_trial x_t_tape x_t_text x_t_sheets x_t_choice x_t_plain_kinds x_t_plain_forms x_t_plain_deeps c_t_isKept c_t_found c_t_plain_size c_t_plain_hour c_t_plain_sunny c_t_plain_book_forms) → va_S A s.heap H locs → ∀ (ls : Array Slot), lv_has ls 4 [(0, .ref h_t)] → W p l e (rm 5) s m args below meth c H locs 0 0 (MQ below (qW (some (.int out.1)) E (w_S_forge E h_t h_t_found h_t_plain h_t_plain_book h_t_plain_book_forms x_t_kept x_t_trial x_t_tape x_t_text x_t_sheets x_t_choice x_t_plain_kinds x_t_plain_forms x_t_plain_deeps c_t_isKept out.2 c_t_plain_size c_t_plain_hour c_t_plain_sunny c_t_plain_book_forms) A) args s 0 0 A) (F0 m 54 ls []) := by
  obtain ⟨hx, hb, hr, hml, hown, hw, hlocks⟩ := id C
  intro c_t_found hF H locs hP hD hS ls hl
  rw [f_S_forge_b54] at hF
  refine lv_aload_n hx hb dX9_forge_54 rfl (lv_at hl 0 rfl) ?_
  refine lv_ldc (v := (-1000000005 : Int32)) hx hb hown (hw _ mw_406) dX9_forge_55 ?_
  obtain ⟨r2, er2, hF⟩ := kb hF
  refine kWV (rest := []) (Wr := [(h_t_plain, .inr (3, [.ref h_t_plain_book, .ref x_t_plain_kinds, .ref x_t_plain_forms, .ref x_t_plain_deeps, .int c_t_plain_size, .int c_t_plain_hour, .int c_t_plain_sunny])), (h_t_plain_book, .inr (0, [.ref h_t_plain_book_forms])), (h_t_plain_book_forms, .inl (eI E, 26, .inl c_t_plain_book_forms))]) (Wn := (w_S_forge E h_t h_t_found h_t_plain h_t_plain_book h_t_plain_book_forms x_t_kept x_t_trial x_t_tape x_t_text x_t_sheets x_t_choice x_t_plain_kinds x_t_plain_forms x_t_plain_deeps c_t_isKept r2.2 c_t_plain_size c_t_plain_hour c_t_plain_sunny c_t_plain_book_forms)) C (k_S_finding l E h_t h_t_found h_t_plain x_t_kept x_t_trial x_t_tape x_t_text x_t_sheets x_t_choice H.size c_t_isKept c_t_found (-1000000005 : Int32) r2 er2) fn_S_finding mw_238 ⟨Nat.le_of_ble_eq_true rfl, Nat.le_of_ble_eq_true rfl⟩ hK hT hS hA (va_recv hK hP (ci := 7) (q0 := 0) rfl rfl) hP hD [0, 1] rfl (by decide) [2, 3, 4] rfl (by decide) (by decide) [3, 4, 0, 1, 2] rfl (by decide) rfl rfl hl (Nat.le_of_ble_eq_true rfl) dX9_forge_57 (fun H locs hP hD hS => ?_)
  refine W.eq (g2 := F0 m 60 ls [.int r2.1]) rfl ?_
  obtain rfl := Option.some.inj hF
  exact W.iret hx hb hr (fun t ht hW => ⟨⟨rfl, by rw [ht]; exact hP, hD⟩, hS.F ht⟩) hS.2.2 dX9_forge_60
set_option maxHeartbeats 4000000 in
set_option maxRecDepth 100000 in
theorem k_S_forge (l : Launch) (E : kE) (h_t : Nat) (h_t_found : Nat) (h_t_plain : Nat) (h_t_plain_book : Nat) (h_t_plain_book_forms : Nat) (x_t_kept : Nat) (x_t_trial : Nat) (x_t_tape : Nat) (x_t_text : Nat) (x_t_sheets : Nat) (x_t_choice : Nat) (x_t_plain_kinds : Nat) (x_t_plain_forms : Nat) (x_t_plain_deeps : Nat) (sz : Nat) (c_t_isKept : Int32) (c_t_found : (Nat → Int32)) (c_t_plain_size : Int32) (c_t_plain_hour : Int32) (c_t_plain_sunny : Int32) (c_t_plain_book_forms : (Nat → Int32)) (a1 : Int32) (a2 : Int32) (out : Int32 × (Nat → Int32)) (hF : f_S_forge c_t_found c_t_plain_book_forms a1 a2 = some out) : Met l yX9_forge (Cond.code yX9_forge cX9_forge 4 (some .int) :: wG) (rm 5) (pW E (w_S_forge E h_t h_t_found h_t_plain h_t_plain_book h_t_plain_book_forms x_t_kept x_t_trial x_t_tape x_t_text x_t_sheets x_t_choice x_t_plain_kinds x_t_plain_forms x_t_plain_deeps c_t_isKept c_t_found c_t_plain_size c_t_plain_hour c_t_plain_sunny c_t_plain_book_forms) sz [.ref h_t, .int a1, .int a2]) (qW (some (.int out.1)) E (w_S_forge E h_t h_t_found h_t_plain h_t_plain_book h_t_plain_book_forms x_t_kept x_t_trial x_t_tape x_t_text x_t_sheets x_t_choice x_t_plain_kinds x_t_plain_forms x_t_plain_deeps c_t_isKept out.2 c_t_plain_size c_t_plain_hour c_t_plain_sunny c_t_plain_book_forms) (va_A (w_S_forge E h_t h_t_found h_t_plain h_t_plain_book h_t_plain_book_forms x_t_kept x_t_trial x_t_tape x_t_text x_t_sheets x_t_choice x_t_plain_kinds x_t_plain_forms x_t_plain_deeps c_t_isKept c_t_found c_t_plain_size c_t_plain_hour c_t_plain_sunny c_t_plain_book_forms) sz)) 0 0 (va_A (w_S_forge E h_t h_t_found h_t_plain h_t_plain_book h_t_plain_book_forms x_t_kept x_t_trial x_t_tape x_t_text x_t_sheets x_t_choice x_t_plain_kinds x_t_plain_forms x_t_plain_deeps c_t_isKept c_t_found c_t_plain_size c_t_plain_hour c_t_plain_sunny c_t_plain_book_forms) sz) := by
  refine met_W (by decide) (Nat.le_of_ble_eq_true rfl) ?_
  intro p e s m args below meth c A ls C hP hD hS hA hK hT hl
  obtain ⟨hx, hb, hr, hml, hown, hw, hlocks⟩ := id C
  have hl : lv_has ls 4 [(0, .ref h_t), (1, .int a1), (2, .int a2)] := hl
  rw [f_S_forge] at hF
  refine lv_iload_n hx hb dX9_forge_0 rfl (lv_at hl 1 rfl) ?_
  obtain ⟨r3, er3, hF⟩ := kb hF
  refine kRS (rest := []) C (k_Book_isSign l E a1 r3 er3) fn_Book_isSign mw_349 ⟨Nat.le_of_ble_eq_true rfl, Nat.le_of_ble_eq_true rfl⟩ hK hT hS hP [] rfl rfl rfl hl (Nat.le_of_ble_eq_true rfl) dX9_forge_1 ?_
  refine lv_if_eq (tgt := 19) hx hb dX9_forge_4 (by decide) (fun q4 => ?_) (fun q4 => ?_)
  · have hF := kp hF q4
    exact wk_S_forge_b19 E h_t h_t_found h_t_plain h_t_plain_book h_t_plain_book_forms x_t_kept x_t_trial x_t_tape x_t_text x_t_sheets x_t_choice x_t_plain_kinds x_t_plain_forms x_t_plain_deeps c_t_isKept c_t_plain_size c_t_plain_hour c_t_plain_sunny c_t_plain_book_forms a1 a2 C hA  hK hT  c_t_found hF _ _ hP hD hS _ (lv_sub hl [0] rfl)
  · have hF := kn hF q4
    refine lv_iload_n hx hb dX9_forge_7 rfl (lv_at hl 2 rfl) ?_
    obtain ⟨r5, er5, hF⟩ := kb hF
    refine kRS (rest := []) C (k_Book_isSign l E a2 r5 er5) fn_Book_isSign mw_349 ⟨Nat.le_of_ble_eq_true rfl, Nat.le_of_ble_eq_true rfl⟩ hK hT hS hP [] rfl rfl rfl hl (Nat.le_of_ble_eq_true rfl) dX9_forge_8 ?_
    refine lv_if_eq (tgt := 19) hx hb dX9_forge_11 (by decide) (fun q6 => ?_) (fun q6 => ?_)
    · have hF := kp hF q6
      exact wk_S_forge_b19 E h_t h_t_found h_t_plain h_t_plain_book h_t_plain_book_forms x_t_kept x_t_trial x_t_tape x_t_text x_t_sheets x_t_choice x_t_plain_kinds x_t_plain_forms x_t_plain_deeps c_t_isKept c_t_plain_size c_t_plain_hour c_t_plain_sunny c_t_plain_book_forms a1 a2 C hA  hK hT  c_t_found hF _ _ hP hD hS _ (lv_sub hl [0] rfl)
    · have hF := kn hF q6
      refine lv_iload_n hx hb dX9_forge_14 rfl (lv_at hl 1 rfl) ?_
      refine lv_iload_n hx hb dX9_forge_15 rfl (lv_at hl 2 rfl) ?_
      refine lv_icmp_ne (tgt := 26) hx hb dX9_forge_16 (by decide) (fun q7 => ?_) (fun q7 => ?_)
      · have hF := kn hF q7
        refine lv_aload_n hx hb dX9_forge_26 rfl (lv_at hl 0 rfl) ?_
        refine va_get (D := eD E) (ci := 7) (C := RX9) (T := TX9) (N := 9) (v := .ref h_t_plain) hx hb hw inX9 hown hK hP 0 rfl rfl 0 (by decide) (hw _ mw_202) (fun _ h9 => h9) rfl dX9_forge_27 ?_
        refine va_getN (D := eD E) (ci := 3) (C := RX5) (T := TX5) (N := 7) (v := .ref h_t_plain_book) hx hb hw inX5 hown hK hP 2 rfl rfl 0 (by decide) ((sF_1 hT).use rfl) (fun _ h9 => h9) rfl dX9_forge_30 ?_
        refine lv_iload_n hx hb dX9_forge_33 rfl (lv_at hl 1 rfl) ?_
        obtain ⟨r8, er8, hF⟩ := kb hF
        refine kRV (rest := []) C (k_Book_formAt l E h_t_plain_book h_t_plain_book_forms c_t_plain_book_forms a1 r8 er8) fn_Book_formAt mw_352 ⟨Nat.le_of_ble_eq_true rfl, Nat.le_of_ble_eq_true rfl⟩ hK hT hS (va_recv hK hP (ci := 0) (q0 := 3) rfl rfl) hP [3, 4] rfl rfl rfl hl (Nat.le_of_ble_eq_true rfl) dX9_forge_34 ?_
        refine lv_if_eq (tgt := 54) hx hb dX9_forge_37 (by decide) (fun q9 => ?_) (fun q9 => ?_)
        · have hF := kp hF q9
          exact wk_S_forge_b54 E h_t h_t_found h_t_plain h_t_plain_book h_t_plain_book_forms x_t_kept x_t_trial x_t_tape x_t_text x_t_sheets x_t_choice x_t_plain_kinds x_t_plain_forms x_t_plain_deeps c_t_isKept c_t_plain_size c_t_plain_hour c_t_plain_sunny c_t_plain_book_forms a1 a2 C hA  hK hT  c_t_found hF _ _ hP hD hS _ (lv_sub hl [0] rfl)
        · have hF := kn hF q9
          refine lv_aload_n hx hb dX9_forge_40 rfl (lv_at hl 0 rfl) ?_
          refine va_get (D := eD E) (ci := 7) (C := RX9) (T := TX9) (N := 9) (v := .ref h_t_plain) hx hb hw inX9 hown hK hP 0 rfl rfl 0 (by decide) (hw _ mw_202) (fun _ h9 => h9) rfl dX9_forge_41 ?_
          refine va_getN (D := eD E) (ci := 3) (C := RX5) (T := TX5) (N := 7) (v := .ref h_t_plain_book) hx hb hw inX5 hown hK hP 2 rfl rfl 0 (by decide) ((sF_1 hT).use rfl) (fun _ h9 => h9) rfl dX9_forge_44 ?_
          refine lv_iload_n hx hb dX9_forge_47 rfl (lv_at hl 2 rfl) ?_
          obtain ⟨r10, er10, hF⟩ := kb hF
          refine kRV (rest := []) C (k_Book_formAt l E h_t_plain_book h_t_plain_book_forms c_t_plain_book_forms a2 r10 er10) fn_Book_formAt mw_352 ⟨Nat.le_of_ble_eq_true rfl, Nat.le_of_ble_eq_true rfl⟩ hK hT hS (va_recv hK hP (ci := 0) (q0 := 3) rfl rfl) hP [3, 4] rfl rfl rfl hl (Nat.le_of_ble_eq_true rfl) dX9_forge_48 ?_
          refine lv_if_ne (tgt := 61) hx hb dX9_forge_51 (by decide) (fun q11 => ?_) (fun q11 => ?_)
          · have hF := kn hF q11
            refine lv_aload_n hx hb dX9_forge_61 rfl (lv_at hl 0 rfl) ?_
            refine va_get (D := eD E) (ci := 7) (C := RX9) (T := TX9) (N := 9) (v := .ref h_t_plain) hx hb hw inX9 hown hK hP 0 rfl rfl 0 (by decide) (hw _ mw_202) (fun _ h9 => h9) rfl dX9_forge_62 ?_
            refine va_getN (D := eD E) (ci := 3) (C := RX5) (T := TX5) (N := 7) (v := .ref h_t_plain_book) hx hb hw inX5 hown hK hP 2 rfl rfl 0 (by decide) ((sF_1 hT).use rfl) (fun _ h9 => h9) rfl dX9_forge_65 ?_
            refine lv_iload_n hx hb dX9_forge_68 rfl (lv_at hl 1 rfl) ?_
            refine lv_iload_n hx hb dX9_forge_69 rfl (lv_at hl 2 rfl) ?_
            obtain ⟨r12, er12, hF⟩ := kb hF
            refine kRV (rest := []) C (k_Book_fewestToForge l E h_t_plain_book h_t_plain_book_forms c_t_plain_book_forms a1 a2 r12 er12) fn_Book_fewestToForge mw_407 ⟨Nat.le_of_ble_eq_true rfl, Nat.le_of_ble_eq_true rfl⟩ hK hT hS (va_recv hK hP (ci := 0) (q0 := 3) rfl rfl) hP [3, 4] rfl rfl rfl hl (Nat.le_of_ble_eq_true rfl) dX9_forge_70 ?_
            refine lv_istore_n (lv' := [(3, .int r12), (0, .ref h_t), (1, .int a1), (2, .int a2)]) hx hb dX9_forge_73 rfl hl (by decide) rfl (fun ls hl => ?_)
            refine lv_iload_n hx hb dX9_forge_74 rfl (lv_at hl 0 rfl) ?_
            refine lv_if_ge (tgt := 87) hx hb dX9_forge_75 (by decide) (fun q13 => ?_) (fun q13 => ?_)
            · have hF := kp hF q13
              refine lv_iload_n hx hb dX9_forge_87 rfl (lv_at hl 0 rfl) ?_
              obtain rfl := Option.some.inj hF
              exact W.iret hx hb hr (fun t ht hW => ⟨⟨rfl, by rw [ht]; exact hP, hD⟩, hS.F ht⟩) hS.2.2 dX9_forge_88
            · have hF := kn hF q13
              refine lv_aload_n hx hb dX9_forge_78 rfl (lv_at hl 1 rfl) ?_
              refine lv_ldc (v := (-1000000004 : Int32)) hx hb hown (hw _ mw_325) dX9_forge_79 ?_
              obtain ⟨r14, er14, hF⟩ := kb hF
              refine kWV (rest := []) (Wr := [(h_t_plain, .inr (3, [.ref h_t_plain_book, .ref x_t_plain_kinds, .ref x_t_plain_forms, .ref x_t_plain_deeps, .int c_t_plain_size, .int c_t_plain_hour, .int c_t_plain_sunny])), (h_t_plain_book, .inr (0, [.ref h_t_plain_book_forms])), (h_t_plain_book_forms, .inl (eI E, 26, .inl c_t_plain_book_forms))]) (Wn := (w_S_forge E h_t h_t_found h_t_plain h_t_plain_book h_t_plain_book_forms x_t_kept x_t_trial x_t_tape x_t_text x_t_sheets x_t_choice x_t_plain_kinds x_t_plain_forms x_t_plain_deeps c_t_isKept r14.2 c_t_plain_size c_t_plain_hour c_t_plain_sunny c_t_plain_book_forms)) C (k_S_finding l E h_t h_t_found h_t_plain x_t_kept x_t_trial x_t_tape x_t_text x_t_sheets x_t_choice s.heap.size c_t_isKept c_t_found (-1000000004 : Int32) r14 er14) fn_S_finding mw_238 ⟨Nat.le_of_ble_eq_true rfl, Nat.le_of_ble_eq_true rfl⟩ hK hT hS hA (va_recv hK hP (ci := 7) (q0 := 0) rfl rfl) hP hD [0, 1] rfl (by decide) [2, 3, 4] rfl (by decide) (by decide) [3, 4, 0, 1, 2] rfl (by decide) rfl rfl hl (Nat.le_of_ble_eq_true rfl) dX9_forge_81 (fun H locs hP hD hS => ?_)
              refine W.eq (g2 := F0 m 84 ls [.int r14.1]) rfl ?_
              refine lv_goto (tgt := 88) hx hb dX9_forge_84 (by decide) ?_
              obtain rfl := Option.some.inj hF
              exact W.iret hx hb hr (fun t ht hW => ⟨⟨rfl, by rw [ht]; exact hP, hD⟩, hS.F ht⟩) hS.2.2 dX9_forge_88
          · have hF := kp hF q11
            exact wk_S_forge_b54 E h_t h_t_found h_t_plain h_t_plain_book h_t_plain_book_forms x_t_kept x_t_trial x_t_tape x_t_text x_t_sheets x_t_choice x_t_plain_kinds x_t_plain_forms x_t_plain_deeps c_t_isKept c_t_plain_size c_t_plain_hour c_t_plain_sunny c_t_plain_book_forms a1 a2 C hA  hK hT  c_t_found hF _ _ hP hD hS _ (lv_sub hl [0] rfl)
      · have hF := kp hF q7
        exact wk_S_forge_b19 E h_t h_t_found h_t_plain h_t_plain_book h_t_plain_book_forms x_t_kept x_t_trial x_t_tape x_t_text x_t_sheets x_t_choice x_t_plain_kinds x_t_plain_forms x_t_plain_deeps c_t_isKept c_t_plain_size c_t_plain_hour c_t_plain_sunny c_t_plain_book_forms a1 a2 C hA  hK hT  c_t_found hF _ _ hP hD hS _ (lv_sub hl [0] rfl)
abbrev w_S_letter (E : kE) (h_t : Nat) (h_t_found : Nat) (h_t_plain : Nat) (h_t_plain_deeps : Nat) (h_t_plain_forms : Nat) (h_t_plain_kinds : Nat) (x_t_kept : Nat) (x_t_trial : Nat) (x_t_tape : Nat) (x_t_text : Nat) (x_t_sheets : Nat) (x_t_choice : Nat) (x_t_plain_book : Nat) (c_t_isKept : Int32) (c_t_found : (Nat → Int32)) (c_t_plain_size : Int32) (c_t_plain_hour : Int32) (c_t_plain_sunny : Int32) (c_t_plain_deeps : (Nat → Int32)) (c_t_plain_forms : (Nat → Int32)) (c_t_plain_kinds : (Nat → Int32)) : va_W := [(h_t, .inr (7, [.ref h_t_plain, .ref x_t_kept, .ref x_t_trial, .ref x_t_tape, .ref x_t_text, .ref x_t_sheets, .ref x_t_choice, .ref h_t_found, .int c_t_isKept])), (h_t_found, .inl (eI E, 7, .inl c_t_found)), (h_t_plain, .inr (3, [.ref x_t_plain_book, .ref h_t_plain_kinds, .ref h_t_plain_forms, .ref h_t_plain_deeps, .int c_t_plain_size, .int c_t_plain_hour, .int c_t_plain_sunny])), (h_t_plain_deeps, .inl (eI E, 12, .inl c_t_plain_deeps)), (h_t_plain_forms, .inl (eI E, 12, .inl c_t_plain_forms)), (h_t_plain_kinds, .inl (eI E, 12, .inl c_t_plain_kinds))]
set_option maxHeartbeats 4000000 in
set_option maxRecDepth 100000 in
theorem wk_S_letter_b14 {p : Program} {l : Launch} {e : Env} {s : State} {m : MethodId} {args : Array Value} {below : List Frame} {meth : Method} {c : Code} {A : Nat → Prop} (E : kE) (h_t : Nat) (h_t_found : Nat) (h_t_plain : Nat) (h_t_plain_deeps : Nat) (h_t_plain_forms : Nat) (h_t_plain_kinds : Nat) (x_t_kept : Nat) (x_t_trial : Nat) (x_t_tape : Nat) (x_t_text : Nat) (x_t_sheets : Nat) (x_t_choice : Nat) (x_t_plain_book : Nat) (c_t_isKept : Int32) (c_t_plain_hour : Int32) (c_t_plain_sunny : Int32) (a1 : Int32) (a2 : Int32) {out : Int32 × (Nat → Int32) × Int32 × (Nat → Int32) × (Nat → Int32) × (Nat → Int32)} (C : kC RX9 cX9_letter 3 (some .int) p s m args meth c) (hA : ∀ q : Nat, s.heap.size ≤ q → A q) (hK : va_K (eD E) vwCl (eT E) s) (hT : sT E A s s.heap)  :
    ∀ (c_t_found : (Nat → Int32)) (c_t_plain_size : Int32) (c_t_plain_deeps : (Nat → Int32)) (c_t_plain_forms : (Nat → Int32)) (c_t_plain_kinds : (Nat → Int32)), f_S_letter_b14  a1 a2 c_t_found c_t_plain_size c_t_plain_deeps c_t_plain_forms c_t_plain_kinds = some out → ∀ (H : Heap) (locs : List Loc), va_P (eD E) vwCl (w_S_letter E h_t h_t_found h_t_plain h_t_plain_deeps h_t_plain_forms h_t_plain_kinds x_t_kept x_t_trial x_t_tape x_t_text x_t_sheets x_t_choice x_t_plain_book c_t_isKept c_t_found c_t_plain_size c_t_plain_hour c_t_plain_sunny c_t_plain_deeps c_t_plain_forms c_t_plain_kinds) H → va_D A (w_S_letter E h_t h_t_found h_t_plain h_t_plain_deeps h_t_plain_forms h_t_plain_kinds x_t_kept x_t_trial x_t_tape x_t_text x_t_sheets x_t_choice x_t_plain_book c_t_isKept c_t_found c_t_plain_size c_t_plain_hour c_t_plain_sunny c_t_plain_deeps c_t_plain_forms c_t_plain_kinds) → va_S A s.heap H locs → ∀ (ls : Array Slot), lv_has ls 3 [(0, .ref h_t)] → W p l e (rm 3) s m args below meth c H locs 0 0 (MQ below (qW (some (.int out.1)) E (w_S_letter E h_t h_t_found h_t_plain h_t_plain_deeps h_t_plain_forms h_t_plain_kinds x_t_kept x_t_trial x_t_tape x_t_text x_t_sheets x_t_choice x_t_plain_book c_t_isKept out.2.1 out.2.2.1 c_t_plain_hour c_t_plain_sunny out.2.2.2.1 out.2.2.2.2.1 out.2.2.2.2.2) A) args s 0 0 A) (F0 m 14 ls []) := by
  obtain ⟨hx, hb, hr, hml, hown, hw, hlocks⟩ := id C
  intro c_t_found c_t_plain_size c_t_plain_deeps c_t_plain_forms c_t_plain_kinds hF H locs hP hD hS ls hl
  rw [f_S_letter_b14] at hF
  refine lv_aload_n hx hb dX9_letter_14 rfl (lv_at hl 0 rfl) ?_
  refine lv_ldc (v := (-1000000001 : Int32)) hx hb hown (hw _ mw_237) dX9_letter_15 ?_
  obtain ⟨r1, er1, hF⟩ := kb hF
  refine kWV (rest := []) (Wr := [(h_t_plain, .inr (3, [.ref x_t_plain_book, .ref h_t_plain_kinds, .ref h_t_plain_forms, .ref h_t_plain_deeps, .int c_t_plain_size, .int c_t_plain_hour, .int c_t_plain_sunny])), (h_t_plain_deeps, .inl (eI E, 12, .inl c_t_plain_deeps)), (h_t_plain_forms, .inl (eI E, 12, .inl c_t_plain_forms)), (h_t_plain_kinds, .inl (eI E, 12, .inl c_t_plain_kinds))]) (Wn := (w_S_letter E h_t h_t_found h_t_plain h_t_plain_deeps h_t_plain_forms h_t_plain_kinds x_t_kept x_t_trial x_t_tape x_t_text x_t_sheets x_t_choice x_t_plain_book c_t_isKept r1.2 c_t_plain_size c_t_plain_hour c_t_plain_sunny c_t_plain_deeps c_t_plain_forms c_t_plain_kinds)) C (k_S_finding l E h_t h_t_found h_t_plain x_t_kept x_t_trial x_t_tape x_t_text x_t_sheets x_t_choice H.size c_t_isKept c_t_found (-1000000001 : Int32) r1 er1) fn_S_finding mw_238 ⟨Nat.le_of_ble_eq_true rfl, Nat.le_of_ble_eq_true rfl⟩ hK hT hS hA (va_recv hK hP (ci := 7) (q0 := 0) rfl rfl) hP hD [0, 1] rfl (by decide) [2, 3, 4, 5] rfl (by decide) (by decide) [4, 5, 0, 1, 2, 3] rfl (by decide) rfl rfl hl (Nat.le_of_ble_eq_true rfl) dX9_letter_17 (fun H locs hP hD hS => ?_)
  refine W.eq (g2 := F0 m 20 ls [.int r1.1]) rfl ?_
  obtain rfl := Option.some.inj hF
  exact W.iret hx hb hr (fun t ht hW => ⟨⟨rfl, by rw [ht]; exact hP, hD⟩, hS.F ht⟩) hS.2.2 dX9_letter_20
set_option maxHeartbeats 4000000 in
set_option maxRecDepth 100000 in
theorem k_S_letter (l : Launch) (E : kE) (h_t : Nat) (h_t_found : Nat) (h_t_plain : Nat) (h_t_plain_deeps : Nat) (h_t_plain_forms : Nat) (h_t_plain_kinds : Nat) (x_t_kept : Nat) (x_t_trial : Nat) (x_t_tape : Nat) (x_t_text : Nat) (x_t_sheets : Nat) (x_t_choice : Nat) (x_t_plain_book : Nat) (sz : Nat) (c_t_isKept : Int32) (c_t_found : (Nat → Int32)) (c_t_plain_size : Int32) (c_t_plain_hour : Int32) (c_t_plain_sunny : Int32) (c_t_plain_deeps : (Nat → Int32)) (c_t_plain_forms : (Nat → Int32)) (c_t_plain_kinds : (Nat → Int32)) (a1 : Int32) (a2 : Int32) (out : Int32 × (Nat → Int32) × Int32 × (Nat → Int32) × (Nat → Int32) × (Nat → Int32)) (hF : f_S_letter c_t_found c_t_plain_size c_t_plain_deeps c_t_plain_forms c_t_plain_kinds a1 a2 = some out) : Met l yX9_letter (Cond.code yX9_letter cX9_letter 3 (some .int) :: wG) (rm 3) (pW E (w_S_letter E h_t h_t_found h_t_plain h_t_plain_deeps h_t_plain_forms h_t_plain_kinds x_t_kept x_t_trial x_t_tape x_t_text x_t_sheets x_t_choice x_t_plain_book c_t_isKept c_t_found c_t_plain_size c_t_plain_hour c_t_plain_sunny c_t_plain_deeps c_t_plain_forms c_t_plain_kinds) sz [.ref h_t, .int a1, .int a2]) (qW (some (.int out.1)) E (w_S_letter E h_t h_t_found h_t_plain h_t_plain_deeps h_t_plain_forms h_t_plain_kinds x_t_kept x_t_trial x_t_tape x_t_text x_t_sheets x_t_choice x_t_plain_book c_t_isKept out.2.1 out.2.2.1 c_t_plain_hour c_t_plain_sunny out.2.2.2.1 out.2.2.2.2.1 out.2.2.2.2.2) (va_A (w_S_letter E h_t h_t_found h_t_plain h_t_plain_deeps h_t_plain_forms h_t_plain_kinds x_t_kept x_t_trial x_t_tape x_t_text x_t_sheets x_t_choice x_t_plain_book c_t_isKept c_t_found c_t_plain_size c_t_plain_hour c_t_plain_sunny c_t_plain_deeps c_t_plain_forms c_t_plain_kinds) sz)) 0 0 (va_A (w_S_letter E h_t h_t_found h_t_plain h_t_plain_deeps h_t_plain_forms h_t_plain_kinds x_t_kept x_t_trial x_t_tape x_t_text x_t_sheets x_t_choice x_t_plain_book c_t_isKept c_t_found c_t_plain_size c_t_plain_hour c_t_plain_sunny c_t_plain_deeps c_t_plain_forms c_t_plain_kinds) sz) := by
  refine met_W (by decide) (Nat.le_of_ble_eq_true rfl) ?_
  intro p e s m args below meth c A ls C hP hD hS hA hK hT hl
  obtain ⟨hx, hb, hr, hml, hown, hw, hlocks⟩ := id C
  have hl : lv_has ls 3 [(0, .ref h_t), (1, .int a1), (2, .int a2)] := hl
  rw [f_S_letter] at hF
  refine lv_iload_n hx hb dX9_letter_0 rfl (lv_at hl 1 rfl) ?_
  obtain ⟨r2, er2, hF⟩ := kb hF
  refine kRS (rest := []) C (k_Kinds_isKind l E a1 r2 er2) fn_Kinds_isKind mw_421 ⟨Nat.le_of_ble_eq_true rfl, Nat.le_of_ble_eq_true rfl⟩ hK hT hS hP [] rfl rfl rfl hl (Nat.le_of_ble_eq_true rfl) dX9_letter_1 ?_
  refine lv_if_eq (tgt := 14) hx hb dX9_letter_4 (by decide) (fun q3 => ?_) (fun q3 => ?_)
  · have hF := kp hF q3
    exact wk_S_letter_b14 E h_t h_t_found h_t_plain h_t_plain_deeps h_t_plain_forms h_t_plain_kinds x_t_kept x_t_trial x_t_tape x_t_text x_t_sheets x_t_choice x_t_plain_book c_t_isKept c_t_plain_hour c_t_plain_sunny a1 a2 C hA  hK hT  c_t_found c_t_plain_size c_t_plain_deeps c_t_plain_forms c_t_plain_kinds hF _ _ hP hD hS _ (lv_sub hl [0] rfl)
  · have hF := kn hF q3
    refine lv_iload_n hx hb dX9_letter_7 rfl (lv_at hl 2 rfl) ?_
    obtain ⟨r4, er4, hF⟩ := kb hF
    refine kRS (rest := []) C (k_Forms_isForm l E a2 r4 er4) fn_Forms_isForm mw_234 ⟨Nat.le_of_ble_eq_true rfl, Nat.le_of_ble_eq_true rfl⟩ hK hT hS hP [] rfl rfl rfl hl (Nat.le_of_ble_eq_true rfl) dX9_letter_8 ?_
    refine lv_if_ne (tgt := 21) hx hb dX9_letter_11 (by decide) (fun q5 => ?_) (fun q5 => ?_)
    · have hF := kn hF q5
      refine lv_aload_n hx hb dX9_letter_21 rfl (lv_at hl 0 rfl) ?_
      refine va_get (D := eD E) (ci := 7) (C := RX9) (T := TX9) (N := 9) (v := .ref h_t_plain) hx hb hw inX9 hown hK hP 0 rfl rfl 0 (by decide) (hw _ mw_202) (fun _ h9 => h9) rfl dX9_letter_22 ?_
      obtain ⟨r6, er6, hF⟩ := kb hF
      refine kRV (rest := []) C (k_Plain_isFull l E h_t_plain x_t_plain_book h_t_plain_kinds h_t_plain_forms h_t_plain_deeps c_t_plain_size c_t_plain_hour c_t_plain_sunny r6 er6) fn_Plain_isFull mw_424 ⟨Nat.le_of_ble_eq_true rfl, Nat.le_of_ble_eq_true rfl⟩ hK hT hS (va_recv hK hP (ci := 3) (q0 := 2) rfl rfl) hP [2] rfl rfl rfl hl (Nat.le_of_ble_eq_true rfl) dX9_letter_25 ?_
      refine lv_if_eq (tgt := 38) hx hb dX9_letter_28 (by decide) (fun q7 => ?_) (fun q7 => ?_)
      · have hF := kp hF q7
        refine lv_aload_n hx hb dX9_letter_38 rfl (lv_at hl 0 rfl) ?_
        refine va_get (D := eD E) (ci := 7) (C := RX9) (T := TX9) (N := 9) (v := .ref h_t_plain) hx hb hw inX9 hown hK hP 0 rfl rfl 0 (by decide) (hw _ mw_202) (fun _ h9 => h9) rfl dX9_letter_39 ?_
        refine lv_iload_n hx hb dX9_letter_42 rfl (lv_at hl 1 rfl) ?_
        refine lv_iload_n hx hb dX9_letter_43 rfl (lv_at hl 2 rfl) ?_
        refine lv_bipush (v := (6 : Int32)) hx hb dX9_letter_44 (by decide) ?_
        obtain ⟨r8, er8, hF⟩ := kb hF
        refine kWV (rest := []) (Wr := [(h_t, .inr (7, [.ref h_t_plain, .ref x_t_kept, .ref x_t_trial, .ref x_t_tape, .ref x_t_text, .ref x_t_sheets, .ref x_t_choice, .ref h_t_found, .int c_t_isKept])), (h_t_found, .inl (eI E, 7, .inl c_t_found))]) (Wn := (w_S_letter E h_t h_t_found h_t_plain h_t_plain_deeps h_t_plain_forms h_t_plain_kinds x_t_kept x_t_trial x_t_tape x_t_text x_t_sheets x_t_choice x_t_plain_book c_t_isKept c_t_found r8.2.1 c_t_plain_hour c_t_plain_sunny r8.2.2.1 r8.2.2.2.1 r8.2.2.2.2)) C (k_Plain_add l E h_t_plain h_t_plain_deeps h_t_plain_forms h_t_plain_kinds x_t_plain_book s.heap.size c_t_plain_size c_t_plain_hour c_t_plain_sunny c_t_plain_deeps c_t_plain_forms c_t_plain_kinds a1 a2 (6 : Int32) r8 er8) fn_Plain_add mw_429 ⟨Nat.le_of_ble_eq_true rfl, Nat.le_of_ble_eq_true rfl⟩ hK hT hS hA (va_recv hK hP (ci := 3) (q0 := 2) rfl rfl) hP hD [2, 3, 4, 5] rfl (by decide) [0, 1] rfl (by decide) (by decide) [0, 1, 2, 3, 4, 5] rfl (by decide) rfl rfl hl (Nat.le_of_ble_eq_true rfl) dX9_letter_46 (fun H locs hP hD hS => ?_)
        refine W.eq (g2 := F0 m 49 ls [.int r8.1]) rfl ?_
        obtain rfl := Option.some.inj hF
        exact W.iret hx hb hr (fun t ht hW => ⟨⟨rfl, by rw [ht]; exact hP, hD⟩, hS.F ht⟩) hS.2.2 dX9_letter_49
      · have hF := kn hF q7
        refine lv_aload_n hx hb dX9_letter_31 rfl (lv_at hl 0 rfl) ?_
        refine lv_ldc (v := (-1000000002 : Int32)) hx hb hown (hw _ mw_428) dX9_letter_32 ?_
        obtain ⟨r9, er9, hF⟩ := kb hF
        refine kWV (rest := []) (Wr := [(h_t_plain, .inr (3, [.ref x_t_plain_book, .ref h_t_plain_kinds, .ref h_t_plain_forms, .ref h_t_plain_deeps, .int c_t_plain_size, .int c_t_plain_hour, .int c_t_plain_sunny])), (h_t_plain_deeps, .inl (eI E, 12, .inl c_t_plain_deeps)), (h_t_plain_forms, .inl (eI E, 12, .inl c_t_plain_forms)), (h_t_plain_kinds, .inl (eI E, 12, .inl c_t_plain_kinds))]) (Wn := (w_S_letter E h_t h_t_found h_t_plain h_t_plain_deeps h_t_plain_forms h_t_plain_kinds x_t_kept x_t_trial x_t_tape x_t_text x_t_sheets x_t_choice x_t_plain_book c_t_isKept r9.2 c_t_plain_size c_t_plain_hour c_t_plain_sunny c_t_plain_deeps c_t_plain_forms c_t_plain_kinds)) C (k_S_finding l E h_t h_t_found h_t_plain x_t_kept x_t_trial x_t_tape x_t_text x_t_sheets x_t_choice s.heap.size c_t_isKept c_t_found (-1000000002 : Int32) r9 er9) fn_S_finding mw_238 ⟨Nat.le_of_ble_eq_true rfl, Nat.le_of_ble_eq_true rfl⟩ hK hT hS hA (va_recv hK hP (ci := 7) (q0 := 0) rfl rfl) hP hD [0, 1] rfl (by decide) [2, 3, 4, 5] rfl (by decide) (by decide) [4, 5, 0, 1, 2, 3] rfl (by decide) rfl rfl hl (Nat.le_of_ble_eq_true rfl) dX9_letter_34 (fun H locs hP hD hS => ?_)
        refine W.eq (g2 := F0 m 37 ls [.int r9.1]) rfl ?_
        obtain rfl := Option.some.inj hF
        exact W.iret hx hb hr (fun t ht hW => ⟨⟨rfl, by rw [ht]; exact hP, hD⟩, hS.F ht⟩) hS.2.2 dX9_letter_37
    · have hF := kp hF q5
      exact wk_S_letter_b14 E h_t h_t_found h_t_plain h_t_plain_deeps h_t_plain_forms h_t_plain_kinds x_t_kept x_t_trial x_t_tape x_t_text x_t_sheets x_t_choice x_t_plain_book c_t_isKept c_t_plain_hour c_t_plain_sunny a1 a2 C hA  hK hT  c_t_found c_t_plain_size c_t_plain_deeps c_t_plain_forms c_t_plain_kinds hF _ _ hP hD hS _ (lv_sub hl [0] rfl)
abbrev w_S_of (E : kE) (h_t : Nat) (h_t_found : Nat) (h_t_plain : Nat) (h_t_plain_book : Nat) (h_t_plain_book_forms : Nat) (h_t_plain_deeps : Nat) (h_t_plain_forms : Nat) (h_t_plain_kinds : Nat) (x_t_kept : Nat) (x_t_trial : Nat) (x_t_tape : Nat) (x_t_text : Nat) (x_t_sheets : Nat) (x_t_choice : Nat) (c_t_isKept : Int32) (c_t_found : (Nat → Int32)) (c_t_plain_size : Int32) (c_t_plain_hour : Int32) (c_t_plain_sunny : Int32) (c_t_plain_book_forms : (Nat → Int32)) (c_t_plain_deeps : (Nat → Int32)) (c_t_plain_forms : (Nat → Int32)) (c_t_plain_kinds : (Nat → Int32)) : va_W := [(h_t, .inr (7, [.ref h_t_plain, .ref x_t_kept, .ref x_t_trial, .ref x_t_tape, .ref x_t_text, .ref x_t_sheets, .ref x_t_choice, .ref h_t_found, .int c_t_isKept])), (h_t_found, .inl (eI E, 7, .inl c_t_found)), (h_t_plain, .inr (3, [.ref h_t_plain_book, .ref h_t_plain_kinds, .ref h_t_plain_forms, .ref h_t_plain_deeps, .int c_t_plain_size, .int c_t_plain_hour, .int c_t_plain_sunny])), (h_t_plain_book, .inr (0, [.ref h_t_plain_book_forms])), (h_t_plain_book_forms, .inl (eI E, 26, .inl c_t_plain_book_forms)), (h_t_plain_deeps, .inl (eI E, 12, .inl c_t_plain_deeps)), (h_t_plain_forms, .inl (eI E, 12, .inl c_t_plain_forms)), (h_t_plain_kinds, .inl (eI E, 12, .inl c_t_plain_kinds))]
set_option maxHeartbeats 4000000 in
set_option maxRecDepth 100000 in
theorem k_S_of (l : Launch) (E : kE) (h_t : Nat) (h_t_found : Nat) (h_t_plain : Nat) (h_t_plain_book : Nat) (h_t_plain_book_forms : Nat) (h_t_plain_deeps : Nat) (h_t_plain_forms : Nat) (h_t_plain_kinds : Nat) (x_t_kept : Nat) (x_t_trial : Nat) (x_t_tape : Nat) (x_t_text : Nat) (x_t_sheets : Nat) (x_t_choice : Nat) (sz : Nat) (c_t_isKept : Int32) (c_t_found : (Nat → Int32)) (c_t_plain_size : Int32) (c_t_plain_hour : Int32) (c_t_plain_sunny : Int32) (c_t_plain_book_forms : (Nat → Int32)) (c_t_plain_deeps : (Nat → Int32)) (c_t_plain_forms : (Nat → Int32)) (c_t_plain_kinds : (Nat → Int32)) (a1 : Int32) (a2 : Int32) (out : Int32 × (Nat → Int32)) (hF : f_S_of c_t_found c_t_plain_size c_t_plain_hour c_t_plain_sunny c_t_plain_book_forms c_t_plain_deeps c_t_plain_forms c_t_plain_kinds a1 a2 = some out) : Met l yX9_of (Cond.code yX9_of cX9_of 3 (some .int) :: wG) (rm 6) (pW E (w_S_of E h_t h_t_found h_t_plain h_t_plain_book h_t_plain_book_forms h_t_plain_deeps h_t_plain_forms h_t_plain_kinds x_t_kept x_t_trial x_t_tape x_t_text x_t_sheets x_t_choice c_t_isKept c_t_found c_t_plain_size c_t_plain_hour c_t_plain_sunny c_t_plain_book_forms c_t_plain_deeps c_t_plain_forms c_t_plain_kinds) sz [.ref h_t, .int a1, .int a2]) (qW (some (.int out.1)) E (w_S_of E h_t h_t_found h_t_plain h_t_plain_book h_t_plain_book_forms h_t_plain_deeps h_t_plain_forms h_t_plain_kinds x_t_kept x_t_trial x_t_tape x_t_text x_t_sheets x_t_choice c_t_isKept out.2 c_t_plain_size c_t_plain_hour c_t_plain_sunny c_t_plain_book_forms c_t_plain_deeps c_t_plain_forms c_t_plain_kinds) (va_A (w_S_of E h_t h_t_found h_t_plain h_t_plain_book h_t_plain_book_forms h_t_plain_deeps h_t_plain_forms h_t_plain_kinds x_t_kept x_t_trial x_t_tape x_t_text x_t_sheets x_t_choice c_t_isKept c_t_found c_t_plain_size c_t_plain_hour c_t_plain_sunny c_t_plain_book_forms c_t_plain_deeps c_t_plain_forms c_t_plain_kinds) sz)) 0 0 (va_A (w_S_of E h_t h_t_found h_t_plain h_t_plain_book h_t_plain_book_forms h_t_plain_deeps h_t_plain_forms h_t_plain_kinds x_t_kept x_t_trial x_t_tape x_t_text x_t_sheets x_t_choice c_t_isKept c_t_found c_t_plain_size c_t_plain_hour c_t_plain_sunny c_t_plain_book_forms c_t_plain_deeps c_t_plain_forms c_t_plain_kinds) sz) := by
  refine met_W (by decide) (Nat.le_of_ble_eq_true rfl) ?_
  intro p e s m args below meth c A ls C hP hD hS hA hK hT hl
  obtain ⟨hx, hb, hr, hml, hown, hw, hlocks⟩ := id C
  have hl : lv_has ls 3 [(0, .ref h_t), (1, .int a1), (2, .int a2)] := hl
  rw [f_S_of] at hF
  refine lv_aload_n hx hb dX9_of_0 rfl (lv_at hl 0 rfl) ?_
  refine va_get (D := eD E) (ci := 7) (C := RX9) (T := TX9) (N := 9) (v := .ref h_t_plain) hx hb hw inX9 hown hK hP 0 rfl rfl 0 (by decide) (hw _ mw_202) (fun _ h9 => h9) rfl dX9_of_1 ?_
  refine lv_iload_n hx hb dX9_of_4 rfl (lv_at hl 1 rfl) ?_
  obtain ⟨r1, er1, hF⟩ := kb hF
  refine kRV (rest := []) C (k_Plain_has l E h_t_plain h_t_plain_book h_t_plain_kinds h_t_plain_forms h_t_plain_deeps c_t_plain_size c_t_plain_hour c_t_plain_sunny a1 r1 er1) fn_Plain_has mw_438 ⟨Nat.le_of_ble_eq_true rfl, Nat.le_of_ble_eq_true rfl⟩ hK hT hS (va_recv hK hP (ci := 3) (q0 := 2) rfl rfl) hP [2] rfl rfl rfl hl (Nat.le_of_ble_eq_true rfl) dX9_of_5 ?_
  refine lv_if_ne (tgt := 18) hx hb dX9_of_8 (by decide) (fun q2 => ?_) (fun q2 => ?_)
  · have hF := kn hF q2
    refine lv_iload_n hx hb dX9_of_18 rfl (lv_at hl 2 rfl) ?_
    by_cases q3_0 : a2 = (0 : Int32)
    · have hF := kp hF q3_0
      refine lv_tableIn (tgt := 64) (off := 45) hx hb dX9_of_19 (sw_in (lo := 0) (hi := 7) q3_0 (by decide)).1 (sw_in (lo := 0) (hi := 7) q3_0 (by decide)).2 (sw_at q3_0 rfl) (by decide) ?_
      refine lv_aload_n hx hb dX9_of_64 rfl (lv_at hl 0 rfl) ?_
      refine va_get (D := eD E) (ci := 7) (C := RX9) (T := TX9) (N := 9) (v := .ref h_t_plain) hx hb hw inX9 hown hK hP 0 rfl rfl 0 (by decide) (hw _ mw_202) (fun _ h9 => h9) rfl dX9_of_65 ?_
      refine va_getN (D := eD E) (ci := 3) (C := RX5) (T := TX5) (N := 7) (v := .ref h_t_plain_kinds) hx hb hw inX5 hown hK hP 2 rfl rfl 1 (by decide) ((sF_2 hT).use rfl) (fun _ h9 => h9) rfl dX9_of_68 ?_
      refine lv_iload_n hx hb dX9_of_71 rfl (lv_at hl 1 rfl) ?_
      obtain ⟨r4, er4, hF⟩ := kb hF
      refine wa_iald hx hb hK hP 7 0 rfl rfl er4 dX9_of_72 ?_
      obtain rfl := Option.some.inj hF
      exact W.iret hx hb hr (fun t ht hW => ⟨⟨rfl, by rw [ht]; exact hP, hD⟩, hS.F ht⟩) hS.2.2 dX9_of_73
    have hF := kn hF q3_0
    by_cases q3_1 : a2 = (1 : Int32)
    · have hF := kp hF q3_1
      refine lv_tableIn (tgt := 74) (off := 55) hx hb dX9_of_19 (sw_in (lo := 0) (hi := 7) q3_1 (by decide)).1 (sw_in (lo := 0) (hi := 7) q3_1 (by decide)).2 (sw_at q3_1 rfl) (by decide) ?_
      refine lv_aload_n hx hb dX9_of_74 rfl (lv_at hl 0 rfl) ?_
      refine va_get (D := eD E) (ci := 7) (C := RX9) (T := TX9) (N := 9) (v := .ref h_t_plain) hx hb hw inX9 hown hK hP 0 rfl rfl 0 (by decide) (hw _ mw_202) (fun _ h9 => h9) rfl dX9_of_75 ?_
      refine va_getN (D := eD E) (ci := 3) (C := RX5) (T := TX5) (N := 7) (v := .ref h_t_plain_forms) hx hb hw inX5 hown hK hP 2 rfl rfl 2 (by decide) ((sF_3 hT).use rfl) (fun _ h9 => h9) rfl dX9_of_78 ?_
      refine lv_iload_n hx hb dX9_of_81 rfl (lv_at hl 1 rfl) ?_
      obtain ⟨r5, er5, hF⟩ := kb hF
      refine wa_iald hx hb hK hP 6 0 rfl rfl er5 dX9_of_82 ?_
      obtain rfl := Option.some.inj hF
      exact W.iret hx hb hr (fun t ht hW => ⟨⟨rfl, by rw [ht]; exact hP, hD⟩, hS.F ht⟩) hS.2.2 dX9_of_83
    have hF := kn hF q3_1
    by_cases q3_2 : a2 = (2 : Int32)
    · have hF := kp hF q3_2
      refine lv_tableIn (tgt := 84) (off := 65) hx hb dX9_of_19 (sw_in (lo := 0) (hi := 7) q3_2 (by decide)).1 (sw_in (lo := 0) (hi := 7) q3_2 (by decide)).2 (sw_at q3_2 rfl) (by decide) ?_
      refine lv_aload_n hx hb dX9_of_84 rfl (lv_at hl 0 rfl) ?_
      refine va_get (D := eD E) (ci := 7) (C := RX9) (T := TX9) (N := 9) (v := .ref h_t_plain) hx hb hw inX9 hown hK hP 0 rfl rfl 0 (by decide) (hw _ mw_202) (fun _ h9 => h9) rfl dX9_of_85 ?_
      refine va_getN (D := eD E) (ci := 3) (C := RX5) (T := TX5) (N := 7) (v := .ref h_t_plain_deeps) hx hb hw inX5 hown hK hP 2 rfl rfl 3 (by decide) ((sF_4 hT).use rfl) (fun _ h9 => h9) rfl dX9_of_88 ?_
      refine lv_iload_n hx hb dX9_of_91 rfl (lv_at hl 1 rfl) ?_
      obtain ⟨r6, er6, hF⟩ := kb hF
      refine wa_iald hx hb hK hP 5 0 rfl rfl er6 dX9_of_92 ?_
      obtain rfl := Option.some.inj hF
      exact W.iret hx hb hr (fun t ht hW => ⟨⟨rfl, by rw [ht]; exact hP, hD⟩, hS.F ht⟩) hS.2.2 dX9_of_93
    have hF := kn hF q3_2
    by_cases q3_3 : a2 = (3 : Int32)
    · have hF := kp hF q3_3
      refine lv_tableIn (tgt := 94) (off := 75) hx hb dX9_of_19 (sw_in (lo := 0) (hi := 7) q3_3 (by decide)).1 (sw_in (lo := 0) (hi := 7) q3_3 (by decide)).2 (sw_at q3_3 rfl) (by decide) ?_
      refine lv_aload_n hx hb dX9_of_94 rfl (lv_at hl 0 rfl) ?_
      refine va_get (D := eD E) (ci := 7) (C := RX9) (T := TX9) (N := 9) (v := .ref h_t_plain) hx hb hw inX9 hown hK hP 0 rfl rfl 0 (by decide) (hw _ mw_202) (fun _ h9 => h9) rfl dX9_of_95 ?_
      refine lv_iload_n hx hb dX9_of_98 rfl (lv_at hl 1 rfl) ?_
      obtain ⟨r7, er7, hF⟩ := kb hF
      refine kRV (rest := []) C (k_Plain_lastsOf l E h_t_plain h_t_plain_deeps h_t_plain_kinds h_t_plain_book h_t_plain_forms c_t_plain_size c_t_plain_hour c_t_plain_sunny c_t_plain_deeps c_t_plain_kinds a1 r7 er7) fn_Plain_lastsOf mw_442 ⟨Nat.le_of_ble_eq_true rfl, Nat.le_of_ble_eq_true rfl⟩ hK hT hS (va_recv hK hP (ci := 3) (q0 := 2) rfl rfl) hP [2, 5, 7] rfl rfl rfl hl (Nat.le_of_ble_eq_true rfl) dX9_of_99 ?_
      obtain rfl := Option.some.inj hF
      exact W.iret hx hb hr (fun t ht hW => ⟨⟨rfl, by rw [ht]; exact hP, hD⟩, hS.F ht⟩) hS.2.2 dX9_of_102
    have hF := kn hF q3_3
    by_cases q3_4 : a2 = (4 : Int32)
    · have hF := kp hF q3_4
      refine lv_tableIn (tgt := 103) (off := 84) hx hb dX9_of_19 (sw_in (lo := 0) (hi := 7) q3_4 (by decide)).1 (sw_in (lo := 0) (hi := 7) q3_4 (by decide)).2 (sw_at q3_4 rfl) (by decide) ?_
      refine lv_aload_n hx hb dX9_of_103 rfl (lv_at hl 0 rfl) ?_
      refine va_get (D := eD E) (ci := 7) (C := RX9) (T := TX9) (N := 9) (v := .ref h_t_plain) hx hb hw inX9 hown hK hP 0 rfl rfl 0 (by decide) (hw _ mw_202) (fun _ h9 => h9) rfl dX9_of_104 ?_
      refine lv_iload_n hx hb dX9_of_107 rfl (lv_at hl 1 rfl) ?_
      refine lv_aload_n hx hb dX9_of_108 rfl (lv_at hl 0 rfl) ?_
      refine va_get (D := eD E) (ci := 7) (C := RX9) (T := TX9) (N := 9) (v := .ref h_t_plain) hx hb hw inX9 hown hK hP 0 rfl rfl 0 (by decide) (hw _ mw_202) (fun _ h9 => h9) rfl dX9_of_109 ?_
      refine va_getN (D := eD E) (ci := 3) (C := RX5) (T := TX5) (N := 7) (v := .int c_t_plain_hour) hx hb hw inX5 hown hK hP 2 rfl rfl 5 (by decide) ((sF_7 hT).use rfl) (fun _ h9 => h9) rfl dX9_of_112 ?_
      obtain ⟨r8, er8, hF⟩ := kb hF
      refine kRV (rest := []) C (k_Plain_shownAt l E h_t_plain h_t_plain_deeps h_t_plain_forms h_t_plain_kinds h_t_plain_book c_t_plain_size c_t_plain_hour c_t_plain_sunny c_t_plain_deeps c_t_plain_forms c_t_plain_kinds a1 c_t_plain_hour r8 er8) fn_Plain_shownAt mw_449 ⟨Nat.le_of_ble_eq_true rfl, Nat.le_of_ble_eq_true rfl⟩ hK hT hS (va_recv hK hP (ci := 3) (q0 := 2) rfl rfl) hP [2, 5, 6, 7] rfl rfl rfl hl (Nat.le_of_ble_eq_true rfl) dX9_of_115 ?_
      obtain rfl := Option.some.inj hF
      exact W.iret hx hb hr (fun t ht hW => ⟨⟨rfl, by rw [ht]; exact hP, hD⟩, hS.F ht⟩) hS.2.2 dX9_of_118
    have hF := kn hF q3_4
    by_cases q3_5 : a2 = (5 : Int32)
    · have hF := kp hF q3_5
      refine lv_tableIn (tgt := 119) (off := 100) hx hb dX9_of_19 (sw_in (lo := 0) (hi := 7) q3_5 (by decide)).1 (sw_in (lo := 0) (hi := 7) q3_5 (by decide)).2 (sw_at q3_5 rfl) (by decide) ?_
      refine lv_aload_n hx hb dX9_of_119 rfl (lv_at hl 0 rfl) ?_
      refine va_get (D := eD E) (ci := 7) (C := RX9) (T := TX9) (N := 9) (v := .ref h_t_plain) hx hb hw inX9 hown hK hP 0 rfl rfl 0 (by decide) (hw _ mw_202) (fun _ h9 => h9) rfl dX9_of_120 ?_
      refine lv_iload_n hx hb dX9_of_123 rfl (lv_at hl 1 rfl) ?_
      obtain ⟨r9, er9, hF⟩ := kb hF
      refine kRV (rest := []) C (k_Plain_feetOf l E h_t_plain h_t_plain_forms h_t_plain_kinds h_t_plain_book h_t_plain_deeps c_t_plain_size c_t_plain_hour c_t_plain_sunny c_t_plain_forms c_t_plain_kinds a1 r9 er9) fn_Plain_feetOf mw_457 ⟨Nat.le_of_ble_eq_true rfl, Nat.le_of_ble_eq_true rfl⟩ hK hT hS (va_recv hK hP (ci := 3) (q0 := 2) rfl rfl) hP [2, 6, 7] rfl rfl rfl hl (Nat.le_of_ble_eq_true rfl) dX9_of_124 ?_
      obtain rfl := Option.some.inj hF
      exact W.iret hx hb hr (fun t ht hW => ⟨⟨rfl, by rw [ht]; exact hP, hD⟩, hS.F ht⟩) hS.2.2 dX9_of_127
    have hF := kn hF q3_5
    by_cases q3_6 : a2 = (6 : Int32)
    · have hF := kp hF q3_6
      refine lv_tableIn (tgt := 128) (off := 109) hx hb dX9_of_19 (sw_in (lo := 0) (hi := 7) q3_6 (by decide)).1 (sw_in (lo := 0) (hi := 7) q3_6 (by decide)).2 (sw_at q3_6 rfl) (by decide) ?_
      refine lv_aload_n hx hb dX9_of_128 rfl (lv_at hl 0 rfl) ?_
      refine va_get (D := eD E) (ci := 7) (C := RX9) (T := TX9) (N := 9) (v := .ref h_t_plain) hx hb hw inX9 hown hK hP 0 rfl rfl 0 (by decide) (hw _ mw_202) (fun _ h9 => h9) rfl dX9_of_129 ?_
      refine va_getN (D := eD E) (ci := 3) (C := RX5) (T := TX5) (N := 7) (v := .ref h_t_plain_book) hx hb hw inX5 hown hK hP 2 rfl rfl 0 (by decide) ((sF_1 hT).use rfl) (fun _ h9 => h9) rfl dX9_of_132 ?_
      refine lv_aload_n hx hb dX9_of_135 rfl (lv_at hl 0 rfl) ?_
      refine va_get (D := eD E) (ci := 7) (C := RX9) (T := TX9) (N := 9) (v := .ref h_t_plain) hx hb hw inX9 hown hK hP 0 rfl rfl 0 (by decide) (hw _ mw_202) (fun _ h9 => h9) rfl dX9_of_136 ?_
      refine va_getN (D := eD E) (ci := 3) (C := RX5) (T := TX5) (N := 7) (v := .ref h_t_plain_forms) hx hb hw inX5 hown hK hP 2 rfl rfl 2 (by decide) ((sF_3 hT).use rfl) (fun _ h9 => h9) rfl dX9_of_139 ?_
      refine lv_iload_n hx hb dX9_of_142 rfl (lv_at hl 1 rfl) ?_
      obtain ⟨r10, er10, hF⟩ := kb hF
      refine wa_iald hx hb hK hP 6 0 rfl rfl er10 dX9_of_143 ?_
      obtain ⟨r11, er11, hF⟩ := kb hF
      refine kRV (rest := []) C (k_Book_nearest l E h_t_plain_book h_t_plain_book_forms c_t_plain_book_forms r10 r11 er11) fn_Book_nearest mw_369 ⟨Nat.le_of_ble_eq_true rfl, Nat.le_of_ble_eq_true rfl⟩ hK hT hS (va_recv hK hP (ci := 0) (q0 := 3) rfl rfl) hP [3, 4] rfl rfl rfl hl (Nat.le_of_ble_eq_true rfl) dX9_of_144 ?_
      obtain rfl := Option.some.inj hF
      exact W.iret hx hb hr (fun t ht hW => ⟨⟨rfl, by rw [ht]; exact hP, hD⟩, hS.F ht⟩) hS.2.2 dX9_of_147
    have hF := kn hF q3_6
    by_cases q3_7 : a2 = (7 : Int32)
    · have hF := kp hF q3_7
      refine lv_tableIn (tgt := 148) (off := 129) hx hb dX9_of_19 (sw_in (lo := 0) (hi := 7) q3_7 (by decide)).1 (sw_in (lo := 0) (hi := 7) q3_7 (by decide)).2 (sw_at q3_7 rfl) (by decide) ?_
      refine lv_aload_n hx hb dX9_of_148 rfl (lv_at hl 0 rfl) ?_
      refine va_get (D := eD E) (ci := 7) (C := RX9) (T := TX9) (N := 9) (v := .ref h_t_plain) hx hb hw inX9 hown hK hP 0 rfl rfl 0 (by decide) (hw _ mw_202) (fun _ h9 => h9) rfl dX9_of_149 ?_
      refine lv_iload_n hx hb dX9_of_152 rfl (lv_at hl 1 rfl) ?_
      obtain ⟨r12, er12, hF⟩ := kb hF
      refine kRV (rest := []) C (k_Plain_seenAs l E h_t_plain h_t_plain_book h_t_plain_book_forms h_t_plain_deeps h_t_plain_forms h_t_plain_kinds c_t_plain_size c_t_plain_hour c_t_plain_sunny c_t_plain_book_forms c_t_plain_deeps c_t_plain_forms c_t_plain_kinds a1 r12 er12) fn_Plain_seenAs mw_466 ⟨Nat.le_of_ble_eq_true rfl, Nat.le_of_ble_eq_true rfl⟩ hK hT hS (va_recv hK hP (ci := 3) (q0 := 2) rfl rfl) hP [2, 3, 4, 5, 6, 7] rfl rfl rfl hl (Nat.le_of_ble_eq_true rfl) dX9_of_153 ?_
      obtain rfl := Option.some.inj hF
      exact W.iret hx hb hr (fun t ht hW => ⟨⟨rfl, by rw [ht]; exact hP, hD⟩, hS.F ht⟩) hS.2.2 dX9_of_156
    have hF := kn hF q3_7
    refine lv_tableOut (tgt := 157) hx hb dX9_of_19 (by have z0 := lv_neT q3_0 (a := 0) (by decide); have z1 := lv_neT q3_1 (a := 1) (by decide); have z2 := lv_neT q3_2 (a := 2) (by decide); have z3 := lv_neT q3_3 (a := 3) (by decide); have z4 := lv_neT q3_4 (a := 4) (by decide); have z5 := lv_neT q3_5 (a := 5) (by decide); have z6 := lv_neT q3_6 (a := 6) (by decide); have z7 := lv_neT q3_7 (a := 7) (by decide); omega) (by decide) ?_
    refine lv_aload_n hx hb dX9_of_157 rfl (lv_at hl 0 rfl) ?_
    refine lv_ldc (v := (-1000000001 : Int32)) hx hb hown (hw _ mw_237) dX9_of_158 ?_
    obtain ⟨r13, er13, hF⟩ := kb hF
    refine kWV (rest := []) (Wr := [(h_t_plain, .inr (3, [.ref h_t_plain_book, .ref h_t_plain_kinds, .ref h_t_plain_forms, .ref h_t_plain_deeps, .int c_t_plain_size, .int c_t_plain_hour, .int c_t_plain_sunny])), (h_t_plain_book, .inr (0, [.ref h_t_plain_book_forms])), (h_t_plain_book_forms, .inl (eI E, 26, .inl c_t_plain_book_forms)), (h_t_plain_deeps, .inl (eI E, 12, .inl c_t_plain_deeps)), (h_t_plain_forms, .inl (eI E, 12, .inl c_t_plain_forms)), (h_t_plain_kinds, .inl (eI E, 12, .inl c_t_plain_kinds))]) (Wn := (w_S_of E h_t h_t_found h_t_plain h_t_plain_book h_t_plain_book_forms h_t_plain_deeps h_t_plain_forms h_t_plain_kinds x_t_kept x_t_trial x_t_tape x_t_text x_t_sheets x_t_choice c_t_isKept r13.2 c_t_plain_size c_t_plain_hour c_t_plain_sunny c_t_plain_book_forms c_t_plain_deeps c_t_plain_forms c_t_plain_kinds)) C (k_S_finding l E h_t h_t_found h_t_plain x_t_kept x_t_trial x_t_tape x_t_text x_t_sheets x_t_choice s.heap.size c_t_isKept c_t_found (-1000000001 : Int32) r13 er13) fn_S_finding mw_238 ⟨Nat.le_of_ble_eq_true rfl, Nat.le_of_ble_eq_true rfl⟩ hK hT hS hA (va_recv hK hP (ci := 7) (q0 := 0) rfl rfl) hP hD [0, 1] rfl (by decide) [2, 3, 4, 5, 6, 7] rfl (by decide) (by decide) [6, 7, 0, 1, 2, 3, 4, 5] rfl (by decide) rfl rfl hl (Nat.le_of_ble_eq_true rfl) dX9_of_160 (fun H locs hP hD hS => ?_)
    refine W.eq (g2 := F0 m 163 ls [.int r13.1]) rfl ?_
    obtain rfl := Option.some.inj hF
    exact W.iret hx hb hr (fun t ht hW => ⟨⟨rfl, by rw [ht]; exact hP, hD⟩, hS.F ht⟩) hS.2.2 dX9_of_163
  · have hF := kp hF q2
    refine lv_aload_n hx hb dX9_of_11 rfl (lv_at hl 0 rfl) ?_
    refine lv_ldc (v := (-1000000001 : Int32)) hx hb hown (hw _ mw_237) dX9_of_12 ?_
    obtain ⟨r14, er14, hF⟩ := kb hF
    refine kWV (rest := []) (Wr := [(h_t_plain, .inr (3, [.ref h_t_plain_book, .ref h_t_plain_kinds, .ref h_t_plain_forms, .ref h_t_plain_deeps, .int c_t_plain_size, .int c_t_plain_hour, .int c_t_plain_sunny])), (h_t_plain_book, .inr (0, [.ref h_t_plain_book_forms])), (h_t_plain_book_forms, .inl (eI E, 26, .inl c_t_plain_book_forms)), (h_t_plain_deeps, .inl (eI E, 12, .inl c_t_plain_deeps)), (h_t_plain_forms, .inl (eI E, 12, .inl c_t_plain_forms)), (h_t_plain_kinds, .inl (eI E, 12, .inl c_t_plain_kinds))]) (Wn := (w_S_of E h_t h_t_found h_t_plain h_t_plain_book h_t_plain_book_forms h_t_plain_deeps h_t_plain_forms h_t_plain_kinds x_t_kept x_t_trial x_t_tape x_t_text x_t_sheets x_t_choice c_t_isKept r14.2 c_t_plain_size c_t_plain_hour c_t_plain_sunny c_t_plain_book_forms c_t_plain_deeps c_t_plain_forms c_t_plain_kinds)) C (k_S_finding l E h_t h_t_found h_t_plain x_t_kept x_t_trial x_t_tape x_t_text x_t_sheets x_t_choice s.heap.size c_t_isKept c_t_found (-1000000001 : Int32) r14 er14) fn_S_finding mw_238 ⟨Nat.le_of_ble_eq_true rfl, Nat.le_of_ble_eq_true rfl⟩ hK hT hS hA (va_recv hK hP (ci := 7) (q0 := 0) rfl rfl) hP hD [0, 1] rfl (by decide) [2, 3, 4, 5, 6, 7] rfl (by decide) (by decide) [6, 7, 0, 1, 2, 3, 4, 5] rfl (by decide) rfl rfl hl (Nat.le_of_ble_eq_true rfl) dX9_of_14 (fun H locs hP hD hS => ?_)
    refine W.eq (g2 := F0 m 17 ls [.int r14.1]) rfl ?_
    obtain rfl := Option.some.inj hF
    exact W.iret hx hb hr (fun t ht hW => ⟨⟨rfl, by rw [ht]; exact hP, hD⟩, hS.F ht⟩) hS.2.2 dX9_of_17
abbrev w_S_set (E : kE) (h_t : Nat) (h_t_found : Nat) (h_t_plain : Nat) (h_t_plain_deeps : Nat) (h_t_plain_forms : Nat) (x_t_kept : Nat) (x_t_trial : Nat) (x_t_tape : Nat) (x_t_text : Nat) (x_t_sheets : Nat) (x_t_choice : Nat) (x_t_plain_book : Nat) (x_t_plain_kinds : Nat) (c_t_isKept : Int32) (c_t_found : (Nat → Int32)) (c_t_plain_size : Int32) (c_t_plain_hour : Int32) (c_t_plain_sunny : Int32) (c_t_plain_deeps : (Nat → Int32)) (c_t_plain_forms : (Nat → Int32)) : va_W := [(h_t, .inr (7, [.ref h_t_plain, .ref x_t_kept, .ref x_t_trial, .ref x_t_tape, .ref x_t_text, .ref x_t_sheets, .ref x_t_choice, .ref h_t_found, .int c_t_isKept])), (h_t_found, .inl (eI E, 7, .inl c_t_found)), (h_t_plain, .inr (3, [.ref x_t_plain_book, .ref x_t_plain_kinds, .ref h_t_plain_forms, .ref h_t_plain_deeps, .int c_t_plain_size, .int c_t_plain_hour, .int c_t_plain_sunny])), (h_t_plain_deeps, .inl (eI E, 12, .inl c_t_plain_deeps)), (h_t_plain_forms, .inl (eI E, 12, .inl c_t_plain_forms))]
set_option maxHeartbeats 4000000 in
set_option maxRecDepth 100000 in
theorem wk_S_set_b92 {p : Program} {l : Launch} {e : Env} {s : State} {m : MethodId} {args : Array Value} {below : List Frame} {meth : Method} {c : Code} {A : Nat → Prop} (E : kE) (h_t : Nat) (h_t_found : Nat) (h_t_plain : Nat) (h_t_plain_deeps : Nat) (h_t_plain_forms : Nat) (x_t_kept : Nat) (x_t_trial : Nat) (x_t_tape : Nat) (x_t_text : Nat) (x_t_sheets : Nat) (x_t_choice : Nat) (x_t_plain_book : Nat) (x_t_plain_kinds : Nat) (c_t_isKept : Int32) (c_t_plain_size : Int32) (c_t_plain_hour : Int32) (c_t_plain_sunny : Int32) (a1 : Int32) (a2 : Int32) (a3 : Int32) {out : Int32 × (Nat → Int32) × (Nat → Int32) × (Nat → Int32)} (C : kC RX9 cX9_set 5 (some .int) p s m args meth c) (hA : ∀ q : Nat, s.heap.size ≤ q → A q) (hK : va_K (eD E) vwCl (eT E) s) (hT : sT E A s s.heap)  :
    ∀ (c_t_found : (Nat → Int32)) (c_t_plain_deeps : (Nat → Int32)) (c_t_plain_forms : (Nat → Int32)), f_S_set_b92  c_t_plain_size a1 a2 a3 c_t_found c_t_plain_deeps c_t_plain_forms = some out → ∀ (H : Heap) (locs : List Loc), va_P (eD E) vwCl (w_S_set E h_t h_t_found h_t_plain h_t_plain_deeps h_t_plain_forms x_t_kept x_t_trial x_t_tape x_t_text x_t_sheets x_t_choice x_t_plain_book x_t_plain_kinds c_t_isKept c_t_found c_t_plain_size c_t_plain_hour c_t_plain_sunny c_t_plain_deeps c_t_plain_forms) H → va_D A (w_S_set E h_t h_t_found h_t_plain h_t_plain_deeps h_t_plain_forms x_t_kept x_t_trial x_t_tape x_t_text x_t_sheets x_t_choice x_t_plain_book x_t_plain_kinds c_t_isKept c_t_found c_t_plain_size c_t_plain_hour c_t_plain_sunny c_t_plain_deeps c_t_plain_forms) → va_S A s.heap H locs → ∀ (ls : Array Slot), lv_has ls 5 [(0, .ref h_t)] → W p l e (rm 2) s m args below meth c H locs 0 0 (MQ below (qW (some (.int out.1)) E (w_S_set E h_t h_t_found h_t_plain h_t_plain_deeps h_t_plain_forms x_t_kept x_t_trial x_t_tape x_t_text x_t_sheets x_t_choice x_t_plain_book x_t_plain_kinds c_t_isKept out.2.1 c_t_plain_size c_t_plain_hour c_t_plain_sunny out.2.2.1 out.2.2.2) A) args s 0 0 A) (F0 m 92 ls []) := by
  obtain ⟨hx, hb, hr, hml, hown, hw, hlocks⟩ := id C
  intro c_t_found c_t_plain_deeps c_t_plain_forms hF H locs hP hD hS ls hl
  rw [f_S_set_b92] at hF
  refine lv_aload_n hx hb dX9_set_92 rfl (lv_at hl 0 rfl) ?_
  refine lv_ldc (v := (-1000000001 : Int32)) hx hb hown (hw _ mw_237) dX9_set_93 ?_
  obtain ⟨r1, er1, hF⟩ := kb hF
  refine kWV (rest := []) (Wr := [(h_t_plain, .inr (3, [.ref x_t_plain_book, .ref x_t_plain_kinds, .ref h_t_plain_forms, .ref h_t_plain_deeps, .int c_t_plain_size, .int c_t_plain_hour, .int c_t_plain_sunny])), (h_t_plain_deeps, .inl (eI E, 12, .inl c_t_plain_deeps)), (h_t_plain_forms, .inl (eI E, 12, .inl c_t_plain_forms))]) (Wn := (w_S_set E h_t h_t_found h_t_plain h_t_plain_deeps h_t_plain_forms x_t_kept x_t_trial x_t_tape x_t_text x_t_sheets x_t_choice x_t_plain_book x_t_plain_kinds c_t_isKept r1.2 c_t_plain_size c_t_plain_hour c_t_plain_sunny c_t_plain_deeps c_t_plain_forms)) C (k_S_finding l E h_t h_t_found h_t_plain x_t_kept x_t_trial x_t_tape x_t_text x_t_sheets x_t_choice H.size c_t_isKept c_t_found (-1000000001 : Int32) r1 er1) fn_S_finding mw_238 ⟨Nat.le_of_ble_eq_true rfl, Nat.le_of_ble_eq_true rfl⟩ hK hT hS hA (va_recv hK hP (ci := 7) (q0 := 0) rfl rfl) hP hD [0, 1] rfl (by decide) [2, 3, 4] rfl (by decide) (by decide) [3, 4, 0, 1, 2] rfl (by decide) rfl rfl hl (Nat.le_of_ble_eq_true rfl) dX9_set_95 (fun H locs hP hD hS => ?_)
  refine W.eq (g2 := F0 m 98 ls [.int r1.1]) rfl ?_
  obtain rfl := Option.some.inj hF
  exact W.iret hx hb hr (fun t ht hW => ⟨⟨rfl, by rw [ht]; exact hP, hD⟩, hS.F ht⟩) hS.2.2 dX9_set_98
set_option maxHeartbeats 4000000 in
set_option maxRecDepth 100000 in
theorem wk_S_set_b54 {p : Program} {l : Launch} {e : Env} {s : State} {m : MethodId} {args : Array Value} {below : List Frame} {meth : Method} {c : Code} {A : Nat → Prop} (E : kE) (h_t : Nat) (h_t_found : Nat) (h_t_plain : Nat) (h_t_plain_deeps : Nat) (h_t_plain_forms : Nat) (x_t_kept : Nat) (x_t_trial : Nat) (x_t_tape : Nat) (x_t_text : Nat) (x_t_sheets : Nat) (x_t_choice : Nat) (x_t_plain_book : Nat) (x_t_plain_kinds : Nat) (c_t_isKept : Int32) (c_t_plain_size : Int32) (c_t_plain_hour : Int32) (c_t_plain_sunny : Int32) (a1 : Int32) (a2 : Int32) (a3 : Int32) {out : Int32 × (Nat → Int32) × (Nat → Int32) × (Nat → Int32)} (C : kC RX9 cX9_set 5 (some .int) p s m args meth c) (hA : ∀ q : Nat, s.heap.size ≤ q → A q) (hK : va_K (eD E) vwCl (eT E) s) (hT : sT E A s s.heap)  :
    ∀ (c_t_found : (Nat → Int32)) (c_t_plain_deeps : (Nat → Int32)) (c_t_plain_forms : (Nat → Int32)), f_S_set_b54  c_t_plain_size a1 a2 a3 c_t_found c_t_plain_deeps c_t_plain_forms = some out → ∀ (H : Heap) (locs : List Loc), va_P (eD E) vwCl (w_S_set E h_t h_t_found h_t_plain h_t_plain_deeps h_t_plain_forms x_t_kept x_t_trial x_t_tape x_t_text x_t_sheets x_t_choice x_t_plain_book x_t_plain_kinds c_t_isKept c_t_found c_t_plain_size c_t_plain_hour c_t_plain_sunny c_t_plain_deeps c_t_plain_forms) H → va_D A (w_S_set E h_t h_t_found h_t_plain h_t_plain_deeps h_t_plain_forms x_t_kept x_t_trial x_t_tape x_t_text x_t_sheets x_t_choice x_t_plain_book x_t_plain_kinds c_t_isKept c_t_found c_t_plain_size c_t_plain_hour c_t_plain_sunny c_t_plain_deeps c_t_plain_forms) → va_S A s.heap H locs → ∀ (ls : Array Slot), lv_has ls 5 [(0, .ref h_t), (1, .int a1), (2, .int a2), (3, .int a3)] → W p l e (rm 2) s m args below meth c H locs 0 0 (MQ below (qW (some (.int out.1)) E (w_S_set E h_t h_t_found h_t_plain h_t_plain_deeps h_t_plain_forms x_t_kept x_t_trial x_t_tape x_t_text x_t_sheets x_t_choice x_t_plain_book x_t_plain_kinds c_t_isKept out.2.1 c_t_plain_size c_t_plain_hour c_t_plain_sunny out.2.2.1 out.2.2.2) A) args s 0 0 A) (F0 m 54 ls []) := by
  obtain ⟨hx, hb, hr, hml, hown, hw, hlocks⟩ := id C
  intro c_t_found c_t_plain_deeps c_t_plain_forms hF H locs hP hD hS ls hl
  rw [f_S_set_b54] at hF
  refine lv_iload_n hx hb dX9_set_54 rfl (lv_at hl 2 rfl) ?_
  refine lv_iconst (v := (2 : Int32)) hx hb dX9_set_55 (by decide) ?_
  refine lv_icmp_ne (tgt := 92) hx hb dX9_set_56 (by decide) (fun q2 => ?_) (fun q2 => ?_)
  · have hF := kn hF q2
    exact wk_S_set_b92 E h_t h_t_found h_t_plain h_t_plain_deeps h_t_plain_forms x_t_kept x_t_trial x_t_tape x_t_text x_t_sheets x_t_choice x_t_plain_book x_t_plain_kinds c_t_isKept c_t_plain_size c_t_plain_hour c_t_plain_sunny a1 a2 a3 C hA  hK hT  c_t_found c_t_plain_deeps c_t_plain_forms hF _ _ hP hD hS _ (lv_sub hl [0] rfl)
  · have hF := kp hF q2
    refine lv_iload_n hx hb dX9_set_59 rfl (lv_at hl 3 rfl) ?_
    refine lv_bipush (v := (99 : Int32)) hx hb dX9_set_60 (by decide) ?_
    obtain ⟨r3, er3, hF⟩ := kb hF
    refine kRS (rest := []) C (k_S_isWithin l E a3 (99 : Int32) r3 er3) fn_S_isWithin mw_315 ⟨Nat.le_of_ble_eq_true rfl, Nat.le_of_ble_eq_true rfl⟩ hK hT hS hP [] rfl rfl rfl hl (Nat.le_of_ble_eq_true rfl) dX9_set_62 ?_
    refine lv_if_eq (tgt := 92) hx hb dX9_set_65 (by decide) (fun q4 => ?_) (fun q4 => ?_)
    · have hF := kp hF q4
      exact wk_S_set_b92 E h_t h_t_found h_t_plain h_t_plain_deeps h_t_plain_forms x_t_kept x_t_trial x_t_tape x_t_text x_t_sheets x_t_choice x_t_plain_book x_t_plain_kinds c_t_isKept c_t_plain_size c_t_plain_hour c_t_plain_sunny a1 a2 a3 C hA  hK hT  c_t_found c_t_plain_deeps c_t_plain_forms hF _ _ hP hD hS _ (lv_sub hl [0] rfl)
    · have hF := kn hF q4
      refine lv_aload_n hx hb dX9_set_68 rfl (lv_at hl 0 rfl) ?_
      refine va_get (D := eD E) (ci := 7) (C := RX9) (T := TX9) (N := 9) (v := .ref h_t_plain) hx hb hw inX9 hown hK hP 0 rfl rfl 0 (by decide) (hw _ mw_202) (fun _ h9 => h9) rfl dX9_set_69 ?_
      refine va_getN (D := eD E) (ci := 3) (C := RX5) (T := TX5) (N := 7) (v := .ref h_t_plain_deeps) hx hb hw inX5 hown hK hP 2 rfl rfl 3 (by decide) ((sF_4 hT).use rfl) (fun _ h9 => h9) rfl dX9_set_72 ?_
      refine lv_iload_n hx hb dX9_set_75 rfl (lv_at hl 1 rfl) ?_
      obtain ⟨r5, er5, hF⟩ := kb hF
      refine wa_iald hx hb hK hP 3 0 rfl rfl er5 dX9_set_76 ?_
      refine lv_istore (lv' := [(4, .int r5), (0, .ref h_t), (1, .int a1), (2, .int a2), (3, .int a3)]) hx hb dX9_set_77 hl (by decide) rfl (fun ls hl => ?_)
      refine lv_aload_n hx hb dX9_set_79 rfl (lv_at hl 1 rfl) ?_
      refine va_get (D := eD E) (ci := 7) (C := RX9) (T := TX9) (N := 9) (v := .ref h_t_plain) hx hb hw inX9 hown hK hP 0 rfl rfl 0 (by decide) (hw _ mw_202) (fun _ h9 => h9) rfl dX9_set_80 ?_
      refine va_getN (D := eD E) (ci := 3) (C := RX5) (T := TX5) (N := 7) (v := .ref h_t_plain_deeps) hx hb hw inX5 hown hK hP 2 rfl rfl 3 (by decide) ((sF_4 hT).use rfl) (fun _ h9 => h9) rfl dX9_set_83 ?_
      refine lv_iload_n hx hb dX9_set_86 rfl (lv_at hl 2 rfl) ?_
      refine lv_iload_n hx hb dX9_set_87 rfl (lv_at hl 4 rfl) ?_
      obtain ⟨r6, er6, hF⟩ := kb hF
      refine wa_iast hx hb hK hP hD hS 3 0 rfl rfl er6 dX9_set_88 (fun H locs hP hD hS => ?_)
      have hP : va_P (eD E) vwCl (w_S_set E h_t h_t_found h_t_plain h_t_plain_deeps h_t_plain_forms x_t_kept x_t_trial x_t_tape x_t_text x_t_sheets x_t_choice x_t_plain_book x_t_plain_kinds c_t_isKept c_t_found c_t_plain_size c_t_plain_hour c_t_plain_sunny r6 c_t_plain_forms) H := hP
      have hD : va_D A (w_S_set E h_t h_t_found h_t_plain h_t_plain_deeps h_t_plain_forms x_t_kept x_t_trial x_t_tape x_t_text x_t_sheets x_t_choice x_t_plain_book x_t_plain_kinds c_t_isKept c_t_found c_t_plain_size c_t_plain_hour c_t_plain_sunny r6 c_t_plain_forms) := hD
      refine lv_iload hx hb dX9_set_89 (lv_at hl 0 rfl) ?_
      obtain rfl := Option.some.inj hF
      exact W.iret hx hb hr (fun t ht hW => ⟨⟨rfl, by rw [ht]; exact hP, hD⟩, hS.F ht⟩) hS.2.2 dX9_set_91
set_option maxHeartbeats 4000000 in
set_option maxRecDepth 100000 in
theorem k_S_set (l : Launch) (E : kE) (h_t : Nat) (h_t_found : Nat) (h_t_plain : Nat) (h_t_plain_deeps : Nat) (h_t_plain_forms : Nat) (x_t_kept : Nat) (x_t_trial : Nat) (x_t_tape : Nat) (x_t_text : Nat) (x_t_sheets : Nat) (x_t_choice : Nat) (x_t_plain_book : Nat) (x_t_plain_kinds : Nat) (sz : Nat) (c_t_isKept : Int32) (c_t_found : (Nat → Int32)) (c_t_plain_size : Int32) (c_t_plain_hour : Int32) (c_t_plain_sunny : Int32) (c_t_plain_deeps : (Nat → Int32)) (c_t_plain_forms : (Nat → Int32)) (a1 : Int32) (a2 : Int32) (a3 : Int32) (out : Int32 × (Nat → Int32) × (Nat → Int32) × (Nat → Int32)) (hF : f_S_set c_t_found c_t_plain_size c_t_plain_deeps c_t_plain_forms a1 a2 a3 = some out) : Met l yX9_set (Cond.code yX9_set cX9_set 5 (some .int) :: wG) (rm 2) (pW E (w_S_set E h_t h_t_found h_t_plain h_t_plain_deeps h_t_plain_forms x_t_kept x_t_trial x_t_tape x_t_text x_t_sheets x_t_choice x_t_plain_book x_t_plain_kinds c_t_isKept c_t_found c_t_plain_size c_t_plain_hour c_t_plain_sunny c_t_plain_deeps c_t_plain_forms) sz [.ref h_t, .int a1, .int a2, .int a3]) (qW (some (.int out.1)) E (w_S_set E h_t h_t_found h_t_plain h_t_plain_deeps h_t_plain_forms x_t_kept x_t_trial x_t_tape x_t_text x_t_sheets x_t_choice x_t_plain_book x_t_plain_kinds c_t_isKept out.2.1 c_t_plain_size c_t_plain_hour c_t_plain_sunny out.2.2.1 out.2.2.2) (va_A (w_S_set E h_t h_t_found h_t_plain h_t_plain_deeps h_t_plain_forms x_t_kept x_t_trial x_t_tape x_t_text x_t_sheets x_t_choice x_t_plain_book x_t_plain_kinds c_t_isKept c_t_found c_t_plain_size c_t_plain_hour c_t_plain_sunny c_t_plain_deeps c_t_plain_forms) sz)) 0 0 (va_A (w_S_set E h_t h_t_found h_t_plain h_t_plain_deeps h_t_plain_forms x_t_kept x_t_trial x_t_tape x_t_text x_t_sheets x_t_choice x_t_plain_book x_t_plain_kinds c_t_isKept c_t_found c_t_plain_size c_t_plain_hour c_t_plain_sunny c_t_plain_deeps c_t_plain_forms) sz) := by
  refine met_W (by decide) (Nat.le_of_ble_eq_true rfl) ?_
  intro p e s m args below meth c A ls C hP hD hS hA hK hT hl
  obtain ⟨hx, hb, hr, hml, hown, hw, hlocks⟩ := id C
  have hl : lv_has ls 5 [(0, .ref h_t), (1, .int a1), (2, .int a2), (3, .int a3)] := hl
  rw [f_S_set] at hF
  refine lv_aload_n hx hb dX9_set_0 rfl (lv_at hl 0 rfl) ?_
  refine va_get (D := eD E) (ci := 7) (C := RX9) (T := TX9) (N := 9) (v := .ref h_t_plain) hx hb hw inX9 hown hK hP 0 rfl rfl 0 (by decide) (hw _ mw_202) (fun _ h9 => h9) rfl dX9_set_1 ?_
  refine lv_iload_n hx hb dX9_set_4 rfl (lv_at hl 1 rfl) ?_
  obtain ⟨r7, er7, hF⟩ := kb hF
  refine kRV (rest := []) C (k_Plain_has l E h_t_plain x_t_plain_book x_t_plain_kinds h_t_plain_forms h_t_plain_deeps c_t_plain_size c_t_plain_hour c_t_plain_sunny a1 r7 er7) fn_Plain_has mw_438 ⟨Nat.le_of_ble_eq_true rfl, Nat.le_of_ble_eq_true rfl⟩ hK hT hS (va_recv hK hP (ci := 3) (q0 := 2) rfl rfl) hP [2] rfl rfl rfl hl (Nat.le_of_ble_eq_true rfl) dX9_set_5 ?_
  refine lv_if_ne (tgt := 18) hx hb dX9_set_8 (by decide) (fun q8 => ?_) (fun q8 => ?_)
  · have hF := kn hF q8
    refine lv_iload_n hx hb dX9_set_18 rfl (lv_at hl 2 rfl) ?_
    refine lv_iconst (v := (1 : Int32)) hx hb dX9_set_19 (by decide) ?_
    refine lv_icmp_ne (tgt := 54) hx hb dX9_set_20 (by decide) (fun q9 => ?_) (fun q9 => ?_)
    · have hF := kn hF q9
      exact wk_S_set_b54 E h_t h_t_found h_t_plain h_t_plain_deeps h_t_plain_forms x_t_kept x_t_trial x_t_tape x_t_text x_t_sheets x_t_choice x_t_plain_book x_t_plain_kinds c_t_isKept c_t_plain_size c_t_plain_hour c_t_plain_sunny a1 a2 a3 C hA  hK hT  c_t_found c_t_plain_deeps c_t_plain_forms hF _ _ hP hD hS _ (lv_sub hl [0, 1, 2, 3] rfl)
    · have hF := kp hF q9
      refine lv_iload_n hx hb dX9_set_23 rfl (lv_at hl 3 rfl) ?_
      obtain ⟨r10, er10, hF⟩ := kb hF
      refine kRS (rest := []) C (k_Forms_isForm l E a3 r10 er10) fn_Forms_isForm mw_234 ⟨Nat.le_of_ble_eq_true rfl, Nat.le_of_ble_eq_true rfl⟩ hK hT hS hP [] rfl rfl rfl hl (Nat.le_of_ble_eq_true rfl) dX9_set_24 ?_
      refine lv_if_eq (tgt := 54) hx hb dX9_set_27 (by decide) (fun q11 => ?_) (fun q11 => ?_)
      · have hF := kp hF q11
        exact wk_S_set_b54 E h_t h_t_found h_t_plain h_t_plain_deeps h_t_plain_forms x_t_kept x_t_trial x_t_tape x_t_text x_t_sheets x_t_choice x_t_plain_book x_t_plain_kinds c_t_isKept c_t_plain_size c_t_plain_hour c_t_plain_sunny a1 a2 a3 C hA  hK hT  c_t_found c_t_plain_deeps c_t_plain_forms hF _ _ hP hD hS _ (lv_sub hl [0, 1, 2, 3] rfl)
      · have hF := kn hF q11
        refine lv_aload_n hx hb dX9_set_30 rfl (lv_at hl 0 rfl) ?_
        refine va_get (D := eD E) (ci := 7) (C := RX9) (T := TX9) (N := 9) (v := .ref h_t_plain) hx hb hw inX9 hown hK hP 0 rfl rfl 0 (by decide) (hw _ mw_202) (fun _ h9 => h9) rfl dX9_set_31 ?_
        refine va_getN (D := eD E) (ci := 3) (C := RX5) (T := TX5) (N := 7) (v := .ref h_t_plain_forms) hx hb hw inX5 hown hK hP 2 rfl rfl 2 (by decide) ((sF_3 hT).use rfl) (fun _ h9 => h9) rfl dX9_set_34 ?_
        refine lv_iload_n hx hb dX9_set_37 rfl (lv_at hl 1 rfl) ?_
        obtain ⟨r12, er12, hF⟩ := kb hF
        refine wa_iald hx hb hK hP 4 0 rfl rfl er12 dX9_set_38 ?_
        refine lv_istore (lv' := [(4, .int r12), (0, .ref h_t), (1, .int a1), (2, .int a2), (3, .int a3)]) hx hb dX9_set_39 hl (by decide) rfl (fun ls hl => ?_)
        refine lv_aload_n hx hb dX9_set_41 rfl (lv_at hl 1 rfl) ?_
        refine va_get (D := eD E) (ci := 7) (C := RX9) (T := TX9) (N := 9) (v := .ref h_t_plain) hx hb hw inX9 hown hK hP 0 rfl rfl 0 (by decide) (hw _ mw_202) (fun _ h9 => h9) rfl dX9_set_42 ?_
        refine va_getN (D := eD E) (ci := 3) (C := RX5) (T := TX5) (N := 7) (v := .ref h_t_plain_forms) hx hb hw inX5 hown hK hP 2 rfl rfl 2 (by decide) ((sF_3 hT).use rfl) (fun _ h9 => h9) rfl dX9_set_45 ?_
        refine lv_iload_n hx hb dX9_set_48 rfl (lv_at hl 2 rfl) ?_
        refine lv_iload_n hx hb dX9_set_49 rfl (lv_at hl 4 rfl) ?_
        obtain ⟨r13, er13, hF⟩ := kb hF
        refine wa_iast hx hb hK hP hD hS 4 0 rfl rfl er13 dX9_set_50 (fun H locs hP hD hS => ?_)
        have hP : va_P (eD E) vwCl (w_S_set E h_t h_t_found h_t_plain h_t_plain_deeps h_t_plain_forms x_t_kept x_t_trial x_t_tape x_t_text x_t_sheets x_t_choice x_t_plain_book x_t_plain_kinds c_t_isKept c_t_found c_t_plain_size c_t_plain_hour c_t_plain_sunny c_t_plain_deeps r13) H := hP
        have hD : va_D A (w_S_set E h_t h_t_found h_t_plain h_t_plain_deeps h_t_plain_forms x_t_kept x_t_trial x_t_tape x_t_text x_t_sheets x_t_choice x_t_plain_book x_t_plain_kinds c_t_isKept c_t_found c_t_plain_size c_t_plain_hour c_t_plain_sunny c_t_plain_deeps r13) := hD
        refine lv_iload hx hb dX9_set_51 (lv_at hl 0 rfl) ?_
        obtain rfl := Option.some.inj hF
        exact W.iret hx hb hr (fun t ht hW => ⟨⟨rfl, by rw [ht]; exact hP, hD⟩, hS.F ht⟩) hS.2.2 dX9_set_53
  · have hF := kp hF q8
    refine lv_aload_n hx hb dX9_set_11 rfl (lv_at hl 0 rfl) ?_
    refine lv_ldc (v := (-1000000001 : Int32)) hx hb hown (hw _ mw_237) dX9_set_12 ?_
    obtain ⟨r14, er14, hF⟩ := kb hF
    refine kWV (rest := []) (Wr := [(h_t_plain, .inr (3, [.ref x_t_plain_book, .ref x_t_plain_kinds, .ref h_t_plain_forms, .ref h_t_plain_deeps, .int c_t_plain_size, .int c_t_plain_hour, .int c_t_plain_sunny])), (h_t_plain_deeps, .inl (eI E, 12, .inl c_t_plain_deeps)), (h_t_plain_forms, .inl (eI E, 12, .inl c_t_plain_forms))]) (Wn := (w_S_set E h_t h_t_found h_t_plain h_t_plain_deeps h_t_plain_forms x_t_kept x_t_trial x_t_tape x_t_text x_t_sheets x_t_choice x_t_plain_book x_t_plain_kinds c_t_isKept r14.2 c_t_plain_size c_t_plain_hour c_t_plain_sunny c_t_plain_deeps c_t_plain_forms)) C (k_S_finding l E h_t h_t_found h_t_plain x_t_kept x_t_trial x_t_tape x_t_text x_t_sheets x_t_choice s.heap.size c_t_isKept c_t_found (-1000000001 : Int32) r14 er14) fn_S_finding mw_238 ⟨Nat.le_of_ble_eq_true rfl, Nat.le_of_ble_eq_true rfl⟩ hK hT hS hA (va_recv hK hP (ci := 7) (q0 := 0) rfl rfl) hP hD [0, 1] rfl (by decide) [2, 3, 4] rfl (by decide) (by decide) [3, 4, 0, 1, 2] rfl (by decide) rfl rfl hl (Nat.le_of_ble_eq_true rfl) dX9_set_14 (fun H locs hP hD hS => ?_)
    refine W.eq (g2 := F0 m 17 ls [.int r14.1]) rfl ?_
    obtain rfl := Option.some.inj hF
    exact W.iret hx hb hr (fun t ht hW => ⟨⟨rfl, by rw [ht]; exact hP, hD⟩, hS.F ht⟩) hS.2.2 dX9_set_17
