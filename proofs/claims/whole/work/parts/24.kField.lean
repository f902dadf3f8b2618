abbrev w_FieldText_passNumber (E : kE) (h_t : Nat) (h_t_tokens : Nat) (h_t_tokens_types : Nat) (h_t_tokens_values : Nat) (x_t_tokens_starts : Nat) (c_t_at : Int32) (c_t_tokens_size : Int32) (c_t_tokens_length : Int32) (c_t_tokens_types : (Nat → Int32)) (c_t_tokens_values : (Nat → Int32)) : va_W := [(h_t, .inr (2, [.ref h_t_tokens, .int c_t_at])), (h_t_tokens, .inr (6, [.ref h_t_tokens_types, .ref x_t_tokens_starts, .ref h_t_tokens_values, .int c_t_tokens_size, .int c_t_tokens_length])), (h_t_tokens_types, .inl (eI E, 120, .inl c_t_tokens_types)), (h_t_tokens_values, .inl (eI E, 120, .inl c_t_tokens_values))]
set_option maxHeartbeats 4000000 in
set_option maxRecDepth 100000 in
theorem k_FieldText_passNumber (l : Launch) (E : kE) (h_t : Nat) (h_t_tokens : Nat) (h_t_tokens_types : Nat) (h_t_tokens_values : Nat) (x_t_tokens_starts : Nat) (sz : Nat) (c_t_at : Int32) (c_t_tokens_size : Int32) (c_t_tokens_length : Int32) (c_t_tokens_types : (Nat → Int32)) (c_t_tokens_values : (Nat → Int32)) (a1 : Int32) (out : Int32 × Int32) (hF : f_FieldText_passNumber c_t_at c_t_tokens_size c_t_tokens_types c_t_tokens_values a1 = some out) : Met l yX2_passNumber (Cond.code yX2_passNumber cX2_passNumber 3 (some .int) :: wG) (rm 2) (pW E (w_FieldText_passNumber E h_t h_t_tokens h_t_tokens_types h_t_tokens_values x_t_tokens_starts c_t_at c_t_tokens_size c_t_tokens_length c_t_tokens_types c_t_tokens_values) sz [.ref h_t, .int a1]) (qW (some (.int out.1)) E (w_FieldText_passNumber E h_t h_t_tokens h_t_tokens_types h_t_tokens_values x_t_tokens_starts out.2 c_t_tokens_size c_t_tokens_length c_t_tokens_types c_t_tokens_values) (va_A (w_FieldText_passNumber E h_t h_t_tokens h_t_tokens_types h_t_tokens_values x_t_tokens_starts c_t_at c_t_tokens_size c_t_tokens_length c_t_tokens_types c_t_tokens_values) sz)) 0 0 (va_A (w_FieldText_passNumber E h_t h_t_tokens h_t_tokens_types h_t_tokens_values x_t_tokens_starts c_t_at c_t_tokens_size c_t_tokens_length c_t_tokens_types c_t_tokens_values) sz) := by
  refine met_W (by decide) (Nat.le_of_ble_eq_true rfl) ?_
  intro p e s m args below meth c A ls C hP hD hS hA hK hT hl
  obtain ⟨hx, hb, hr, hml, hown, hw, hlocks⟩ := id C
  have hl : lv_has ls 3 [(0, .ref h_t), (1, .int a1)] := hl
  rw [f_FieldText_passNumber] at hF
  refine lv_aload_n hx hb dX2_passNumber_0 rfl (lv_at hl 0 rfl) ?_
  refine va_get (D := eD E) (ci := 2) (C := RX2) (T := TX2) (N := 2) (v := .ref h_t_tokens) hx hb hw inX2 hown hK hP 0 rfl rfl 0 (by decide) (hw _ mw_157) (fun _ h9 => h9) rfl dX2_passNumber_1 ?_
  refine lv_aload_n hx hb dX2_passNumber_4 rfl (lv_at hl 0 rfl) ?_
  refine va_get (D := eD E) (ci := 2) (C := RX2) (T := TX2) (N := 2) (v := .int c_t_at) hx hb hw inX2 hown hK hP 0 rfl rfl 1 (by decide) (hw _ mw_158) (fun _ h9 => h9) rfl dX2_passNumber_5 ?_
  refine lv_iconst (v := (2 : Int32)) hx hb dX2_passNumber_8 (by decide) ?_
  obtain ⟨r1, er1, hF⟩ := kb hF
  refine kRV (rest := []) C (k_Tokens_valueAt l E h_t_tokens h_t_tokens_types h_t_tokens_values x_t_tokens_starts c_t_tokens_size c_t_tokens_length c_t_tokens_types c_t_tokens_values c_t_at (2 : Int32) r1 er1) fn_Tokens_valueAt mw_721 ⟨Nat.le_of_ble_eq_true rfl, Nat.le_of_ble_eq_true rfl⟩ hK hT hS (va_recv hK hP (ci := 6) (q0 := 1) rfl rfl) hP [1, 2, 3] rfl rfl rfl hl (Nat.le_of_ble_eq_true rfl) dX2_passNumber_9 ?_
  refine lv_istore_n (lv' := [(2, .int r1), (0, .ref h_t), (1, .int a1)]) hx hb dX2_passNumber_12 rfl hl (by decide) rfl (fun ls hl => ?_)
  refine lv_iload_n hx hb dX2_passNumber_13 rfl (lv_at hl 0 rfl) ?_
  refine lv_if_lt (tgt := 22) hx hb dX2_passNumber_14 (by decide) (fun q2 => ?_) (fun q2 => ?_)
  · have hF := kp hF q2
    refine lv_iconst (v := (-1 : Int32)) hx hb dX2_passNumber_22 (by decide) ?_
    obtain rfl := Option.some.inj hF
    exact W.iret hx hb hr (fun t ht hW => ⟨⟨rfl, by rw [ht]; exact hP, hD⟩, hS.F ht⟩) hS.2.2 dX2_passNumber_23
  · have hF := kn hF q2
    refine lv_iload_n hx hb dX2_passNumber_17 rfl (lv_at hl 0 rfl) ?_
    refine lv_iload_n hx hb dX2_passNumber_18 rfl (lv_at hl 2 rfl) ?_
    refine lv_icmp_le (tgt := 24) hx hb dX2_passNumber_19 (by decide) (fun q3 => ?_) (fun q3 => ?_)
    · have hF := kp hF q3
      refine lv_aload_n hx hb dX2_passNumber_24 rfl (lv_at hl 1 rfl) ?_
      refine lv_dup hx hb dX2_passNumber_25 rfl ?_
      refine va_get (D := eD E) (ci := 2) (C := RX2) (T := TX2) (N := 2) (v := .int c_t_at) hx hb hw inX2 hown hK hP 0 rfl rfl 1 (by decide) (hw _ mw_158) (fun _ h9 => h9) rfl dX2_passNumber_26 ?_
      refine lv_iconst (v := (1 : Int32)) hx hb dX2_passNumber_29 (by decide) ?_
      refine lv_iadd hx hb dX2_passNumber_30 ?_
      refine va_put (D := eD E) (ci := 2) (v := .int (c_t_at + (1 : Int32))) (ty := .int) (C := RX2) (T := TX2) (N := 2) hx hb hw inX2 tyX2 tyX2_ok nmX2 hown hK hP hD hS 0 rfl rfl 1 (by decide) (hw _ mw_158) (fun _ h9 => h9) rfl (by decide +kernel) rfl rfl (Nat.le_of_ble_eq_true rfl) dX2_passNumber_31 (fun H locs hP hD hS => ?_)
      have hP : va_P (eD E) vwCl (w_FieldText_passNumber E h_t h_t_tokens h_t_tokens_types h_t_tokens_values x_t_tokens_starts (c_t_at + (1 : Int32)) c_t_tokens_size c_t_tokens_length c_t_tokens_types c_t_tokens_values) H := hP
      have hD : va_D A (w_FieldText_passNumber E h_t h_t_tokens h_t_tokens_types h_t_tokens_values x_t_tokens_starts (c_t_at + (1 : Int32)) c_t_tokens_size c_t_tokens_length c_t_tokens_types c_t_tokens_values) := hD
      refine lv_iload_n hx hb dX2_passNumber_34 rfl (lv_at hl 0 rfl) ?_
      obtain rfl := Option.some.inj hF
      exact W.iret hx hb hr (fun t ht hW => ⟨⟨rfl, by rw [ht]; exact hP, hD⟩, hS.F ht⟩) hS.2.2 dX2_passNumber_35
    · have hF := kn hF q3
      refine lv_iconst (v := (-1 : Int32)) hx hb dX2_passNumber_22 (by decide) ?_
      obtain rfl := Option.some.inj hF
      exact W.iret hx hb hr (fun t ht hW => ⟨⟨rfl, by rw [ht]; exact hP, hD⟩, hS.F ht⟩) hS.2.2 dX2_passNumber_23
abbrev w_FieldText_passWord (E : kE) (h_t : Nat) (h_t_tokens : Nat) (h_t_tokens_types : Nat) (h_t_tokens_values : Nat) (x_t_tokens_starts : Nat) (c_t_at : Int32) (c_t_tokens_size : Int32) (c_t_tokens_length : Int32) (c_t_tokens_types : (Nat → Int32)) (c_t_tokens_values : (Nat → Int32)) : va_W := [(h_t, .inr (2, [.ref h_t_tokens, .int c_t_at])), (h_t_tokens, .inr (6, [.ref h_t_tokens_types, .ref x_t_tokens_starts, .ref h_t_tokens_values, .int c_t_tokens_size, .int c_t_tokens_length])), (h_t_tokens_types, .inl (eI E, 120, .inl c_t_tokens_types)), (h_t_tokens_values, .inl (eI E, 120, .inl c_t_tokens_values))]
set_option maxHeartbeats 4000000 in
set_option maxRecDepth 100000 in
theorem k_FieldText_passWord (l : Launch) (E : kE) (h_t : Nat) (h_t_tokens : Nat) (h_t_tokens_types : Nat) (h_t_tokens_values : Nat) (x_t_tokens_starts : Nat) (sz : Nat) (c_t_at : Int32) (c_t_tokens_size : Int32) (c_t_tokens_length : Int32) (c_t_tokens_types : (Nat → Int32)) (c_t_tokens_values : (Nat → Int32)) (a1 : Int32) (out : Int32 × Int32) (hF : f_FieldText_passWord c_t_at c_t_tokens_size c_t_tokens_types c_t_tokens_values a1 = some out) : Met l yX2_passWord (Cond.code yX2_passWord cX2_passWord 2 (some .boolean) :: wG) (rm 2) (pW E (w_FieldText_passWord E h_t h_t_tokens h_t_tokens_types h_t_tokens_values x_t_tokens_starts c_t_at c_t_tokens_size c_t_tokens_length c_t_tokens_types c_t_tokens_values) sz [.ref h_t, .int a1]) (qW (some (.int out.1)) E (w_FieldText_passWord E h_t h_t_tokens h_t_tokens_types h_t_tokens_values x_t_tokens_starts out.2 c_t_tokens_size c_t_tokens_length c_t_tokens_types c_t_tokens_values) (va_A (w_FieldText_passWord E h_t h_t_tokens h_t_tokens_types h_t_tokens_values x_t_tokens_starts c_t_at c_t_tokens_size c_t_tokens_length c_t_tokens_types c_t_tokens_values) sz)) 0 0 (va_A (w_FieldText_passWord E h_t h_t_tokens h_t_tokens_types h_t_tokens_values x_t_tokens_starts c_t_at c_t_tokens_size c_t_tokens_length c_t_tokens_types c_t_tokens_values) sz) := by
  refine met_W (by decide) (Nat.le_of_ble_eq_true rfl) ?_
  intro p e s m args below meth c A ls C hP hD hS hA hK hT hl
  obtain ⟨hx, hb, hr, hml, hown, hw, hlocks⟩ := id C
  have hl : lv_has ls 2 [(0, .ref h_t), (1, .int a1)] := hl
  rw [f_FieldText_passWord] at hF
  refine lv_aload_n hx hb dX2_passWord_0 rfl (lv_at hl 0 rfl) ?_
  refine va_get (D := eD E) (ci := 2) (C := RX2) (T := TX2) (N := 2) (v := .ref h_t_tokens) hx hb hw inX2 hown hK hP 0 rfl rfl 0 (by decide) (hw _ mw_157) (fun _ h9 => h9) rfl dX2_passWord_1 ?_
  refine lv_aload_n hx hb dX2_passWord_4 rfl (lv_at hl 0 rfl) ?_
  refine va_get (D := eD E) (ci := 2) (C := RX2) (T := TX2) (N := 2) (v := .int c_t_at) hx hb hw inX2 hown hK hP 0 rfl rfl 1 (by decide) (hw _ mw_158) (fun _ h9 => h9) rfl dX2_passWord_5 ?_
  refine lv_iconst (v := (1 : Int32)) hx hb dX2_passWord_8 (by decide) ?_
  obtain ⟨r1, er1, hF⟩ := kb hF
  refine kRV (rest := []) C (k_Tokens_valueAt l E h_t_tokens h_t_tokens_types h_t_tokens_values x_t_tokens_starts c_t_tokens_size c_t_tokens_length c_t_tokens_types c_t_tokens_values c_t_at (1 : Int32) r1 er1) fn_Tokens_valueAt mw_721 ⟨Nat.le_of_ble_eq_true rfl, Nat.le_of_ble_eq_true rfl⟩ hK hT hS (va_recv hK hP (ci := 6) (q0 := 1) rfl rfl) hP [1, 2, 3] rfl rfl rfl hl (Nat.le_of_ble_eq_true rfl) dX2_passWord_9 ?_
  refine lv_iload_n hx hb dX2_passWord_12 rfl (lv_at hl 1 rfl) ?_
  refine lv_icmp_eq (tgt := 18) hx hb dX2_passWord_13 (by decide) (fun q2 => ?_) (fun q2 => ?_)
  · have hF := kp hF q2
    refine lv_aload_n hx hb dX2_passWord_18 rfl (lv_at hl 0 rfl) ?_
    refine lv_dup hx hb dX2_passWord_19 rfl ?_
    refine va_get (D := eD E) (ci := 2) (C := RX2) (T := TX2) (N := 2) (v := .int c_t_at) hx hb hw inX2 hown hK hP 0 rfl rfl 1 (by decide) (hw _ mw_158) (fun _ h9 => h9) rfl dX2_passWord_20 ?_
    refine lv_iconst (v := (1 : Int32)) hx hb dX2_passWord_23 (by decide) ?_
    refine lv_iadd hx hb dX2_passWord_24 ?_
    refine va_put (D := eD E) (ci := 2) (v := .int (c_t_at + (1 : Int32))) (ty := .int) (C := RX2) (T := TX2) (N := 2) hx hb hw inX2 tyX2 tyX2_ok nmX2 hown hK hP hD hS 0 rfl rfl 1 (by decide) (hw _ mw_158) (fun _ h9 => h9) rfl (by decide +kernel) rfl rfl (Nat.le_of_ble_eq_true rfl) dX2_passWord_25 (fun H locs hP hD hS => ?_)
    have hP : va_P (eD E) vwCl (w_FieldText_passWord E h_t h_t_tokens h_t_tokens_types h_t_tokens_values x_t_tokens_starts (c_t_at + (1 : Int32)) c_t_tokens_size c_t_tokens_length c_t_tokens_types c_t_tokens_values) H := hP
    have hD : va_D A (w_FieldText_passWord E h_t h_t_tokens h_t_tokens_types h_t_tokens_values x_t_tokens_starts (c_t_at + (1 : Int32)) c_t_tokens_size c_t_tokens_length c_t_tokens_types c_t_tokens_values) := hD
    refine lv_iconst (v := (1 : Int32)) hx hb dX2_passWord_28 (by decide) ?_
    obtain rfl := Option.some.inj hF
    exact W.zret (ty := .boolean) hx hb hr rfl (fun t ht hW => ⟨⟨rfl, by rw [ht]; exact hP, hD⟩, hS.F ht⟩) hS.2.2 dX2_passWord_29
  · have hF := kn hF q2
    refine lv_iconst (v := (0 : Int32)) hx hb dX2_passWord_16 (by decide) ?_
    obtain rfl := Option.some.inj hF
    exact W.zret (ty := .boolean) hx hb hr rfl (fun t ht hW => ⟨⟨rfl, by rw [ht]; exact hP, hD⟩, hS.F ht⟩) hS.2.2 dX2_passWord_17
abbrev w_FieldText_passForm (E : kE) (h_t : Nat) (h_t_tokens : Nat) (h_t_tokens_types : Nat) (h_t_tokens_values : Nat) (h_p1 : Nat) (h_p1_book : Nat) (h_p1_book_forms : Nat) (x_t_tokens_starts : Nat) (x_p1_kinds : Nat) (x_p1_forms : Nat) (x_p1_deeps : Nat) (c_t_at : Int32) (c_t_tokens_size : Int32) (c_t_tokens_length : Int32) (c_t_tokens_types : (Nat → Int32)) (c_t_tokens_values : (Nat → Int32)) (c_p1_size : Int32) (c_p1_hour : Int32) (c_p1_sunny : Int32) (c_p1_book_forms : (Nat → Int32)) : va_W := [(h_t, .inr (2, [.ref h_t_tokens, .int c_t_at])), (h_t_tokens, .inr (6, [.ref h_t_tokens_types, .ref x_t_tokens_starts, .ref h_t_tokens_values, .int c_t_tokens_size, .int c_t_tokens_length])), (h_t_tokens_types, .inl (eI E, 120, .inl c_t_tokens_types)), (h_t_tokens_values, .inl (eI E, 120, .inl c_t_tokens_values)), (h_p1, .inr (3, [.ref h_p1_book, .ref x_p1_kinds, .ref x_p1_forms, .ref x_p1_deeps, .int c_p1_size, .int c_p1_hour, .int c_p1_sunny])), (h_p1_book, .inr (0, [.ref h_p1_book_forms])), (h_p1_book_forms, .inl (eI E, 26, .inl c_p1_book_forms))]
set_option maxHeartbeats 4000000 in
set_option maxRecDepth 100000 in
theorem k_FieldText_passForm (l : Launch) (E : kE) (h_t : Nat) (h_t_tokens : Nat) (h_t_tokens_types : Nat) (h_t_tokens_values : Nat) (h_p1 : Nat) (h_p1_book : Nat) (h_p1_book_forms : Nat) (x_t_tokens_starts : Nat) (x_p1_kinds : Nat) (x_p1_forms : Nat) (x_p1_deeps : Nat) (sz : Nat) (c_t_at : Int32) (c_t_tokens_size : Int32) (c_t_tokens_length : Int32) (c_t_tokens_types : (Nat → Int32)) (c_t_tokens_values : (Nat → Int32)) (c_p1_size : Int32) (c_p1_hour : Int32) (c_p1_sunny : Int32) (c_p1_book_forms : (Nat → Int32))  (out : Int32 × Int32) (hF : f_FieldText_passForm c_t_at c_t_tokens_size c_t_tokens_types c_t_tokens_values c_p1_book_forms  = some out) : Met l yX2_passForm (Cond.code yX2_passForm cX2_passForm 3 (some .int) :: wG) (rm 3) (pW E (w_FieldText_passForm E h_t h_t_tokens h_t_tokens_types h_t_tokens_values h_p1 h_p1_book h_p1_book_forms x_t_tokens_starts x_p1_kinds x_p1_forms x_p1_deeps c_t_at c_t_tokens_size c_t_tokens_length c_t_tokens_types c_t_tokens_values c_p1_size c_p1_hour c_p1_sunny c_p1_book_forms) sz [.ref h_t, .ref h_p1]) (qW (some (.int out.1)) E (w_FieldText_passForm E h_t h_t_tokens h_t_tokens_types h_t_tokens_values h_p1 h_p1_book h_p1_book_forms x_t_tokens_starts x_p1_kinds x_p1_forms x_p1_deeps out.2 c_t_tokens_size c_t_tokens_length c_t_tokens_types c_t_tokens_values c_p1_size c_p1_hour c_p1_sunny c_p1_book_forms) (va_A (w_FieldText_passForm E h_t h_t_tokens h_t_tokens_types h_t_tokens_values h_p1 h_p1_book h_p1_book_forms x_t_tokens_starts x_p1_kinds x_p1_forms x_p1_deeps c_t_at c_t_tokens_size c_t_tokens_length c_t_tokens_types c_t_tokens_values c_p1_size c_p1_hour c_p1_sunny c_p1_book_forms) sz)) 0 0 (va_A (w_FieldText_passForm E h_t h_t_tokens h_t_tokens_types h_t_tokens_values h_p1 h_p1_book h_p1_book_forms x_t_tokens_starts x_p1_kinds x_p1_forms x_p1_deeps c_t_at c_t_tokens_size c_t_tokens_length c_t_tokens_types c_t_tokens_values c_p1_size c_p1_hour c_p1_sunny c_p1_book_forms) sz) := by
  refine met_W (by decide) (Nat.le_of_ble_eq_true rfl) ?_
  intro p e s m args below meth c A ls C hP hD hS hA hK hT hl
  obtain ⟨hx, hb, hr, hml, hown, hw, hlocks⟩ := id C
  have hl : lv_has ls 3 [(0, .ref h_t), (1, .ref h_p1)] := hl
  rw [f_FieldText_passForm] at hF
  refine lv_aload_n hx hb dX2_passForm_0 rfl (lv_at hl 0 rfl) ?_
  refine lv_bipush (v := (8 : Int32)) hx hb dX2_passForm_1 (by decide) ?_
  obtain ⟨r1, er1, hF⟩ := kb hF
  refine kWV (rest := []) (Wr := [(h_p1, .inr (3, [.ref h_p1_book, .ref x_p1_kinds, .ref x_p1_forms, .ref x_p1_deeps, .int c_p1_size, .int c_p1_hour, .int c_p1_sunny])), (h_p1_book, .inr (0, [.ref h_p1_book_forms])), (h_p1_book_forms, .inl (eI E, 26, .inl c_p1_book_forms))]) (Wn := (w_FieldText_passForm E h_t h_t_tokens h_t_tokens_types h_t_tokens_values h_p1 h_p1_book h_p1_book_forms x_t_tokens_starts x_p1_kinds x_p1_forms x_p1_deeps r1.2 c_t_tokens_size c_t_tokens_length c_t_tokens_types c_t_tokens_values c_p1_size c_p1_hour c_p1_sunny c_p1_book_forms)) C (k_FieldText_passWord l E h_t h_t_tokens h_t_tokens_types h_t_tokens_values x_t_tokens_starts s.heap.size c_t_at c_t_tokens_size c_t_tokens_length c_t_tokens_types c_t_tokens_values (8 : Int32) r1 er1) fn_FieldText_passWord mw_717 ⟨Nat.le_of_ble_eq_true rfl, Nat.le_of_ble_eq_true rfl⟩ hK hT hS hA (va_recv hK hP (ci := 2) (q0 := 0) rfl rfl) hP hD [0, 1, 2, 3] rfl (by decide) [4, 5, 6] rfl (by decide) (by decide) [3, 4, 5, 6, 0, 1, 2] rfl (by decide) rfl rfl hl (Nat.le_of_ble_eq_true rfl) dX2_passForm_3 (fun H locs hP hD hS => ?_)
  refine W.eq (g2 := F0 m 6 ls [.int r1.1]) rfl ?_
  refine lv_if_eq (tgt := 17) hx hb dX2_passForm_6 (by decide) (fun q2 => ?_) (fun q2 => ?_)
  · have hF := kp hF q2
    refine lv_aload_n hx hb dX2_passForm_17 rfl (lv_at hl 0 rfl) ?_
    refine lv_bipush (v := (9 : Int32)) hx hb dX2_passForm_18 (by decide) ?_
    obtain ⟨r3, er3, hF⟩ := kb hF
    refine kWV (rest := []) (Wr := [(h_p1, .inr (3, [.ref h_p1_book, .ref x_p1_kinds, .ref x_p1_forms, .ref x_p1_deeps, .int c_p1_size, .int c_p1_hour, .int c_p1_sunny])), (h_p1_book, .inr (0, [.ref h_p1_book_forms])), (h_p1_book_forms, .inl (eI E, 26, .inl c_p1_book_forms))]) (Wn := (w_FieldText_passForm E h_t h_t_tokens h_t_tokens_types h_t_tokens_values h_p1 h_p1_book h_p1_book_forms x_t_tokens_starts x_p1_kinds x_p1_forms x_p1_deeps r3.2 c_t_tokens_size c_t_tokens_length c_t_tokens_types c_t_tokens_values c_p1_size c_p1_hour c_p1_sunny c_p1_book_forms)) C (k_FieldText_passWord l E h_t h_t_tokens h_t_tokens_types h_t_tokens_values x_t_tokens_starts H.size r1.2 c_t_tokens_size c_t_tokens_length c_t_tokens_types c_t_tokens_values (9 : Int32) r3 er3) fn_FieldText_passWord mw_717 ⟨Nat.le_of_ble_eq_true rfl, Nat.le_of_ble_eq_true rfl⟩ hK hT hS hA (va_recv hK hP (ci := 2) (q0 := 0) rfl rfl) hP hD [0, 1, 2, 3] rfl (by decide) [4, 5, 6] rfl (by decide) (by decide) [3, 4, 5, 6, 0, 1, 2] rfl (by decide) rfl rfl hl (Nat.le_of_ble_eq_true rfl) dX2_passForm_20 (fun H locs hP hD hS => ?_)
    refine W.eq (g2 := F0 m 23 ls [.int r3.1]) rfl ?_
    refine lv_if_ne (tgt := 28) hx hb dX2_passForm_23 (by decide) (fun q4 => ?_) (fun q4 => ?_)
    · have hF := kn hF q4
      refine lv_aload_n hx hb dX2_passForm_28 rfl (lv_at hl 0 rfl) ?_
      refine lv_bipush (v := (25 : Int32)) hx hb dX2_passForm_29 (by decide) ?_
      obtain ⟨r5, er5, hF⟩ := kb hF
      refine kWV (rest := []) (Wr := [(h_p1, .inr (3, [.ref h_p1_book, .ref x_p1_kinds, .ref x_p1_forms, .ref x_p1_deeps, .int c_p1_size, .int c_p1_hour, .int c_p1_sunny])), (h_p1_book, .inr (0, [.ref h_p1_book_forms])), (h_p1_book_forms, .inl (eI E, 26, .inl c_p1_book_forms))]) (Wn := (w_FieldText_passForm E h_t h_t_tokens h_t_tokens_types h_t_tokens_values h_p1 h_p1_book h_p1_book_forms x_t_tokens_starts x_p1_kinds x_p1_forms x_p1_deeps r5.2 c_t_tokens_size c_t_tokens_length c_t_tokens_types c_t_tokens_values c_p1_size c_p1_hour c_p1_sunny c_p1_book_forms)) C (k_FieldText_passNumber l E h_t h_t_tokens h_t_tokens_types h_t_tokens_values x_t_tokens_starts H.size r3.2 c_t_tokens_size c_t_tokens_length c_t_tokens_types c_t_tokens_values (25 : Int32) r5 er5) fn_FieldText_passNumber mw_729 ⟨Nat.le_of_ble_eq_true rfl, Nat.le_of_ble_eq_true rfl⟩ hK hT hS hA (va_recv hK hP (ci := 2) (q0 := 0) rfl rfl) hP hD [0, 1, 2, 3] rfl (by decide) [4, 5, 6] rfl (by decide) (by decide) [3, 4, 5, 6, 0, 1, 2] rfl (by decide) rfl rfl hl (Nat.le_of_ble_eq_true rfl) dX2_passForm_31 (fun H locs hP hD hS => ?_)
      refine W.eq (g2 := F0 m 34 ls [.int r5.1]) rfl ?_
      refine lv_istore_n (lv' := [(2, .int r5.1), (0, .ref h_t), (1, .ref h_p1)]) hx hb dX2_passForm_34 rfl hl (by decide) rfl (fun ls hl => ?_)
      refine lv_iload_n hx hb dX2_passForm_35 rfl (lv_at hl 0 rfl) ?_
      refine lv_if_ge (tgt := 43) hx hb dX2_passForm_36 (by decide) (fun q6 => ?_) (fun q6 => ?_)
      · have hF := kp hF q6
        refine lv_aload_n hx hb dX2_passForm_43 rfl (lv_at hl 2 rfl) ?_
        refine va_getN (D := eD E) (ci := 3) (C := RX5) (T := TX5) (N := 7) (v := .ref h_p1_book) hx hb hw inX5 hown hK hP 4 rfl rfl 0 (by decide) ((sF_0 hT).use rfl) (fun _ h9 => h9) rfl dX2_passForm_44 ?_
        refine lv_iload_n hx hb dX2_passForm_47 rfl (lv_at hl 0 rfl) ?_
        obtain ⟨r7, er7, hF⟩ := kb hF
        refine kRV (rest := []) C (k_Book_formAt l E h_p1_book h_p1_book_forms c_p1_book_forms r5.1 r7 er7) fn_Book_formAt mw_748 ⟨Nat.le_of_ble_eq_true rfl, Nat.le_of_ble_eq_true rfl⟩ hK hT hS (va_recv hK hP (ci := 0) (q0 := 5) rfl rfl) hP [5, 6] rfl rfl rfl hl (Nat.le_of_ble_eq_true rfl) dX2_passForm_48 ?_
        obtain rfl := Option.some.inj hF
        exact W.iret hx hb hr (fun t ht hW => ⟨⟨rfl, by rw [ht]; exact hP, hD⟩, hS.F ht⟩) hS.2.2 dX2_passForm_51
      · have hF := kn hF q6
        refine lv_iconst (v := (-1 : Int32)) hx hb dX2_passForm_39 (by decide) ?_
        refine lv_goto (tgt := 51) hx hb dX2_passForm_40 (by decide) ?_
        obtain rfl := Option.some.inj hF
        exact W.iret hx hb hr (fun t ht hW => ⟨⟨rfl, by rw [ht]; exact hP, hD⟩, hS.F ht⟩) hS.2.2 dX2_passForm_51
    · have hF := kp hF q4
      refine lv_iconst (v := (-1 : Int32)) hx hb dX2_passForm_26 (by decide) ?_
      obtain rfl := Option.some.inj hF
      exact W.iret hx hb hr (fun t ht hW => ⟨⟨rfl, by rw [ht]; exact hP, hD⟩, hS.F ht⟩) hS.2.2 dX2_passForm_27
  · have hF := kn hF q2
    refine lv_aload_n hx hb dX2_passForm_9 rfl (lv_at hl 0 rfl) ?_
    refine lv_sipush (v := (4095 : Int32)) hx hb dX2_passForm_10 (by decide) ?_
    obtain ⟨r8, er8, hF⟩ := kb hF
    refine kWV (rest := []) (Wr := [(h_p1, .inr (3, [.ref h_p1_book, .ref x_p1_kinds, .ref x_p1_forms, .ref x_p1_deeps, .int c_p1_size, .int c_p1_hour, .int c_p1_sunny])), (h_p1_book, .inr (0, [.ref h_p1_book_forms])), (h_p1_book_forms, .inl (eI E, 26, .inl c_p1_book_forms))]) (Wn := (w_FieldText_passForm E h_t h_t_tokens h_t_tokens_types h_t_tokens_values h_p1 h_p1_book h_p1_book_forms x_t_tokens_starts x_p1_kinds x_p1_forms x_p1_deeps r8.2 c_t_tokens_size c_t_tokens_length c_t_tokens_types c_t_tokens_values c_p1_size c_p1_hour c_p1_sunny c_p1_book_forms)) C (k_FieldText_passNumber l E h_t h_t_tokens h_t_tokens_types h_t_tokens_values x_t_tokens_starts H.size r1.2 c_t_tokens_size c_t_tokens_length c_t_tokens_types c_t_tokens_values (4095 : Int32) r8 er8) fn_FieldText_passNumber mw_729 ⟨Nat.le_of_ble_eq_true rfl, Nat.le_of_ble_eq_true rfl⟩ hK hT hS hA (va_recv hK hP (ci := 2) (q0 := 0) rfl rfl) hP hD [0, 1, 2, 3] rfl (by decide) [4, 5, 6] rfl (by decide) (by decide) [3, 4, 5, 6, 0, 1, 2] rfl (by decide) rfl rfl hl (Nat.le_of_ble_eq_true rfl) dX2_passForm_13 (fun H locs hP hD hS => ?_)
    refine W.eq (g2 := F0 m 16 ls [.int r8.1]) rfl ?_
    obtain rfl := Option.some.inj hF
    exact W.iret hx hb hr (fun t ht hW => ⟨⟨rfl, by rw [ht]; exact hP, hD⟩, hS.F ht⟩) hS.2.2 dX2_passForm_16
abbrev w_FieldText_passLetter (E : kE) (h_t : Nat) (h_t_tokens : Nat) (h_t_tokens_types : Nat) (h_t_tokens_values : Nat) (h_p1 : Nat) (h_p1_book : Nat) (h_p1_book_forms : Nat) (h_p1_deeps : Nat) (h_p1_forms : Nat) (h_p1_kinds : Nat) (x_t_tokens_starts : Nat) (c_t_at : Int32) (c_t_tokens_size : Int32) (c_t_tokens_length : Int32) (c_t_tokens_types : (Nat → Int32)) (c_t_tokens_values : (Nat → Int32)) (c_p1_size : Int32) (c_p1_hour : Int32) (c_p1_sunny : Int32) (c_p1_book_forms : (Nat → Int32)) (c_p1_deeps : (Nat → Int32)) (c_p1_forms : (Nat → Int32)) (c_p1_kinds : (Nat → Int32)) : va_W := [(h_t, .inr (2, [.ref h_t_tokens, .int c_t_at])), (h_t_tokens, .inr (6, [.ref h_t_tokens_types, .ref x_t_tokens_starts, .ref h_t_tokens_values, .int c_t_tokens_size, .int c_t_tokens_length])), (h_t_tokens_types, .inl (eI E, 120, .inl c_t_tokens_types)), (h_t_tokens_values, .inl (eI E, 120, .inl c_t_tokens_values)), (h_p1, .inr (3, [.ref h_p1_book, .ref h_p1_kinds, .ref h_p1_forms, .ref h_p1_deeps, .int c_p1_size, .int c_p1_hour, .int c_p1_sunny])), (h_p1_book, .inr (0, [.ref h_p1_book_forms])), (h_p1_book_forms, .inl (eI E, 26, .inl c_p1_book_forms)), (h_p1_deeps, .inl (eI E, 12, .inl c_p1_deeps)), (h_p1_forms, .inl (eI E, 12, .inl c_p1_forms)), (h_p1_kinds, .inl (eI E, 12, .inl c_p1_kinds))]
set_option maxHeartbeats 4000000 in
set_option maxRecDepth 100000 in
theorem wk_FieldText_passLetter_b33 {p : Program} {l : Launch} {e : Env} {s : State} {m : MethodId} {args : Array Value} {below : List Frame} {meth : Method} {c : Code} {A : Nat → Prop} (E : kE) (h_t : Nat) (h_t_tokens : Nat) (h_t_tokens_types : Nat) (h_t_tokens_values : Nat) (h_p1 : Nat) (h_p1_book : Nat) (h_p1_book_forms : Nat) (h_p1_deeps : Nat) (h_p1_forms : Nat) (h_p1_kinds : Nat) (x_t_tokens_starts : Nat) (c_t_tokens_size : Int32) (c_t_tokens_length : Int32) (c_t_tokens_types : (Nat → Int32)) (c_t_tokens_values : (Nat → Int32)) (c_p1_hour : Int32) (c_p1_sunny : Int32) (c_p1_book_forms : (Nat → Int32)) (a2 : Int32) {out : Int32 × Int32 × Int32 × (Nat → Int32) × (Nat → Int32) × (Nat → Int32)} (C : kC RX2 cX2_passLetter 5 (some .boolean) p s m args meth c) (hA : ∀ q : Nat, s.heap.size ≤ q → A q) (hK : va_K (eD E) vwCl (eT E) s) (hT : sT E A s s.heap)  :
    ∀ (c_t_at : Int32) (c_p1_size : Int32) (c_p1_deeps : (Nat → Int32)) (c_p1_forms : (Nat → Int32)) (c_p1_kinds : (Nat → Int32)) (v3 : Int32) (v4 : Int32), f_FieldText_passLetter_b33  c_t_tokens_size c_t_tokens_types c_t_tokens_values c_p1_book_forms a2 c_t_at c_p1_size c_p1_deeps c_p1_forms c_p1_kinds v3 v4 = some out → ∀ (H : Heap) (locs : List Loc), va_P (eD E) vwCl (w_FieldText_passLetter E h_t h_t_tokens h_t_tokens_types h_t_tokens_values h_p1 h_p1_book h_p1_book_forms h_p1_deeps h_p1_forms h_p1_kinds x_t_tokens_starts c_t_at c_t_tokens_size c_t_tokens_length c_t_tokens_types c_t_tokens_values c_p1_size c_p1_hour c_p1_sunny c_p1_book_forms c_p1_deeps c_p1_forms c_p1_kinds) H → va_D A (w_FieldText_passLetter E h_t h_t_tokens h_t_tokens_types h_t_tokens_values h_p1 h_p1_book h_p1_book_forms h_p1_deeps h_p1_forms h_p1_kinds x_t_tokens_starts c_t_at c_t_tokens_size c_t_tokens_length c_t_tokens_types c_t_tokens_values c_p1_size c_p1_hour c_p1_sunny c_p1_book_forms c_p1_deeps c_p1_forms c_p1_kinds) → va_S A s.heap H locs → ∀ (ls : Array Slot), lv_has ls 5 [(1, .ref h_p1), (2, .int a2), (3, .int v3), (4, .int v4)] → W p l e (rm 4) s m args below meth c H locs 0 0 (MQ below (qW (some (.int out.1)) E (w_FieldText_passLetter E h_t h_t_tokens h_t_tokens_types h_t_tokens_values h_p1 h_p1_book h_p1_book_forms h_p1_deeps h_p1_forms h_p1_kinds x_t_tokens_starts out.2.1 c_t_tokens_size c_t_tokens_length c_t_tokens_types c_t_tokens_values out.2.2.1 c_p1_hour c_p1_sunny c_p1_book_forms out.2.2.2.1 out.2.2.2.2.1 out.2.2.2.2.2) A) args s 0 0 A) (F0 m 33 ls []) := by
  obtain ⟨hx, hb, hr, hml, hown, hw, hlocks⟩ := id C
  intro c_t_at c_p1_size c_p1_deeps c_p1_forms c_p1_kinds v3 v4 hF H locs hP hD hS ls hl
  rw [f_FieldText_passLetter_b33] at hF
  refine lv_iload hx hb dX2_passLetter_33 (lv_at hl 3 rfl) ?_
  refine lv_if_ge (tgt := 40) hx hb dX2_passLetter_35 (by decide) (fun q1 => ?_) (fun q1 => ?_)
  · have hF := kp hF q1
    refine lv_aload_n hx hb dX2_passLetter_40 rfl (lv_at hl 0 rfl) ?_
    refine lv_iload_n hx hb dX2_passLetter_41 rfl (lv_at hl 1 rfl) ?_
    refine lv_iload_n hx hb dX2_passLetter_42 rfl (lv_at hl 2 rfl) ?_
    refine lv_iload hx hb dX2_passLetter_43 (lv_at hl 3 rfl) ?_
    obtain ⟨r2, er2, hF⟩ := kb hF
    refine kWV (rest := []) (Wr := [(h_t, .inr (2, [.ref h_t_tokens, .int c_t_at])), (h_t_tokens, .inr (6, [.ref h_t_tokens_types, .ref x_t_tokens_starts, .ref h_t_tokens_values, .int c_t_tokens_size, .int c_t_tokens_length])), (h_t_tokens_types, .inl (eI E, 120, .inl c_t_tokens_types)), (h_t_tokens_values, .inl (eI E, 120, .inl c_t_tokens_values)), (h_p1_book, .inr (0, [.ref h_p1_book_forms])), (h_p1_book_forms, .inl (eI E, 26, .inl c_p1_book_forms))]) (Wn := (w_FieldText_passLetter E h_t h_t_tokens h_t_tokens_types h_t_tokens_values h_p1 h_p1_book h_p1_book_forms h_p1_deeps h_p1_forms h_p1_kinds x_t_tokens_starts c_t_at c_t_tokens_size c_t_tokens_length c_t_tokens_types c_t_tokens_values r2.2.1 c_p1_hour c_p1_sunny c_p1_book_forms r2.2.2.1 r2.2.2.2.1 r2.2.2.2.2)) C (k_Plain_add l E h_p1 h_p1_deeps h_p1_forms h_p1_kinds h_p1_book H.size c_p1_size c_p1_hour c_p1_sunny c_p1_deeps c_p1_forms c_p1_kinds a2 v3 v4 r2 er2) fn_Plain_add mw_749 ⟨Nat.le_of_ble_eq_true rfl, Nat.le_of_ble_eq_true rfl⟩ hK hT hS hA (va_recv hK hP (ci := 3) (q0 := 4) rfl rfl) hP hD [4, 7, 8, 9] rfl (by decide) [0, 1, 2, 3, 5, 6] rfl (by decide) (by decide) [0, 1, 2, 3, 6, 4, 5, 7, 8, 9] rfl (by decide) rfl rfl hl (Nat.le_of_ble_eq_true rfl) dX2_passLetter_45 (fun H locs hP hD hS => ?_)
    refine W.eq (g2 := F0 m 48 ls [.int r2.1]) rfl ?_
    refine lv_pop hx hb dX2_passLetter_48 rfl ?_
    refine lv_iconst (v := (1 : Int32)) hx hb dX2_passLetter_49 (by decide) ?_
    obtain rfl := Option.some.inj hF
    exact W.zret (ty := .boolean) hx hb hr rfl (fun t ht hW => ⟨⟨rfl, by rw [ht]; exact hP, hD⟩, hS.F ht⟩) hS.2.2 dX2_passLetter_50
  · have hF := kn hF q1
    refine lv_iconst (v := (0 : Int32)) hx hb dX2_passLetter_38 (by decide) ?_
    obtain rfl := Option.some.inj hF
    exact W.zret (ty := .boolean) hx hb hr rfl (fun t ht hW => ⟨⟨rfl, by rw [ht]; exact hP, hD⟩, hS.F ht⟩) hS.2.2 dX2_passLetter_39
set_option maxHeartbeats 4000000 in
set_option maxRecDepth 100000 in
theorem k_FieldText_passLetter (l : Launch) (E : kE) (h_t : Nat) (h_t_tokens : Nat) (h_t_tokens_types : Nat) (h_t_tokens_values : Nat) (h_p1 : Nat) (h_p1_book : Nat) (h_p1_book_forms : Nat) (h_p1_deeps : Nat) (h_p1_forms : Nat) (h_p1_kinds : Nat) (x_t_tokens_starts : Nat) (sz : Nat) (c_t_at : Int32) (c_t_tokens_size : Int32) (c_t_tokens_length : Int32) (c_t_tokens_types : (Nat → Int32)) (c_t_tokens_values : (Nat → Int32)) (c_p1_size : Int32) (c_p1_hour : Int32) (c_p1_sunny : Int32) (c_p1_book_forms : (Nat → Int32)) (c_p1_deeps : (Nat → Int32)) (c_p1_forms : (Nat → Int32)) (c_p1_kinds : (Nat → Int32)) (a2 : Int32) (out : Int32 × Int32 × Int32 × (Nat → Int32) × (Nat → Int32) × (Nat → Int32)) (hF : f_FieldText_passLetter c_t_at c_t_tokens_size c_t_tokens_types c_t_tokens_values c_p1_size c_p1_book_forms c_p1_deeps c_p1_forms c_p1_kinds a2 = some out) : Met l yX2_passLetter (Cond.code yX2_passLetter cX2_passLetter 5 (some .boolean) :: wG) (rm 4) (pW E (w_FieldText_passLetter E h_t h_t_tokens h_t_tokens_types h_t_tokens_values h_p1 h_p1_book h_p1_book_forms h_p1_deeps h_p1_forms h_p1_kinds x_t_tokens_starts c_t_at c_t_tokens_size c_t_tokens_length c_t_tokens_types c_t_tokens_values c_p1_size c_p1_hour c_p1_sunny c_p1_book_forms c_p1_deeps c_p1_forms c_p1_kinds) sz [.ref h_t, .ref h_p1, .int a2]) (qW (some (.int out.1)) E (w_FieldText_passLetter E h_t h_t_tokens h_t_tokens_types h_t_tokens_values h_p1 h_p1_book h_p1_book_forms h_p1_deeps h_p1_forms h_p1_kinds x_t_tokens_starts out.2.1 c_t_tokens_size c_t_tokens_length c_t_tokens_types c_t_tokens_values out.2.2.1 c_p1_hour c_p1_sunny c_p1_book_forms out.2.2.2.1 out.2.2.2.2.1 out.2.2.2.2.2) (va_A (w_FieldText_passLetter E h_t h_t_tokens h_t_tokens_types h_t_tokens_values h_p1 h_p1_book h_p1_book_forms h_p1_deeps h_p1_forms h_p1_kinds x_t_tokens_starts c_t_at c_t_tokens_size c_t_tokens_length c_t_tokens_types c_t_tokens_values c_p1_size c_p1_hour c_p1_sunny c_p1_book_forms c_p1_deeps c_p1_forms c_p1_kinds) sz)) 0 0 (va_A (w_FieldText_passLetter E h_t h_t_tokens h_t_tokens_types h_t_tokens_values h_p1 h_p1_book h_p1_book_forms h_p1_deeps h_p1_forms h_p1_kinds x_t_tokens_starts c_t_at c_t_tokens_size c_t_tokens_length c_t_tokens_types c_t_tokens_values c_p1_size c_p1_hour c_p1_sunny c_p1_book_forms c_p1_deeps c_p1_forms c_p1_kinds) sz) := by
  refine met_W (by decide) (Nat.le_of_ble_eq_true rfl) ?_
  intro p e s m args below meth c A ls C hP hD hS hA hK hT hl
  obtain ⟨hx, hb, hr, hml, hown, hw, hlocks⟩ := id C
  have hl : lv_has ls 5 [(0, .ref h_t), (1, .ref h_p1), (2, .int a2)] := hl
  rw [f_FieldText_passLetter] at hF
  refine lv_aload_n hx hb dX2_passLetter_0 rfl (lv_at hl 0 rfl) ?_
  refine lv_aload_n hx hb dX2_passLetter_1 rfl (lv_at hl 1 rfl) ?_
  obtain ⟨r3, er3, hF⟩ := kb hF
  refine kWV (rest := []) (Wr := [(h_p1_deeps, .inl (eI E, 12, .inl c_p1_deeps)), (h_p1_forms, .inl (eI E, 12, .inl c_p1_forms)), (h_p1_kinds, .inl (eI E, 12, .inl c_p1_kinds))]) (Wn := (w_FieldText_passLetter E h_t h_t_tokens h_t_tokens_types h_t_tokens_values h_p1 h_p1_book h_p1_book_forms h_p1_deeps h_p1_forms h_p1_kinds x_t_tokens_starts r3.2 c_t_tokens_size c_t_tokens_length c_t_tokens_types c_t_tokens_values c_p1_size c_p1_hour c_p1_sunny c_p1_book_forms c_p1_deeps c_p1_forms c_p1_kinds)) C (k_FieldText_passForm l E h_t h_t_tokens h_t_tokens_types h_t_tokens_values h_p1 h_p1_book h_p1_book_forms x_t_tokens_starts h_p1_kinds h_p1_forms h_p1_deeps s.heap.size c_t_at c_t_tokens_size c_t_tokens_length c_t_tokens_types c_t_tokens_values c_p1_size c_p1_hour c_p1_sunny c_p1_book_forms r3 er3) fn_FieldText_passForm mw_744 ⟨Nat.le_of_ble_eq_true rfl, Nat.le_of_ble_eq_true rfl⟩ hK hT hS hA (va_recv hK hP (ci := 2) (q0 := 0) rfl rfl) hP hD [0, 1, 2, 3, 4, 5, 6] rfl (by decide) [7, 8, 9] rfl (by decide) (by decide) [3, 4, 5, 6, 7, 8, 9, 0, 1, 2] rfl (by decide) rfl rfl hl (Nat.le_of_ble_eq_true rfl) dX2_passLetter_2 (fun H locs hP hD hS => ?_)
  refine W.eq (g2 := F0 m 5 ls [.int r3.1]) rfl ?_
  refine lv_istore_n (lv' := [(3, .int r3.1), (0, .ref h_t), (1, .ref h_p1), (2, .int a2)]) hx hb dX2_passLetter_5 rfl hl (by decide) rfl (fun ls hl => ?_)
  refine lv_iload_n hx hb dX2_passLetter_6 rfl (lv_at hl 0 rfl) ?_
  refine lv_if_ge (tgt := 12) hx hb dX2_passLetter_7 (by decide) (fun q4 => ?_) (fun q4 => ?_)
  · have hF := kp hF q4
    refine lv_bipush (v := (6 : Int32)) hx hb dX2_passLetter_12 (by decide) ?_
    refine lv_istore (lv' := [(4, .int (6 : Int32)), (3, .int r3.1), (0, .ref h_t), (1, .ref h_p1), (2, .int a2)]) hx hb dX2_passLetter_14 hl (by decide) rfl (fun ls hl => ?_)
    refine lv_aload_n hx hb dX2_passLetter_16 rfl (lv_at hl 2 rfl) ?_
    refine lv_bipush (v := (10 : Int32)) hx hb dX2_passLetter_17 (by decide) ?_
    obtain ⟨r5, er5, hF⟩ := kb hF
    refine kWV (rest := []) (Wr := [(h_p1, .inr (3, [.ref h_p1_book, .ref h_p1_kinds, .ref h_p1_forms, .ref h_p1_deeps, .int c_p1_size, .int c_p1_hour, .int c_p1_sunny])), (h_p1_book, .inr (0, [.ref h_p1_book_forms])), (h_p1_book_forms, .inl (eI E, 26, .inl c_p1_book_forms)), (h_p1_deeps, .inl (eI E, 12, .inl c_p1_deeps)), (h_p1_forms, .inl (eI E, 12, .inl c_p1_forms)), (h_p1_kinds, .inl (eI E, 12, .inl c_p1_kinds))]) (Wn := (w_FieldText_passLetter E h_t h_t_tokens h_t_tokens_types h_t_tokens_values h_p1 h_p1_book h_p1_book_forms h_p1_deeps h_p1_forms h_p1_kinds x_t_tokens_starts r5.2 c_t_tokens_size c_t_tokens_length c_t_tokens_types c_t_tokens_values c_p1_size c_p1_hour c_p1_sunny c_p1_book_forms c_p1_deeps c_p1_forms c_p1_kinds)) C (k_FieldText_passWord l E h_t h_t_tokens h_t_tokens_types h_t_tokens_values x_t_tokens_starts H.size r3.2 c_t_tokens_size c_t_tokens_length c_t_tokens_types c_t_tokens_values (10 : Int32) r5 er5) fn_FieldText_passWord mw_717 ⟨Nat.le_of_ble_eq_true rfl, Nat.le_of_ble_eq_true rfl⟩ hK hT hS hA (va_recv hK hP (ci := 2) (q0 := 0) rfl rfl) hP hD [0, 1, 2, 3] rfl (by decide) [4, 5, 6, 7, 8, 9] rfl (by decide) (by decide) [6, 7, 8, 9, 0, 1, 2, 3, 4, 5] rfl (by decide) rfl rfl hl (Nat.le_of_ble_eq_true rfl) dX2_passLetter_19 (fun H locs hP hD hS => ?_)
    refine W.eq (g2 := F0 m 22 ls [.int r5.1]) rfl ?_
    refine lv_if_eq (tgt := 33) hx hb dX2_passLetter_22 (by decide) (fun q6 => ?_) (fun q6 => ?_)
    · have hF := kp hF q6
      exact wk_FieldText_passLetter_b33 E h_t h_t_tokens h_t_tokens_types h_t_tokens_values h_p1 h_p1_book h_p1_book_forms h_p1_deeps h_p1_forms h_p1_kinds x_t_tokens_starts c_t_tokens_size c_t_tokens_length c_t_tokens_types c_t_tokens_values c_p1_hour c_p1_sunny c_p1_book_forms a2 C hA  hK hT  r5.2 c_p1_size c_p1_deeps c_p1_forms c_p1_kinds r3.1 (6 : Int32) hF _ _ hP hD hS _ (lv_sub hl [3, 4, 1, 0] rfl)
    · have hF := kn hF q6
      refine lv_aload_n hx hb dX2_passLetter_25 rfl (lv_at hl 2 rfl) ?_
      refine lv_bipush (v := (99 : Int32)) hx hb dX2_passLetter_26 (by decide) ?_
      obtain ⟨r7, er7, hF⟩ := kb hF
      refine kWV (rest := []) (Wr := [(h_p1, .inr (3, [.ref h_p1_book, .ref h_p1_kinds, .ref h_p1_forms, .ref h_p1_deeps, .int c_p1_size, .int c_p1_hour, .int c_p1_sunny])), (h_p1_book, .inr (0, [.ref h_p1_book_forms])), (h_p1_book_forms, .inl (eI E, 26, .inl c_p1_book_forms)), (h_p1_deeps, .inl (eI E, 12, .inl c_p1_deeps)), (h_p1_forms, .inl (eI E, 12, .inl c_p1_forms)), (h_p1_kinds, .inl (eI E, 12, .inl c_p1_kinds))]) (Wn := (w_FieldText_passLetter E h_t h_t_tokens h_t_tokens_types h_t_tokens_values h_p1 h_p1_book h_p1_book_forms h_p1_deeps h_p1_forms h_p1_kinds x_t_tokens_starts r7.2 c_t_tokens_size c_t_tokens_length c_t_tokens_types c_t_tokens_values c_p1_size c_p1_hour c_p1_sunny c_p1_book_forms c_p1_deeps c_p1_forms c_p1_kinds)) C (k_FieldText_passNumber l E h_t h_t_tokens h_t_tokens_types h_t_tokens_values x_t_tokens_starts H.size r5.2 c_t_tokens_size c_t_tokens_length c_t_tokens_types c_t_tokens_values (99 : Int32) r7 er7) fn_FieldText_passNumber mw_729 ⟨Nat.le_of_ble_eq_true rfl, Nat.le_of_ble_eq_true rfl⟩ hK hT hS hA (va_recv hK hP (ci := 2) (q0 := 0) rfl rfl) hP hD [0, 1, 2, 3] rfl (by decide) [4, 5, 6, 7, 8, 9] rfl (by decide) (by decide) [6, 7, 8, 9, 0, 1, 2, 3, 4, 5] rfl (by decide) rfl rfl hl (Nat.le_of_ble_eq_true rfl) dX2_passLetter_28 (fun H locs hP hD hS => ?_)
      refine W.eq (g2 := F0 m 31 ls [.int r7.1]) rfl ?_
      refine lv_istore (lv' := [(4, .int r7.1), (3, .int r3.1), (0, .ref h_t), (1, .ref h_p1), (2, .int a2)]) hx hb dX2_passLetter_31 hl (by decide) rfl (fun ls hl => ?_)
      exact wk_FieldText_passLetter_b33 E h_t h_t_tokens h_t_tokens_types h_t_tokens_values h_p1 h_p1_book h_p1_book_forms h_p1_deeps h_p1_forms h_p1_kinds x_t_tokens_starts c_t_tokens_size c_t_tokens_length c_t_tokens_types c_t_tokens_values c_p1_hour c_p1_sunny c_p1_book_forms a2 C hA  hK hT  r7.2 c_p1_size c_p1_deeps c_p1_forms c_p1_kinds r3.1 r7.1 hF _ _ hP hD hS _ (lv_sub hl [3, 4, 1, 0] rfl)
  · have hF := kn hF q4
    refine lv_iconst (v := (0 : Int32)) hx hb dX2_passLetter_10 (by decide) ?_
    obtain rfl := Option.some.inj hF
    exact W.zret (ty := .boolean) hx hb hr rfl (fun t ht hW => ⟨⟨rfl, by rw [ht]; exact hP, hD⟩, hS.F ht⟩) hS.2.2 dX2_passLetter_11
abbrev w_FieldText_passSign (E : kE) (h_t : Nat) (h_t_tokens : Nat) (h_t_tokens_types : Nat) (h_t_tokens_values : Nat) (h_p1 : Nat) (h_p1_book : Nat) (h_p1_book_forms : Nat) (x_t_tokens_starts : Nat) (x_p1_kinds : Nat) (x_p1_forms : Nat) (x_p1_deeps : Nat) (c_t_at : Int32) (c_t_tokens_size : Int32) (c_t_tokens_length : Int32) (c_t_tokens_types : (Nat → Int32)) (c_t_tokens_values : (Nat → Int32)) (c_p1_size : Int32) (c_p1_hour : Int32) (c_p1_sunny : Int32) (c_p1_book_forms : (Nat → Int32)) : va_W := [(h_t, .inr (2, [.ref h_t_tokens, .int c_t_at])), (h_t_tokens, .inr (6, [.ref h_t_tokens_types, .ref x_t_tokens_starts, .ref h_t_tokens_values, .int c_t_tokens_size, .int c_t_tokens_length])), (h_t_tokens_types, .inl (eI E, 120, .inl c_t_tokens_types)), (h_t_tokens_values, .inl (eI E, 120, .inl c_t_tokens_values)), (h_p1, .inr (3, [.ref h_p1_book, .ref x_p1_kinds, .ref x_p1_forms, .ref x_p1_deeps, .int c_p1_size, .int c_p1_hour, .int c_p1_sunny])), (h_p1_book, .inr (0, [.ref h_p1_book_forms])), (h_p1_book_forms, .inl (eI E, 26, .inl c_p1_book_forms))]
set_option maxHeartbeats 4000000 in
set_option maxRecDepth 100000 in
theorem k_FieldText_passSign (l : Launch) (E : kE) (h_t : Nat) (h_t_tokens : Nat) (h_t_tokens_types : Nat) (h_t_tokens_values : Nat) (h_p1 : Nat) (h_p1_book : Nat) (h_p1_book_forms : Nat) (x_t_tokens_starts : Nat) (x_p1_kinds : Nat) (x_p1_forms : Nat) (x_p1_deeps : Nat) (sz : Nat) (c_t_at : Int32) (c_t_tokens_size : Int32) (c_t_tokens_length : Int32) (c_t_tokens_types : (Nat → Int32)) (c_t_tokens_values : (Nat → Int32)) (c_p1_size : Int32) (c_p1_hour : Int32) (c_p1_sunny : Int32) (c_p1_book_forms : (Nat → Int32))  (out : Int32 × Int32 × (Nat → Int32)) (hF : f_FieldText_passSign c_t_at c_t_tokens_size c_t_tokens_types c_t_tokens_values c_p1_book_forms  = some out) : Met l yX2_passSign (Cond.code yX2_passSign cX2_passSign 4 (some .boolean) :: wG) (rm 3) (pW E (w_FieldText_passSign E h_t h_t_tokens h_t_tokens_types h_t_tokens_values h_p1 h_p1_book h_p1_book_forms x_t_tokens_starts x_p1_kinds x_p1_forms x_p1_deeps c_t_at c_t_tokens_size c_t_tokens_length c_t_tokens_types c_t_tokens_values c_p1_size c_p1_hour c_p1_sunny c_p1_book_forms) sz [.ref h_t, .ref h_p1]) (qW (some (.int out.1)) E (w_FieldText_passSign E h_t h_t_tokens h_t_tokens_types h_t_tokens_values h_p1 h_p1_book h_p1_book_forms x_t_tokens_starts x_p1_kinds x_p1_forms x_p1_deeps out.2.1 c_t_tokens_size c_t_tokens_length c_t_tokens_types c_t_tokens_values c_p1_size c_p1_hour c_p1_sunny out.2.2) (va_A (w_FieldText_passSign E h_t h_t_tokens h_t_tokens_types h_t_tokens_values h_p1 h_p1_book h_p1_book_forms x_t_tokens_starts x_p1_kinds x_p1_forms x_p1_deeps c_t_at c_t_tokens_size c_t_tokens_length c_t_tokens_types c_t_tokens_values c_p1_size c_p1_hour c_p1_sunny c_p1_book_forms) sz)) 0 0 (va_A (w_FieldText_passSign E h_t h_t_tokens h_t_tokens_types h_t_tokens_values h_p1 h_p1_book h_p1_book_forms x_t_tokens_starts x_p1_kinds x_p1_forms x_p1_deeps c_t_at c_t_tokens_size c_t_tokens_length c_t_tokens_types c_t_tokens_values c_p1_size c_p1_hour c_p1_sunny c_p1_book_forms) sz) := by
  refine met_W (by decide) (Nat.le_of_ble_eq_true rfl) ?_
  intro p e s m args below meth c A ls C hP hD hS hA hK hT hl
  obtain ⟨hx, hb, hr, hml, hown, hw, hlocks⟩ := id C
  have hl : lv_has ls 4 [(0, .ref h_t), (1, .ref h_p1)] := hl
  rw [f_FieldText_passSign] at hF
  refine lv_aload_n hx hb dX2_passSign_0 rfl (lv_at hl 0 rfl) ?_
  refine lv_bipush (v := (25 : Int32)) hx hb dX2_passSign_1 (by decide) ?_
  obtain ⟨r1, er1, hF⟩ := kb hF
  refine kWV (rest := []) (Wr := [(h_p1, .inr (3, [.ref h_p1_book, .ref x_p1_kinds, .ref x_p1_forms, .ref x_p1_deeps, .int c_p1_size, .int c_p1_hour, .int c_p1_sunny])), (h_p1_book, .inr (0, [.ref h_p1_book_forms])), (h_p1_book_forms, .inl (eI E, 26, .inl c_p1_book_forms))]) (Wn := (w_FieldText_passSign E h_t h_t_tokens h_t_tokens_types h_t_tokens_values h_p1 h_p1_book h_p1_book_forms x_t_tokens_starts x_p1_kinds x_p1_forms x_p1_deeps r1.2 c_t_tokens_size c_t_tokens_length c_t_tokens_types c_t_tokens_values c_p1_size c_p1_hour c_p1_sunny c_p1_book_forms)) C (k_FieldText_passNumber l E h_t h_t_tokens h_t_tokens_types h_t_tokens_values x_t_tokens_starts s.heap.size c_t_at c_t_tokens_size c_t_tokens_length c_t_tokens_types c_t_tokens_values (25 : Int32) r1 er1) fn_FieldText_passNumber mw_729 ⟨Nat.le_of_ble_eq_true rfl, Nat.le_of_ble_eq_true rfl⟩ hK hT hS hA (va_recv hK hP (ci := 2) (q0 := 0) rfl rfl) hP hD [0, 1, 2, 3] rfl (by decide) [4, 5, 6] rfl (by decide) (by decide) [3, 4, 5, 6, 0, 1, 2] rfl (by decide) rfl rfl hl (Nat.le_of_ble_eq_true rfl) dX2_passSign_3 (fun H locs hP hD hS => ?_)
  refine W.eq (g2 := F0 m 6 ls [.int r1.1]) rfl ?_
  refine lv_istore_n (lv' := [(2, .int r1.1), (0, .ref h_t), (1, .ref h_p1)]) hx hb dX2_passSign_6 rfl hl (by decide) rfl (fun ls hl => ?_)
  refine lv_iload_n hx hb dX2_passSign_7 rfl (lv_at hl 0 rfl) ?_
  refine lv_if_ge (tgt := 13) hx hb dX2_passSign_8 (by decide) (fun q2 => ?_) (fun q2 => ?_)
  · have hF := kp hF q2
    refine lv_aload_n hx hb dX2_passSign_13 rfl (lv_at hl 1 rfl) ?_
    refine lv_sipush (v := (4095 : Int32)) hx hb dX2_passSign_14 (by decide) ?_
    obtain ⟨r3, er3, hF⟩ := kb hF
    refine kWV (rest := []) (Wr := [(h_p1, .inr (3, [.ref h_p1_book, .ref x_p1_kinds, .ref x_p1_forms, .ref x_p1_deeps, .int c_p1_size, .int c_p1_hour, .int c_p1_sunny])), (h_p1_book, .inr (0, [.ref h_p1_book_forms])), (h_p1_book_forms, .inl (eI E, 26, .inl c_p1_book_forms))]) (Wn := (w_FieldText_passSign E h_t h_t_tokens h_t_tokens_types h_t_tokens_values h_p1 h_p1_book h_p1_book_forms x_t_tokens_starts x_p1_kinds x_p1_forms x_p1_deeps r3.2 c_t_tokens_size c_t_tokens_length c_t_tokens_types c_t_tokens_values c_p1_size c_p1_hour c_p1_sunny c_p1_book_forms)) C (k_FieldText_passNumber l E h_t h_t_tokens h_t_tokens_types h_t_tokens_values x_t_tokens_starts H.size r1.2 c_t_tokens_size c_t_tokens_length c_t_tokens_types c_t_tokens_values (4095 : Int32) r3 er3) fn_FieldText_passNumber mw_729 ⟨Nat.le_of_ble_eq_true rfl, Nat.le_of_ble_eq_true rfl⟩ hK hT hS hA (va_recv hK hP (ci := 2) (q0 := 0) rfl rfl) hP hD [0, 1, 2, 3] rfl (by decide) [4, 5, 6] rfl (by decide) (by decide) [3, 4, 5, 6, 0, 1, 2] rfl (by decide) rfl rfl hl (Nat.le_of_ble_eq_true rfl) dX2_passSign_17 (fun H locs hP hD hS => ?_)
    refine W.eq (g2 := F0 m 20 ls [.int r3.1]) rfl ?_
    refine lv_istore_n (lv' := [(3, .int r3.1), (2, .int r1.1), (0, .ref h_t), (1, .ref h_p1)]) hx hb dX2_passSign_20 rfl hl (by decide) rfl (fun ls hl => ?_)
    refine lv_iload_n hx hb dX2_passSign_21 rfl (lv_at hl 0 rfl) ?_
    refine lv_if_ge (tgt := 27) hx hb dX2_passSign_22 (by decide) (fun q4 => ?_) (fun q4 => ?_)
    · have hF := kp hF q4
      refine lv_aload_n hx hb dX2_passSign_27 rfl (lv_at hl 3 rfl) ?_
      refine va_getN (D := eD E) (ci := 3) (C := RX5) (T := TX5) (N := 7) (v := .ref h_p1_book) hx hb hw inX5 hown hK hP 4 rfl rfl 0 (by decide) ((sF_0 hT).use rfl) (fun _ h9 => h9) rfl dX2_passSign_28 ?_
      refine lv_iload_n hx hb dX2_passSign_31 rfl (lv_at hl 1 rfl) ?_
      refine lv_iload_n hx hb dX2_passSign_32 rfl (lv_at hl 0 rfl) ?_
      obtain ⟨r5, er5, hF⟩ := kb hF
      refine kWV (rest := []) (Wr := [(h_t, .inr (2, [.ref h_t_tokens, .int r3.2])), (h_t_tokens, .inr (6, [.ref h_t_tokens_types, .ref x_t_tokens_starts, .ref h_t_tokens_values, .int c_t_tokens_size, .int c_t_tokens_length])), (h_t_tokens_types, .inl (eI E, 120, .inl c_t_tokens_types)), (h_t_tokens_values, .inl (eI E, 120, .inl c_t_tokens_values)), (h_p1, .inr (3, [.ref h_p1_book, .ref x_p1_kinds, .ref x_p1_forms, .ref x_p1_deeps, .int c_p1_size, .int c_p1_hour, .int c_p1_sunny]))]) (Wn := (w_FieldText_passSign E h_t h_t_tokens h_t_tokens_types h_t_tokens_values h_p1 h_p1_book h_p1_book_forms x_t_tokens_starts x_p1_kinds x_p1_forms x_p1_deeps r3.2 c_t_tokens_size c_t_tokens_length c_t_tokens_types c_t_tokens_values c_p1_size c_p1_hour c_p1_sunny r5)) C (k_Book_put l E h_p1_book h_p1_book_forms H.size c_p1_book_forms r1.1 r3.1 r5 er5) fn_Book_put mw_733 ⟨Nat.le_of_ble_eq_true rfl, Nat.le_of_ble_eq_true rfl⟩ hK hT hS hA (va_recv hK hP (ci := 0) (q0 := 5) rfl rfl) hP hD [5, 6] rfl (by decide) [0, 1, 2, 3, 4] rfl (by decide) (by decide) [0, 1, 2, 3, 4, 5, 6] rfl (by decide) rfl rfl hl (Nat.le_of_ble_eq_true rfl) dX2_passSign_33 (fun H locs hP hD hS => ?_)
      refine W.eq (g2 := F0 m 36 ls []) rfl ?_
      refine lv_iconst (v := (1 : Int32)) hx hb dX2_passSign_36 (by decide) ?_
      obtain rfl := Option.some.inj hF
      exact W.zret (ty := .boolean) hx hb hr rfl (fun t ht hW => ⟨⟨rfl, by rw [ht]; exact hP, hD⟩, hS.F ht⟩) hS.2.2 dX2_passSign_37
    · have hF := kn hF q4
      refine lv_iconst (v := (0 : Int32)) hx hb dX2_passSign_25 (by decide) ?_
      obtain rfl := Option.some.inj hF
      exact W.zret (ty := .boolean) hx hb hr rfl (fun t ht hW => ⟨⟨rfl, by rw [ht]; exact hP, hD⟩, hS.F ht⟩) hS.2.2 dX2_passSign_26
  · have hF := kn hF q2
    refine lv_iconst (v := (0 : Int32)) hx hb dX2_passSign_11 (by decide) ?_
    obtain rfl := Option.some.inj hF
    exact W.zret (ty := .boolean) hx hb hr rfl (fun t ht hW => ⟨⟨rfl, by rw [ht]; exact hP, hD⟩, hS.F ht⟩) hS.2.2 dX2_passSign_12
abbrev w_FieldText_passSun (E : kE) (h_t : Nat) (h_t_tokens : Nat) (h_t_tokens_types : Nat) (h_t_tokens_values : Nat) (h_p1 : Nat) (x_t_tokens_starts : Nat) (x_p1_book : Nat) (x_p1_kinds : Nat) (x_p1_forms : Nat) (x_p1_deeps : Nat) (c_t_at : Int32) (c_t_tokens_size : Int32) (c_t_tokens_length : Int32) (c_t_tokens_types : (Nat → Int32)) (c_t_tokens_values : (Nat → Int32)) (c_p1_size : Int32) (c_p1_hour : Int32) (c_p1_sunny : Int32) : va_W := [(h_t, .inr (2, [.ref h_t_tokens, .int c_t_at])), (h_t_tokens, .inr (6, [.ref h_t_tokens_types, .ref x_t_tokens_starts, .ref h_t_tokens_values, .int c_t_tokens_size, .int c_t_tokens_length])), (h_t_tokens_types, .inl (eI E, 120, .inl c_t_tokens_types)), (h_t_tokens_values, .inl (eI E, 120, .inl c_t_tokens_values)), (h_p1, .inr (3, [.ref x_p1_book, .ref x_p1_kinds, .ref x_p1_forms, .ref x_p1_deeps, .int c_p1_size, .int c_p1_hour, .int c_p1_sunny]))]
set_option maxHeartbeats 4000000 in
set_option maxRecDepth 100000 in
theorem k_FieldText_passSun (l : Launch) (E : kE) (h_t : Nat) (h_t_tokens : Nat) (h_t_tokens_types : Nat) (h_t_tokens_values : Nat) (h_p1 : Nat) (x_t_tokens_starts : Nat) (x_p1_book : Nat) (x_p1_kinds : Nat) (x_p1_forms : Nat) (x_p1_deeps : Nat) (sz : Nat) (c_t_at : Int32) (c_t_tokens_size : Int32) (c_t_tokens_length : Int32) (c_t_tokens_types : (Nat → Int32)) (c_t_tokens_values : (Nat → Int32)) (c_p1_size : Int32) (c_p1_hour : Int32) (c_p1_sunny : Int32)  (out : Int32 × Int32 × Int32) (hF : f_FieldText_passSun c_t_at c_t_tokens_size c_t_tokens_types c_t_tokens_values c_p1_sunny  = some out) : Met l yX2_passSun (Cond.code yX2_passSun cX2_passSun 3 (some .boolean) :: wG) (rm 3) (pW E (w_FieldText_passSun E h_t h_t_tokens h_t_tokens_types h_t_tokens_values h_p1 x_t_tokens_starts x_p1_book x_p1_kinds x_p1_forms x_p1_deeps c_t_at c_t_tokens_size c_t_tokens_length c_t_tokens_types c_t_tokens_values c_p1_size c_p1_hour c_p1_sunny) sz [.ref h_t, .ref h_p1]) (qW (some (.int out.1)) E (w_FieldText_passSun E h_t h_t_tokens h_t_tokens_types h_t_tokens_values h_p1 x_t_tokens_starts x_p1_book x_p1_kinds x_p1_forms x_p1_deeps out.2.1 c_t_tokens_size c_t_tokens_length c_t_tokens_types c_t_tokens_values c_p1_size c_p1_hour out.2.2) (va_A (w_FieldText_passSun E h_t h_t_tokens h_t_tokens_types h_t_tokens_values h_p1 x_t_tokens_starts x_p1_book x_p1_kinds x_p1_forms x_p1_deeps c_t_at c_t_tokens_size c_t_tokens_length c_t_tokens_types c_t_tokens_values c_p1_size c_p1_hour c_p1_sunny) sz)) 0 0 (va_A (w_FieldText_passSun E h_t h_t_tokens h_t_tokens_types h_t_tokens_values h_p1 x_t_tokens_starts x_p1_book x_p1_kinds x_p1_forms x_p1_deeps c_t_at c_t_tokens_size c_t_tokens_length c_t_tokens_types c_t_tokens_values c_p1_size c_p1_hour c_p1_sunny) sz) := by
  refine met_W (by decide) (Nat.le_of_ble_eq_true rfl) ?_
  intro p e s m args below meth c A ls C hP hD hS hA hK hT hl
  obtain ⟨hx, hb, hr, hml, hown, hw, hlocks⟩ := id C
  have hl : lv_has ls 3 [(0, .ref h_t), (1, .ref h_p1)] := hl
  rw [f_FieldText_passSun] at hF
  refine lv_aload_n hx hb dX2_passSun_0 rfl (lv_at hl 0 rfl) ?_
  refine lv_sipush (v := (4095 : Int32)) hx hb dX2_passSun_1 (by decide) ?_
  obtain ⟨r1, er1, hF⟩ := kb hF
  refine kWV (rest := []) (Wr := [(h_p1, .inr (3, [.ref x_p1_book, .ref x_p1_kinds, .ref x_p1_forms, .ref x_p1_deeps, .int c_p1_size, .int c_p1_hour, .int c_p1_sunny]))]) (Wn := (w_FieldText_passSun E h_t h_t_tokens h_t_tokens_types h_t_tokens_values h_p1 x_t_tokens_starts x_p1_book x_p1_kinds x_p1_forms x_p1_deeps r1.2 c_t_tokens_size c_t_tokens_length c_t_tokens_types c_t_tokens_values c_p1_size c_p1_hour c_p1_sunny)) C (k_FieldText_passNumber l E h_t h_t_tokens h_t_tokens_types h_t_tokens_values x_t_tokens_starts s.heap.size c_t_at c_t_tokens_size c_t_tokens_length c_t_tokens_types c_t_tokens_values (4095 : Int32) r1 er1) fn_FieldText_passNumber mw_729 ⟨Nat.le_of_ble_eq_true rfl, Nat.le_of_ble_eq_true rfl⟩ hK hT hS hA (va_recv hK hP (ci := 2) (q0 := 0) rfl rfl) hP hD [0, 1, 2, 3] rfl (by decide) [4] rfl (by decide) (by decide) [1, 2, 3, 4, 0] rfl (by decide) rfl rfl hl (Nat.le_of_ble_eq_true rfl) dX2_passSun_4 (fun H locs hP hD hS => ?_)
  refine W.eq (g2 := F0 m 7 ls [.int r1.1]) rfl ?_
  refine lv_istore_n (lv' := [(2, .int r1.1), (0, .ref h_t), (1, .ref h_p1)]) hx hb dX2_passSun_7 rfl hl (by decide) rfl (fun ls hl => ?_)
  refine lv_iload_n hx hb dX2_passSun_8 rfl (lv_at hl 0 rfl) ?_
  refine lv_if_ge (tgt := 14) hx hb dX2_passSun_9 (by decide) (fun q2 => ?_) (fun q2 => ?_)
  · have hF := kp hF q2
    refine lv_aload_n hx hb dX2_passSun_14 rfl (lv_at hl 2 rfl) ?_
    refine lv_iload_n hx hb dX2_passSun_15 rfl (lv_at hl 0 rfl) ?_
    refine va_putN (D := eD E) (ci := 3) (v := .int r1.1) (ty := .int) (C := RX5) (T := TX5) (N := 7) hx hb hw inX5 tyX5 tyX5_ok nmX5 hown hK hP hD hS 4 rfl rfl 6 (by decide) ((sF_8 hT).use rfl) (fun _ h9 => h9) rfl (by decide +kernel) rfl rfl (Nat.le_of_ble_eq_true rfl) dX2_passSun_16 (fun H locs hP hD hS => ?_)
    have hP : va_P (eD E) vwCl (w_FieldText_passSun E h_t h_t_tokens h_t_tokens_types h_t_tokens_values h_p1 x_t_tokens_starts x_p1_book x_p1_kinds x_p1_forms x_p1_deeps r1.2 c_t_tokens_size c_t_tokens_length c_t_tokens_types c_t_tokens_values c_p1_size c_p1_hour r1.1) H := hP
    have hD : va_D A (w_FieldText_passSun E h_t h_t_tokens h_t_tokens_types h_t_tokens_values h_p1 x_t_tokens_starts x_p1_book x_p1_kinds x_p1_forms x_p1_deeps r1.2 c_t_tokens_size c_t_tokens_length c_t_tokens_types c_t_tokens_values c_p1_size c_p1_hour r1.1) := hD
    refine lv_iconst (v := (1 : Int32)) hx hb dX2_passSun_19 (by decide) ?_
    obtain rfl := Option.some.inj hF
    exact W.zret (ty := .boolean) hx hb hr rfl (fun t ht hW => ⟨⟨rfl, by rw [ht]; exact hP, hD⟩, hS.F ht⟩) hS.2.2 dX2_passSun_20
  · have hF := kn hF q2
    refine lv_iconst (v := (0 : Int32)) hx hb dX2_passSun_12 (by decide) ?_
    obtain rfl := Option.some.inj hF
    exact W.zret (ty := .boolean) hx hb hr rfl (fun t ht hW => ⟨⟨rfl, by rw [ht]; exact hP, hD⟩, hS.F ht⟩) hS.2.2 dX2_passSun_13
abbrev w_FieldText_passItem (E : kE) (h_t : Nat) (h_t_tokens : Nat) (h_t_tokens_types : Nat) (h_t_tokens_values : Nat) (h_p1 : Nat) (h_p1_book : Nat) (h_p1_book_forms : Nat) (h_p1_deeps : Nat) (h_p1_forms : Nat) (h_p1_kinds : Nat) (x_t_tokens_starts : Nat) (c_t_at : Int32) (c_t_tokens_size : Int32) (c_t_tokens_length : Int32) (c_t_tokens_types : (Nat → Int32)) (c_t_tokens_values : (Nat → Int32)) (c_p1_size : Int32) (c_p1_hour : Int32) (c_p1_sunny : Int32) (c_p1_book_forms : (Nat → Int32)) (c_p1_deeps : (Nat → Int32)) (c_p1_forms : (Nat → Int32)) (c_p1_kinds : (Nat → Int32)) : va_W := [(h_t, .inr (2, [.ref h_t_tokens, .int c_t_at])), (h_t_tokens, .inr (6, [.ref h_t_tokens_types, .ref x_t_tokens_starts, .ref h_t_tokens_values, .int c_t_tokens_size, .int c_t_tokens_length])), (h_t_tokens_types, .inl (eI E, 120, .inl c_t_tokens_types)), (h_t_tokens_values, .inl (eI E, 120, .inl c_t_tokens_values)), (h_p1, .inr (3, [.ref h_p1_book, .ref h_p1_kinds, .ref h_p1_forms, .ref h_p1_deeps, .int c_p1_size, .int c_p1_hour, .int c_p1_sunny])), (h_p1_book, .inr (0, [.ref h_p1_book_forms])), (h_p1_book_forms, .inl (eI E, 26, .inl c_p1_book_forms)), (h_p1_deeps, .inl (eI E, 12, .inl c_p1_deeps)), (h_p1_forms, .inl (eI E, 12, .inl c_p1_forms)), (h_p1_kinds, .inl (eI E, 12, .inl c_p1_kinds))]
set_option maxHeartbeats 4000000 in
set_option maxRecDepth 100000 in
theorem k_FieldText_passItem (l : Launch) (E : kE) (h_t : Nat) (h_t_tokens : Nat) (h_t_tokens_types : Nat) (h_t_tokens_values : Nat) (h_p1 : Nat) (h_p1_book : Nat) (h_p1_book_forms : Nat) (h_p1_deeps : Nat) (h_p1_forms : Nat) (h_p1_kinds : Nat) (x_t_tokens_starts : Nat) (sz : Nat) (c_t_at : Int32) (c_t_tokens_size : Int32) (c_t_tokens_length : Int32) (c_t_tokens_types : (Nat → Int32)) (c_t_tokens_values : (Nat → Int32)) (c_p1_size : Int32) (c_p1_hour : Int32) (c_p1_sunny : Int32) (c_p1_book_forms : (Nat → Int32)) (c_p1_deeps : (Nat → Int32)) (c_p1_forms : (Nat → Int32)) (c_p1_kinds : (Nat → Int32))  (out : Int32 × Int32 × Int32 × Int32 × (Nat → Int32) × (Nat → Int32) × (Nat → Int32) × (Nat → Int32)) (hF : f_FieldText_passItem c_t_at c_t_tokens_size c_t_tokens_types c_t_tokens_values c_p1_size c_p1_sunny c_p1_book_forms c_p1_deeps c_p1_forms c_p1_kinds  = some out) : Met l yX2_passItem (Cond.code yX2_passItem cX2_passItem 3 (some .boolean) :: wG) (rm 5) (pW E (w_FieldText_passItem E h_t h_t_tokens h_t_tokens_types h_t_tokens_values h_p1 h_p1_book h_p1_book_forms h_p1_deeps h_p1_forms h_p1_kinds x_t_tokens_starts c_t_at c_t_tokens_size c_t_tokens_length c_t_tokens_types c_t_tokens_values c_p1_size c_p1_hour c_p1_sunny c_p1_book_forms c_p1_deeps c_p1_forms c_p1_kinds) sz [.ref h_t, .ref h_p1]) (qW (some (.int out.1)) E (w_FieldText_passItem E h_t h_t_tokens h_t_tokens_types h_t_tokens_values h_p1 h_p1_book h_p1_book_forms h_p1_deeps h_p1_forms h_p1_kinds x_t_tokens_starts out.2.1 c_t_tokens_size c_t_tokens_length c_t_tokens_types c_t_tokens_values out.2.2.1 c_p1_hour out.2.2.2.1 out.2.2.2.2.1 out.2.2.2.2.2.1 out.2.2.2.2.2.2.1 out.2.2.2.2.2.2.2) (va_A (w_FieldText_passItem E h_t h_t_tokens h_t_tokens_types h_t_tokens_values h_p1 h_p1_book h_p1_book_forms h_p1_deeps h_p1_forms h_p1_kinds x_t_tokens_starts c_t_at c_t_tokens_size c_t_tokens_length c_t_tokens_types c_t_tokens_values c_p1_size c_p1_hour c_p1_sunny c_p1_book_forms c_p1_deeps c_p1_forms c_p1_kinds) sz)) 0 0 (va_A (w_FieldText_passItem E h_t h_t_tokens h_t_tokens_types h_t_tokens_values h_p1 h_p1_book h_p1_book_forms h_p1_deeps h_p1_forms h_p1_kinds x_t_tokens_starts c_t_at c_t_tokens_size c_t_tokens_length c_t_tokens_types c_t_tokens_values c_p1_size c_p1_hour c_p1_sunny c_p1_book_forms c_p1_deeps c_p1_forms c_p1_kinds) sz) := by
  refine met_W (by decide) (Nat.le_of_ble_eq_true rfl) ?_
  intro p e s m args below meth c A ls C hP hD hS hA hK hT hl
  obtain ⟨hx, hb, hr, hml, hown, hw, hlocks⟩ := id C
  have hl : lv_has ls 3 [(0, .ref h_t), (1, .ref h_p1)] := hl
  rw [f_FieldText_passItem] at hF
  refine lv_aload_n hx hb dX2_passItem_0 rfl (lv_at hl 0 rfl) ?_
  refine lv_bipush (v := (6 : Int32)) hx hb dX2_passItem_1 (by decide) ?_
  obtain ⟨r1, er1, hF⟩ := kb hF
  refine kWV (rest := []) (Wr := [(h_p1, .inr (3, [.ref h_p1_book, .ref h_p1_kinds, .ref h_p1_forms, .ref h_p1_deeps, .int c_p1_size, .int c_p1_hour, .int c_p1_sunny])), (h_p1_book, .inr (0, [.ref h_p1_book_forms])), (h_p1_book_forms, .inl (eI E, 26, .inl c_p1_book_forms)), (h_p1_deeps, .inl (eI E, 12, .inl c_p1_deeps)), (h_p1_forms, .inl (eI E, 12, .inl c_p1_forms)), (h_p1_kinds, .inl (eI E, 12, .inl c_p1_kinds))]) (Wn := (w_FieldText_passItem E h_t h_t_tokens h_t_tokens_types h_t_tokens_values h_p1 h_p1_book h_p1_book_forms h_p1_deeps h_p1_forms h_p1_kinds x_t_tokens_starts r1.2 c_t_tokens_size c_t_tokens_length c_t_tokens_types c_t_tokens_values c_p1_size c_p1_hour c_p1_sunny c_p1_book_forms c_p1_deeps c_p1_forms c_p1_kinds)) C (k_FieldText_passWord l E h_t h_t_tokens h_t_tokens_types h_t_tokens_values x_t_tokens_starts s.heap.size c_t_at c_t_tokens_size c_t_tokens_length c_t_tokens_types c_t_tokens_values (6 : Int32) r1 er1) fn_FieldText_passWord mw_717 ⟨Nat.le_of_ble_eq_true rfl, Nat.le_of_ble_eq_true rfl⟩ hK hT hS hA (va_recv hK hP (ci := 2) (q0 := 0) rfl rfl) hP hD [0, 1, 2, 3] rfl (by decide) [4, 5, 6, 7, 8, 9] rfl (by decide) (by decide) [6, 7, 8, 9, 0, 1, 2, 3, 4, 5] rfl (by decide) rfl rfl hl (Nat.le_of_ble_eq_true rfl) dX2_passItem_3 (fun H locs hP hD hS => ?_)
  refine W.eq (g2 := F0 m 6 ls [.int r1.1]) rfl ?_
  refine lv_if_eq (tgt := 15) hx hb dX2_passItem_6 (by decide) (fun q2 => ?_) (fun q2 => ?_)
  · have hF := kp hF q2
    refine lv_aload_n hx hb dX2_passItem_15 rfl (lv_at hl 0 rfl) ?_
    refine lv_bipush (v := (7 : Int32)) hx hb dX2_passItem_16 (by decide) ?_
    obtain ⟨r3, er3, hF⟩ := kb hF
    refine kWV (rest := []) (Wr := [(h_p1, .inr (3, [.ref h_p1_book, .ref h_p1_kinds, .ref h_p1_forms, .ref h_p1_deeps, .int c_p1_size, .int c_p1_hour, .int c_p1_sunny])), (h_p1_book, .inr (0, [.ref h_p1_book_forms])), (h_p1_book_forms, .inl (eI E, 26, .inl c_p1_book_forms)), (h_p1_deeps, .inl (eI E, 12, .inl c_p1_deeps)), (h_p1_forms, .inl (eI E, 12, .inl c_p1_forms)), (h_p1_kinds, .inl (eI E, 12, .inl c_p1_kinds))]) (Wn := (w_FieldText_passItem E h_t h_t_tokens h_t_tokens_types h_t_tokens_values h_p1 h_p1_book h_p1_book_forms h_p1_deeps h_p1_forms h_p1_kinds x_t_tokens_starts r3.2 c_t_tokens_size c_t_tokens_length c_t_tokens_types c_t_tokens_values c_p1_size c_p1_hour c_p1_sunny c_p1_book_forms c_p1_deeps c_p1_forms c_p1_kinds)) C (k_FieldText_passWord l E h_t h_t_tokens h_t_tokens_types h_t_tokens_values x_t_tokens_starts H.size r1.2 c_t_tokens_size c_t_tokens_length c_t_tokens_types c_t_tokens_values (7 : Int32) r3 er3) fn_FieldText_passWord mw_717 ⟨Nat.le_of_ble_eq_true rfl, Nat.le_of_ble_eq_true rfl⟩ hK hT hS hA (va_recv hK hP (ci := 2) (q0 := 0) rfl rfl) hP hD [0, 1, 2, 3] rfl (by decide) [4, 5, 6, 7, 8, 9] rfl (by decide) (by decide) [6, 7, 8, 9, 0, 1, 2, 3, 4, 5] rfl (by decide) rfl rfl hl (Nat.le_of_ble_eq_true rfl) dX2_passItem_18 (fun H locs hP hD hS => ?_)
    refine W.eq (g2 := F0 m 21 ls [.int r3.1]) rfl ?_
    refine lv_if_eq (tgt := 30) hx hb dX2_passItem_21 (by decide) (fun q4 => ?_) (fun q4 => ?_)
    · have hF := kp hF q4
      refine lv_aload_n hx hb dX2_passItem_30 rfl (lv_at hl 0 rfl) ?_
      refine va_get (D := eD E) (ci := 2) (C := RX2) (T := TX2) (N := 2) (v := .ref h_t_tokens) hx hb hw inX2 hown hK hP 0 rfl rfl 0 (by decide) (hw _ mw_157) (fun _ h9 => h9) rfl dX2_passItem_31 ?_
      refine lv_aload_n hx hb dX2_passItem_34 rfl (lv_at hl 0 rfl) ?_
      refine va_get (D := eD E) (ci := 2) (C := RX2) (T := TX2) (N := 2) (v := .int r3.2) hx hb hw inX2 hown hK hP 0 rfl rfl 1 (by decide) (hw _ mw_158) (fun _ h9 => h9) rfl dX2_passItem_35 ?_
      refine lv_iconst (v := (1 : Int32)) hx hb dX2_passItem_38 (by decide) ?_
      obtain ⟨r5, er5, hF⟩ := kb hF
      refine kRV (rest := []) C (k_Tokens_valueAt l E h_t_tokens h_t_tokens_types h_t_tokens_values x_t_tokens_starts c_t_tokens_size c_t_tokens_length c_t_tokens_types c_t_tokens_values r3.2 (1 : Int32) r5 er5) fn_Tokens_valueAt mw_721 ⟨Nat.le_of_ble_eq_true rfl, Nat.le_of_ble_eq_true rfl⟩ hK hT hS (va_recv hK hP (ci := 6) (q0 := 1) rfl rfl) hP [1, 2, 3] rfl rfl rfl hl (Nat.le_of_ble_eq_true rfl) dX2_passItem_39 ?_
      refine lv_istore_n (lv' := [(2, .int r5), (0, .ref h_t), (1, .ref h_p1)]) hx hb dX2_passItem_42 rfl hl (by decide) rfl (fun ls hl => ?_)
      refine lv_iload_n hx hb dX2_passItem_43 rfl (lv_at hl 0 rfl) ?_
      obtain ⟨r6, er6, hF⟩ := kb hF
      refine kRS (rest := []) C (k_Kinds_isKind l E r5 r6 er6) fn_Kinds_isKind mw_738 ⟨Nat.le_of_ble_eq_true rfl, Nat.le_of_ble_eq_true rfl⟩ hK hT hS hP [] rfl rfl rfl hl (Nat.le_of_ble_eq_true rfl) dX2_passItem_44 ?_
      refine lv_if_eq (tgt := 57) hx hb dX2_passItem_47 (by decide) (fun q7 => ?_) (fun q7 => ?_)
      · have hF := kp hF q7
        refine lv_iconst (v := (0 : Int32)) hx hb dX2_passItem_57 (by decide) ?_
        obtain rfl := Option.some.inj hF
        exact W.zret (ty := .boolean) hx hb hr rfl (fun t ht hW => ⟨⟨rfl, by rw [ht]; exact hP, hD⟩, hS.F ht⟩) hS.2.2 dX2_passItem_58
      · have hF := kn hF q7
        refine lv_aload_n hx hb dX2_passItem_50 rfl (lv_at hl 2 rfl) ?_
        obtain ⟨r8, er8, hF⟩ := kb hF
        refine kRV (rest := []) C (k_Plain_isFull l E h_p1 h_p1_book h_p1_kinds h_p1_forms h_p1_deeps c_p1_size c_p1_hour c_p1_sunny r8 er8) fn_Plain_isFull mw_739 ⟨Nat.le_of_ble_eq_true rfl, Nat.le_of_ble_eq_true rfl⟩ hK hT hS (va_recv hK hP (ci := 3) (q0 := 4) rfl rfl) hP [4] rfl rfl rfl hl (Nat.le_of_ble_eq_true rfl) dX2_passItem_51 ?_
        refine lv_if_eq (tgt := 59) hx hb dX2_passItem_54 (by decide) (fun q9 => ?_) (fun q9 => ?_)
        · have hF := kp hF q9
          refine lv_aload_n hx hb dX2_passItem_59 rfl (lv_at hl 1 rfl) ?_
          refine lv_dup hx hb dX2_passItem_60 rfl ?_
          refine va_get (D := eD E) (ci := 2) (C := RX2) (T := TX2) (N := 2) (v := .int r3.2) hx hb hw inX2 hown hK hP 0 rfl rfl 1 (by decide) (hw _ mw_158) (fun _ h9 => h9) rfl dX2_passItem_61 ?_
          refine lv_iconst (v := (1 : Int32)) hx hb dX2_passItem_64 (by decide) ?_
          refine lv_iadd hx hb dX2_passItem_65 ?_
          refine va_put (D := eD E) (ci := 2) (v := .int (r3.2 + (1 : Int32))) (ty := .int) (C := RX2) (T := TX2) (N := 2) hx hb hw inX2 tyX2 tyX2_ok nmX2 hown hK hP hD hS 0 rfl rfl 1 (by decide) (hw _ mw_158) (fun _ h9 => h9) rfl (by decide +kernel) rfl rfl (Nat.le_of_ble_eq_true rfl) dX2_passItem_66 (fun H locs hP hD hS => ?_)
          have hP : va_P (eD E) vwCl (w_FieldText_passItem E h_t h_t_tokens h_t_tokens_types h_t_tokens_values h_p1 h_p1_book h_p1_book_forms h_p1_deeps h_p1_forms h_p1_kinds x_t_tokens_starts (r3.2 + (1 : Int32)) c_t_tokens_size c_t_tokens_length c_t_tokens_types c_t_tokens_values c_p1_size c_p1_hour c_p1_sunny c_p1_book_forms c_p1_deeps c_p1_forms c_p1_kinds) H := hP
          have hD : va_D A (w_FieldText_passItem E h_t h_t_tokens h_t_tokens_types h_t_tokens_values h_p1 h_p1_book h_p1_book_forms h_p1_deeps h_p1_forms h_p1_kinds x_t_tokens_starts (r3.2 + (1 : Int32)) c_t_tokens_size c_t_tokens_length c_t_tokens_types c_t_tokens_values c_p1_size c_p1_hour c_p1_sunny c_p1_book_forms c_p1_deeps c_p1_forms c_p1_kinds) := hD
          refine lv_aload_n hx hb dX2_passItem_69 rfl (lv_at hl 1 rfl) ?_
          refine lv_aload_n hx hb dX2_passItem_70 rfl (lv_at hl 2 rfl) ?_
          refine lv_iload_n hx hb dX2_passItem_71 rfl (lv_at hl 0 rfl) ?_
          obtain ⟨r10, er10, hF⟩ := kb hF
          refine kWV (rest := []) (Wr := []) (Wn := (w_FieldText_passItem E h_t h_t_tokens h_t_tokens_types h_t_tokens_values h_p1 h_p1_book h_p1_book_forms h_p1_deeps h_p1_forms h_p1_kinds x_t_tokens_starts r10.2.1 c_t_tokens_size c_t_tokens_length c_t_tokens_types c_t_tokens_values r10.2.2.1 c_p1_hour c_p1_sunny c_p1_book_forms r10.2.2.2.1 r10.2.2.2.2.1 r10.2.2.2.2.2)) C (k_FieldText_passLetter l E h_t h_t_tokens h_t_tokens_types h_t_tokens_values h_p1 h_p1_book h_p1_book_forms h_p1_deeps h_p1_forms h_p1_kinds x_t_tokens_starts H.size (r3.2 + (1 : Int32)) c_t_tokens_size c_t_tokens_length c_t_tokens_types c_t_tokens_values c_p1_size c_p1_hour c_p1_sunny c_p1_book_forms c_p1_deeps c_p1_forms c_p1_kinds r5 r10 er10) fn_FieldText_passLetter mw_740 ⟨Nat.le_of_ble_eq_true rfl, Nat.le_of_ble_eq_true rfl⟩ hK hT hS hA (va_recv hK hP (ci := 2) (q0 := 0) rfl rfl) hP hD [0, 1, 2, 3, 4, 5, 6, 7, 8, 9] rfl (by decide) [] rfl (by decide) (by decide) [0, 1, 2, 3, 4, 5, 6, 7, 8, 9] rfl (by decide) rfl rfl hl (Nat.le_of_ble_eq_true rfl) dX2_passItem_72 (fun H locs hP hD hS => ?_)
          refine W.eq (g2 := F0 m 75 ls [.int r10.1]) rfl ?_
          obtain ⟨b11, eb11, hF⟩ := kb hF
          obtain ⟨eeb11, hnb11⟩ := bl_some eb11
          subst eeb11
          obtain rfl := Option.some.inj hF
          exact W.zret (ty := .boolean) hx hb hr hnb11 (fun t ht hW => ⟨⟨rfl, by rw [ht]; exact hP, hD⟩, hS.F ht⟩) hS.2.2 dX2_passItem_75
        · have hF := kn hF q9
          refine lv_iconst (v := (0 : Int32)) hx hb dX2_passItem_57 (by decide) ?_
          obtain rfl := Option.some.inj hF
          exact W.zret (ty := .boolean) hx hb hr rfl (fun t ht hW => ⟨⟨rfl, by rw [ht]; exact hP, hD⟩, hS.F ht⟩) hS.2.2 dX2_passItem_58
    · have hF := kn hF q4
      refine lv_aload_n hx hb dX2_passItem_24 rfl (lv_at hl 0 rfl) ?_
      refine lv_aload_n hx hb dX2_passItem_25 rfl (lv_at hl 1 rfl) ?_
      obtain ⟨r12, er12, hF⟩ := kb hF
      refine kWV (rest := []) (Wr := [(h_p1_book, .inr (0, [.ref h_p1_book_forms])), (h_p1_book_forms, .inl (eI E, 26, .inl c_p1_book_forms)), (h_p1_deeps, .inl (eI E, 12, .inl c_p1_deeps)), (h_p1_forms, .inl (eI E, 12, .inl c_p1_forms)), (h_p1_kinds, .inl (eI E, 12, .inl c_p1_kinds))]) (Wn := (w_FieldText_passItem E h_t h_t_tokens h_t_tokens_types h_t_tokens_values h_p1 h_p1_book h_p1_book_forms h_p1_deeps h_p1_forms h_p1_kinds x_t_tokens_starts r12.2.1 c_t_tokens_size c_t_tokens_length c_t_tokens_types c_t_tokens_values c_p1_size c_p1_hour r12.2.2 c_p1_book_forms c_p1_deeps c_p1_forms c_p1_kinds)) C (k_FieldText_passSun l E h_t h_t_tokens h_t_tokens_types h_t_tokens_values h_p1 x_t_tokens_starts h_p1_book h_p1_kinds h_p1_forms h_p1_deeps H.size r3.2 c_t_tokens_size c_t_tokens_length c_t_tokens_types c_t_tokens_values c_p1_size c_p1_hour c_p1_sunny r12 er12) fn_FieldText_passSun mw_734 ⟨Nat.le_of_ble_eq_true rfl, Nat.le_of_ble_eq_true rfl⟩ hK hT hS hA (va_recv hK hP (ci := 2) (q0 := 0) rfl rfl) hP hD [0, 1, 2, 3, 4] rfl (by decide) [5, 6, 7, 8, 9] rfl (by decide) (by decide) [5, 6, 7, 8, 9, 0, 1, 2, 3, 4] rfl (by decide) rfl rfl hl (Nat.le_of_ble_eq_true rfl) dX2_passItem_26 (fun H locs hP hD hS => ?_)
      refine W.eq (g2 := F0 m 29 ls [.int r12.1]) rfl ?_
      obtain ⟨b13, eb13, hF⟩ := kb hF
      obtain ⟨eeb13, hnb13⟩ := bl_some eb13
      subst eeb13
      obtain rfl := Option.some.inj hF
      exact W.zret (ty := .boolean) hx hb hr hnb13 (fun t ht hW => ⟨⟨rfl, by rw [ht]; exact hP, hD⟩, hS.F ht⟩) hS.2.2 dX2_passItem_29
  · have hF := kn hF q2
    refine lv_aload_n hx hb dX2_passItem_9 rfl (lv_at hl 0 rfl) ?_
    refine lv_aload_n hx hb dX2_passItem_10 rfl (lv_at hl 1 rfl) ?_
    obtain ⟨r14, er14, hF⟩ := kb hF
    refine kWV (rest := []) (Wr := [(h_p1_deeps, .inl (eI E, 12, .inl c_p1_deeps)), (h_p1_forms, .inl (eI E, 12, .inl c_p1_forms)), (h_p1_kinds, .inl (eI E, 12, .inl c_p1_kinds))]) (Wn := (w_FieldText_passItem E h_t h_t_tokens h_t_tokens_types h_t_tokens_values h_p1 h_p1_book h_p1_book_forms h_p1_deeps h_p1_forms h_p1_kinds x_t_tokens_starts r14.2.1 c_t_tokens_size c_t_tokens_length c_t_tokens_types c_t_tokens_values c_p1_size c_p1_hour c_p1_sunny r14.2.2 c_p1_deeps c_p1_forms c_p1_kinds)) C (k_FieldText_passSign l E h_t h_t_tokens h_t_tokens_types h_t_tokens_values h_p1 h_p1_book h_p1_book_forms x_t_tokens_starts h_p1_kinds h_p1_forms h_p1_deeps H.size r1.2 c_t_tokens_size c_t_tokens_length c_t_tokens_types c_t_tokens_values c_p1_size c_p1_hour c_p1_sunny c_p1_book_forms r14 er14) fn_FieldText_passSign mw_725 ⟨Nat.le_of_ble_eq_true rfl, Nat.le_of_ble_eq_true rfl⟩ hK hT hS hA (va_recv hK hP (ci := 2) (q0 := 0) rfl rfl) hP hD [0, 1, 2, 3, 4, 5, 6] rfl (by decide) [7, 8, 9] rfl (by decide) (by decide) [3, 4, 5, 6, 7, 8, 9, 0, 1, 2] rfl (by decide) rfl rfl hl (Nat.le_of_ble_eq_true rfl) dX2_passItem_11 (fun H locs hP hD hS => ?_)
    refine W.eq (g2 := F0 m 14 ls [.int r14.1]) rfl ?_
    obtain ⟨b15, eb15, hF⟩ := kb hF
    obtain ⟨eeb15, hnb15⟩ := bl_some eb15
    subst eeb15
    obtain rfl := Option.some.inj hF
    exact W.zret (ty := .boolean) hx hb hr hnb15 (fun t ht hW => ⟨⟨rfl, by rw [ht]; exact hP, hD⟩, hS.F ht⟩) hS.2.2 dX2_passItem_14
abbrev w_FieldText_tell (E : kE) (h_t : Nat) (h_t_tokens : Nat) (h_t_tokens_starts : Nat) (h_t_tokens_types : Nat) (h_t_tokens_values : Nat) (h_p1 : Nat) (h_p1_bytes : Nat) (h_p2 : Nat) (h_p2_book : Nat) (h_p2_book_forms : Nat) (h_p2_deeps : Nat) (h_p2_forms : Nat) (h_p2_kinds : Nat)  (c_t_at : Int32) (c_t_tokens_size : Int32) (c_t_tokens_length : Int32) (c_t_tokens_starts : (Nat → Int32)) (c_t_tokens_types : (Nat → Int32)) (c_t_tokens_values : (Nat → Int32)) (c_p1_length : Int32) (c_p1_bytes : (Nat → Int32)) (c_p2_size : Int32) (c_p2_hour : Int32) (c_p2_sunny : Int32) (c_p2_book_forms : (Nat → Int32)) (c_p2_deeps : (Nat → Int32)) (c_p2_forms : (Nat → Int32)) (c_p2_kinds : (Nat → Int32)) : va_W := [(h_t, .inr (2, [.ref h_t_tokens, .int c_t_at])), (h_t_tokens, .inr (6, [.ref h_t_tokens_types, .ref h_t_tokens_starts, .ref h_t_tokens_values, .int c_t_tokens_size, .int c_t_tokens_length])), (h_t_tokens_starts, .inl (eI E, 120, .inl c_t_tokens_starts)), (h_t_tokens_types, .inl (eI E, 120, .inl c_t_tokens_types)), (h_t_tokens_values, .inl (eI E, 120, .inl c_t_tokens_values)), (h_p1, .inr (5, [.ref h_p1_bytes, .int c_p1_length])), (h_p1_bytes, .inl (eB E, 120, .inl c_p1_bytes)), (h_p2, .inr (3, [.ref h_p2_book, .ref h_p2_kinds, .ref h_p2_forms, .ref h_p2_deeps, .int c_p2_size, .int c_p2_hour, .int c_p2_sunny])), (h_p2_book, .inr (0, [.ref h_p2_book_forms])), (h_p2_book_forms, .inl (eI E, 26, .inl c_p2_book_forms)), (h_p2_deeps, .inl (eI E, 12, .inl c_p2_deeps)), (h_p2_forms, .inl (eI E, 12, .inl c_p2_forms)), (h_p2_kinds, .inl (eI E, 12, .inl c_p2_kinds))]
set_option maxHeartbeats 4000000 in
set_option maxRecDepth 100000 in
theorem wk_FieldText_tell_b82 {p : Program} {l : Launch} {e : Env} {s : State} {m : MethodId} {args : Array Value} {below : List Frame} {meth : Method} {c : Code} {A : Nat → Prop} (E : kE) (h_t : Nat) (h_t_tokens : Nat) (h_t_tokens_starts : Nat) (h_t_tokens_types : Nat) (h_t_tokens_values : Nat) (h_p1 : Nat) (h_p1_bytes : Nat) (h_p2 : Nat) (h_p2_book : Nat) (h_p2_book_forms : Nat) (h_p2_deeps : Nat) (h_p2_forms : Nat) (h_p2_kinds : Nat)  (c_p1_length : Int32) (c_p1_bytes : (Nat → Int32)) (c_p2_hour : Int32)  {out : Int32 × Int32 × Int32 × Int32 × (Nat → Int32) × (Nat → Int32) × (Nat → Int32) × Int32 × Int32 × (Nat → Int32) × (Nat → Int32) × (Nat → Int32) × (Nat → Int32)} (C : kC RX2 cX2_tell 4 (some .int) p s m args meth c) (hA : ∀ q : Nat, s.heap.size ≤ q → A q) (hK : va_K (eD E) vwCl (eT E) s) (hT : sT E A s s.heap)  :
    ∀ (c_t_at : Int32) (c_t_tokens_size : Int32) (c_t_tokens_length : Int32) (c_t_tokens_starts : (Nat → Int32)) (c_t_tokens_types : (Nat → Int32)) (c_t_tokens_values : (Nat → Int32)) (c_p2_size : Int32) (c_p2_sunny : Int32) (c_p2_book_forms : (Nat → Int32)) (c_p2_deeps : (Nat → Int32)) (c_p2_forms : (Nat → Int32)) (c_p2_kinds : (Nat → Int32)), f_FieldText_tell_b82  c_p1_length c_p1_bytes c_t_at c_t_tokens_size c_t_tokens_length c_t_tokens_starts c_t_tokens_types c_t_tokens_values c_p2_size c_p2_sunny c_p2_book_forms c_p2_deeps c_p2_forms c_p2_kinds = some out → ∀ (H : Heap) (locs : List Loc), va_P (eD E) vwCl (w_FieldText_tell E h_t h_t_tokens h_t_tokens_starts h_t_tokens_types h_t_tokens_values h_p1 h_p1_bytes h_p2 h_p2_book h_p2_book_forms h_p2_deeps h_p2_forms h_p2_kinds c_t_at c_t_tokens_size c_t_tokens_length c_t_tokens_starts c_t_tokens_types c_t_tokens_values c_p1_length c_p1_bytes c_p2_size c_p2_hour c_p2_sunny c_p2_book_forms c_p2_deeps c_p2_forms c_p2_kinds) H → va_D A (w_FieldText_tell E h_t h_t_tokens h_t_tokens_starts h_t_tokens_types h_t_tokens_values h_p1 h_p1_bytes h_p2 h_p2_book h_p2_book_forms h_p2_deeps h_p2_forms h_p2_kinds c_t_at c_t_tokens_size c_t_tokens_length c_t_tokens_starts c_t_tokens_types c_t_tokens_values c_p1_length c_p1_bytes c_p2_size c_p2_hour c_p2_sunny c_p2_book_forms c_p2_deeps c_p2_forms c_p2_kinds) → va_S A s.heap H locs → ∀ (ls : Array Slot), lv_has ls 4 [(0, .ref h_t)] → W p l e (rm 9) s m args below meth c H locs 0 0 (MQ below (qW (some (.int out.1)) E (w_FieldText_tell E h_t h_t_tokens h_t_tokens_starts h_t_tokens_types h_t_tokens_values h_p1 h_p1_bytes h_p2 h_p2_book h_p2_book_forms h_p2_deeps h_p2_forms h_p2_kinds out.2.1 out.2.2.1 out.2.2.2.1 out.2.2.2.2.1 out.2.2.2.2.2.1 out.2.2.2.2.2.2.1 c_p1_length c_p1_bytes out.2.2.2.2.2.2.2.1 c_p2_hour out.2.2.2.2.2.2.2.2.1 out.2.2.2.2.2.2.2.2.2.1 out.2.2.2.2.2.2.2.2.2.2.1 out.2.2.2.2.2.2.2.2.2.2.2.1 out.2.2.2.2.2.2.2.2.2.2.2.2) A) args s 0 0 A) (F0 m 82 ls []) := by
  obtain ⟨hx, hb, hr, hml, hown, hw, hlocks⟩ := id C
  intro c_t_at c_t_tokens_size c_t_tokens_length c_t_tokens_starts c_t_tokens_types c_t_tokens_values c_p2_size c_p2_sunny c_p2_book_forms c_p2_deeps c_p2_forms c_p2_kinds hF H locs hP hD hS ls hl
  rw [f_FieldText_tell_b82] at hF
  refine lv_iconst (v := (-1 : Int32)) hx hb dX2_tell_82 (by decide) ?_
  refine lv_aload_n hx hb dX2_tell_83 rfl (lv_at hl 0 rfl) ?_
  refine va_get (D := eD E) (ci := 2) (C := RX2) (T := TX2) (N := 2) (v := .ref h_t_tokens) hx hb hw inX2 hown hK hP 0 rfl rfl 0 (by decide) (hw _ mw_157) (fun _ h9 => h9) rfl dX2_tell_84 ?_
  refine lv_aload_n hx hb dX2_tell_87 rfl (lv_at hl 0 rfl) ?_
  refine va_get (D := eD E) (ci := 2) (C := RX2) (T := TX2) (N := 2) (v := .int c_t_at) hx hb hw inX2 hown hK hP 0 rfl rfl 1 (by decide) (hw _ mw_158) (fun _ h9 => h9) rfl dX2_tell_88 ?_
  obtain ⟨r1, er1, hF⟩ := kb hF
  refine kRV (rest := [.int (-1 : Int32)]) C (k_Tokens_placeAt l E h_t_tokens h_t_tokens_starts h_t_tokens_types h_t_tokens_values c_t_tokens_size c_t_tokens_length c_t_tokens_starts c_t_at r1 er1) fn_Tokens_placeAt mw_754 ⟨Nat.le_of_ble_eq_true rfl, Nat.le_of_ble_eq_true rfl⟩ hK hT hS (va_recv hK hP (ci := 6) (q0 := 1) rfl rfl) hP [1, 2] rfl rfl rfl hl (Nat.le_of_ble_eq_true rfl) dX2_tell_91 ?_
  refine lv_isub hx hb dX2_tell_94 ?_
  obtain rfl := Option.some.inj hF
  exact W.iret hx hb hr (fun t ht hW => ⟨⟨rfl, by rw [ht]; exact hP, hD⟩, hS.F ht⟩) hS.2.2 dX2_tell_95
set_option maxHeartbeats 4000000 in
set_option maxRecDepth 100000 in
theorem wk_FieldText_tell_b15 {p : Program} {l : Launch} {e : Env} {s : State} {m : MethodId} {args : Array Value} {below : List Frame} {meth : Method} {c : Code} {A : Nat → Prop} (E : kE) (h_t : Nat) (h_t_tokens : Nat) (h_t_tokens_starts : Nat) (h_t_tokens_types : Nat) (h_t_tokens_values : Nat) (h_p1 : Nat) (h_p1_bytes : Nat) (h_p2 : Nat) (h_p2_book : Nat) (h_p2_book_forms : Nat) (h_p2_deeps : Nat) (h_p2_forms : Nat) (h_p2_kinds : Nat)  (c_p1_length : Int32) (c_p1_bytes : (Nat → Int32)) (c_p2_hour : Int32)  {out : Int32 × Int32 × Int32 × Int32 × (Nat → Int32) × (Nat → Int32) × (Nat → Int32) × Int32 × Int32 × (Nat → Int32) × (Nat → Int32) × (Nat → Int32) × (Nat → Int32)} (C : kC RX2 cX2_tell 4 (some .int) p s m args meth c) (hA : ∀ q : Nat, s.heap.size ≤ q → A q) (hK : va_K (eD E) vwCl (eT E) s) (hT : sT E A s s.heap)  :
    ∀ (n : Nat), ∀ (c_t_at : Int32) (c_t_tokens_size : Int32) (c_t_tokens_length : Int32) (c_t_tokens_starts : (Nat → Int32)) (c_t_tokens_types : (Nat → Int32)) (c_t_tokens_values : (Nat → Int32)) (c_p2_size : Int32) (c_p2_sunny : Int32) (c_p2_book_forms : (Nat → Int32)) (c_p2_deeps : (Nat → Int32)) (c_p2_forms : (Nat → Int32)) (c_p2_kinds : (Nat → Int32)) (v3 : Int32), f_FieldText_tell_b15  c_p1_length c_p1_bytes n c_t_at c_t_tokens_size c_t_tokens_length c_t_tokens_starts c_t_tokens_types c_t_tokens_values c_p2_size c_p2_sunny c_p2_book_forms c_p2_deeps c_p2_forms c_p2_kinds v3 = some out → ∀ (H : Heap) (locs : List Loc), va_P (eD E) vwCl (w_FieldText_tell E h_t h_t_tokens h_t_tokens_starts h_t_tokens_types h_t_tokens_values h_p1 h_p1_bytes h_p2 h_p2_book h_p2_book_forms h_p2_deeps h_p2_forms h_p2_kinds c_t_at c_t_tokens_size c_t_tokens_length c_t_tokens_starts c_t_tokens_types c_t_tokens_values c_p1_length c_p1_bytes c_p2_size c_p2_hour c_p2_sunny c_p2_book_forms c_p2_deeps c_p2_forms c_p2_kinds) H → va_D A (w_FieldText_tell E h_t h_t_tokens h_t_tokens_starts h_t_tokens_types h_t_tokens_values h_p1 h_p1_bytes h_p2 h_p2_book h_p2_book_forms h_p2_deeps h_p2_forms h_p2_kinds c_t_at c_t_tokens_size c_t_tokens_length c_t_tokens_starts c_t_tokens_types c_t_tokens_values c_p1_length c_p1_bytes c_p2_size c_p2_hour c_p2_sunny c_p2_book_forms c_p2_deeps c_p2_forms c_p2_kinds) → va_S A s.heap H locs → ∀ (ls : Array Slot), lv_has ls 4 [(0, .ref h_t), (2, .ref h_p2), (3, .int v3)] → W p l e (rm 9) s m args below meth c H locs 0 0 (MQ below (qW (some (.int out.1)) E (w_FieldText_tell E h_t h_t_tokens h_t_tokens_starts h_t_tokens_types h_t_tokens_values h_p1 h_p1_bytes h_p2 h_p2_book h_p2_book_forms h_p2_deeps h_p2_forms h_p2_kinds out.2.1 out.2.2.1 out.2.2.2.1 out.2.2.2.2.1 out.2.2.2.2.2.1 out.2.2.2.2.2.2.1 c_p1_length c_p1_bytes out.2.2.2.2.2.2.2.1 c_p2_hour out.2.2.2.2.2.2.2.2.1 out.2.2.2.2.2.2.2.2.2.1 out.2.2.2.2.2.2.2.2.2.2.1 out.2.2.2.2.2.2.2.2.2.2.2.1 out.2.2.2.2.2.2.2.2.2.2.2.2) A) args s 0 0 A) (F0 m 15 ls []) := by
  obtain ⟨hx, hb, hr, hml, hown, hw, hlocks⟩ := id C
  intro n
  induction n with
  | zero =>
    intro c_t_at c_t_tokens_size c_t_tokens_length c_t_tokens_starts c_t_tokens_types c_t_tokens_values c_p2_size c_p2_sunny c_p2_book_forms c_p2_deeps c_p2_forms c_p2_kinds v3 hF
    exact absurd (show (none : Option (Int32 × Int32 × Int32 × Int32 × (Nat → Int32) × (Nat → Int32) × (Nat → Int32) × Int32 × Int32 × (Nat → Int32) × (Nat → Int32) × (Nat → Int32) × (Nat → Int32))) = some out from hF) nofun
  | succ n ih =>
    intro c_t_at c_t_tokens_size c_t_tokens_length c_t_tokens_starts c_t_tokens_types c_t_tokens_values c_p2_size c_p2_sunny c_p2_book_forms c_p2_deeps c_p2_forms c_p2_kinds v3 hF H locs hP hD hS ls hl
    rw [f_FieldText_tell_b15] at hF
    refine lv_iload_n hx hb dX2_tell_15 rfl (lv_at hl 2 rfl) ?_
    refine lv_bipush (v := (120 : Int32)) hx hb dX2_tell_16 (by decide) ?_
    refine lv_icmp_gt (tgt := 82) hx hb dX2_tell_18 (by decide) (fun q2 => ?_) (fun q2 => ?_)
    · have hF := kp hF q2
      exact wk_FieldText_tell_b82 E h_t h_t_tokens h_t_tokens_starts h_t_tokens_types h_t_tokens_values h_p1 h_p1_bytes h_p2 h_p2_book h_p2_book_forms h_p2_deeps h_p2_forms h_p2_kinds c_p1_length c_p1_bytes c_p2_hour  C hA  hK hT  c_t_at c_t_tokens_size c_t_tokens_length c_t_tokens_starts c_t_tokens_types c_t_tokens_values c_p2_size c_p2_sunny c_p2_book_forms c_p2_deeps c_p2_forms c_p2_kinds hF _ _ hP hD hS _ (lv_sub hl [0] rfl)
    · have hF := kn hF q2
      refine lv_aload_n hx hb dX2_tell_21 rfl (lv_at hl 0 rfl) ?_
      refine lv_aload_n hx hb dX2_tell_22 rfl (lv_at hl 1 rfl) ?_
      obtain ⟨r3, er3, hF⟩ := kb hF
      refine kWV (rest := []) (Wr := [(h_t_tokens_starts, .inl (eI E, 120, .inl c_t_tokens_starts)), (h_p1, .inr (5, [.ref h_p1_bytes, .int c_p1_length])), (h_p1_bytes, .inl (eB E, 120, .inl c_p1_bytes))]) (Wn := (w_FieldText_tell E h_t h_t_tokens h_t_tokens_starts h_t_tokens_types h_t_tokens_values h_p1 h_p1_bytes h_p2 h_p2_book h_p2_book_forms h_p2_deeps h_p2_forms h_p2_kinds r3.2.1 c_t_tokens_size c_t_tokens_length c_t_tokens_starts c_t_tokens_types c_t_tokens_values c_p1_length c_p1_bytes r3.2.2.1 c_p2_hour r3.2.2.2.1 r3.2.2.2.2.1 r3.2.2.2.2.2.1 r3.2.2.2.2.2.2.1 r3.2.2.2.2.2.2.2)) C (k_FieldText_passItem l E h_t h_t_tokens h_t_tokens_types h_t_tokens_values h_p2 h_p2_book h_p2_book_forms h_p2_deeps h_p2_forms h_p2_kinds h_t_tokens_starts H.size c_t_at c_t_tokens_size c_t_tokens_length c_t_tokens_types c_t_tokens_values c_p2_size c_p2_hour c_p2_sunny c_p2_book_forms c_p2_deeps c_p2_forms c_p2_kinds r3 er3) fn_FieldText_passItem mw_713 ⟨Nat.le_of_ble_eq_true rfl, Nat.le_of_ble_eq_true rfl⟩ hK hT hS hA (va_recv hK hP (ci := 2) (q0 := 0) rfl rfl) hP hD [0, 1, 3, 4, 7, 8, 9, 10, 11, 12] rfl (by decide) [2, 5, 6] rfl (by decide) (by decide) [3, 4, 0, 5, 6, 1, 2, 7, 8, 9, 10, 11, 12] rfl (by decide) rfl rfl hl (Nat.le_of_ble_eq_true rfl) dX2_tell_23 (fun H locs hP hD hS => ?_)
      refine W.eq (g2 := F0 m 26 ls [.int r3.1]) rfl ?_
      refine lv_if_ne (tgt := 32) hx hb dX2_tell_26 (by decide) (fun q4 => ?_) (fun q4 => ?_)
      · have hF := kn hF q4
        refine lv_aload_n hx hb dX2_tell_32 rfl (lv_at hl 0 rfl) ?_
        refine va_get (D := eD E) (ci := 2) (C := RX2) (T := TX2) (N := 2) (v := .ref h_t_tokens) hx hb hw inX2 hown hK hP 0 rfl rfl 0 (by decide) (hw _ mw_157) (fun _ h9 => h9) rfl dX2_tell_33 ?_
        refine lv_aload_n hx hb dX2_tell_36 rfl (lv_at hl 0 rfl) ?_
        refine va_get (D := eD E) (ci := 2) (C := RX2) (T := TX2) (N := 2) (v := .int r3.2.1) hx hb hw inX2 hown hK hP 0 rfl rfl 1 (by decide) (hw _ mw_158) (fun _ h9 => h9) rfl dX2_tell_37 ?_
        obtain ⟨r5, er5, hF⟩ := kb hF
        refine kRV (rest := []) C (k_Tokens_typeAt l E h_t_tokens h_t_tokens_types h_t_tokens_starts h_t_tokens_values c_t_tokens_size c_t_tokens_length c_t_tokens_types r3.2.1 r5 er5) fn_Tokens_typeAt mw_750 ⟨Nat.le_of_ble_eq_true rfl, Nat.le_of_ble_eq_true rfl⟩ hK hT hS (va_recv hK hP (ci := 6) (q0 := 1) rfl rfl) hP [1, 3] rfl rfl rfl hl (Nat.le_of_ble_eq_true rfl) dX2_tell_40 ?_
        refine lv_if_ne (tgt := 48) hx hb dX2_tell_43 (by decide) (fun q6 => ?_) (fun q6 => ?_)
        · have hF := kn hF q6
          refine lv_aload_n hx hb dX2_tell_48 rfl (lv_at hl 0 rfl) ?_
          refine va_get (D := eD E) (ci := 2) (C := RX2) (T := TX2) (N := 2) (v := .ref h_t_tokens) hx hb hw inX2 hown hK hP 0 rfl rfl 0 (by decide) (hw _ mw_157) (fun _ h9 => h9) rfl dX2_tell_49 ?_
          refine lv_aload_n hx hb dX2_tell_52 rfl (lv_at hl 0 rfl) ?_
          refine va_get (D := eD E) (ci := 2) (C := RX2) (T := TX2) (N := 2) (v := .int r3.2.1) hx hb hw inX2 hown hK hP 0 rfl rfl 1 (by decide) (hw _ mw_158) (fun _ h9 => h9) rfl dX2_tell_53 ?_
          obtain ⟨r7, er7, hF⟩ := kb hF
          refine kRV (rest := []) C (k_Tokens_typeAt l E h_t_tokens h_t_tokens_types h_t_tokens_starts h_t_tokens_values c_t_tokens_size c_t_tokens_length c_t_tokens_types r3.2.1 r7 er7) fn_Tokens_typeAt mw_750 ⟨Nat.le_of_ble_eq_true rfl, Nat.le_of_ble_eq_true rfl⟩ hK hT hS (va_recv hK hP (ci := 6) (q0 := 1) rfl rfl) hP [1, 3] rfl rfl rfl hl (Nat.le_of_ble_eq_true rfl) dX2_tell_56 ?_
          refine lv_iconst (v := (3 : Int32)) hx hb dX2_tell_59 (by decide) ?_
          refine lv_icmp_eq (tgt := 66) hx hb dX2_tell_60 (by decide) (fun q8 => ?_) (fun q8 => ?_)
          · have hF := kp hF q8
            refine lv_aload_n hx hb dX2_tell_66 rfl (lv_at hl 0 rfl) ?_
            refine lv_dup hx hb dX2_tell_67 rfl ?_
            refine va_get (D := eD E) (ci := 2) (C := RX2) (T := TX2) (N := 2) (v := .int r3.2.1) hx hb hw inX2 hown hK hP 0 rfl rfl 1 (by decide) (hw _ mw_158) (fun _ h9 => h9) rfl dX2_tell_68 ?_
            refine lv_iconst (v := (1 : Int32)) hx hb dX2_tell_71 (by decide) ?_
            refine lv_iadd hx hb dX2_tell_72 ?_
            refine va_put (D := eD E) (ci := 2) (v := .int (r3.2.1 + (1 : Int32))) (ty := .int) (C := RX2) (T := TX2) (N := 2) hx hb hw inX2 tyX2 tyX2_ok nmX2 hown hK hP hD hS 0 rfl rfl 1 (by decide) (hw _ mw_158) (fun _ h9 => h9) rfl (by decide +kernel) rfl rfl (Nat.le_of_ble_eq_true rfl) dX2_tell_73 (fun H locs hP hD hS => ?_)
            have hP : va_P (eD E) vwCl (w_FieldText_tell E h_t h_t_tokens h_t_tokens_starts h_t_tokens_types h_t_tokens_values h_p1 h_p1_bytes h_p2 h_p2_book h_p2_book_forms h_p2_deeps h_p2_forms h_p2_kinds (r3.2.1 + (1 : Int32)) c_t_tokens_size c_t_tokens_length c_t_tokens_starts c_t_tokens_types c_t_tokens_values c_p1_length c_p1_bytes r3.2.2.1 c_p2_hour r3.2.2.2.1 r3.2.2.2.2.1 r3.2.2.2.2.2.1 r3.2.2.2.2.2.2.1 r3.2.2.2.2.2.2.2) H := hP
            have hD : va_D A (w_FieldText_tell E h_t h_t_tokens h_t_tokens_starts h_t_tokens_types h_t_tokens_values h_p1 h_p1_bytes h_p2 h_p2_book h_p2_book_forms h_p2_deeps h_p2_forms h_p2_kinds (r3.2.1 + (1 : Int32)) c_t_tokens_size c_t_tokens_length c_t_tokens_starts c_t_tokens_types c_t_tokens_values c_p1_length c_p1_bytes r3.2.2.1 c_p2_hour r3.2.2.2.1 r3.2.2.2.2.1 r3.2.2.2.2.2.1 r3.2.2.2.2.2.2.1 r3.2.2.2.2.2.2.2) := hD
            refine lv_iinc (v := (v3 + (1))) (lv' := [(3, .int (v3 + (1))), (0, .ref h_t), (2, .ref h_p2)]) hx hb dX2_tell_76 hl (k := 2) rfl rfl (by decide) rfl (fun ls hl => ?_)
            refine lv_goto (tgt := 15) hx hb dX2_tell_79 (by decide) ?_
            exact ih (r3.2.1 + (1 : Int32)) c_t_tokens_size c_t_tokens_length c_t_tokens_starts c_t_tokens_types c_t_tokens_values r3.2.2.1 r3.2.2.2.1 r3.2.2.2.2.1 r3.2.2.2.2.2.1 r3.2.2.2.2.2.2.1 r3.2.2.2.2.2.2.2 (v3 + (1)) hF _ _ hP hD hS _ (lv_sub hl [1, 2, 0] rfl)
          · have hF := kn hF q8
            refine lv_goto (tgt := 82) hx hb dX2_tell_63 (by decide) ?_
            exact wk_FieldText_tell_b82 E h_t h_t_tokens h_t_tokens_starts h_t_tokens_types h_t_tokens_values h_p1 h_p1_bytes h_p2 h_p2_book h_p2_book_forms h_p2_deeps h_p2_forms h_p2_kinds c_p1_length c_p1_bytes c_p2_hour  C hA  hK hT  r3.2.1 c_t_tokens_size c_t_tokens_length c_t_tokens_starts c_t_tokens_types c_t_tokens_values r3.2.2.1 r3.2.2.2.1 r3.2.2.2.2.1 r3.2.2.2.2.2.1 r3.2.2.2.2.2.2.1 r3.2.2.2.2.2.2.2 hF _ _ hP hD hS _ (lv_sub hl [0] rfl)
        · have hF := kp hF q6
          refine lv_iload_n hx hb dX2_tell_46 rfl (lv_at hl 2 rfl) ?_
          obtain rfl := Option.some.inj hF
          exact W.iret hx hb hr (fun t ht hW => ⟨⟨rfl, by rw [ht]; exact hP, hD⟩, hS.F ht⟩) hS.2.2 dX2_tell_47
      · have hF := kp hF q4
        refine lv_goto (tgt := 82) hx hb dX2_tell_29 (by decide) ?_
        exact wk_FieldText_tell_b82 E h_t h_t_tokens h_t_tokens_starts h_t_tokens_types h_t_tokens_values h_p1 h_p1_bytes h_p2 h_p2_book h_p2_book_forms h_p2_deeps h_p2_forms h_p2_kinds c_p1_length c_p1_bytes c_p2_hour  C hA  hK hT  r3.2.1 c_t_tokens_size c_t_tokens_length c_t_tokens_starts c_t_tokens_types c_t_tokens_values r3.2.2.1 r3.2.2.2.1 r3.2.2.2.2.1 r3.2.2.2.2.2.1 r3.2.2.2.2.2.2.1 r3.2.2.2.2.2.2.2 hF _ _ hP hD hS _ (lv_sub hl [0] rfl)
set_option maxHeartbeats 4000000 in
set_option maxRecDepth 100000 in
theorem k_FieldText_tell (l : Launch) (E : kE) (h_t : Nat) (h_t_tokens : Nat) (h_t_tokens_starts : Nat) (h_t_tokens_types : Nat) (h_t_tokens_values : Nat) (h_p1 : Nat) (h_p1_bytes : Nat) (h_p2 : Nat) (h_p2_book : Nat) (h_p2_book_forms : Nat) (h_p2_deeps : Nat) (h_p2_forms : Nat) (h_p2_kinds : Nat)  (sz : Nat) (c_t_at : Int32) (c_t_tokens_size : Int32) (c_t_tokens_length : Int32) (c_t_tokens_starts : (Nat → Int32)) (c_t_tokens_types : (Nat → Int32)) (c_t_tokens_values : (Nat → Int32)) (c_p1_length : Int32) (c_p1_bytes : (Nat → Int32)) (c_p2_size : Int32) (c_p2_hour : Int32) (c_p2_sunny : Int32) (c_p2_book_forms : (Nat → Int32)) (c_p2_deeps : (Nat → Int32)) (c_p2_forms : (Nat → Int32)) (c_p2_kinds : (Nat → Int32))  (out : Int32 × Int32 × Int32 × Int32 × (Nat → Int32) × (Nat → Int32) × (Nat → Int32) × Int32 × Int32 × (Nat → Int32) × (Nat → Int32) × (Nat → Int32) × (Nat → Int32)) (hF : f_FieldText_tell c_t_at c_t_tokens_size c_t_tokens_length c_t_tokens_starts c_t_tokens_types c_t_tokens_values c_p1_length c_p1_bytes c_p2_size c_p2_sunny c_p2_book_forms c_p2_deeps c_p2_forms c_p2_kinds  = some out) : Met l yX2_tell (Cond.code yX2_tell cX2_tell 4 (some .int) :: wG) (rm 9) (pW E (w_FieldText_tell E h_t h_t_tokens h_t_tokens_starts h_t_tokens_types h_t_tokens_values h_p1 h_p1_bytes h_p2 h_p2_book h_p2_book_forms h_p2_deeps h_p2_forms h_p2_kinds c_t_at c_t_tokens_size c_t_tokens_length c_t_tokens_starts c_t_tokens_types c_t_tokens_values c_p1_length c_p1_bytes c_p2_size c_p2_hour c_p2_sunny c_p2_book_forms c_p2_deeps c_p2_forms c_p2_kinds) sz [.ref h_t, .ref h_p1, .ref h_p2]) (qW (some (.int out.1)) E (w_FieldText_tell E h_t h_t_tokens h_t_tokens_starts h_t_tokens_types h_t_tokens_values h_p1 h_p1_bytes h_p2 h_p2_book h_p2_book_forms h_p2_deeps h_p2_forms h_p2_kinds out.2.1 out.2.2.1 out.2.2.2.1 out.2.2.2.2.1 out.2.2.2.2.2.1 out.2.2.2.2.2.2.1 c_p1_length c_p1_bytes out.2.2.2.2.2.2.2.1 c_p2_hour out.2.2.2.2.2.2.2.2.1 out.2.2.2.2.2.2.2.2.2.1 out.2.2.2.2.2.2.2.2.2.2.1 out.2.2.2.2.2.2.2.2.2.2.2.1 out.2.2.2.2.2.2.2.2.2.2.2.2) (va_A (w_FieldText_tell E h_t h_t_tokens h_t_tokens_starts h_t_tokens_types h_t_tokens_values h_p1 h_p1_bytes h_p2 h_p2_book h_p2_book_forms h_p2_deeps h_p2_forms h_p2_kinds c_t_at c_t_tokens_size c_t_tokens_length c_t_tokens_starts c_t_tokens_types c_t_tokens_values c_p1_length c_p1_bytes c_p2_size c_p2_hour c_p2_sunny c_p2_book_forms c_p2_deeps c_p2_forms c_p2_kinds) sz)) 0 0 (va_A (w_FieldText_tell E h_t h_t_tokens h_t_tokens_starts h_t_tokens_types h_t_tokens_values h_p1 h_p1_bytes h_p2 h_p2_book h_p2_book_forms h_p2_deeps h_p2_forms h_p2_kinds c_t_at c_t_tokens_size c_t_tokens_length c_t_tokens_starts c_t_tokens_types c_t_tokens_values c_p1_length c_p1_bytes c_p2_size c_p2_hour c_p2_sunny c_p2_book_forms c_p2_deeps c_p2_forms c_p2_kinds) sz) := by
  refine met_W (by decide) (Nat.le_of_ble_eq_true rfl) ?_
  intro p e s m args below meth c A ls C hP hD hS hA hK hT hl
  obtain ⟨hx, hb, hr, hml, hown, hw, hlocks⟩ := id C
  have hl : lv_has ls 4 [(0, .ref h_t), (1, .ref h_p1), (2, .ref h_p2)] := hl
  rw [f_FieldText_tell] at hF
  refine lv_aload_n hx hb dX2_tell_0 rfl (lv_at hl 0 rfl) ?_
  refine va_get (D := eD E) (ci := 2) (C := RX2) (T := TX2) (N := 2) (v := .ref h_t_tokens) hx hb hw inX2 hown hK hP 0 rfl rfl 0 (by decide) (hw _ mw_157) (fun _ h9 => h9) rfl dX2_tell_1 ?_
  refine lv_aload_n hx hb dX2_tell_4 rfl (lv_at hl 1 rfl) ?_
  obtain ⟨r9, er9, hF⟩ := kb hF
  refine kWV (rest := []) (Wr := [(h_t, .inr (2, [.ref h_t_tokens, .int c_t_at])), (h_p2, .inr (3, [.ref h_p2_book, .ref h_p2_kinds, .ref h_p2_forms, .ref h_p2_deeps, .int c_p2_size, .int c_p2_hour, .int c_p2_sunny])), (h_p2_book, .inr (0, [.ref h_p2_book_forms])), (h_p2_book_forms, .inl (eI E, 26, .inl c_p2_book_forms)), (h_p2_deeps, .inl (eI E, 12, .inl c_p2_deeps)), (h_p2_forms, .inl (eI E, 12, .inl c_p2_forms)), (h_p2_kinds, .inl (eI E, 12, .inl c_p2_kinds))]) (Wn := (w_FieldText_tell E h_t h_t_tokens h_t_tokens_starts h_t_tokens_types h_t_tokens_values h_p1 h_p1_bytes h_p2 h_p2_book h_p2_book_forms h_p2_deeps h_p2_forms h_p2_kinds c_t_at r9.1 r9.2.1 r9.2.2.1 r9.2.2.2.1 r9.2.2.2.2 c_p1_length c_p1_bytes c_p2_size c_p2_hour c_p2_sunny c_p2_book_forms c_p2_deeps c_p2_forms c_p2_kinds)) C (k_Tokens_cut l E h_t_tokens h_t_tokens_starts h_t_tokens_types h_t_tokens_values h_p1 h_p1_bytes s.heap.size c_t_tokens_size c_t_tokens_length c_t_tokens_starts c_t_tokens_types c_t_tokens_values c_p1_length c_p1_bytes r9 er9) fn_Tokens_cut mw_624 ⟨Nat.le_of_ble_eq_true rfl, Nat.le_of_ble_eq_true rfl⟩ hK hT hS hA (va_recv hK hP (ci := 6) (q0 := 1) rfl rfl) hP hD [1, 2, 3, 4, 5, 6] rfl (by decide) [0, 7, 8, 9, 10, 11, 12] rfl (by decide) (by decide) [0, 7, 8, 9, 10, 11, 12, 1, 2, 3, 4, 5, 6] rfl (by decide) rfl rfl hl (Nat.le_of_ble_eq_true rfl) dX2_tell_5 (fun H locs hP hD hS => ?_)
  refine W.eq (g2 := F0 m 8 ls []) rfl ?_
  refine lv_aload_n hx hb dX2_tell_8 rfl (lv_at hl 0 rfl) ?_
  refine lv_iconst (v := (0 : Int32)) hx hb dX2_tell_9 (by decide) ?_
  refine va_put (D := eD E) (ci := 2) (v := .int (0 : Int32)) (ty := .int) (C := RX2) (T := TX2) (N := 2) hx hb hw inX2 tyX2 tyX2_ok nmX2 hown hK hP hD hS 0 rfl rfl 1 (by decide) (hw _ mw_158) (fun _ h9 => h9) rfl (by decide +kernel) rfl rfl (Nat.le_of_ble_eq_true rfl) dX2_tell_10 (fun H locs hP hD hS => ?_)
  have hP : va_P (eD E) vwCl (w_FieldText_tell E h_t h_t_tokens h_t_tokens_starts h_t_tokens_types h_t_tokens_values h_p1 h_p1_bytes h_p2 h_p2_book h_p2_book_forms h_p2_deeps h_p2_forms h_p2_kinds (0 : Int32) r9.1 r9.2.1 r9.2.2.1 r9.2.2.2.1 r9.2.2.2.2 c_p1_length c_p1_bytes c_p2_size c_p2_hour c_p2_sunny c_p2_book_forms c_p2_deeps c_p2_forms c_p2_kinds) H := hP
  have hD : va_D A (w_FieldText_tell E h_t h_t_tokens h_t_tokens_starts h_t_tokens_types h_t_tokens_values h_p1 h_p1_bytes h_p2 h_p2_book h_p2_book_forms h_p2_deeps h_p2_forms h_p2_kinds (0 : Int32) r9.1 r9.2.1 r9.2.2.1 r9.2.2.2.1 r9.2.2.2.2 c_p1_length c_p1_bytes c_p2_size c_p2_hour c_p2_sunny c_p2_book_forms c_p2_deeps c_p2_forms c_p2_kinds) := hD
  refine lv_iconst (v := (1 : Int32)) hx hb dX2_tell_13 (by decide) ?_
  refine lv_istore_n (lv' := [(3, .int (1 : Int32)), (0, .ref h_t), (1, .ref h_p1), (2, .ref h_p2)]) hx hb dX2_tell_14 rfl hl (by decide) rfl (fun ls hl => ?_)
  exact wk_FieldText_tell_b15 E h_t h_t_tokens h_t_tokens_starts h_t_tokens_types h_t_tokens_values h_p1 h_p1_bytes h_p2 h_p2_book h_p2_book_forms h_p2_deeps h_p2_forms h_p2_kinds c_p1_length c_p1_bytes c_p2_hour  C hA  hK hT  5000 (0 : Int32) r9.1 r9.2.1 r9.2.2.1 r9.2.2.2.1 r9.2.2.2.2 c_p2_size c_p2_sunny c_p2_book_forms c_p2_deeps c_p2_forms c_p2_kinds (1 : Int32) hF _ _ hP hD hS _ (lv_sub hl [1, 3, 0] rfl)
abbrev w_Sheets_isSheet (E : kE)    : va_W := []
set_option maxHeartbeats 4000000 in
set_option maxRecDepth 100000 in
theorem k_Sheets_isSheet (l : Launch) (E : kE)    (a0 : Int32) (out : Int32) (hF : f_Sheets_isSheet  a0 = some out) : Met l yX6_isSheet (Cond.code yX6_isSheet cX6_isSheet 1 (some .boolean) :: wG) (rm 1) (pR E (w_Sheets_isSheet E ) [.int a0]) (qR (.int out)) 0 0 (fun _ => False) := by
  refine met_R (by decide) (Nat.le_of_ble_eq_true rfl) ?_
  intro p e s m args below meth c ls C hP hK hT hl
  obtain ⟨hx, hb, hr, hml, hown, hw, hlocks⟩ := id C
  have hS : va_S (fun _ => False) s.heap s.heap [] := va_S.rf
  have hl : lv_has ls 1 [(0, .int a0)] := hl
  rw [f_Sheets_isSheet] at hF
  refine lv_iload_n hx hb dX6_isSheet_0 rfl (lv_at hl 0 rfl) ?_
  refine lv_if_lt (tgt := 13) hx hb dX6_isSheet_1 (by decide) (fun q1 => ?_) (fun q1 => ?_)
  · have hF := kp hF q1
    refine lv_iconst (v := (0 : Int32)) hx hb dX6_isSheet_13 (by decide) ?_
    obtain rfl := Option.some.inj hF
    exact W.zret (ty := .boolean) hx hb hr rfl (fun t ht hW => ⟨rfl, ht⟩) nofun dX6_isSheet_14
  · have hF := kn hF q1
    refine lv_iload_n hx hb dX6_isSheet_4 rfl (lv_at hl 0 rfl) ?_
    refine lv_iconst (v := (4 : Int32)) hx hb dX6_isSheet_5 (by decide) ?_
    refine lv_icmp_ge (tgt := 13) hx hb dX6_isSheet_6 (by decide) (fun q2 => ?_) (fun q2 => ?_)
    · have hF := kp hF q2
      refine lv_iconst (v := (0 : Int32)) hx hb dX6_isSheet_13 (by decide) ?_
      obtain rfl := Option.some.inj hF
      exact W.zret (ty := .boolean) hx hb hr rfl (fun t ht hW => ⟨rfl, ht⟩) nofun dX6_isSheet_14
    · have hF := kn hF q2
      refine lv_iconst (v := (1 : Int32)) hx hb dX6_isSheet_9 (by decide) ?_
      refine lv_goto (tgt := 14) hx hb dX6_isSheet_10 (by decide) ?_
      obtain rfl := Option.some.inj hF
      exact W.zret (ty := .boolean) hx hb hr rfl (fun t ht hW => ⟨rfl, ht⟩) nofun dX6_isSheet_14
abbrev w_Sheets_isWidth (E : kE)    : va_W := []
set_option maxHeartbeats 4000000 in
set_option maxRecDepth 100000 in
theorem wk_Sheets_isWidth_b22 {p : Program} {l : Launch} {e : Env} {s : State} {m : MethodId} {args : Array Value} {below : List Frame} {meth : Method} {c : Code} (E : kE)    (a0 : Int32) {out : Int32} (C : kC RX6 cX6_isWidth 1 (some .boolean) p s m args meth c) (hP : va_P (eD E) vwCl (w_Sheets_isWidth E ) s.heap) (hK : va_K (eD E) vwCl (eT E) s) (hT : sT E (fun _ => False) s s.heap)  :
    f_Sheets_isWidth_b22  a0  = some out → ∀ (ls : Array Slot), lv_has ls 1 [] → W p l e (rm 1) s m args below meth c s.heap [] 0 0 (MQ below (qR (.int out)) args s 0 0 (fun _ => False)) (F0 m 22 ls []) := by
  obtain ⟨hx, hb, hr, hml, hown, hw, hlocks⟩ := id C
  have hS : va_S (fun _ => False) s.heap s.heap [] := va_S.rf
  intro  hF ls hl
  rw [f_Sheets_isWidth_b22] at hF
  refine lv_iconst (v := (1 : Int32)) hx hb dX6_isWidth_22 (by decide) ?_
  refine lv_goto (tgt := 27) hx hb dX6_isWidth_23 (by decide) ?_
  obtain rfl := Option.some.inj hF
  exact W.zret (ty := .boolean) hx hb hr rfl (fun t ht hW => ⟨rfl, ht⟩) nofun dX6_isWidth_27
set_option maxHeartbeats 4000000 in
set_option maxRecDepth 100000 in
theorem k_Sheets_isWidth (l : Launch) (E : kE)    (a0 : Int32) (out : Int32) (hF : f_Sheets_isWidth  a0 = some out) : Met l yX6_isWidth (Cond.code yX6_isWidth cX6_isWidth 1 (some .boolean) :: wG) (rm 1) (pR E (w_Sheets_isWidth E ) [.int a0]) (qR (.int out)) 0 0 (fun _ => False) := by
  refine met_R (by decide) (Nat.le_of_ble_eq_true rfl) ?_
  intro p e s m args below meth c ls C hP hK hT hl
  obtain ⟨hx, hb, hr, hml, hown, hw, hlocks⟩ := id C
  have hS : va_S (fun _ => False) s.heap s.heap [] := va_S.rf
  have hl : lv_has ls 1 [(0, .int a0)] := hl
  rw [f_Sheets_isWidth] at hF
  refine lv_iload_n hx hb dX6_isWidth_0 rfl (lv_at hl 0 rfl) ?_
  refine lv_if_eq (tgt := 22) hx hb dX6_isWidth_1 (by decide) (fun q1 => ?_) (fun q1 => ?_)
  · have hF := kp hF q1
    exact wk_Sheets_isWidth_b22 E  a0 C hP  hK hT   hF _ (lv_sub hl [] rfl)
  · have hF := kn hF q1
    refine lv_iload_n hx hb dX6_isWidth_4 rfl (lv_at hl 0 rfl) ?_
    refine lv_bipush (v := (8 : Int32)) hx hb dX6_isWidth_5 (by decide) ?_
    refine lv_icmp_eq (tgt := 22) hx hb dX6_isWidth_7 (by decide) (fun q2 => ?_) (fun q2 => ?_)
    · have hF := kp hF q2
      exact wk_Sheets_isWidth_b22 E  a0 C hP  hK hT   hF _ (lv_sub hl [] rfl)
    · have hF := kn hF q2
      refine lv_iload_n hx hb dX6_isWidth_10 rfl (lv_at hl 0 rfl) ?_
      refine lv_bipush (v := (16 : Int32)) hx hb dX6_isWidth_11 (by decide) ?_
      refine lv_icmp_eq (tgt := 22) hx hb dX6_isWidth_13 (by decide) (fun q3 => ?_) (fun q3 => ?_)
      · have hF := kp hF q3
        exact wk_Sheets_isWidth_b22 E  a0 C hP  hK hT   hF _ (lv_sub hl [] rfl)
      · have hF := kn hF q3
        refine lv_iload_n hx hb dX6_isWidth_16 rfl (lv_at hl 0 rfl) ?_
        refine lv_bipush (v := (64 : Int32)) hx hb dX6_isWidth_17 (by decide) ?_
        refine lv_icmp_ne (tgt := 26) hx hb dX6_isWidth_19 (by decide) (fun q4 => ?_) (fun q4 => ?_)
        · have hF := kn hF q4
          refine lv_iconst (v := (0 : Int32)) hx hb dX6_isWidth_26 (by decide) ?_
          obtain rfl := Option.some.inj hF
          exact W.zret (ty := .boolean) hx hb hr rfl (fun t ht hW => ⟨rfl, ht⟩) nofun dX6_isWidth_27
        · have hF := kp hF q4
          exact wk_Sheets_isWidth_b22 E  a0 C hP  hK hT   hF _ (lv_sub hl [] rfl)
abbrev w_Sheets_lay (E : kE) (h_t : Nat) (h_t_numbers : Nat) (h_t_sizes : Nat) (h_t_widths : Nat)  (c_t_numbers : (Nat → Int64)) (c_t_sizes : (Nat → Int32)) (c_t_widths : (Nat → Int32)) : va_W := [(h_t, .inr (4, [.ref h_t_widths, .ref h_t_sizes, .ref h_t_numbers])), (h_t_numbers, .inl (eJ E, 160, .inr (.inl c_t_numbers))), (h_t_sizes, .inl (eI E, 4, .inl c_t_sizes)), (h_t_widths, .inl (eI E, 4, .inl c_t_widths))]
set_option maxHeartbeats 4000000 in
set_option maxRecDepth 100000 in
theorem wk_Sheets_lay_b44 {p : Program} {l : Launch} {e : Env} {s : State} {m : MethodId} {args : Array Value} {below : List Frame} {meth : Method} {c : Code} {A : Nat → Prop} (E : kE) (h_t : Nat) (h_t_numbers : Nat) (h_t_sizes : Nat) (h_t_widths : Nat)   (a1 : Int32) (a2 : Int32) (a3 : Int32) {out : Int32 × (Nat → Int64) × (Nat → Int32) × (Nat → Int32)} (C : kC RX6 cX6_lay 5 (some .int) p s m args meth c) (hA : ∀ q : Nat, s.heap.size ≤ q → A q) (hK : va_K (eD E) vwCl (eT E) s) (hT : sT E A s s.heap)  :
    ∀ (n : Nat), ∀ (c_t_numbers : (Nat → Int64)) (c_t_sizes : (Nat → Int32)) (c_t_widths : (Nat → Int32)) (v4 : Int32), f_Sheets_lay_b44  a1 a2 a3 n c_t_numbers c_t_sizes c_t_widths v4 = some out → ∀ (H : Heap) (locs : List Loc), va_P (eD E) vwCl (w_Sheets_lay E h_t h_t_numbers h_t_sizes h_t_widths c_t_numbers c_t_sizes c_t_widths) H → va_D A (w_Sheets_lay E h_t h_t_numbers h_t_sizes h_t_widths c_t_numbers c_t_sizes c_t_widths) → va_S A s.heap H locs → ∀ (ls : Array Slot), lv_has ls 5 [(0, .ref h_t), (1, .int a1), (4, .int v4)] → W p l e (rm 2) s m args below meth c H locs 0 0 (MQ below (qW (some (.int out.1)) E (w_Sheets_lay E h_t h_t_numbers h_t_sizes h_t_widths out.2.1 out.2.2.1 out.2.2.2) A) args s 0 0 A) (F0 m 44 ls []) := by
  obtain ⟨hx, hb, hr, hml, hown, hw, hlocks⟩ := id C
  intro n
  induction n with
  | zero =>
    intro c_t_numbers c_t_sizes c_t_widths v4 hF
    exact absurd (show (none : Option (Int32 × (Nat → Int64) × (Nat → Int32) × (Nat → Int32))) = some out from hF) nofun
  | succ n ih =>
    intro c_t_numbers c_t_sizes c_t_widths v4 hF H locs hP hD hS ls hl
    rw [f_Sheets_lay_b44] at hF
    refine lv_iload hx hb dX6_lay_44 (lv_at hl 2 rfl) ?_
    refine lv_bipush (v := (40 : Int32)) hx hb dX6_lay_46 (by decide) ?_
    refine lv_icmp_ge (tgt := 70) hx hb dX6_lay_48 (by decide) (fun q1 => ?_) (fun q1 => ?_)
    · have hF := kp hF q1
      refine lv_aload_n hx hb dX6_lay_70 rfl (lv_at hl 0 rfl) ?_
      refine va_get (D := eD E) (ci := 4) (C := RX6) (T := TX6) (N := 3) (v := .ref h_t_sizes) hx hb hw inX6 hown hK hP 0 rfl rfl 1 (by decide) (hw _ mw_171) (fun _ h9 => h9) rfl dX6_lay_71 ?_
      refine lv_iload_n hx hb dX6_lay_74 rfl (lv_at hl 1 rfl) ?_
      obtain ⟨r2, er2, hF⟩ := kb hF
      refine wa_iald hx hb hK hP 2 0 rfl rfl er2 dX6_lay_75 ?_
      obtain rfl := Option.some.inj hF
      exact W.iret hx hb hr (fun t ht hW => ⟨⟨rfl, by rw [ht]; exact hP, hD⟩, hS.F ht⟩) hS.2.2 dX6_lay_76
    · have hF := kn hF q1
      refine lv_aload_n hx hb dX6_lay_51 rfl (lv_at hl 0 rfl) ?_
      refine va_get (D := eD E) (ci := 4) (C := RX6) (T := TX6) (N := 3) (v := .ref h_t_numbers) hx hb hw inX6 hown hK hP 0 rfl rfl 2 (by decide) (hw _ mw_172) (fun _ h9 => h9) rfl dX6_lay_52 ?_
      refine lv_iload_n hx hb dX6_lay_55 rfl (lv_at hl 1 rfl) ?_
      refine lv_bipush (v := (40 : Int32)) hx hb dX6_lay_56 (by decide) ?_
      refine lv_imul hx hb dX6_lay_58 ?_
      refine lv_iload hx hb dX6_lay_59 (lv_at hl 2 rfl) ?_
      refine lv_iadd hx hb dX6_lay_61 ?_
      refine lv_lconst (v := (0 : Int64)) hx hb dX6_lay_62 (by decide) ?_
      obtain ⟨r3, er3, hF⟩ := kb hF
      refine wa_last hx hb hK hP hD hS 1 2 rfl rfl er3 dX6_lay_63 (fun H locs hP hD hS => ?_)
      have hP : va_P (eD E) vwCl (w_Sheets_lay E h_t h_t_numbers h_t_sizes h_t_widths r3 c_t_sizes c_t_widths) H := hP
      have hD : va_D A (w_Sheets_lay E h_t h_t_numbers h_t_sizes h_t_widths r3 c_t_sizes c_t_widths) := hD
      refine lv_iinc (v := (v4 + (1))) (lv' := [(4, .int (v4 + (1))), (0, .ref h_t), (1, .int a1)]) hx hb dX6_lay_64 hl (k := 2) rfl rfl (by decide) rfl (fun ls hl => ?_)
      refine lv_goto (tgt := 44) hx hb dX6_lay_67 (by decide) ?_
      exact ih r3 c_t_sizes c_t_widths (v4 + (1)) hF _ _ hP hD hS _ (lv_sub hl [1, 2, 0] rfl)
set_option maxHeartbeats 4000000 in
set_option maxRecDepth 100000 in
theorem wk_Sheets_lay_b40 {p : Program} {l : Launch} {e : Env} {s : State} {m : MethodId} {args : Array Value} {below : List Frame} {meth : Method} {c : Code} {A : Nat → Prop} (E : kE) (h_t : Nat) (h_t_numbers : Nat) (h_t_sizes : Nat) (h_t_widths : Nat)   (a1 : Int32) (a2 : Int32) (a3 : Int32) {out : Int32 × (Nat → Int64) × (Nat → Int32) × (Nat → Int32)} (C : kC RX6 cX6_lay 5 (some .int) p s m args meth c) (hA : ∀ q : Nat, s.heap.size ≤ q → A q) (hK : va_K (eD E) vwCl (eT E) s) (hT : sT E A s s.heap)  :
    ∀ (c_t_numbers : (Nat → Int64)) (c_t_sizes : (Nat → Int32)) (c_t_widths : (Nat → Int32)) (s0 : Int32) (s1 : Int32), f_Sheets_lay_b40  a1 a2 a3 c_t_numbers c_t_sizes c_t_widths s0 s1 = some out → ∀ (H : Heap) (locs : List Loc), va_P (eD E) vwCl (w_Sheets_lay E h_t h_t_numbers h_t_sizes h_t_widths c_t_numbers c_t_sizes c_t_widths) H → va_D A (w_Sheets_lay E h_t h_t_numbers h_t_sizes h_t_widths c_t_numbers c_t_sizes c_t_widths) → va_S A s.heap H locs → ∀ (ls : Array Slot), lv_has ls 5 [(0, .ref h_t), (1, .int a1)] → W p l e (rm 2) s m args below meth c H locs 0 0 (MQ below (qW (some (.int out.1)) E (w_Sheets_lay E h_t h_t_numbers h_t_sizes h_t_widths out.2.1 out.2.2.1 out.2.2.2) A) args s 0 0 A) (F0 m 40 ls [.int s0, .int s1, .ref h_t_sizes]) := by
  obtain ⟨hx, hb, hr, hml, hown, hw, hlocks⟩ := id C
  intro c_t_numbers c_t_sizes c_t_widths s0 s1 hF H locs hP hD hS ls hl
  rw [f_Sheets_lay_b40] at hF
  obtain ⟨r4, er4, hF⟩ := kb hF
  refine wa_iast hx hb hK hP hD hS 2 0 rfl rfl er4 dX6_lay_40 (fun H locs hP hD hS => ?_)
  have hP : va_P (eD E) vwCl (w_Sheets_lay E h_t h_t_numbers h_t_sizes h_t_widths c_t_numbers r4 c_t_widths) H := hP
  have hD : va_D A (w_Sheets_lay E h_t h_t_numbers h_t_sizes h_t_widths c_t_numbers r4 c_t_widths) := hD
  refine lv_iconst (v := (0 : Int32)) hx hb dX6_lay_41 (by decide) ?_
  refine lv_istore (lv' := [(4, .int (0 : Int32)), (0, .ref h_t), (1, .int a1)]) hx hb dX6_lay_42 hl (by decide) rfl (fun ls hl => ?_)
  exact wk_Sheets_lay_b44 E h_t h_t_numbers h_t_sizes h_t_widths a1 a2 a3 C hA  hK hT  5000 c_t_numbers r4 c_t_widths (0 : Int32) hF _ _ hP hD hS _ (lv_sub hl [1, 2, 0] rfl)
set_option maxHeartbeats 4000000 in
set_option maxRecDepth 100000 in
theorem k_Sheets_lay (l : Launch) (E : kE) (h_t : Nat) (h_t_numbers : Nat) (h_t_sizes : Nat) (h_t_widths : Nat)  (sz : Nat) (c_t_numbers : (Nat → Int64)) (c_t_sizes : (Nat → Int32)) (c_t_widths : (Nat → Int32)) (a1 : Int32) (a2 : Int32) (a3 : Int32) (out : Int32 × (Nat → Int64) × (Nat → Int32) × (Nat → Int32)) (hF : f_Sheets_lay c_t_numbers c_t_sizes c_t_widths a1 a2 a3 = some out) : Met l yX6_lay (Cond.code yX6_lay cX6_lay 5 (some .int) :: wG) (rm 2) (pW E (w_Sheets_lay E h_t h_t_numbers h_t_sizes h_t_widths c_t_numbers c_t_sizes c_t_widths) sz [.ref h_t, .int a1, .int a2, .int a3]) (qW (some (.int out.1)) E (w_Sheets_lay E h_t h_t_numbers h_t_sizes h_t_widths out.2.1 out.2.2.1 out.2.2.2) (va_A (w_Sheets_lay E h_t h_t_numbers h_t_sizes h_t_widths c_t_numbers c_t_sizes c_t_widths) sz)) 0 0 (va_A (w_Sheets_lay E h_t h_t_numbers h_t_sizes h_t_widths c_t_numbers c_t_sizes c_t_widths) sz) := by
  refine met_W (by decide) (Nat.le_of_ble_eq_true rfl) ?_
  intro p e s m args below meth c A ls C hP hD hS hA hK hT hl
  obtain ⟨hx, hb, hr, hml, hown, hw, hlocks⟩ := id C
  have hl : lv_has ls 5 [(0, .ref h_t), (1, .int a1), (2, .int a2), (3, .int a3)] := hl
  rw [f_Sheets_lay] at hF
  refine lv_iload_n hx hb dX6_lay_0 rfl (lv_at hl 1 rfl) ?_
  obtain ⟨r5, er5, hF⟩ := kb hF
  refine kRS (rest := []) C (k_Sheets_isSheet l E a1 r5 er5) fn_Sheets_isSheet mw_773 ⟨Nat.le_of_ble_eq_true rfl, Nat.le_of_ble_eq_true rfl⟩ hK hT hS hP [] rfl rfl rfl hl (Nat.le_of_ble_eq_true rfl) dX6_lay_1 ?_
  refine lv_if_eq (tgt := 17) hx hb dX6_lay_4 (by decide) (fun q6 => ?_) (fun q6 => ?_)
  · have hF := kp hF q6
    refine lv_iconst (v := (0 : Int32)) hx hb dX6_lay_17 (by decide) ?_
    obtain rfl := Option.some.inj hF
    exact W.iret hx hb hr (fun t ht hW => ⟨⟨rfl, by rw [ht]; exact hP, hD⟩, hS.F ht⟩) hS.2.2 dX6_lay_18
  · have hF := kn hF q6
    refine lv_iload_n hx hb dX6_lay_7 rfl (lv_at hl 3 rfl) ?_
    refine lv_if_lt (tgt := 17) hx hb dX6_lay_8 (by decide) (fun q7 => ?_) (fun q7 => ?_)
    · have hF := kp hF q7
      refine lv_iconst (v := (0 : Int32)) hx hb dX6_lay_17 (by decide) ?_
      obtain rfl := Option.some.inj hF
      exact W.iret hx hb hr (fun t ht hW => ⟨⟨rfl, by rw [ht]; exact hP, hD⟩, hS.F ht⟩) hS.2.2 dX6_lay_18
    · have hF := kn hF q7
      refine lv_iload_n hx hb dX6_lay_11 rfl (lv_at hl 3 rfl) ?_
      refine lv_bipush (v := (40 : Int32)) hx hb dX6_lay_12 (by decide) ?_
      refine lv_icmp_le (tgt := 19) hx hb dX6_lay_14 (by decide) (fun q8 => ?_) (fun q8 => ?_)
      · have hF := kp hF q8
        refine lv_aload_n hx hb dX6_lay_19 rfl (lv_at hl 0 rfl) ?_
        refine va_get (D := eD E) (ci := 4) (C := RX6) (T := TX6) (N := 3) (v := .ref h_t_widths) hx hb hw inX6 hown hK hP 0 rfl rfl 0 (by decide) (hw _ mw_170) (fun _ h9 => h9) rfl dX6_lay_20 ?_
        refine lv_iload_n hx hb dX6_lay_23 rfl (lv_at hl 1 rfl) ?_
        refine lv_iload_n hx hb dX6_lay_24 rfl (lv_at hl 2 rfl) ?_
        obtain ⟨r9, er9, hF⟩ := kb hF
        refine wa_iast hx hb hK hP hD hS 3 0 rfl rfl er9 dX6_lay_25 (fun H locs hP hD hS => ?_)
        have hP : va_P (eD E) vwCl (w_Sheets_lay E h_t h_t_numbers h_t_sizes h_t_widths c_t_numbers c_t_sizes r9) H := hP
        have hD : va_D A (w_Sheets_lay E h_t h_t_numbers h_t_sizes h_t_widths c_t_numbers c_t_sizes r9) := hD
        refine lv_aload_n hx hb dX6_lay_26 rfl (lv_at hl 0 rfl) ?_
        refine va_get (D := eD E) (ci := 4) (C := RX6) (T := TX6) (N := 3) (v := .ref h_t_sizes) hx hb hw inX6 hown hK hP 0 rfl rfl 1 (by decide) (hw _ mw_171) (fun _ h9 => h9) rfl dX6_lay_27 ?_
        refine lv_iload_n hx hb dX6_lay_30 rfl (lv_at hl 1 rfl) ?_
        refine lv_iload_n hx hb dX6_lay_31 rfl (lv_at hl 2 rfl) ?_
        refine lv_if_ne (tgt := 39) hx hb dX6_lay_32 (by decide) (fun q10 => ?_) (fun q10 => ?_)
        · have hF := kn hF q10
          refine lv_iload_n hx hb dX6_lay_39 rfl (lv_at hl 3 rfl) ?_
          exact wk_Sheets_lay_b40 E h_t h_t_numbers h_t_sizes h_t_widths a1 a2 a3 C hA  hK hT  c_t_numbers c_t_sizes r9 a3 a1 hF _ _ hP hD hS _ (lv_sub hl [0, 1] rfl)
        · have hF := kp hF q10
          refine lv_iconst (v := (0 : Int32)) hx hb dX6_lay_35 (by decide) ?_
          refine lv_goto (tgt := 40) hx hb dX6_lay_36 (by decide) ?_
          exact wk_Sheets_lay_b40 E h_t h_t_numbers h_t_sizes h_t_widths a1 a2 a3 C hA  hK hT  c_t_numbers c_t_sizes r9 (0 : Int32) a1 hF _ _ hP hD hS _ (lv_sub hl [0, 1] rfl)
      · have hF := kn hF q8
        refine lv_iconst (v := (0 : Int32)) hx hb dX6_lay_17 (by decide) ?_
        obtain rfl := Option.some.inj hF
        exact W.iret hx hb hr (fun t ht hW => ⟨⟨rfl, by rw [ht]; exact hP, hD⟩, hS.F ht⟩) hS.2.2 dX6_lay_18
abbrev w_Sheets_sizeOf (E : kE) (h_t : Nat) (h_t_sizes : Nat) (x_t_widths : Nat) (x_t_numbers : Nat) (c_t_sizes : (Nat → Int32)) : va_W := [(h_t, .inr (4, [.ref x_t_widths, .ref h_t_sizes, .ref x_t_numbers])), (h_t_sizes, .inl (eI E, 4, .inl c_t_sizes))]
set_option maxHeartbeats 4000000 in
set_option maxRecDepth 100000 in
theorem k_Sheets_sizeOf (l : Launch) (E : kE) (h_t : Nat) (h_t_sizes : Nat) (x_t_widths : Nat) (x_t_numbers : Nat) (c_t_sizes : (Nat → Int32)) (a1 : Int32) (out : Int32) (hF : f_Sheets_sizeOf c_t_sizes a1 = some out) : Met l yX6_sizeOf (Cond.code yX6_sizeOf cX6_sizeOf 2 (some .int) :: wG) (rm 2) (pR E (w_Sheets_sizeOf E h_t h_t_sizes x_t_widths x_t_numbers c_t_sizes) [.ref h_t, .int a1]) (qR (.int out)) 0 0 (fun _ => False) := by
  refine met_R (by decide) (Nat.le_of_ble_eq_true rfl) ?_
  intro p e s m args below meth c ls C hP hK hT hl
  obtain ⟨hx, hb, hr, hml, hown, hw, hlocks⟩ := id C
  have hS : va_S (fun _ => False) s.heap s.heap [] := va_S.rf
  have hl : lv_has ls 2 [(0, .ref h_t), (1, .int a1)] := hl
  rw [f_Sheets_sizeOf] at hF
  refine lv_iload_n hx hb dX6_sizeOf_0 rfl (lv_at hl 1 rfl) ?_
  obtain ⟨r1, er1, hF⟩ := kb hF
  refine kRS (rest := []) C (k_Sheets_isSheet l E a1 r1 er1) fn_Sheets_isSheet mw_773 ⟨Nat.le_of_ble_eq_true rfl, Nat.le_of_ble_eq_true rfl⟩ hK hT hS hP [] rfl rfl rfl hl (Nat.le_of_ble_eq_true rfl) dX6_sizeOf_1 ?_
  refine lv_if_eq (tgt := 16) hx hb dX6_sizeOf_4 (by decide) (fun q2 => ?_) (fun q2 => ?_)
  · have hF := kp hF q2
    refine lv_iconst (v := (0 : Int32)) hx hb dX6_sizeOf_16 (by decide) ?_
    obtain rfl := Option.some.inj hF
    exact W.iret hx hb hr (fun t ht hW => ⟨rfl, ht⟩) nofun dX6_sizeOf_17
  · have hF := kn hF q2
    refine lv_aload_n hx hb dX6_sizeOf_7 rfl (lv_at hl 0 rfl) ?_
    refine va_get (D := eD E) (ci := 4) (C := RX6) (T := TX6) (N := 3) (v := .ref h_t_sizes) hx hb hw inX6 hown hK hP 0 rfl rfl 1 (by decide) (hw _ mw_171) (fun _ h9 => h9) rfl dX6_sizeOf_8 ?_
    refine lv_iload_n hx hb dX6_sizeOf_11 rfl (lv_at hl 1 rfl) ?_
    obtain ⟨r3, er3, hF⟩ := kb hF
    refine wa_iald hx hb hK hP 1 0 rfl rfl er3 dX6_sizeOf_12 ?_
    refine lv_goto (tgt := 17) hx hb dX6_sizeOf_13 (by decide) ?_
    obtain rfl := Option.some.inj hF
    exact W.iret hx hb hr (fun t ht hW => ⟨rfl, ht⟩) nofun dX6_sizeOf_17
abbrev w_Sheets_at (E : kE) (h_t : Nat) (h_t_numbers : Nat) (h_t_sizes : Nat) (x_t_widths : Nat) (c_t_numbers : (Nat → Int64)) (c_t_sizes : (Nat → Int32)) : va_W := [(h_t, .inr (4, [.ref x_t_widths, .ref h_t_sizes, .ref h_t_numbers])), (h_t_numbers, .inl (eJ E, 160, .inr (.inl c_t_numbers))), (h_t_sizes, .inl (eI E, 4, .inl c_t_sizes))]
set_option maxHeartbeats 4000000 in
set_option maxRecDepth 100000 in
theorem k_Sheets_at (l : Launch) (E : kE) (h_t : Nat) (h_t_numbers : Nat) (h_t_sizes : Nat) (x_t_widths : Nat) (c_t_numbers : (Nat → Int64)) (c_t_sizes : (Nat → Int32)) (a1 : Int32) (a2 : Int32) (out : Int64) (hF : f_Sheets_at c_t_numbers c_t_sizes a1 a2 = some out) : Met l yX6_at (Cond.code yX6_at cX6_at 3 (some .long) :: wG) (rm 3) (pR E (w_Sheets_at E h_t h_t_numbers h_t_sizes x_t_widths c_t_numbers c_t_sizes) [.ref h_t, .int a1, .int a2]) (qR (.long out)) 0 0 (fun _ => False) := by
  refine met_R (by decide) (Nat.le_of_ble_eq_true rfl) ?_
  intro p e s m args below meth c ls C hP hK hT hl
  obtain ⟨hx, hb, hr, hml, hown, hw, hlocks⟩ := id C
  have hS : va_S (fun _ => False) s.heap s.heap [] := va_S.rf
  have hl : lv_has ls 3 [(0, .ref h_t), (1, .int a1), (2, .int a2)] := hl
  rw [f_Sheets_at] at hF
  refine lv_iload_n hx hb dX6_at_0 rfl (lv_at hl 2 rfl) ?_
  refine lv_if_lt (tgt := 27) hx hb dX6_at_1 (by decide) (fun q1 => ?_) (fun q1 => ?_)
  · have hF := kp hF q1
    refine lv_lconst (v := (0 : Int64)) hx hb dX6_at_27 (by decide) ?_
    obtain rfl := Option.some.inj hF
    exact W.lret hx hb hr (fun t ht hW => ⟨rfl, ht⟩) nofun dX6_at_28
  · have hF := kn hF q1
    refine lv_iload_n hx hb dX6_at_4 rfl (lv_at hl 2 rfl) ?_
    refine lv_aload_n hx hb dX6_at_5 rfl (lv_at hl 0 rfl) ?_
    refine lv_iload_n hx hb dX6_at_6 rfl (lv_at hl 1 rfl) ?_
    obtain ⟨r2, er2, hF⟩ := kb hF
    refine kRV (rest := [.int a2]) C (k_Sheets_sizeOf l E h_t h_t_sizes x_t_widths h_t_numbers c_t_sizes a1 r2 er2) fn_Sheets_sizeOf mw_791 ⟨Nat.le_of_ble_eq_true rfl, Nat.le_of_ble_eq_true rfl⟩ hK hT hS (va_recv hK hP (ci := 4) (q0 := 0) rfl rfl) hP [0, 2] rfl rfl rfl hl (Nat.le_of_ble_eq_true rfl) dX6_at_7 ?_
    refine lv_icmp_ge (tgt := 27) hx hb dX6_at_10 (by decide) (fun q3 => ?_) (fun q3 => ?_)
    · have hF := kp hF q3
      refine lv_lconst (v := (0 : Int64)) hx hb dX6_at_27 (by decide) ?_
      obtain rfl := Option.some.inj hF
      exact W.lret hx hb hr (fun t ht hW => ⟨rfl, ht⟩) nofun dX6_at_28
    · have hF := kn hF q3
      refine lv_aload_n hx hb dX6_at_13 rfl (lv_at hl 0 rfl) ?_
      refine va_get (D := eD E) (ci := 4) (C := RX6) (T := TX6) (N := 3) (v := .ref h_t_numbers) hx hb hw inX6 hown hK hP 0 rfl rfl 2 (by decide) (hw _ mw_172) (fun _ h9 => h9) rfl dX6_at_14 ?_
      refine lv_iload_n hx hb dX6_at_17 rfl (lv_at hl 1 rfl) ?_
      refine lv_bipush (v := (40 : Int32)) hx hb dX6_at_18 (by decide) ?_
      refine lv_imul hx hb dX6_at_20 ?_
      refine lv_iload_n hx hb dX6_at_21 rfl (lv_at hl 2 rfl) ?_
      refine lv_iadd hx hb dX6_at_22 ?_
      obtain ⟨r4, er4, hF⟩ := kb hF
      refine wa_lald hx hb hK hP 1 2 rfl rfl er4 dX6_at_23 ?_
      refine lv_goto (tgt := 28) hx hb dX6_at_24 (by decide) ?_
      obtain rfl := Option.some.inj hF
      exact W.lret hx hb hr (fun t ht hW => ⟨rfl, ht⟩) nofun dX6_at_28
abbrev w_Sheets_isMissing (E : kE) (h_t : Nat) (h_t_widths : Nat) (x_t_sizes : Nat) (x_t_numbers : Nat) (c_t_widths : (Nat → Int32)) : va_W := [(h_t, .inr (4, [.ref h_t_widths, .ref x_t_sizes, .ref x_t_numbers])), (h_t_widths, .inl (eI E, 4, .inl c_t_widths))]
set_option maxHeartbeats 4000000 in
set_option maxRecDepth 100000 in
theorem wk_Sheets_isMissing_b16 {p : Program} {l : Launch} {e : Env} {s : State} {m : MethodId} {args : Array Value} {below : List Frame} {meth : Method} {c : Code} (E : kE) (h_t : Nat) (h_t_widths : Nat) (x_t_sizes : Nat) (x_t_numbers : Nat) (c_t_widths : (Nat → Int32)) (a1 : Int32) {out : Int32} (C : kC RX6 cX6_isMissing 2 (some .boolean) p s m args meth c) (hP : va_P (eD E) vwCl (w_Sheets_isMissing E h_t h_t_widths x_t_sizes x_t_numbers c_t_widths) s.heap) (hK : va_K (eD E) vwCl (eT E) s) (hT : sT E (fun _ => False) s s.heap)  :
    f_Sheets_isMissing_b16  c_t_widths a1  = some out → ∀ (ls : Array Slot), lv_has ls 2 [] → W p l e (rm 2) s m args below meth c s.heap [] 0 0 (MQ below (qR (.int out)) args s 0 0 (fun _ => False)) (F0 m 16 ls []) := by
  obtain ⟨hx, hb, hr, hml, hown, hw, hlocks⟩ := id C
  have hS : va_S (fun _ => False) s.heap s.heap [] := va_S.rf
  intro  hF ls hl
  rw [f_Sheets_isMissing_b16] at hF
  refine lv_iconst (v := (1 : Int32)) hx hb dX6_isMissing_16 (by decide) ?_
  refine lv_goto (tgt := 21) hx hb dX6_isMissing_17 (by decide) ?_
  obtain rfl := Option.some.inj hF
  exact W.zret (ty := .boolean) hx hb hr rfl (fun t ht hW => ⟨rfl, ht⟩) nofun dX6_isMissing_21
set_option maxHeartbeats 4000000 in
set_option maxRecDepth 100000 in
theorem k_Sheets_isMissing (l : Launch) (E : kE) (h_t : Nat) (h_t_widths : Nat) (x_t_sizes : Nat) (x_t_numbers : Nat) (c_t_widths : (Nat → Int32)) (a1 : Int32) (out : Int32) (hF : f_Sheets_isMissing c_t_widths a1 = some out) : Met l yX6_isMissing (Cond.code yX6_isMissing cX6_isMissing 2 (some .boolean) :: wG) (rm 2) (pR E (w_Sheets_isMissing E h_t h_t_widths x_t_sizes x_t_numbers c_t_widths) [.ref h_t, .int a1]) (qR (.int out)) 0 0 (fun _ => False) := by
  refine met_R (by decide) (Nat.le_of_ble_eq_true rfl) ?_
  intro p e s m args below meth c ls C hP hK hT hl
  obtain ⟨hx, hb, hr, hml, hown, hw, hlocks⟩ := id C
  have hS : va_S (fun _ => False) s.heap s.heap [] := va_S.rf
  have hl : lv_has ls 2 [(0, .ref h_t), (1, .int a1)] := hl
  rw [f_Sheets_isMissing] at hF
  refine lv_iload_n hx hb dX6_isMissing_0 rfl (lv_at hl 1 rfl) ?_
  obtain ⟨r1, er1, hF⟩ := kb hF
  refine kRS (rest := []) C (k_Sheets_isSheet l E a1 r1 er1) fn_Sheets_isSheet mw_773 ⟨Nat.le_of_ble_eq_true rfl, Nat.le_of_ble_eq_true rfl⟩ hK hT hS hP [] rfl rfl rfl hl (Nat.le_of_ble_eq_true rfl) dX6_isMissing_1 ?_
  refine lv_if_eq (tgt := 16) hx hb dX6_isMissing_4 (by decide) (fun q2 => ?_) (fun q2 => ?_)
  · have hF := kp hF q2
    exact wk_Sheets_isMissing_b16 E h_t h_t_widths x_t_sizes x_t_numbers c_t_widths a1 C hP  hK hT   hF _ (lv_sub hl [] rfl)
  · have hF := kn hF q2
    refine lv_aload_n hx hb dX6_isMissing_7 rfl (lv_at hl 0 rfl) ?_
    refine va_get (D := eD E) (ci := 4) (C := RX6) (T := TX6) (N := 3) (v := .ref h_t_widths) hx hb hw inX6 hown hK hP 0 rfl rfl 0 (by decide) (hw _ mw_170) (fun _ h9 => h9) rfl dX6_isMissing_8 ?_
    refine lv_iload_n hx hb dX6_isMissing_11 rfl (lv_at hl 1 rfl) ?_
    obtain ⟨r3, er3, hF⟩ := kb hF
    refine wa_iald hx hb hK hP 1 0 rfl rfl er3 dX6_isMissing_12 ?_
    refine lv_if_ne (tgt := 20) hx hb dX6_isMissing_13 (by decide) (fun q4 => ?_) (fun q4 => ?_)
    · have hF := kn hF q4
      refine lv_iconst (v := (0 : Int32)) hx hb dX6_isMissing_20 (by decide) ?_
      obtain rfl := Option.some.inj hF
      exact W.zret (ty := .boolean) hx hb hr rfl (fun t ht hW => ⟨rfl, ht⟩) nofun dX6_isMissing_21
    · have hF := kp hF q4
      exact wk_Sheets_isMissing_b16 E h_t h_t_widths x_t_sizes x_t_numbers c_t_widths a1 C hP  hK hT   hF _ (lv_sub hl [] rfl)
abbrev w_Sheets_lowest (E : kE)    : va_W := []
set_option maxHeartbeats 4000000 in
set_option maxRecDepth 100000 in
theorem k_Sheets_lowest (l : Launch) (E : kE)    (a0 : Int32) (a1 : Int64) (out : Int64) (hF : f_Sheets_lowest  a0 a1 = some out) : Met l yX6_lowest (Cond.code yX6_lowest cX6_lowest 3 (some .long) :: wG) (rm 1) (pR E (w_Sheets_lowest E ) [.int a0, .long a1]) (qR (.long out)) 0 0 (fun _ => False) := by
  refine met_R (by decide) (Nat.le_of_ble_eq_true rfl) ?_
  intro p e s m args below meth c ls C hP hK hT hl
  obtain ⟨hx, hb, hr, hml, hown, hw, hlocks⟩ := id C
  have hS : va_S (fun _ => False) s.heap s.heap [] := va_S.rf
  have hl : lv_has ls 3 [(0, .int a0), (1, .long a1)] := hl
  rw [f_Sheets_lowest] at hF
  refine lv_iload_n hx hb dX6_lowest_0 rfl (lv_at hl 0 rfl) ?_
  by_cases q1_8 : a0 = (8 : Int32)
  · have hF := kp hF q1_8
    refine lv_lookup (tgt := 28) (off := 27) hx hb dX6_lowest_1 (by decide) (by rw [q1_8]; decide) (by decide) ?_
    refine lv_lload_n hx hb dX6_lowest_28 rfl (lv_at hl 1 rfl) ?_
    refine lv_l2i (v := a1.toInt32) hx hb dX6_lowest_29 rfl ?_
    refine lv_i2b (v := a1.toInt32.toInt8.toInt32) hx hb dX6_lowest_30 rfl ?_
    refine lv_i2l (v := a1.toInt32.toInt8.toInt32.toInt64) hx hb dX6_lowest_31 rfl ?_
    obtain rfl := Option.some.inj hF
    exact W.lret hx hb hr (fun t ht hW => ⟨rfl, ht⟩) nofun dX6_lowest_32
  have hF := kn hF q1_8
  by_cases q1_16 : a0 = (16 : Int32)
  · have hF := kp hF q1_16
    refine lv_lookup (tgt := 33) (off := 32) hx hb dX6_lowest_1 (by decide) (by rw [q1_16]; decide) (by decide) ?_
    refine lv_lload_n hx hb dX6_lowest_33 rfl (lv_at hl 1 rfl) ?_
    refine lv_l2i (v := a1.toInt32) hx hb dX6_lowest_34 rfl ?_
    refine lv_i2s (v := a1.toInt32.toInt16.toInt32) hx hb dX6_lowest_35 rfl ?_
    refine lv_i2l (v := a1.toInt32.toInt16.toInt32.toInt64) hx hb dX6_lowest_36 rfl ?_
    obtain rfl := Option.some.inj hF
    exact W.lret hx hb hr (fun t ht hW => ⟨rfl, ht⟩) nofun dX6_lowest_37
  have hF := kn hF q1_16
  refine lv_lookup (tgt := 38) (off := 37) hx hb dX6_lowest_1 (by decide) (by rw [show ∀ (r : List (Int × Int)) (o d : Int), Op.lookupswitch.offset ((8, o) :: r) d (a0).toInt = Op.lookupswitch.offset r d (a0).toInt from fun r o d => lv_osw q1_8 (by decide)]; rw [show ∀ (r : List (Int × Int)) (o d : Int), Op.lookupswitch.offset ((16, o) :: r) d (a0).toInt = Op.lookupswitch.offset r d (a0).toInt from fun r o d => lv_osw q1_16 (by decide)]; rfl) (by decide) ?_
  refine lv_lload_n hx hb dX6_lowest_38 rfl (lv_at hl 1 rfl) ?_
  obtain rfl := Option.some.inj hF
  exact W.lret hx hb hr (fun t ht hW => ⟨rfl, ht⟩) nofun dX6_lowest_39
abbrev w_Sheets_put (E : kE) (h_t : Nat) (h_t_numbers : Nat) (h_t_sizes : Nat) (h_t_widths : Nat)  (c_t_numbers : (Nat → Int64)) (c_t_sizes : (Nat → Int32)) (c_t_widths : (Nat → Int32)) : va_W := [(h_t, .inr (4, [.ref h_t_widths, .ref h_t_sizes, .ref h_t_numbers])), (h_t_numbers, .inl (eJ E, 160, .inr (.inl c_t_numbers))), (h_t_sizes, .inl (eI E, 4, .inl c_t_sizes)), (h_t_widths, .inl (eI E, 4, .inl c_t_widths))]
set_option maxHeartbeats 4000000 in
set_option maxRecDepth 100000 in
theorem k_Sheets_put (l : Launch) (E : kE) (h_t : Nat) (h_t_numbers : Nat) (h_t_sizes : Nat) (h_t_widths : Nat)  (sz : Nat) (c_t_numbers : (Nat → Int64)) (c_t_sizes : (Nat → Int32)) (c_t_widths : (Nat → Int32)) (a1 : Int32) (a2 : Int32) (a3 : Int64) (out : (Nat → Int64)) (hF : f_Sheets_put c_t_numbers c_t_sizes c_t_widths a1 a2 a3 = some out) : Met l yX6_put (Cond.code yX6_put cX6_put 5 none :: wG) (rm 3) (pW E (w_Sheets_put E h_t h_t_numbers h_t_sizes h_t_widths c_t_numbers c_t_sizes c_t_widths) sz [.ref h_t, .int a1, .int a2, .long a3]) (qW none E (w_Sheets_put E h_t h_t_numbers h_t_sizes h_t_widths out c_t_sizes c_t_widths) (va_A (w_Sheets_put E h_t h_t_numbers h_t_sizes h_t_widths c_t_numbers c_t_sizes c_t_widths) sz)) 0 0 (va_A (w_Sheets_put E h_t h_t_numbers h_t_sizes h_t_widths c_t_numbers c_t_sizes c_t_widths) sz) := by
  refine met_W (by decide) (Nat.le_of_ble_eq_true rfl) ?_
  intro p e s m args below meth c A ls C hP hD hS hA hK hT hl
  obtain ⟨hx, hb, hr, hml, hown, hw, hlocks⟩ := id C
  have hl : lv_has ls 5 [(0, .ref h_t), (1, .int a1), (2, .int a2), (3, .long a3)] := hl
  rw [f_Sheets_put] at hF
  refine lv_iload_n hx hb dX6_put_0 rfl (lv_at hl 2 rfl) ?_
  refine lv_if_lt (tgt := 34) hx hb dX6_put_1 (by decide) (fun q1 => ?_) (fun q1 => ?_)
  · have hF := kp hF q1
    obtain rfl := Option.some.inj hF
    exact W.vret hx hb hr (fun t ht hW => ⟨⟨rfl, by rw [ht]; exact hP, hD⟩, hS.F ht⟩) hS.2.2 dX6_put_34
  · have hF := kn hF q1
    refine lv_iload_n hx hb dX6_put_4 rfl (lv_at hl 2 rfl) ?_
    refine lv_aload_n hx hb dX6_put_5 rfl (lv_at hl 0 rfl) ?_
    refine lv_iload_n hx hb dX6_put_6 rfl (lv_at hl 1 rfl) ?_
    obtain ⟨r2, er2, hF⟩ := kb hF
    refine kRV (rest := [.int a2]) C (k_Sheets_sizeOf l E h_t h_t_sizes h_t_widths h_t_numbers c_t_sizes a1 r2 er2) fn_Sheets_sizeOf mw_791 ⟨Nat.le_of_ble_eq_true rfl, Nat.le_of_ble_eq_true rfl⟩ hK hT hS (va_recv hK hP (ci := 4) (q0 := 0) rfl rfl) hP [0, 2] rfl rfl rfl hl (Nat.le_of_ble_eq_true rfl) dX6_put_7 ?_
    refine lv_icmp_ge (tgt := 34) hx hb dX6_put_10 (by decide) (fun q3 => ?_) (fun q3 => ?_)
    · have hF := kp hF q3
      obtain rfl := Option.some.inj hF
      exact W.vret hx hb hr (fun t ht hW => ⟨⟨rfl, by rw [ht]; exact hP, hD⟩, hS.F ht⟩) hS.2.2 dX6_put_34
    · have hF := kn hF q3
      refine lv_aload_n hx hb dX6_put_13 rfl (lv_at hl 0 rfl) ?_
      refine va_get (D := eD E) (ci := 4) (C := RX6) (T := TX6) (N := 3) (v := .ref h_t_numbers) hx hb hw inX6 hown hK hP 0 rfl rfl 2 (by decide) (hw _ mw_172) (fun _ h9 => h9) rfl dX6_put_14 ?_
      refine lv_iload_n hx hb dX6_put_17 rfl (lv_at hl 1 rfl) ?_
      refine lv_bipush (v := (40 : Int32)) hx hb dX6_put_18 (by decide) ?_
      refine lv_imul hx hb dX6_put_20 ?_
      refine lv_iload_n hx hb dX6_put_21 rfl (lv_at hl 2 rfl) ?_
      refine lv_iadd hx hb dX6_put_22 ?_
      refine lv_aload_n hx hb dX6_put_23 rfl (lv_at hl 0 rfl) ?_
      refine va_get (D := eD E) (ci := 4) (C := RX6) (T := TX6) (N := 3) (v := .ref h_t_widths) hx hb hw inX6 hown hK hP 0 rfl rfl 0 (by decide) (hw _ mw_170) (fun _ h9 => h9) rfl dX6_put_24 ?_
      refine lv_iload_n hx hb dX6_put_27 rfl (lv_at hl 1 rfl) ?_
      obtain ⟨r4, er4, hF⟩ := kb hF
      refine wa_iald hx hb hK hP 3 0 rfl rfl er4 dX6_put_28 ?_
      refine lv_lload_n hx hb dX6_put_29 rfl (lv_at hl 3 rfl) ?_
      obtain ⟨r5, er5, hF⟩ := kb hF
      refine kRS (rest := [.int ((a1 * (40 : Int32)) + a2), .ref h_t_numbers]) C (k_Sheets_lowest l E r4 a3 r5 er5) fn_Sheets_lowest mw_796 ⟨Nat.le_of_ble_eq_true rfl, Nat.le_of_ble_eq_true rfl⟩ hK hT hS hP [] rfl rfl rfl hl (Nat.le_of_ble_eq_true rfl) dX6_put_30 ?_
      obtain ⟨r6, er6, hF⟩ := kb hF
      refine wa_last hx hb hK hP hD hS 1 2 rfl rfl er6 dX6_put_33 (fun H locs hP hD hS => ?_)
      have hP : va_P (eD E) vwCl (w_Sheets_put E h_t h_t_numbers h_t_sizes h_t_widths r6 c_t_sizes c_t_widths) H := hP
      have hD : va_D A (w_Sheets_put E h_t h_t_numbers h_t_sizes h_t_widths r6 c_t_sizes c_t_widths) := hD
      obtain rfl := Option.some.inj hF
      exact W.vret hx hb hr (fun t ht hW => ⟨⟨rfl, by rw [ht]; exact hP, hD⟩, hS.F ht⟩) hS.2.2 dX6_put_34
abbrev w_Sheets_areAlike (E : kE) (h_t : Nat) (h_t_widths : Nat) (x_t_sizes : Nat) (x_t_numbers : Nat) (c_t_widths : (Nat → Int32)) : va_W := [(h_t, .inr (4, [.ref h_t_widths, .ref x_t_sizes, .ref x_t_numbers])), (h_t_widths, .inl (eI E, 4, .inl c_t_widths))]
set_option maxHeartbeats 4000000 in
set_option maxRecDepth 100000 in
theorem k_Sheets_areAlike (l : Launch) (E : kE) (h_t : Nat) (h_t_widths : Nat) (x_t_sizes : Nat) (x_t_numbers : Nat) (c_t_widths : (Nat → Int32)) (a1 : Int32) (a2 : Int32) (out : Int32) (hF : f_Sheets_areAlike c_t_widths a1 a2 = some out) : Met l yX6_areAlike (Cond.code yX6_areAlike cX6_areAlike 3 (some .boolean) :: wG) (rm 2) (pR E (w_Sheets_areAlike E h_t h_t_widths x_t_sizes x_t_numbers c_t_widths) [.ref h_t, .int a1, .int a2]) (qR (.int out)) 0 0 (fun _ => False) := by
  refine met_R (by decide) (Nat.le_of_ble_eq_true rfl) ?_
  intro p e s m args below meth c ls C hP hK hT hl
  obtain ⟨hx, hb, hr, hml, hown, hw, hlocks⟩ := id C
  have hS : va_S (fun _ => False) s.heap s.heap [] := va_S.rf
  have hl : lv_has ls 3 [(0, .ref h_t), (1, .int a1), (2, .int a2)] := hl
  rw [f_Sheets_areAlike] at hF
  refine lv_iload_n hx hb dX6_areAlike_0 rfl (lv_at hl 1 rfl) ?_
  obtain ⟨r1, er1, hF⟩ := kb hF
  refine kRS (rest := []) C (k_Sheets_isSheet l E a1 r1 er1) fn_Sheets_isSheet mw_773 ⟨Nat.le_of_ble_eq_true rfl, Nat.le_of_ble_eq_true rfl⟩ hK hT hS hP [] rfl rfl rfl hl (Nat.le_of_ble_eq_true rfl) dX6_areAlike_1 ?_
  refine lv_if_eq (tgt := 33) hx hb dX6_areAlike_4 (by decide) (fun q2 => ?_) (fun q2 => ?_)
  · have hF := kp hF q2
    refine lv_iconst (v := (0 : Int32)) hx hb dX6_areAlike_33 (by decide) ?_
    obtain rfl := Option.some.inj hF
    exact W.zret (ty := .boolean) hx hb hr rfl (fun t ht hW => ⟨rfl, ht⟩) nofun dX6_areAlike_34
  · have hF := kn hF q2
    refine lv_iload_n hx hb dX6_areAlike_7 rfl (lv_at hl 2 rfl) ?_
    obtain ⟨r3, er3, hF⟩ := kb hF
    refine kRS (rest := []) C (k_Sheets_isSheet l E a2 r3 er3) fn_Sheets_isSheet mw_773 ⟨Nat.le_of_ble_eq_true rfl, Nat.le_of_ble_eq_true rfl⟩ hK hT hS hP [] rfl rfl rfl hl (Nat.le_of_ble_eq_true rfl) dX6_areAlike_8 ?_
    refine lv_if_eq (tgt := 33) hx hb dX6_areAlike_11 (by decide) (fun q4 => ?_) (fun q4 => ?_)
    · have hF := kp hF q4
      refine lv_iconst (v := (0 : Int32)) hx hb dX6_areAlike_33 (by decide) ?_
      obtain rfl := Option.some.inj hF
      exact W.zret (ty := .boolean) hx hb hr rfl (fun t ht hW => ⟨rfl, ht⟩) nofun dX6_areAlike_34
    · have hF := kn hF q4
      refine lv_aload_n hx hb dX6_areAlike_14 rfl (lv_at hl 0 rfl) ?_
      refine va_get (D := eD E) (ci := 4) (C := RX6) (T := TX6) (N := 3) (v := .ref h_t_widths) hx hb hw inX6 hown hK hP 0 rfl rfl 0 (by decide) (hw _ mw_170) (fun _ h9 => h9) rfl dX6_areAlike_15 ?_
      refine lv_iload_n hx hb dX6_areAlike_18 rfl (lv_at hl 1 rfl) ?_
      obtain ⟨r5, er5, hF⟩ := kb hF
      refine wa_iald hx hb hK hP 1 0 rfl rfl er5 dX6_areAlike_19 ?_
      refine lv_aload_n hx hb dX6_areAlike_20 rfl (lv_at hl 0 rfl) ?_
      refine va_get (D := eD E) (ci := 4) (C := RX6) (T := TX6) (N := 3) (v := .ref h_t_widths) hx hb hw inX6 hown hK hP 0 rfl rfl 0 (by decide) (hw _ mw_170) (fun _ h9 => h9) rfl dX6_areAlike_21 ?_
      refine lv_iload_n hx hb dX6_areAlike_24 rfl (lv_at hl 2 rfl) ?_
      obtain ⟨r6, er6, hF⟩ := kb hF
      refine wa_iald hx hb hK hP 1 0 rfl rfl er6 dX6_areAlike_25 ?_
      refine lv_icmp_ne (tgt := 33) hx hb dX6_areAlike_26 (by decide) (fun q7 => ?_) (fun q7 => ?_)
      · have hF := kn hF q7
        refine lv_iconst (v := (0 : Int32)) hx hb dX6_areAlike_33 (by decide) ?_
        obtain rfl := Option.some.inj hF
        exact W.zret (ty := .boolean) hx hb hr rfl (fun t ht hW => ⟨rfl, ht⟩) nofun dX6_areAlike_34
      · have hF := kp hF q7
        refine lv_iconst (v := (1 : Int32)) hx hb dX6_areAlike_29 (by decide) ?_
        refine lv_goto (tgt := 34) hx hb dX6_areAlike_30 (by decide) ?_
        obtain rfl := Option.some.inj hF
        exact W.zret (ty := .boolean) hx hb hr rfl (fun t ht hW => ⟨rfl, ht⟩) nofun dX6_areAlike_34
abbrev w_Sheets_holds (E : kE) (h_t : Nat) (h_t_sizes : Nat) (x_t_widths : Nat) (x_t_numbers : Nat) (c_t_sizes : (Nat → Int32)) : va_W := [(h_t, .inr (4, [.ref x_t_widths, .ref h_t_sizes, .ref x_t_numbers])), (h_t_sizes, .inl (eI E, 4, .inl c_t_sizes))]
set_option maxHeartbeats 4000000 in
set_option maxRecDepth 100000 in
theorem k_Sheets_holds (l : Launch) (E : kE) (h_t : Nat) (h_t_sizes : Nat) (x_t_widths : Nat) (x_t_numbers : Nat) (c_t_sizes : (Nat → Int32)) (a1 : Int32) (a2 : Int32) (a3 : Int32) (out : Int32) (hF : f_Sheets_holds c_t_sizes a1 a2 a3 = some out) : Met l yX6_holds (Cond.code yX6_holds cX6_holds 5 (some .boolean) :: wG) (rm 3) (pR E (w_Sheets_holds E h_t h_t_sizes x_t_widths x_t_numbers c_t_sizes) [.ref h_t, .int a1, .int a2, .int a3]) (qR (.int out)) 0 0 (fun _ => False) := by
  refine met_R (by decide) (Nat.le_of_ble_eq_true rfl) ?_
  intro p e s m args below meth c ls C hP hK hT hl
  obtain ⟨hx, hb, hr, hml, hown, hw, hlocks⟩ := id C
  have hS : va_S (fun _ => False) s.heap s.heap [] := va_S.rf
  have hl : lv_has ls 5 [(0, .ref h_t), (1, .int a1), (2, .int a2), (3, .int a3)] := hl
  rw [f_Sheets_holds] at hF
  refine lv_aload_n hx hb dX6_holds_0 rfl (lv_at hl 0 rfl) ?_
  refine lv_iload_n hx hb dX6_holds_1 rfl (lv_at hl 1 rfl) ?_
  obtain ⟨r1, er1, hF⟩ := kb hF
  refine kRV (rest := []) C (k_Sheets_sizeOf l E h_t h_t_sizes x_t_widths x_t_numbers c_t_sizes a1 r1 er1) fn_Sheets_sizeOf mw_791 ⟨Nat.le_of_ble_eq_true rfl, Nat.le_of_ble_eq_true rfl⟩ hK hT hS (va_recv hK hP (ci := 4) (q0 := 0) rfl rfl) hP [0, 1] rfl rfl rfl hl (Nat.le_of_ble_eq_true rfl) dX6_holds_2 ?_
  refine lv_istore (lv' := [(4, .int r1), (0, .ref h_t), (1, .int a1), (2, .int a2), (3, .int a3)]) hx hb dX6_holds_5 hl (by decide) rfl (fun ls hl => ?_)
  refine lv_iload_n hx hb dX6_holds_7 rfl (lv_at hl 3 rfl) ?_
  refine lv_if_lt (tgt := 33) hx hb dX6_holds_8 (by decide) (fun q2 => ?_) (fun q2 => ?_)
  · have hF := kp hF q2
    refine lv_iconst (v := (0 : Int32)) hx hb dX6_holds_33 (by decide) ?_
    obtain rfl := Option.some.inj hF
    exact W.zret (ty := .boolean) hx hb hr rfl (fun t ht hW => ⟨rfl, ht⟩) nofun dX6_holds_34
  · have hF := kn hF q2
    refine lv_iload_n hx hb dX6_holds_11 rfl (lv_at hl 4 rfl) ?_
    refine lv_if_lt (tgt := 33) hx hb dX6_holds_12 (by decide) (fun q3 => ?_) (fun q3 => ?_)
    · have hF := kp hF q3
      refine lv_iconst (v := (0 : Int32)) hx hb dX6_holds_33 (by decide) ?_
      obtain rfl := Option.some.inj hF
      exact W.zret (ty := .boolean) hx hb hr rfl (fun t ht hW => ⟨rfl, ht⟩) nofun dX6_holds_34
    · have hF := kn hF q3
      refine lv_iload_n hx hb dX6_holds_15 rfl (lv_at hl 3 rfl) ?_
      refine lv_iload hx hb dX6_holds_16 (lv_at hl 0 rfl) ?_
      refine lv_icmp_gt (tgt := 33) hx hb dX6_holds_18 (by decide) (fun q4 => ?_) (fun q4 => ?_)
      · have hF := kp hF q4
        refine lv_iconst (v := (0 : Int32)) hx hb dX6_holds_33 (by decide) ?_
        obtain rfl := Option.some.inj hF
        exact W.zret (ty := .boolean) hx hb hr rfl (fun t ht hW => ⟨rfl, ht⟩) nofun dX6_holds_34
      · have hF := kn hF q4
        refine lv_iload_n hx hb dX6_holds_21 rfl (lv_at hl 4 rfl) ?_
        refine lv_iload hx hb dX6_holds_22 (lv_at hl 0 rfl) ?_
        refine lv_iload_n hx hb dX6_holds_24 rfl (lv_at hl 3 rfl) ?_
        refine lv_isub hx hb dX6_holds_25 ?_
        refine lv_icmp_gt (tgt := 33) hx hb dX6_holds_26 (by decide) (fun q5 => ?_) (fun q5 => ?_)
        · have hF := kp hF q5
          refine lv_iconst (v := (0 : Int32)) hx hb dX6_holds_33 (by decide) ?_
          obtain rfl := Option.some.inj hF
          exact W.zret (ty := .boolean) hx hb hr rfl (fun t ht hW => ⟨rfl, ht⟩) nofun dX6_holds_34
        · have hF := kn hF q5
          refine lv_iconst (v := (1 : Int32)) hx hb dX6_holds_29 (by decide) ?_
          refine lv_goto (tgt := 34) hx hb dX6_holds_30 (by decide) ?_
          obtain rfl := Option.some.inj hF
          exact W.zret (ty := .boolean) hx hb hr rfl (fun t ht hW => ⟨rfl, ht⟩) nofun dX6_holds_34
abbrev w_Sheets_move (E : kE) (h_t : Nat) (h_t_numbers : Nat) (h_t_sizes : Nat) (x_t_widths : Nat) (c_t_numbers : (Nat → Int64)) (c_t_sizes : (Nat → Int32)) : va_W := [(h_t, .inr (4, [.ref x_t_widths, .ref h_t_sizes, .ref h_t_numbers])), (h_t_numbers, .inl (eJ E, 160, .inr (.inl c_t_numbers))), (h_t_sizes, .inl (eI E, 4, .inl c_t_sizes))]
set_option maxHeartbeats 4000000 in
set_option maxRecDepth 100000 in
theorem k_Sheets_move (l : Launch) (E : kE) (h_t : Nat) (h_t_numbers : Nat) (h_t_sizes : Nat) (x_t_widths : Nat) (sz : Nat) (c_t_numbers : (Nat → Int64)) (c_t_sizes : (Nat → Int32)) (a1 : Int32) (a2 : Int32) (a3 : Int32) (a4 : Int32) (a5 : Int32) (out : (Nat → Int64)) (hF : f_Sheets_move c_t_numbers c_t_sizes a1 a2 a3 a4 a5 = some out) : Met l yX6_move (Cond.code yX6_move cX6_move 6 none :: wG) (rm 4) (pW E (w_Sheets_move E h_t h_t_numbers h_t_sizes x_t_widths c_t_numbers c_t_sizes) sz [.ref h_t, .int a1, .int a2, .int a3, .int a4, .int a5]) (qW none E (w_Sheets_move E h_t h_t_numbers h_t_sizes x_t_widths out c_t_sizes) (va_A (w_Sheets_move E h_t h_t_numbers h_t_sizes x_t_widths c_t_numbers c_t_sizes) sz)) 0 0 (va_A (w_Sheets_move E h_t h_t_numbers h_t_sizes x_t_widths c_t_numbers c_t_sizes) sz) := by
  refine met_W (by decide) (Nat.le_of_ble_eq_true rfl) ?_
  intro p e s m args below meth c A ls C hP hD hS hA hK hT hl
  obtain ⟨hx, hb, hr, hml, hown, hw, hlocks⟩ := id C
  have hl : lv_has ls 6 [(0, .ref h_t), (1, .int a1), (2, .int a2), (3, .int a3), (4, .int a4), (5, .int a5)] := hl
  rw [f_Sheets_move] at hF
  refine lv_aload_n hx hb dX6_move_0 rfl (lv_at hl 0 rfl) ?_
  refine lv_iload_n hx hb dX6_move_1 rfl (lv_at hl 1 rfl) ?_
  refine lv_iload_n hx hb dX6_move_2 rfl (lv_at hl 2 rfl) ?_
  refine lv_iload hx hb dX6_move_3 (lv_at hl 5 rfl) ?_
  obtain ⟨r1, er1, hF⟩ := kb hF
  refine kRV (rest := []) C (k_Sheets_holds l E h_t h_t_sizes x_t_widths h_t_numbers c_t_sizes a1 a2 a5 r1 er1) fn_Sheets_holds mw_815 ⟨Nat.le_of_ble_eq_true rfl, Nat.le_of_ble_eq_true rfl⟩ hK hT hS (va_recv hK hP (ci := 4) (q0 := 0) rfl rfl) hP [0, 2] rfl rfl rfl hl (Nat.le_of_ble_eq_true rfl) dX6_move_5 ?_
  refine lv_if_eq (tgt := 49) hx hb dX6_move_8 (by decide) (fun q2 => ?_) (fun q2 => ?_)
  · have hF := kp hF q2
    obtain rfl := Option.some.inj hF
    exact W.vret hx hb hr (fun t ht hW => ⟨⟨rfl, by rw [ht]; exact hP, hD⟩, hS.F ht⟩) hS.2.2 dX6_move_49
  · have hF := kn hF q2
    refine lv_aload_n hx hb dX6_move_11 rfl (lv_at hl 0 rfl) ?_
    refine lv_iload_n hx hb dX6_move_12 rfl (lv_at hl 3 rfl) ?_
    refine lv_iload hx hb dX6_move_13 (lv_at hl 4 rfl) ?_
    refine lv_iload hx hb dX6_move_15 (lv_at hl 5 rfl) ?_
    obtain ⟨r3, er3, hF⟩ := kb hF
    refine kRV (rest := []) C (k_Sheets_holds l E h_t h_t_sizes x_t_widths h_t_numbers c_t_sizes a3 a4 a5 r3 er3) fn_Sheets_holds mw_815 ⟨Nat.le_of_ble_eq_true rfl, Nat.le_of_ble_eq_true rfl⟩ hK hT hS (va_recv hK hP (ci := 4) (q0 := 0) rfl rfl) hP [0, 2] rfl rfl rfl hl (Nat.le_of_ble_eq_true rfl) dX6_move_17 ?_
    refine lv_if_eq (tgt := 49) hx hb dX6_move_20 (by decide) (fun q4 => ?_) (fun q4 => ?_)
    · have hF := kp hF q4
      obtain rfl := Option.some.inj hF
      exact W.vret hx hb hr (fun t ht hW => ⟨⟨rfl, by rw [ht]; exact hP, hD⟩, hS.F ht⟩) hS.2.2 dX6_move_49
    · have hF := kn hF q4
      refine lv_aload_n hx hb dX6_move_23 rfl (lv_at hl 0 rfl) ?_
      refine va_get (D := eD E) (ci := 4) (C := RX6) (T := TX6) (N := 3) (v := .ref h_t_numbers) hx hb hw inX6 hown hK hP 0 rfl rfl 2 (by decide) (hw _ mw_172) (fun _ h9 => h9) rfl dX6_move_24 ?_
      refine lv_iload_n hx hb dX6_move_27 rfl (lv_at hl 1 rfl) ?_
      refine lv_bipush (v := (40 : Int32)) hx hb dX6_move_28 (by decide) ?_
      refine lv_imul hx hb dX6_move_30 ?_
      refine lv_iload_n hx hb dX6_move_31 rfl (lv_at hl 2 rfl) ?_
      refine lv_iadd hx hb dX6_move_32 ?_
      refine lv_aload_n hx hb dX6_move_33 rfl (lv_at hl 0 rfl) ?_
      refine va_get (D := eD E) (ci := 4) (C := RX6) (T := TX6) (N := 3) (v := .ref h_t_numbers) hx hb hw inX6 hown hK hP 0 rfl rfl 2 (by decide) (hw _ mw_172) (fun _ h9 => h9) rfl dX6_move_34 ?_
      refine lv_iload_n hx hb dX6_move_37 rfl (lv_at hl 3 rfl) ?_
      refine lv_bipush (v := (40 : Int32)) hx hb dX6_move_38 (by decide) ?_
      refine lv_imul hx hb dX6_move_40 ?_
      refine lv_iload hx hb dX6_move_41 (lv_at hl 4 rfl) ?_
      refine lv_iadd hx hb dX6_move_43 ?_
      refine lv_iload hx hb dX6_move_44 (lv_at hl 5 rfl) ?_
      obtain ⟨r5, er5, hF⟩ := kb hF
      obtain ⟨g1r5, g2r5, g3r5, g4r5, g5r5, g6r5⟩ := cpy_some er5
      refine va_copyl hx hb (hml.trans hl.1.symm) hown (hw _ mw_816) (hw _ mw_618) (hw _ mw_617) (hw _ mw_51) hK hP hD hS 1 1 2 2 rfl rfl rfl rfl rfl g1r5 g2r5 g3r5 g4r5 g5r5 (fun _ _ => rfl) (Nat.le_of_ble_eq_true rfl) (Nat.le_of_ble_eq_true rfl) dX6_move_46 (fun H locs hP hD hS => ?_)
      rw [g6r5] at hP hD
      have hP : va_P (eD E) vwCl (w_Sheets_move E h_t h_t_numbers h_t_sizes x_t_widths r5 c_t_sizes) H := hP
      have hD : va_D A (w_Sheets_move E h_t h_t_numbers h_t_sizes x_t_widths r5 c_t_sizes) := hD
      obtain rfl := Option.some.inj hF
      exact W.vret hx hb hr (fun t ht hW => ⟨⟨rfl, by rw [ht]; exact hP, hD⟩, hS.F ht⟩) hS.2.2 dX6_move_49
abbrev w_Sheets_toBook (E : kE) (h_t : Nat) (h_t_numbers : Nat) (h_t_sizes : Nat) (h_p2 : Nat) (h_p2_forms : Nat) (x_t_widths : Nat) (c_t_numbers : (Nat → Int64)) (c_t_sizes : (Nat → Int32)) (c_p2_forms : (Nat → Int32)) : va_W := [(h_t, .inr (4, [.ref x_t_widths, .ref h_t_sizes, .ref h_t_numbers])), (h_t_numbers, .inl (eJ E, 160, .inr (.inl c_t_numbers))), (h_t_sizes, .inl (eI E, 4, .inl c_t_sizes)), (h_p2, .inr (0, [.ref h_p2_forms])), (h_p2_forms, .inl (eI E, 26, .inl c_p2_forms))]
set_option maxHeartbeats 4000000 in
set_option maxRecDepth 100000 in
theorem wk_Sheets_toBook_b17 {p : Program} {l : Launch} {e : Env} {s : State} {m : MethodId} {args : Array Value} {below : List Frame} {meth : Method} {c : Code} {A : Nat → Prop} (E : kE) (h_t : Nat) (h_t_numbers : Nat) (h_t_sizes : Nat) (h_p2 : Nat) (h_p2_forms : Nat) (x_t_widths : Nat) (c_t_numbers : (Nat → Int64)) (c_t_sizes : (Nat → Int32)) (a1 : Int32) {out : Int32 × (Nat → Int32)} (C : kC RX6 cX6_toBook 8 (some .int) p s m args meth c) (hA : ∀ q : Nat, s.heap.size ≤ q → A q) (hK : va_K (eD E) vwCl (eT E) s) (hT : sT E A s s.heap)  :
    ∀ (n : Nat), ∀ (c_p2_forms : (Nat → Int32)) (v3 : Int32) (v4 : Int32) (v5 : Int32), f_Sheets_toBook_b17  c_t_numbers c_t_sizes a1 n c_p2_forms v3 v4 v5 = some out → ∀ (H : Heap) (locs : List Loc), va_P (eD E) vwCl (w_Sheets_toBook E h_t h_t_numbers h_t_sizes h_p2 h_p2_forms x_t_widths c_t_numbers c_t_sizes c_p2_forms) H → va_D A (w_Sheets_toBook E h_t h_t_numbers h_t_sizes h_p2 h_p2_forms x_t_widths c_t_numbers c_t_sizes c_p2_forms) → va_S A s.heap H locs → ∀ (ls : Array Slot), lv_has ls 8 [(0, .ref h_t), (1, .int a1), (2, .ref h_p2), (3, .int v3), (4, .int v4), (5, .int v5)] → W p l e (rm 4) s m args below meth c H locs 0 0 (MQ below (qW (some (.int out.1)) E (w_Sheets_toBook E h_t h_t_numbers h_t_sizes h_p2 h_p2_forms x_t_widths c_t_numbers c_t_sizes out.2) A) args s 0 0 A) (F0 m 17 ls []) := by
  obtain ⟨hx, hb, hr, hml, hown, hw, hlocks⟩ := id C
  intro n
  induction n with
  | zero =>
    intro c_p2_forms v3 v4 v5 hF
    exact absurd (show (none : Option (Int32 × (Nat → Int32))) = some out from hF) nofun
  | succ n ih =>
    intro c_p2_forms v3 v4 v5 hF H locs hP hD hS ls hl
    rw [f_Sheets_toBook_b17] at hF
    refine lv_iload hx hb dX6_toBook_17 (lv_at hl 5 rfl) ?_
    refine lv_iload hx hb dX6_toBook_19 (lv_at hl 4 rfl) ?_
    refine lv_icmp_ge (tgt := 67) hx hb dX6_toBook_21 (by decide) (fun q1 => ?_) (fun q1 => ?_)
    · have hF := kp hF q1
      refine lv_iload_n hx hb dX6_toBook_67 rfl (lv_at hl 3 rfl) ?_
      obtain rfl := Option.some.inj hF
      exact W.iret hx hb hr (fun t ht hW => ⟨⟨rfl, by rw [ht]; exact hP, hD⟩, hS.F ht⟩) hS.2.2 dX6_toBook_68
    · have hF := kn hF q1
      refine lv_aload_n hx hb dX6_toBook_24 rfl (lv_at hl 0 rfl) ?_
      refine lv_iload_n hx hb dX6_toBook_25 rfl (lv_at hl 1 rfl) ?_
      refine lv_iload hx hb dX6_toBook_26 (lv_at hl 5 rfl) ?_
      obtain ⟨r2, er2, hF⟩ := kb hF
      refine kRV (rest := []) C (k_Sheets_at l E h_t h_t_numbers h_t_sizes x_t_widths c_t_numbers c_t_sizes a1 v5 r2 er2) fn_Sheets_at mw_826 ⟨Nat.le_of_ble_eq_true rfl, Nat.le_of_ble_eq_true rfl⟩ hK hT hS (va_recv hK hP (ci := 4) (q0 := 0) rfl rfl) hP [0, 1, 2] rfl rfl rfl hl (Nat.le_of_ble_eq_true rfl) dX6_toBook_28 ?_
      refine lv_lstore (lv' := [(6, .long r2), (0, .ref h_t), (1, .int a1), (2, .ref h_p2), (3, .int v3), (4, .int v4), (5, .int v5)]) hx hb dX6_toBook_31 hl (by decide) rfl (fun ls hl => ?_)
      refine lv_lload hx hb dX6_toBook_33 (lv_at hl 0 rfl) ?_
      refine lv_lconst (v := (0 : Int64)) hx hb dX6_toBook_35 (by decide) ?_
      refine W.lcmp hx hb dX6_toBook_36 ?_
      refine lv_if_lt (tgt := 61) hx hb dX6_toBook_37 (by decide) (fun q3 => ?_) (fun q3 => ?_)
      · have hF := kp hF q3
        refine lv_iinc (v := (v5 + (1))) (lv' := [(5, .int (v5 + (1))), (6, .long r2), (0, .ref h_t), (1, .int a1), (2, .ref h_p2), (3, .int v3), (4, .int v4)]) hx hb dX6_toBook_61 hl (k := 6) rfl rfl (by decide) rfl (fun ls hl => ?_)
        refine lv_goto (tgt := 17) hx hb dX6_toBook_64 (by decide) ?_
        exact ih c_p2_forms v3 v4 (v5 + (1)) hF _ _ hP hD hS _ (lv_sub hl [2, 3, 4, 5, 6, 0] rfl)
      · have hF := kn hF q3
        refine lv_lload hx hb dX6_toBook_40 (lv_at hl 0 rfl) ?_
        refine lv_ldc2 (v := (4095 : Int64)) hx hb hown (hw _ mw_827) dX6_toBook_42 ?_
        refine W.lcmp hx hb dX6_toBook_45 ?_
        refine lv_if_gt (tgt := 61) hx hb dX6_toBook_46 (by decide) (fun q4 => ?_) (fun q4 => ?_)
        · have hF := kp hF q4
          refine lv_iinc (v := (v5 + (1))) (lv' := [(5, .int (v5 + (1))), (6, .long r2), (0, .ref h_t), (1, .int a1), (2, .ref h_p2), (3, .int v3), (4, .int v4)]) hx hb dX6_toBook_61 hl (k := 6) rfl rfl (by decide) rfl (fun ls hl => ?_)
          refine lv_goto (tgt := 17) hx hb dX6_toBook_64 (by decide) ?_
          exact ih c_p2_forms v3 v4 (v5 + (1)) hF _ _ hP hD hS _ (lv_sub hl [2, 3, 4, 5, 6, 0] rfl)
        · have hF := kn hF q4
          refine lv_aload_n hx hb dX6_toBook_49 rfl (lv_at hl 3 rfl) ?_
          refine lv_iload hx hb dX6_toBook_50 (lv_at hl 6 rfl) ?_
          refine lv_lload hx hb dX6_toBook_52 (lv_at hl 0 rfl) ?_
          refine lv_l2i (v := r2.toInt32) hx hb dX6_toBook_54 rfl ?_
          obtain ⟨r5, er5, hF⟩ := kb hF
          refine kWV (rest := []) (Wr := [(h_t, .inr (4, [.ref x_t_widths, .ref h_t_sizes, .ref h_t_numbers])), (h_t_numbers, .inl (eJ E, 160, .inr (.inl c_t_numbers))), (h_t_sizes, .inl (eI E, 4, .inl c_t_sizes))]) (Wn := (w_Sheets_toBook E h_t h_t_numbers h_t_sizes h_p2 h_p2_forms x_t_widths c_t_numbers c_t_sizes r5)) C (k_Book_put l E h_p2 h_p2_forms H.size c_p2_forms v5 r2.toInt32 r5 er5) fn_Book_put mw_828 ⟨Nat.le_of_ble_eq_true rfl, Nat.le_of_ble_eq_true rfl⟩ hK hT hS hA (va_recv hK hP (ci := 0) (q0 := 3) rfl rfl) hP hD [3, 4] rfl (by decide) [0, 1, 2] rfl (by decide) (by decide) [0, 1, 2, 3, 4] rfl (by decide) rfl rfl hl (Nat.le_of_ble_eq_true rfl) dX6_toBook_55 (fun H locs hP hD hS => ?_)
          refine W.eq (g2 := F0 m 58 ls []) rfl ?_
          refine lv_iinc (v := (v3 + (1))) (lv' := [(3, .int (v3 + (1))), (6, .long r2), (0, .ref h_t), (1, .int a1), (2, .ref h_p2), (4, .int v4), (5, .int v5)]) hx hb dX6_toBook_58 hl (k := 4) rfl rfl (by decide) rfl (fun ls hl => ?_)
          refine lv_iinc (v := (v5 + (1))) (lv' := [(5, .int (v5 + (1))), (3, .int (v3 + (1))), (6, .long r2), (0, .ref h_t), (1, .int a1), (2, .ref h_p2), (4, .int v4)]) hx hb dX6_toBook_61 hl (k := 6) rfl rfl (by decide) rfl (fun ls hl => ?_)
          refine lv_goto (tgt := 17) hx hb dX6_toBook_64 (by decide) ?_
          exact ih r5 (v3 + (1)) v4 (v5 + (1)) hF _ _ hP hD hS _ (lv_sub hl [3, 4, 5, 1, 6, 0] rfl)
set_option maxHeartbeats 4000000 in
set_option maxRecDepth 100000 in
theorem k_Sheets_toBook (l : Launch) (E : kE) (h_t : Nat) (h_t_numbers : Nat) (h_t_sizes : Nat) (h_p2 : Nat) (h_p2_forms : Nat) (x_t_widths : Nat) (sz : Nat) (c_t_numbers : (Nat → Int64)) (c_t_sizes : (Nat → Int32)) (c_p2_forms : (Nat → Int32)) (a1 : Int32) (out : Int32 × (Nat → Int32)) (hF : f_Sheets_toBook c_t_numbers c_t_sizes c_p2_forms a1 = some out) : Met l yX6_toBook (Cond.code yX6_toBook cX6_toBook 8 (some .int) :: wG) (rm 4) (pW E (w_Sheets_toBook E h_t h_t_numbers h_t_sizes h_p2 h_p2_forms x_t_widths c_t_numbers c_t_sizes c_p2_forms) sz [.ref h_t, .int a1, .ref h_p2]) (qW (some (.int out.1)) E (w_Sheets_toBook E h_t h_t_numbers h_t_sizes h_p2 h_p2_forms x_t_widths c_t_numbers c_t_sizes out.2) (va_A (w_Sheets_toBook E h_t h_t_numbers h_t_sizes h_p2 h_p2_forms x_t_widths c_t_numbers c_t_sizes c_p2_forms) sz)) 0 0 (va_A (w_Sheets_toBook E h_t h_t_numbers h_t_sizes h_p2 h_p2_forms x_t_widths c_t_numbers c_t_sizes c_p2_forms) sz) := by
  refine met_W (by decide) (Nat.le_of_ble_eq_true rfl) ?_
  intro p e s m args below meth c A ls C hP hD hS hA hK hT hl
  obtain ⟨hx, hb, hr, hml, hown, hw, hlocks⟩ := id C
  have hl : lv_has ls 8 [(0, .ref h_t), (1, .int a1), (2, .ref h_p2)] := hl
  rw [f_Sheets_toBook] at hF
  refine lv_iconst (v := (0 : Int32)) hx hb dX6_toBook_0 (by decide) ?_
  refine lv_istore_n (lv' := [(3, .int (0 : Int32)), (0, .ref h_t), (1, .int a1), (2, .ref h_p2)]) hx hb dX6_toBook_1 rfl hl (by decide) rfl (fun ls hl => ?_)
  refine lv_aload_n hx hb dX6_toBook_2 rfl (lv_at hl 1 rfl) ?_
  refine lv_iload_n hx hb dX6_toBook_3 rfl (lv_at hl 2 rfl) ?_
  obtain ⟨r6, er6, hF⟩ := kb hF
  refine kRV (rest := []) C (k_Sheets_sizeOf l E h_t h_t_sizes x_t_widths h_t_numbers c_t_sizes a1 r6 er6) fn_Sheets_sizeOf mw_791 ⟨Nat.le_of_ble_eq_true rfl, Nat.le_of_ble_eq_true rfl⟩ hK hT hS (va_recv hK hP (ci := 4) (q0 := 0) rfl rfl) hP [0, 2] rfl rfl rfl hl (Nat.le_of_ble_eq_true rfl) dX6_toBook_4 ?_
  refine lv_bipush (v := (26 : Int32)) hx hb dX6_toBook_7 (by decide) ?_
  refine va_mmin hx hb (hml.trans hl.1.symm) hown (hw _ mw_825) (hw _ mw_711) (hw _ mw_49) (hw _ mw_712) (Nat.le_of_ble_eq_true rfl) (Nat.le_of_ble_eq_true rfl) (Nat.zero_le _) (Nat.zero_le _) dX6_toBook_9 ?_
  refine lv_istore (lv' := [(4, .int (if (26 : Int32) < r6 then (26 : Int32) else r6)), (3, .int (0 : Int32)), (0, .ref h_t), (1, .int a1), (2, .ref h_p2)]) hx hb dX6_toBook_12 hl (by decide) rfl (fun ls hl => ?_)
  refine lv_iconst (v := (0 : Int32)) hx hb dX6_toBook_14 (by decide) ?_
  refine lv_istore (lv' := [(5, .int (0 : Int32)), (4, .int (if (26 : Int32) < r6 then (26 : Int32) else r6)), (3, .int (0 : Int32)), (0, .ref h_t), (1, .int a1), (2, .ref h_p2)]) hx hb dX6_toBook_15 hl (by decide) rfl (fun ls hl => ?_)
  exact wk_Sheets_toBook_b17 E h_t h_t_numbers h_t_sizes h_p2 h_p2_forms x_t_widths c_t_numbers c_t_sizes a1 C hA  hK hT  5000 c_p2_forms (0 : Int32) (if (26 : Int32) < r6 then (26 : Int32) else r6) (0 : Int32) hF _ _ hP hD hS _ (lv_sub hl [3, 4, 5, 2, 1, 0] rfl)
abbrev w_Sheets_walkOver (E : kE) (h_t : Nat) (h_t_numbers : Nat) (h_t_sizes : Nat) (x_t_widths : Nat) (c_t_numbers : (Nat → Int64)) (c_t_sizes : (Nat → Int32)) : va_W := [(h_t, .inr (4, [.ref x_t_widths, .ref h_t_sizes, .ref h_t_numbers])), (h_t_numbers, .inl (eJ E, 160, .inr (.inl c_t_numbers))), (h_t_sizes, .inl (eI E, 4, .inl c_t_sizes))]
set_option maxHeartbeats 4000000 in
set_option maxRecDepth 100000 in
theorem wk_Sheets_walkOver_b79 {p : Program} {l : Launch} {e : Env} {s : State} {m : MethodId} {args : Array Value} {below : List Frame} {meth : Method} {c : Code} (E : kE) (h_t : Nat) (h_t_numbers : Nat) (h_t_sizes : Nat) (x_t_widths : Nat) (c_t_numbers : (Nat → Int64)) (c_t_sizes : (Nat → Int32)) (a1 : Int32) (a2 : Int32) {out : Int32} (C : kC RX6 cX6_walkOver 7 (some .int) p s m args meth c) (hP : va_P (eD E) vwCl (w_Sheets_walkOver E h_t h_t_numbers h_t_sizes x_t_widths c_t_numbers c_t_sizes) s.heap) (hK : va_K (eD E) vwCl (eT E) s) (hT : sT E (fun _ => False) s s.heap)  :
    ∀ (v5 : Int32), f_Sheets_walkOver_b79  c_t_numbers c_t_sizes a1 a2 v5 = some out → ∀ (ls : Array Slot), lv_has ls 7 [(5, .int v5)] → W p l e (rm 4) s m args below meth c s.heap [] 0 0 (MQ below (qR (.int out)) args s 0 0 (fun _ => False)) (F0 m 79 ls []) := by
  obtain ⟨hx, hb, hr, hml, hown, hw, hlocks⟩ := id C
  have hS : va_S (fun _ => False) s.heap s.heap [] := va_S.rf
  intro v5 hF ls hl
  rw [f_Sheets_walkOver_b79] at hF
  refine lv_iconst (v := (1 : Int32)) hx hb dX6_walkOver_79 (by decide) ?_
  refine lv_iload hx hb dX6_walkOver_80 (lv_at hl 0 rfl) ?_
  refine lv_iadd hx hb dX6_walkOver_82 ?_
  obtain rfl := Option.some.inj hF
  exact W.iret hx hb hr (fun t ht hW => ⟨rfl, ht⟩) nofun dX6_walkOver_83
set_option maxHeartbeats 4000000 in
set_option maxRecDepth 100000 in
theorem wk_Sheets_walkOver_b12 {p : Program} {l : Launch} {e : Env} {s : State} {m : MethodId} {args : Array Value} {below : List Frame} {meth : Method} {c : Code} (E : kE) (h_t : Nat) (h_t_numbers : Nat) (h_t_sizes : Nat) (x_t_widths : Nat) (c_t_numbers : (Nat → Int64)) (c_t_sizes : (Nat → Int32)) (a1 : Int32) (a2 : Int32) {out : Int32} (C : kC RX6 cX6_walkOver 7 (some .int) p s m args meth c) (hP : va_P (eD E) vwCl (w_Sheets_walkOver E h_t h_t_numbers h_t_sizes x_t_widths c_t_numbers c_t_sizes) s.heap) (hK : va_K (eD E) vwCl (eT E) s) (hT : sT E (fun _ => False) s s.heap)  :
    ∀ (n : Nat), ∀ (v3 : Int32) (v4 : Int32) (v5 : Int32), f_Sheets_walkOver_b12  c_t_numbers c_t_sizes a1 a2 n v3 v4 v5 = some out → ∀ (ls : Array Slot), lv_has ls 7 [(0, .ref h_t), (1, .int a1), (3, .int v3), (4, .int v4), (5, .int v5)] → W p l e (rm 4) s m args below meth c s.heap [] 0 0 (MQ below (qR (.int out)) args s 0 0 (fun _ => False)) (F0 m 12 ls []) := by
  obtain ⟨hx, hb, hr, hml, hown, hw, hlocks⟩ := id C
  have hS : va_S (fun _ => False) s.heap s.heap [] := va_S.rf
  intro n
  induction n with
  | zero =>
    intro v3 v4 v5 hF
    exact absurd (show (none : Option (Int32)) = some out from hF) nofun
  | succ n ih =>
    intro v3 v4 v5 hF ls hl
    rw [f_Sheets_walkOver_b12] at hF
    refine lv_iload hx hb dX6_walkOver_12 (lv_at hl 4 rfl) ?_
    refine lv_iload_n hx hb dX6_walkOver_14 rfl (lv_at hl 2 rfl) ?_
    refine lv_icmp_ge (tgt := 101) hx hb dX6_walkOver_15 (by decide) (fun q1 => ?_) (fun q1 => ?_)
    · have hF := kp hF q1
      refine lv_iload hx hb dX6_walkOver_101 (lv_at hl 3 rfl) ?_
      refine lv_if_ne (tgt := 110) hx hb dX6_walkOver_103 (by decide) (fun q2 => ?_) (fun q2 => ?_)
      · have hF := kn hF q2
        refine lv_iconst (v := (1 : Int32)) hx hb dX6_walkOver_110 (by decide) ?_
        refine lv_iload_n hx hb dX6_walkOver_111 rfl (lv_at hl 2 rfl) ?_
        refine lv_iadd hx hb dX6_walkOver_112 ?_
        obtain rfl := Option.some.inj hF
        exact W.iret hx hb hr (fun t ht hW => ⟨rfl, ht⟩) nofun dX6_walkOver_113
      · have hF := kp hF q2
        refine lv_iconst (v := (0 : Int32)) hx hb dX6_walkOver_106 (by decide) ?_
        refine lv_goto (tgt := 113) hx hb dX6_walkOver_107 (by decide) ?_
        obtain rfl := Option.some.inj hF
        exact W.iret hx hb hr (fun t ht hW => ⟨rfl, ht⟩) nofun dX6_walkOver_113
    · have hF := kn hF q1
      refine lv_aload_n hx hb dX6_walkOver_18 rfl (lv_at hl 0 rfl) ?_
      refine lv_iload_n hx hb dX6_walkOver_19 rfl (lv_at hl 1 rfl) ?_
      refine lv_iload hx hb dX6_walkOver_20 (lv_at hl 4 rfl) ?_
      obtain ⟨r3, er3, hF⟩ := kb hF
      refine kRV (rest := []) C (k_Sheets_at l E h_t h_t_numbers h_t_sizes x_t_widths c_t_numbers c_t_sizes a1 v5 r3 er3) fn_Sheets_at mw_826 ⟨Nat.le_of_ble_eq_true rfl, Nat.le_of_ble_eq_true rfl⟩ hK hT hS (va_recv hK hP (ci := 4) (q0 := 0) rfl rfl) hP [0, 1, 2] rfl rfl rfl hl (Nat.le_of_ble_eq_true rfl) dX6_walkOver_22 ?_
      obtain ⟨r4, er4, hF⟩ := kb hF
      refine kRS (rest := []) C (k_Forms_isPoint l E r3 r4 er4) fn_Forms_isPoint mw_842 ⟨Nat.le_of_ble_eq_true rfl, Nat.le_of_ble_eq_true rfl⟩ hK hT hS hP [] rfl rfl rfl hl (Nat.le_of_ble_eq_true rfl) dX6_walkOver_25 ?_
      refine lv_if_ne (tgt := 36) hx hb dX6_walkOver_28 (by decide) (fun q5 => ?_) (fun q5 => ?_)
      · have hF := kn hF q5
        refine lv_iload hx hb dX6_walkOver_36 (lv_at hl 4 rfl) ?_
        refine lv_if_le (tgt := 95) hx hb dX6_walkOver_38 (by decide) (fun q6 => ?_) (fun q6 => ?_)
        · have hF := kp hF q6
          refine lv_iinc (v := (v5 + (1))) (lv' := [(5, .int (v5 + (1))), (0, .ref h_t), (1, .int a1), (3, .int v3), (4, .int v4)]) hx hb dX6_walkOver_95 hl (k := 4) rfl rfl (by decide) rfl (fun ls hl => ?_)
          refine lv_goto (tgt := 12) hx hb dX6_walkOver_98 (by decide) ?_
          exact ih v3 v4 (v5 + (1)) hF _ (lv_sub hl [1, 2, 3, 4, 0] rfl)
        · have hF := kn hF q6
          refine lv_aload_n hx hb dX6_walkOver_41 rfl (lv_at hl 0 rfl) ?_
          refine lv_iload_n hx hb dX6_walkOver_42 rfl (lv_at hl 1 rfl) ?_
          refine lv_iload hx hb dX6_walkOver_43 (lv_at hl 4 rfl) ?_
          refine lv_iconst (v := (1 : Int32)) hx hb dX6_walkOver_45 (by decide) ?_
          refine lv_isub hx hb dX6_walkOver_46 ?_
          obtain ⟨r7, er7, hF⟩ := kb hF
          refine kRV (rest := []) C (k_Sheets_at l E h_t h_t_numbers h_t_sizes x_t_widths c_t_numbers c_t_sizes a1 (v5 - (1 : Int32)) r7 er7) fn_Sheets_at mw_826 ⟨Nat.le_of_ble_eq_true rfl, Nat.le_of_ble_eq_true rfl⟩ hK hT hS (va_recv hK hP (ci := 4) (q0 := 0) rfl rfl) hP [0, 1, 2] rfl rfl rfl hl (Nat.le_of_ble_eq_true rfl) dX6_walkOver_47 ?_
          refine lv_l2i (v := r7.toInt32) hx hb dX6_walkOver_50 rfl ?_
          refine lv_aload_n hx hb dX6_walkOver_51 rfl (lv_at hl 0 rfl) ?_
          refine lv_iload_n hx hb dX6_walkOver_52 rfl (lv_at hl 1 rfl) ?_
          refine lv_iload hx hb dX6_walkOver_53 (lv_at hl 4 rfl) ?_
          obtain ⟨r8, er8, hF⟩ := kb hF
          refine kRV (rest := [.int r7.toInt32]) C (k_Sheets_at l E h_t h_t_numbers h_t_sizes x_t_widths c_t_numbers c_t_sizes a1 v5 r8 er8) fn_Sheets_at mw_826 ⟨Nat.le_of_ble_eq_true rfl, Nat.le_of_ble_eq_true rfl⟩ hK hT hS (va_recv hK hP (ci := 4) (q0 := 0) rfl rfl) hP [0, 1, 2] rfl rfl rfl hl (Nat.le_of_ble_eq_true rfl) dX6_walkOver_55 ?_
          refine lv_l2i (v := r8.toInt32) hx hb dX6_walkOver_58 rfl ?_
          obtain ⟨r9, er9, hF⟩ := kb hF
          refine kRS (rest := []) C (k_Forms_between l E r7.toInt32 r8.toInt32 r9 er9) fn_Forms_between mw_843 ⟨Nat.le_of_ble_eq_true rfl, Nat.le_of_ble_eq_true rfl⟩ hK hT hS hP [] rfl rfl rfl hl (Nat.le_of_ble_eq_true rfl) dX6_walkOver_59 ?_
          refine lv_istore (lv' := [(6, .int r9), (0, .ref h_t), (1, .int a1), (3, .int v3), (4, .int v4), (5, .int v5)]) hx hb dX6_walkOver_62 hl (by decide) rfl (fun ls hl => ?_)
          refine lv_iload hx hb dX6_walkOver_64 (lv_at hl 0 rfl) ?_
          refine lv_if_lt (tgt := 79) hx hb dX6_walkOver_66 (by decide) (fun q10 => ?_) (fun q10 => ?_)
          · have hF := kp hF q10
            exact wk_Sheets_walkOver_b79 E h_t h_t_numbers h_t_sizes x_t_widths c_t_numbers c_t_sizes a1 a2 C hP  hK hT  v5 hF _ (lv_sub hl [5] rfl)
          · have hF := kn hF q10
            refine lv_iload hx hb dX6_walkOver_69 (lv_at hl 4 rfl) ?_
            refine lv_iload hx hb dX6_walkOver_71 (lv_at hl 0 rfl) ?_
            obtain ⟨r11, er11, hF⟩ := kb hF
            refine kRS (rest := []) C (k_Forms_hasStroke l E v4 r9 r11 er11) fn_Forms_hasStroke mw_846 ⟨Nat.le_of_ble_eq_true rfl, Nat.le_of_ble_eq_true rfl⟩ hK hT hS hP [] rfl rfl rfl hl (Nat.le_of_ble_eq_true rfl) dX6_walkOver_73 ?_
            refine lv_if_ne (tgt := 84) hx hb dX6_walkOver_76 (by decide) (fun q12 => ?_) (fun q12 => ?_)
            · have hF := kn hF q12
              refine lv_iload hx hb dX6_walkOver_84 (lv_at hl 4 rfl) ?_
              refine lv_iconst (v := (1 : Int32)) hx hb dX6_walkOver_86 (by decide) ?_
              refine lv_iload hx hb dX6_walkOver_87 (lv_at hl 0 rfl) ?_
              refine lv_ishl hx hb dX6_walkOver_89 ?_
              refine lv_iconst (v := (-1 : Int32)) hx hb dX6_walkOver_90 (by decide) ?_
              refine lv_ixor hx hb dX6_walkOver_91 ?_
              refine lv_iand hx hb dX6_walkOver_92 ?_
              refine lv_istore (lv' := [(4, .int (v4 &&& (((1 : Int32) <<< (r9 &&& 31)) ^^^ (-1 : Int32)))), (6, .int r9), (0, .ref h_t), (1, .int a1), (3, .int v3), (5, .int v5)]) hx hb dX6_walkOver_93 hl (by decide) rfl (fun ls hl => ?_)
              refine lv_iinc (v := (v5 + (1))) (lv' := [(5, .int (v5 + (1))), (4, .int (v4 &&& (((1 : Int32) <<< (r9 &&& 31)) ^^^ (-1 : Int32)))), (6, .int r9), (0, .ref h_t), (1, .int a1), (3, .int v3)]) hx hb dX6_walkOver_95 hl (k := 5) rfl rfl (by decide) rfl (fun ls hl => ?_)
              refine lv_goto (tgt := 12) hx hb dX6_walkOver_98 (by decide) ?_
              exact ih v3 (v4 &&& (((1 : Int32) <<< (r9 &&& 31)) ^^^ (-1 : Int32))) (v5 + (1)) hF _ (lv_sub hl [3, 4, 5, 1, 0] rfl)
            · have hF := kp hF q12
              exact wk_Sheets_walkOver_b79 E h_t h_t_numbers h_t_sizes x_t_widths c_t_numbers c_t_sizes a1 a2 C hP  hK hT  v5 hF _ (lv_sub hl [5] rfl)
      · have hF := kp hF q5
        refine lv_iconst (v := (1 : Int32)) hx hb dX6_walkOver_31 (by decide) ?_
        refine lv_iload hx hb dX6_walkOver_32 (lv_at hl 4 rfl) ?_
        refine lv_iadd hx hb dX6_walkOver_34 ?_
        obtain rfl := Option.some.inj hF
        exact W.iret hx hb hr (fun t ht hW => ⟨rfl, ht⟩) nofun dX6_walkOver_35
set_option maxHeartbeats 4000000 in
set_option maxRecDepth 100000 in
theorem k_Sheets_walkOver (l : Launch) (E : kE) (h_t : Nat) (h_t_numbers : Nat) (h_t_sizes : Nat) (x_t_widths : Nat) (c_t_numbers : (Nat → Int64)) (c_t_sizes : (Nat → Int32)) (a1 : Int32) (a2 : Int32) (out : Int32) (hF : f_Sheets_walkOver c_t_numbers c_t_sizes a1 a2 = some out) : Met l yX6_walkOver (Cond.code yX6_walkOver cX6_walkOver 7 (some .int) :: wG) (rm 4) (pR E (w_Sheets_walkOver E h_t h_t_numbers h_t_sizes x_t_widths c_t_numbers c_t_sizes) [.ref h_t, .int a1, .int a2]) (qR (.int out)) 0 0 (fun _ => False) := by
  refine met_R (by decide) (Nat.le_of_ble_eq_true rfl) ?_
  intro p e s m args below meth c ls C hP hK hT hl
  obtain ⟨hx, hb, hr, hml, hown, hw, hlocks⟩ := id C
  have hS : va_S (fun _ => False) s.heap s.heap [] := va_S.rf
  have hl : lv_has ls 7 [(0, .ref h_t), (1, .int a1), (2, .int a2)] := hl
  rw [f_Sheets_walkOver] at hF
  refine lv_aload_n hx hb dX6_walkOver_0 rfl (lv_at hl 0 rfl) ?_
  refine lv_iload_n hx hb dX6_walkOver_1 rfl (lv_at hl 1 rfl) ?_
  obtain ⟨r13, er13, hF⟩ := kb hF
  refine kRV (rest := []) C (k_Sheets_sizeOf l E h_t h_t_sizes x_t_widths h_t_numbers c_t_sizes a1 r13 er13) fn_Sheets_sizeOf mw_791 ⟨Nat.le_of_ble_eq_true rfl, Nat.le_of_ble_eq_true rfl⟩ hK hT hS (va_recv hK hP (ci := 4) (q0 := 0) rfl rfl) hP [0, 2] rfl rfl rfl hl (Nat.le_of_ble_eq_true rfl) dX6_walkOver_2 ?_
  refine lv_istore_n (lv' := [(3, .int r13), (0, .ref h_t), (1, .int a1), (2, .int a2)]) hx hb dX6_walkOver_5 rfl hl (by decide) rfl (fun ls hl => ?_)
  refine lv_iload_n hx hb dX6_walkOver_6 rfl (lv_at hl 3 rfl) ?_
  refine lv_istore (lv' := [(4, .int a2), (3, .int r13), (0, .ref h_t), (1, .int a1), (2, .int a2)]) hx hb dX6_walkOver_7 hl (by decide) rfl (fun ls hl => ?_)
  refine lv_iconst (v := (0 : Int32)) hx hb dX6_walkOver_9 (by decide) ?_
  refine lv_istore (lv' := [(5, .int (0 : Int32)), (4, .int a2), (3, .int r13), (0, .ref h_t), (1, .int a1), (2, .int a2)]) hx hb dX6_walkOver_10 hl (by decide) rfl (fun ls hl => ?_)
  exact wk_Sheets_walkOver_b12 E h_t h_t_numbers h_t_sizes x_t_widths c_t_numbers c_t_sizes a1 a2 C hP  hK hT  5000 r13 a2 (0 : Int32) hF _ (lv_sub hl [3, 4, 2, 1, 0] rfl)
