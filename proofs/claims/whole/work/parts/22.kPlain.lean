abbrev w_Plain_isFull (E : kE) (h_t : Nat) (x_t_book : Nat) (x_t_kinds : Nat) (x_t_forms : Nat) (x_t_deeps : Nat) (c_t_size : Int32) (c_t_hour : Int32) (c_t_sunny : Int32) : va_W := [(h_t, .inr (3, [.ref x_t_book, .ref x_t_kinds, .ref x_t_forms, .ref x_t_deeps, .int c_t_size, .int c_t_hour, .int c_t_sunny]))]
set_option maxHeartbeats 4000000 in
set_option maxRecDepth 100000 in
theorem k_Plain_isFull (l : Launch) (E : kE) (h_t : Nat) (x_t_book : Nat) (x_t_kinds : Nat) (x_t_forms : Nat) (x_t_deeps : Nat) (c_t_size : Int32) (c_t_hour : Int32) (c_t_sunny : Int32)  (out : Int32) (hF : f_Plain_isFull c_t_size  = some out) : Met l yX5_isFull (Cond.code yX5_isFull cX5_isFull 1 (some .boolean) :: wG) (rm 1) (pR E (w_Plain_isFull E h_t x_t_book x_t_kinds x_t_forms x_t_deeps c_t_size c_t_hour c_t_sunny) [.ref h_t]) (qR (.int out)) 0 0 (fun _ => False) := by
  refine met_R (by decide) (Nat.le_of_ble_eq_true rfl) ?_
  intro p e s m args below meth c ls C hP hK hT hl
  obtain ⟨hx, hb, hr, hml, hown, hw, hlocks⟩ := id C
  have hS : va_S (fun _ => False) s.heap s.heap [] := va_S.rf
  have hl : lv_has ls 1 [(0, .ref h_t)] := hl
  rw [f_Plain_isFull] at hF
  refine lv_aload_n hx hb dX5_isFull_0 rfl (lv_at hl 0 rfl) ?_
  refine va_get (D := eD E) (ci := 3) (C := RX5) (T := TX5) (N := 7) (v := .int c_t_size) hx hb hw inX5 hown hK hP 0 rfl rfl 4 (by decide) (hw _ mw_91) (fun _ h9 => h9) rfl dX5_isFull_1 ?_
  refine lv_bipush (v := (12 : Int32)) hx hb dX5_isFull_4 (by decide) ?_
  refine lv_icmp_lt (tgt := 13) hx hb dX5_isFull_6 (by decide) (fun q1 => ?_) (fun q1 => ?_)
  · have hF := kp hF q1
    refine lv_iconst (v := (0 : Int32)) hx hb dX5_isFull_13 (by decide) ?_
    obtain rfl := Option.some.inj hF
    exact W.zret (ty := .boolean) hx hb hr rfl (fun t ht hW => ⟨rfl, ht⟩) nofun dX5_isFull_14
  · have hF := kn hF q1
    refine lv_iconst (v := (1 : Int32)) hx hb dX5_isFull_9 (by decide) ?_
    refine lv_goto (tgt := 14) hx hb dX5_isFull_10 (by decide) ?_
    obtain rfl := Option.some.inj hF
    exact W.zret (ty := .boolean) hx hb hr rfl (fun t ht hW => ⟨rfl, ht⟩) nofun dX5_isFull_14
abbrev w_Plain_add (E : kE) (h_t : Nat) (h_t_deeps : Nat) (h_t_forms : Nat) (h_t_kinds : Nat) (x_t_book : Nat) (c_t_size : Int32) (c_t_hour : Int32) (c_t_sunny : Int32) (c_t_deeps : (Nat → Int32)) (c_t_forms : (Nat → Int32)) (c_t_kinds : (Nat → Int32)) : va_W := [(h_t, .inr (3, [.ref x_t_book, .ref h_t_kinds, .ref h_t_forms, .ref h_t_deeps, .int c_t_size, .int c_t_hour, .int c_t_sunny])), (h_t_deeps, .inl (eI E, 12, .inl c_t_deeps)), (h_t_forms, .inl (eI E, 12, .inl c_t_forms)), (h_t_kinds, .inl (eI E, 12, .inl c_t_kinds))]
set_option maxHeartbeats 4000000 in
set_option maxRecDepth 100000 in
theorem k_Plain_add (l : Launch) (E : kE) (h_t : Nat) (h_t_deeps : Nat) (h_t_forms : Nat) (h_t_kinds : Nat) (x_t_book : Nat) (sz : Nat) (c_t_size : Int32) (c_t_hour : Int32) (c_t_sunny : Int32) (c_t_deeps : (Nat → Int32)) (c_t_forms : (Nat → Int32)) (c_t_kinds : (Nat → Int32)) (a1 : Int32) (a2 : Int32) (a3 : Int32) (out : Int32 × Int32 × (Nat → Int32) × (Nat → Int32) × (Nat → Int32)) (hF : f_Plain_add c_t_size c_t_deeps c_t_forms c_t_kinds a1 a2 a3 = some out) : Met l yX5_add (Cond.code yX5_add cX5_add 4 (some .int) :: wG) (rm 2) (pW E (w_Plain_add E h_t h_t_deeps h_t_forms h_t_kinds x_t_book c_t_size c_t_hour c_t_sunny c_t_deeps c_t_forms c_t_kinds) sz [.ref h_t, .int a1, .int a2, .int a3]) (qW (some (.int out.1)) E (w_Plain_add E h_t h_t_deeps h_t_forms h_t_kinds x_t_book out.2.1 c_t_hour c_t_sunny out.2.2.1 out.2.2.2.1 out.2.2.2.2) (va_A (w_Plain_add E h_t h_t_deeps h_t_forms h_t_kinds x_t_book c_t_size c_t_hour c_t_sunny c_t_deeps c_t_forms c_t_kinds) sz)) 0 0 (va_A (w_Plain_add E h_t h_t_deeps h_t_forms h_t_kinds x_t_book c_t_size c_t_hour c_t_sunny c_t_deeps c_t_forms c_t_kinds) sz) := by
  refine met_W (by decide) (Nat.le_of_ble_eq_true rfl) ?_
  intro p e s m args below meth c A ls C hP hD hS hA hK hT hl
  obtain ⟨hx, hb, hr, hml, hown, hw, hlocks⟩ := id C
  have hl : lv_has ls 4 [(0, .ref h_t), (1, .int a1), (2, .int a2), (3, .int a3)] := hl
  rw [f_Plain_add] at hF
  refine lv_aload_n hx hb dX5_add_0 rfl (lv_at hl 0 rfl) ?_
  obtain ⟨r1, er1, hF⟩ := kb hF
  refine kRV (rest := []) C (k_Plain_isFull l E h_t x_t_book h_t_kinds h_t_forms h_t_deeps c_t_size c_t_hour c_t_sunny r1 er1) fn_Plain_isFull mw_433 ⟨Nat.le_of_ble_eq_true rfl, Nat.le_of_ble_eq_true rfl⟩ hK hT hS (va_recv hK hP (ci := 3) (q0 := 0) rfl rfl) hP [0] rfl rfl rfl hl (Nat.le_of_ble_eq_true rfl) dX5_add_1 ?_
  refine lv_if_eq (tgt := 9) hx hb dX5_add_4 (by decide) (fun q2 => ?_) (fun q2 => ?_)
  · have hF := kp hF q2
    refine lv_aload_n hx hb dX5_add_9 rfl (lv_at hl 0 rfl) ?_
    refine va_get (D := eD E) (ci := 3) (C := RX5) (T := TX5) (N := 7) (v := .ref h_t_kinds) hx hb hw inX5 hown hK hP 0 rfl rfl 1 (by decide) (hw _ mw_84) (fun _ h9 => h9) rfl dX5_add_10 ?_
    refine lv_aload_n hx hb dX5_add_13 rfl (lv_at hl 0 rfl) ?_
    refine va_get (D := eD E) (ci := 3) (C := RX5) (T := TX5) (N := 7) (v := .int c_t_size) hx hb hw inX5 hown hK hP 0 rfl rfl 4 (by decide) (hw _ mw_91) (fun _ h9 => h9) rfl dX5_add_14 ?_
    refine lv_iload_n hx hb dX5_add_17 rfl (lv_at hl 1 rfl) ?_
    obtain ⟨r3, er3, hF⟩ := kb hF
    refine wa_iast hx hb hK hP hD hS 3 0 rfl rfl er3 dX5_add_18 (fun H locs hP hD hS => ?_)
    have hP : va_P (eD E) vwCl (w_Plain_add E h_t h_t_deeps h_t_forms h_t_kinds x_t_book c_t_size c_t_hour c_t_sunny c_t_deeps c_t_forms r3) H := hP
    have hD : va_D A (w_Plain_add E h_t h_t_deeps h_t_forms h_t_kinds x_t_book c_t_size c_t_hour c_t_sunny c_t_deeps c_t_forms r3) := hD
    refine lv_aload_n hx hb dX5_add_19 rfl (lv_at hl 0 rfl) ?_
    refine va_get (D := eD E) (ci := 3) (C := RX5) (T := TX5) (N := 7) (v := .ref h_t_forms) hx hb hw inX5 hown hK hP 0 rfl rfl 2 (by decide) (hw _ mw_86) (fun _ h9 => h9) rfl dX5_add_20 ?_
    refine lv_aload_n hx hb dX5_add_23 rfl (lv_at hl 0 rfl) ?_
    refine va_get (D := eD E) (ci := 3) (C := RX5) (T := TX5) (N := 7) (v := .int c_t_size) hx hb hw inX5 hown hK hP 0 rfl rfl 4 (by decide) (hw _ mw_91) (fun _ h9 => h9) rfl dX5_add_24 ?_
    refine lv_iload_n hx hb dX5_add_27 rfl (lv_at hl 2 rfl) ?_
    obtain ⟨r4, er4, hF⟩ := kb hF
    refine wa_iast hx hb hK hP hD hS 2 0 rfl rfl er4 dX5_add_28 (fun H locs hP hD hS => ?_)
    have hP : va_P (eD E) vwCl (w_Plain_add E h_t h_t_deeps h_t_forms h_t_kinds x_t_book c_t_size c_t_hour c_t_sunny c_t_deeps r4 r3) H := hP
    have hD : va_D A (w_Plain_add E h_t h_t_deeps h_t_forms h_t_kinds x_t_book c_t_size c_t_hour c_t_sunny c_t_deeps r4 r3) := hD
    refine lv_aload_n hx hb dX5_add_29 rfl (lv_at hl 0 rfl) ?_
    refine va_get (D := eD E) (ci := 3) (C := RX5) (T := TX5) (N := 7) (v := .ref h_t_deeps) hx hb hw inX5 hown hK hP 0 rfl rfl 3 (by decide) (hw _ mw_88) (fun _ h9 => h9) rfl dX5_add_30 ?_
    refine lv_aload_n hx hb dX5_add_33 rfl (lv_at hl 0 rfl) ?_
    refine va_get (D := eD E) (ci := 3) (C := RX5) (T := TX5) (N := 7) (v := .int c_t_size) hx hb hw inX5 hown hK hP 0 rfl rfl 4 (by decide) (hw _ mw_91) (fun _ h9 => h9) rfl dX5_add_34 ?_
    refine lv_iload_n hx hb dX5_add_37 rfl (lv_at hl 3 rfl) ?_
    obtain ⟨r5, er5, hF⟩ := kb hF
    refine wa_iast hx hb hK hP hD hS 1 0 rfl rfl er5 dX5_add_38 (fun H locs hP hD hS => ?_)
    have hP : va_P (eD E) vwCl (w_Plain_add E h_t h_t_deeps h_t_forms h_t_kinds x_t_book c_t_size c_t_hour c_t_sunny r5 r4 r3) H := hP
    have hD : va_D A (w_Plain_add E h_t h_t_deeps h_t_forms h_t_kinds x_t_book c_t_size c_t_hour c_t_sunny r5 r4 r3) := hD
    refine lv_aload_n hx hb dX5_add_39 rfl (lv_at hl 0 rfl) ?_
    refine lv_dup hx hb dX5_add_40 rfl ?_
    refine va_get (D := eD E) (ci := 3) (C := RX5) (T := TX5) (N := 7) (v := .int c_t_size) hx hb hw inX5 hown hK hP 0 rfl rfl 4 (by decide) (hw _ mw_91) (fun _ h9 => h9) rfl dX5_add_41 ?_
    refine lv_iconst (v := (1 : Int32)) hx hb dX5_add_44 (by decide) ?_
    refine lv_iadd hx hb dX5_add_45 ?_
    refine va_put (D := eD E) (ci := 3) (v := .int (c_t_size + (1 : Int32))) (ty := .int) (C := RX5) (T := TX5) (N := 7) hx hb hw inX5 tyX5 tyX5_ok nmX5 hown hK hP hD hS 0 rfl rfl 4 (by decide) (hw _ mw_91) (fun _ h9 => h9) rfl (by decide +kernel) rfl rfl (Nat.le_of_ble_eq_true rfl) dX5_add_46 (fun H locs hP hD hS => ?_)
    have hP : va_P (eD E) vwCl (w_Plain_add E h_t h_t_deeps h_t_forms h_t_kinds x_t_book (c_t_size + (1 : Int32)) c_t_hour c_t_sunny r5 r4 r3) H := hP
    have hD : va_D A (w_Plain_add E h_t h_t_deeps h_t_forms h_t_kinds x_t_book (c_t_size + (1 : Int32)) c_t_hour c_t_sunny r5 r4 r3) := hD
    refine lv_aload_n hx hb dX5_add_49 rfl (lv_at hl 0 rfl) ?_
    refine va_get (D := eD E) (ci := 3) (C := RX5) (T := TX5) (N := 7) (v := .int (c_t_size + (1 : Int32))) hx hb hw inX5 hown hK hP 0 rfl rfl 4 (by decide) (hw _ mw_91) (fun _ h9 => h9) rfl dX5_add_50 ?_
    refine lv_iconst (v := (1 : Int32)) hx hb dX5_add_53 (by decide) ?_
    refine lv_isub hx hb dX5_add_54 ?_
    obtain rfl := Option.some.inj hF
    exact W.iret hx hb hr (fun t ht hW => ⟨⟨rfl, by rw [ht]; exact hP, hD⟩, hS.F ht⟩) hS.2.2 dX5_add_55
  · have hF := kn hF q2
    refine lv_iconst (v := (-1 : Int32)) hx hb dX5_add_7 (by decide) ?_
    obtain rfl := Option.some.inj hF
    exact W.iret hx hb hr (fun t ht hW => ⟨⟨rfl, by rw [ht]; exact hP, hD⟩, hS.F ht⟩) hS.2.2 dX5_add_8
abbrev w_Plain_feetOf (E : kE) (h_t : Nat) (h_t_forms : Nat) (h_t_kinds : Nat) (x_t_book : Nat) (x_t_deeps : Nat) (c_t_size : Int32) (c_t_hour : Int32) (c_t_sunny : Int32) (c_t_forms : (Nat → Int32)) (c_t_kinds : (Nat → Int32)) : va_W := [(h_t, .inr (3, [.ref x_t_book, .ref h_t_kinds, .ref h_t_forms, .ref x_t_deeps, .int c_t_size, .int c_t_hour, .int c_t_sunny])), (h_t_forms, .inl (eI E, 12, .inl c_t_forms)), (h_t_kinds, .inl (eI E, 12, .inl c_t_kinds))]
set_option maxHeartbeats 4000000 in
set_option maxRecDepth 100000 in
theorem k_Plain_feetOf (l : Launch) (E : kE) (h_t : Nat) (h_t_forms : Nat) (h_t_kinds : Nat) (x_t_book : Nat) (x_t_deeps : Nat) (c_t_size : Int32) (c_t_hour : Int32) (c_t_sunny : Int32) (c_t_forms : (Nat → Int32)) (c_t_kinds : (Nat → Int32)) (a1 : Int32) (out : Int32) (hF : f_Plain_feetOf c_t_forms c_t_kinds a1 = some out) : Met l yX5_feetOf (Cond.code yX5_feetOf cX5_feetOf 2 (some .int) :: wG) (rm 5) (pR E (w_Plain_feetOf E h_t h_t_forms h_t_kinds x_t_book x_t_deeps c_t_size c_t_hour c_t_sunny c_t_forms c_t_kinds) [.ref h_t, .int a1]) (qR (.int out)) 0 0 (fun _ => False) := by
  refine met_R (by decide) (Nat.le_of_ble_eq_true rfl) ?_
  intro p e s m args below meth c ls C hP hK hT hl
  obtain ⟨hx, hb, hr, hml, hown, hw, hlocks⟩ := id C
  have hS : va_S (fun _ => False) s.heap s.heap [] := va_S.rf
  have hl : lv_has ls 2 [(0, .ref h_t), (1, .int a1)] := hl
  rw [f_Plain_feetOf] at hF
  refine lv_aload_n hx hb dX5_feetOf_0 rfl (lv_at hl 0 rfl) ?_
  refine va_get (D := eD E) (ci := 3) (C := RX5) (T := TX5) (N := 7) (v := .ref h_t_kinds) hx hb hw inX5 hown hK hP 0 rfl rfl 1 (by decide) (hw _ mw_84) (fun _ h9 => h9) rfl dX5_feetOf_1 ?_
  refine lv_iload_n hx hb dX5_feetOf_4 rfl (lv_at hl 1 rfl) ?_
  obtain ⟨r1, er1, hF⟩ := kb hF
  refine wa_iald hx hb hK hP 2 0 rfl rfl er1 dX5_feetOf_5 ?_
  refine lv_aload_n hx hb dX5_feetOf_6 rfl (lv_at hl 0 rfl) ?_
  refine va_get (D := eD E) (ci := 3) (C := RX5) (T := TX5) (N := 7) (v := .ref h_t_forms) hx hb hw inX5 hown hK hP 0 rfl rfl 2 (by decide) (hw _ mw_86) (fun _ h9 => h9) rfl dX5_feetOf_7 ?_
  refine lv_iload_n hx hb dX5_feetOf_10 rfl (lv_at hl 1 rfl) ?_
  obtain ⟨r2, er2, hF⟩ := kb hF
  refine wa_iald hx hb hK hP 1 0 rfl rfl er2 dX5_feetOf_11 ?_
  obtain ⟨r3, er3, hF⟩ := kb hF
  refine kRS (rest := []) C (k_Kinds_feet l E r1 r2 r3 er3) fn_Kinds_feet mw_461 ⟨Nat.le_of_ble_eq_true rfl, Nat.le_of_ble_eq_true rfl⟩ hK hT hS hP [] rfl rfl rfl hl (Nat.le_of_ble_eq_true rfl) dX5_feetOf_12 ?_
  obtain rfl := Option.some.inj hF
  exact W.iret hx hb hr (fun t ht hW => ⟨rfl, ht⟩) nofun dX5_feetOf_15
abbrev w_Plain_has (E : kE) (h_t : Nat) (x_t_book : Nat) (x_t_kinds : Nat) (x_t_forms : Nat) (x_t_deeps : Nat) (c_t_size : Int32) (c_t_hour : Int32) (c_t_sunny : Int32) : va_W := [(h_t, .inr (3, [.ref x_t_book, .ref x_t_kinds, .ref x_t_forms, .ref x_t_deeps, .int c_t_size, .int c_t_hour, .int c_t_sunny]))]
set_option maxHeartbeats 4000000 in
set_option maxRecDepth 100000 in
theorem k_Plain_has (l : Launch) (E : kE) (h_t : Nat) (x_t_book : Nat) (x_t_kinds : Nat) (x_t_forms : Nat) (x_t_deeps : Nat) (c_t_size : Int32) (c_t_hour : Int32) (c_t_sunny : Int32) (a1 : Int32) (out : Int32) (hF : f_Plain_has c_t_size a1 = some out) : Met l yX5_has (Cond.code yX5_has cX5_has 2 (some .boolean) :: wG) (rm 1) (pR E (w_Plain_has E h_t x_t_book x_t_kinds x_t_forms x_t_deeps c_t_size c_t_hour c_t_sunny) [.ref h_t, .int a1]) (qR (.int out)) 0 0 (fun _ => False) := by
  refine met_R (by decide) (Nat.le_of_ble_eq_true rfl) ?_
  intro p e s m args below meth c ls C hP hK hT hl
  obtain ⟨hx, hb, hr, hml, hown, hw, hlocks⟩ := id C
  have hS : va_S (fun _ => False) s.heap s.heap [] := va_S.rf
  have hl : lv_has ls 2 [(0, .ref h_t), (1, .int a1)] := hl
  rw [f_Plain_has] at hF
  refine lv_iload_n hx hb dX5_has_0 rfl (lv_at hl 1 rfl) ?_
  refine lv_if_lt (tgt := 16) hx hb dX5_has_1 (by decide) (fun q1 => ?_) (fun q1 => ?_)
  · have hF := kp hF q1
    refine lv_iconst (v := (0 : Int32)) hx hb dX5_has_16 (by decide) ?_
    obtain rfl := Option.some.inj hF
    exact W.zret (ty := .boolean) hx hb hr rfl (fun t ht hW => ⟨rfl, ht⟩) nofun dX5_has_17
  · have hF := kn hF q1
    refine lv_iload_n hx hb dX5_has_4 rfl (lv_at hl 1 rfl) ?_
    refine lv_aload_n hx hb dX5_has_5 rfl (lv_at hl 0 rfl) ?_
    refine va_get (D := eD E) (ci := 3) (C := RX5) (T := TX5) (N := 7) (v := .int c_t_size) hx hb hw inX5 hown hK hP 0 rfl rfl 4 (by decide) (hw _ mw_91) (fun _ h9 => h9) rfl dX5_has_6 ?_
    refine lv_icmp_ge (tgt := 16) hx hb dX5_has_9 (by decide) (fun q2 => ?_) (fun q2 => ?_)
    · have hF := kp hF q2
      refine lv_iconst (v := (0 : Int32)) hx hb dX5_has_16 (by decide) ?_
      obtain rfl := Option.some.inj hF
      exact W.zret (ty := .boolean) hx hb hr rfl (fun t ht hW => ⟨rfl, ht⟩) nofun dX5_has_17
    · have hF := kn hF q2
      refine lv_iconst (v := (1 : Int32)) hx hb dX5_has_12 (by decide) ?_
      refine lv_goto (tgt := 17) hx hb dX5_has_13 (by decide) ?_
      obtain rfl := Option.some.inj hF
      exact W.zret (ty := .boolean) hx hb hr rfl (fun t ht hW => ⟨rfl, ht⟩) nofun dX5_has_17
abbrev w_Plain_lastsOf (E : kE) (h_t : Nat) (h_t_deeps : Nat) (h_t_kinds : Nat) (x_t_book : Nat) (x_t_forms : Nat) (c_t_size : Int32) (c_t_hour : Int32) (c_t_sunny : Int32) (c_t_deeps : (Nat → Int32)) (c_t_kinds : (Nat → Int32)) : va_W := [(h_t, .inr (3, [.ref x_t_book, .ref h_t_kinds, .ref x_t_forms, .ref h_t_deeps, .int c_t_size, .int c_t_hour, .int c_t_sunny])), (h_t_deeps, .inl (eI E, 12, .inl c_t_deeps)), (h_t_kinds, .inl (eI E, 12, .inl c_t_kinds))]
set_option maxHeartbeats 4000000 in
set_option maxRecDepth 100000 in
theorem k_Plain_lastsOf (l : Launch) (E : kE) (h_t : Nat) (h_t_deeps : Nat) (h_t_kinds : Nat) (x_t_book : Nat) (x_t_forms : Nat) (c_t_size : Int32) (c_t_hour : Int32) (c_t_sunny : Int32) (c_t_deeps : (Nat → Int32)) (c_t_kinds : (Nat → Int32)) (a1 : Int32) (out : Int32) (hF : f_Plain_lastsOf c_t_deeps c_t_kinds a1 = some out) : Met l yX5_lastsOf (Cond.code yX5_lastsOf cX5_lastsOf 2 (some .int) :: wG) (rm 2) (pR E (w_Plain_lastsOf E h_t h_t_deeps h_t_kinds x_t_book x_t_forms c_t_size c_t_hour c_t_sunny c_t_deeps c_t_kinds) [.ref h_t, .int a1]) (qR (.int out)) 0 0 (fun _ => False) := by
  refine met_R (by decide) (Nat.le_of_ble_eq_true rfl) ?_
  intro p e s m args below meth c ls C hP hK hT hl
  obtain ⟨hx, hb, hr, hml, hown, hw, hlocks⟩ := id C
  have hS : va_S (fun _ => False) s.heap s.heap [] := va_S.rf
  have hl : lv_has ls 2 [(0, .ref h_t), (1, .int a1)] := hl
  rw [f_Plain_lastsOf] at hF
  refine lv_aload_n hx hb dX5_lastsOf_0 rfl (lv_at hl 0 rfl) ?_
  refine va_get (D := eD E) (ci := 3) (C := RX5) (T := TX5) (N := 7) (v := .ref h_t_kinds) hx hb hw inX5 hown hK hP 0 rfl rfl 1 (by decide) (hw _ mw_84) (fun _ h9 => h9) rfl dX5_lastsOf_1 ?_
  refine lv_iload_n hx hb dX5_lastsOf_4 rfl (lv_at hl 1 rfl) ?_
  obtain ⟨r1, er1, hF⟩ := kb hF
  refine wa_iald hx hb hK hP 2 0 rfl rfl er1 dX5_lastsOf_5 ?_
  refine lv_aload_n hx hb dX5_lastsOf_6 rfl (lv_at hl 0 rfl) ?_
  refine va_get (D := eD E) (ci := 3) (C := RX5) (T := TX5) (N := 7) (v := .ref h_t_deeps) hx hb hw inX5 hown hK hP 0 rfl rfl 3 (by decide) (hw _ mw_88) (fun _ h9 => h9) rfl dX5_lastsOf_7 ?_
  refine lv_iload_n hx hb dX5_lastsOf_10 rfl (lv_at hl 1 rfl) ?_
  obtain ⟨r2, er2, hF⟩ := kb hF
  refine wa_iald hx hb hK hP 1 0 rfl rfl er2 dX5_lastsOf_11 ?_
  obtain ⟨r3, er3, hF⟩ := kb hF
  refine kRS (rest := []) C (k_Kinds_lasts l E r1 r2 r3 er3) fn_Kinds_lasts mw_446 ⟨Nat.le_of_ble_eq_true rfl, Nat.le_of_ble_eq_true rfl⟩ hK hT hS hP [] rfl rfl rfl hl (Nat.le_of_ble_eq_true rfl) dX5_lastsOf_12 ?_
  obtain rfl := Option.some.inj hF
  exact W.iret hx hb hr (fun t ht hW => ⟨rfl, ht⟩) nofun dX5_lastsOf_15
abbrev w_Plain_shownAt (E : kE) (h_t : Nat) (h_t_deeps : Nat) (h_t_forms : Nat) (h_t_kinds : Nat) (x_t_book : Nat) (c_t_size : Int32) (c_t_hour : Int32) (c_t_sunny : Int32) (c_t_deeps : (Nat → Int32)) (c_t_forms : (Nat → Int32)) (c_t_kinds : (Nat → Int32)) : va_W := [(h_t, .inr (3, [.ref x_t_book, .ref h_t_kinds, .ref h_t_forms, .ref h_t_deeps, .int c_t_size, .int c_t_hour, .int c_t_sunny])), (h_t_deeps, .inl (eI E, 12, .inl c_t_deeps)), (h_t_forms, .inl (eI E, 12, .inl c_t_forms)), (h_t_kinds, .inl (eI E, 12, .inl c_t_kinds))]
set_option maxHeartbeats 4000000 in
set_option maxRecDepth 100000 in
theorem wk_Plain_shownAt_b31 {p : Program} {l : Launch} {e : Env} {s : State} {m : MethodId} {args : Array Value} {below : List Frame} {meth : Method} {c : Code} (E : kE) (h_t : Nat) (h_t_deeps : Nat) (h_t_forms : Nat) (h_t_kinds : Nat) (x_t_book : Nat) (c_t_size : Int32) (c_t_hour : Int32) (c_t_sunny : Int32) (c_t_deeps : (Nat → Int32)) (c_t_forms : (Nat → Int32)) (c_t_kinds : (Nat → Int32)) (a1 : Int32) (a2 : Int32) {out : Int32} (C : kC RX5 cX5_shownAt 4 (some .int) p s m args meth c) (hP : va_P (eD E) vwCl (w_Plain_shownAt E h_t h_t_deeps h_t_forms h_t_kinds x_t_book c_t_size c_t_hour c_t_sunny c_t_deeps c_t_forms c_t_kinds) s.heap) (hK : va_K (eD E) vwCl (eT E) s) (hT : sT E (fun _ => False) s s.heap)  :
    ∀ (s0 : Int32), f_Plain_shownAt_b31  c_t_sunny c_t_deeps c_t_forms c_t_kinds a1 a2 s0 = some out → ∀ (ls : Array Slot), lv_has ls 4 [(0, .ref h_t), (1, .int a1)] → W p l e (rm 3) s m args below meth c s.heap [] 0 0 (MQ below (qR (.int out)) args s 0 0 (fun _ => False)) (F0 m 31 ls [.int s0]) := by
  obtain ⟨hx, hb, hr, hml, hown, hw, hlocks⟩ := id C
  have hS : va_S (fun _ => False) s.heap s.heap [] := va_S.rf
  intro s0 hF ls hl
  rw [f_Plain_shownAt_b31] at hF
  refine lv_istore_n (lv' := [(3, .int s0), (0, .ref h_t), (1, .int a1)]) hx hb dX5_shownAt_31 rfl hl (by decide) rfl (fun ls hl => ?_)
  refine lv_aload_n hx hb dX5_shownAt_32 rfl (lv_at hl 1 rfl) ?_
  refine va_get (D := eD E) (ci := 3) (C := RX5) (T := TX5) (N := 7) (v := .ref h_t_kinds) hx hb hw inX5 hown hK hP 0 rfl rfl 1 (by decide) (hw _ mw_84) (fun _ h9 => h9) rfl dX5_shownAt_33 ?_
  refine lv_iload_n hx hb dX5_shownAt_36 rfl (lv_at hl 2 rfl) ?_
  obtain ⟨r1, er1, hF⟩ := kb hF
  refine wa_iald hx hb hK hP 3 0 rfl rfl er1 dX5_shownAt_37 ?_
  refine lv_iload_n hx hb dX5_shownAt_38 rfl (lv_at hl 0 rfl) ?_
  obtain ⟨r2, er2, hF⟩ := kb hF
  refine kRS (rest := []) C (k_Kinds_shows l E r1 s0 r2 er2) fn_Kinds_shows mw_454 ⟨Nat.le_of_ble_eq_true rfl, Nat.le_of_ble_eq_true rfl⟩ hK hT hS hP [] rfl rfl rfl hl (Nat.le_of_ble_eq_true rfl) dX5_shownAt_39 ?_
  obtain rfl := Option.some.inj hF
  exact W.iret hx hb hr (fun t ht hW => ⟨rfl, ht⟩) nofun dX5_shownAt_42
set_option maxHeartbeats 4000000 in
set_option maxRecDepth 100000 in
theorem k_Plain_shownAt (l : Launch) (E : kE) (h_t : Nat) (h_t_deeps : Nat) (h_t_forms : Nat) (h_t_kinds : Nat) (x_t_book : Nat) (c_t_size : Int32) (c_t_hour : Int32) (c_t_sunny : Int32) (c_t_deeps : (Nat → Int32)) (c_t_forms : (Nat → Int32)) (c_t_kinds : (Nat → Int32)) (a1 : Int32) (a2 : Int32) (out : Int32) (hF : f_Plain_shownAt c_t_sunny c_t_deeps c_t_forms c_t_kinds a1 a2 = some out) : Met l yX5_shownAt (Cond.code yX5_shownAt cX5_shownAt 4 (some .int) :: wG) (rm 3) (pR E (w_Plain_shownAt E h_t h_t_deeps h_t_forms h_t_kinds x_t_book c_t_size c_t_hour c_t_sunny c_t_deeps c_t_forms c_t_kinds) [.ref h_t, .int a1, .int a2]) (qR (.int out)) 0 0 (fun _ => False) := by
  refine met_R (by decide) (Nat.le_of_ble_eq_true rfl) ?_
  intro p e s m args below meth c ls C hP hK hT hl
  obtain ⟨hx, hb, hr, hml, hown, hw, hlocks⟩ := id C
  have hS : va_S (fun _ => False) s.heap s.heap [] := va_S.rf
  have hl : lv_has ls 4 [(0, .ref h_t), (1, .int a1), (2, .int a2)] := hl
  rw [f_Plain_shownAt] at hF
  refine lv_iload_n hx hb dX5_shownAt_0 rfl (lv_at hl 2 rfl) ?_
  refine lv_aload_n hx hb dX5_shownAt_1 rfl (lv_at hl 0 rfl) ?_
  refine lv_iload_n hx hb dX5_shownAt_2 rfl (lv_at hl 1 rfl) ?_
  obtain ⟨r3, er3, hF⟩ := kb hF
  refine kRV (rest := [.int a2]) C (k_Plain_lastsOf l E h_t h_t_deeps h_t_kinds x_t_book h_t_forms c_t_size c_t_hour c_t_sunny c_t_deeps c_t_kinds a1 r3 er3) fn_Plain_lastsOf mw_453 ⟨Nat.le_of_ble_eq_true rfl, Nat.le_of_ble_eq_true rfl⟩ hK hT hS (va_recv hK hP (ci := 3) (q0 := 0) rfl rfl) hP [0, 1, 3] rfl rfl rfl hl (Nat.le_of_ble_eq_true rfl) dX5_shownAt_3 ?_
  refine lv_icmp_ge (tgt := 18) hx hb dX5_shownAt_6 (by decide) (fun q4 => ?_) (fun q4 => ?_)
  · have hF := kp hF q4
    refine lv_aload_n hx hb dX5_shownAt_18 rfl (lv_at hl 0 rfl) ?_
    refine va_get (D := eD E) (ci := 3) (C := RX5) (T := TX5) (N := 7) (v := .ref h_t_forms) hx hb hw inX5 hown hK hP 0 rfl rfl 2 (by decide) (hw _ mw_86) (fun _ h9 => h9) rfl dX5_shownAt_19 ?_
    refine lv_iload_n hx hb dX5_shownAt_22 rfl (lv_at hl 1 rfl) ?_
    obtain ⟨r5, er5, hF⟩ := kb hF
    refine wa_iald hx hb hK hP 2 0 rfl rfl er5 dX5_shownAt_23 ?_
    refine lv_aload_n hx hb dX5_shownAt_24 rfl (lv_at hl 0 rfl) ?_
    refine va_get (D := eD E) (ci := 3) (C := RX5) (T := TX5) (N := 7) (v := .int c_t_sunny) hx hb hw inX5 hown hK hP 0 rfl rfl 6 (by decide) (hw _ mw_95) (fun _ h9 => h9) rfl dX5_shownAt_25 ?_
    refine lv_iconst (v := (-1 : Int32)) hx hb dX5_shownAt_28 (by decide) ?_
    refine lv_ixor hx hb dX5_shownAt_29 ?_
    refine lv_iand hx hb dX5_shownAt_30 ?_
    exact wk_Plain_shownAt_b31 E h_t h_t_deeps h_t_forms h_t_kinds x_t_book c_t_size c_t_hour c_t_sunny c_t_deeps c_t_forms c_t_kinds a1 a2 C hP  hK hT  (r5 &&& (c_t_sunny ^^^ (-1 : Int32))) hF _ (lv_sub hl [0, 1] rfl)
  · have hF := kn hF q4
    refine lv_aload_n hx hb dX5_shownAt_9 rfl (lv_at hl 0 rfl) ?_
    refine va_get (D := eD E) (ci := 3) (C := RX5) (T := TX5) (N := 7) (v := .ref h_t_forms) hx hb hw inX5 hown hK hP 0 rfl rfl 2 (by decide) (hw _ mw_86) (fun _ h9 => h9) rfl dX5_shownAt_10 ?_
    refine lv_iload_n hx hb dX5_shownAt_13 rfl (lv_at hl 1 rfl) ?_
    obtain ⟨r6, er6, hF⟩ := kb hF
    refine wa_iald hx hb hK hP 2 0 rfl rfl er6 dX5_shownAt_14 ?_
    refine lv_goto (tgt := 31) hx hb dX5_shownAt_15 (by decide) ?_
    exact wk_Plain_shownAt_b31 E h_t h_t_deeps h_t_forms h_t_kinds x_t_book c_t_size c_t_hour c_t_sunny c_t_deeps c_t_forms c_t_kinds a1 a2 C hP  hK hT  r6 hF _ (lv_sub hl [0, 1] rfl)
abbrev w_Plain_seenAs (E : kE) (h_t : Nat) (h_t_book : Nat) (h_t_book_forms : Nat) (h_t_deeps : Nat) (h_t_forms : Nat) (h_t_kinds : Nat)  (c_t_size : Int32) (c_t_hour : Int32) (c_t_sunny : Int32) (c_t_book_forms : (Nat → Int32)) (c_t_deeps : (Nat → Int32)) (c_t_forms : (Nat → Int32)) (c_t_kinds : (Nat → Int32)) : va_W := [(h_t, .inr (3, [.ref h_t_book, .ref h_t_kinds, .ref h_t_forms, .ref h_t_deeps, .int c_t_size, .int c_t_hour, .int c_t_sunny])), (h_t_book, .inr (0, [.ref h_t_book_forms])), (h_t_book_forms, .inl (eI E, 26, .inl c_t_book_forms)), (h_t_deeps, .inl (eI E, 12, .inl c_t_deeps)), (h_t_forms, .inl (eI E, 12, .inl c_t_forms)), (h_t_kinds, .inl (eI E, 12, .inl c_t_kinds))]
set_option maxHeartbeats 4000000 in
set_option maxRecDepth 100000 in
theorem k_Plain_seenAs (l : Launch) (E : kE) (h_t : Nat) (h_t_book : Nat) (h_t_book_forms : Nat) (h_t_deeps : Nat) (h_t_forms : Nat) (h_t_kinds : Nat)  (c_t_size : Int32) (c_t_hour : Int32) (c_t_sunny : Int32) (c_t_book_forms : (Nat → Int32)) (c_t_deeps : (Nat → Int32)) (c_t_forms : (Nat → Int32)) (c_t_kinds : (Nat → Int32)) (a1 : Int32) (out : Int32) (hF : f_Plain_seenAs c_t_hour c_t_sunny c_t_book_forms c_t_deeps c_t_forms c_t_kinds a1 = some out) : Met l yX5_seenAs (Cond.code yX5_seenAs cX5_seenAs 2 (some .int) :: wG) (rm 4) (pR E (w_Plain_seenAs E h_t h_t_book h_t_book_forms h_t_deeps h_t_forms h_t_kinds c_t_size c_t_hour c_t_sunny c_t_book_forms c_t_deeps c_t_forms c_t_kinds) [.ref h_t, .int a1]) (qR (.int out)) 0 0 (fun _ => False) := by
  refine met_R (by decide) (Nat.le_of_ble_eq_true rfl) ?_
  intro p e s m args below meth c ls C hP hK hT hl
  obtain ⟨hx, hb, hr, hml, hown, hw, hlocks⟩ := id C
  have hS : va_S (fun _ => False) s.heap s.heap [] := va_S.rf
  have hl : lv_has ls 2 [(0, .ref h_t), (1, .int a1)] := hl
  rw [f_Plain_seenAs] at hF
  refine lv_aload_n hx hb dX5_seenAs_0 rfl (lv_at hl 0 rfl) ?_
  refine va_get (D := eD E) (ci := 3) (C := RX5) (T := TX5) (N := 7) (v := .ref h_t_book) hx hb hw inX5 hown hK hP 0 rfl rfl 0 (by decide) (hw _ mw_81) (fun _ h9 => h9) rfl dX5_seenAs_1 ?_
  refine lv_aload_n hx hb dX5_seenAs_4 rfl (lv_at hl 0 rfl) ?_
  refine lv_iload_n hx hb dX5_seenAs_5 rfl (lv_at hl 1 rfl) ?_
  refine lv_aload_n hx hb dX5_seenAs_6 rfl (lv_at hl 0 rfl) ?_
  refine va_get (D := eD E) (ci := 3) (C := RX5) (T := TX5) (N := 7) (v := .int c_t_hour) hx hb hw inX5 hown hK hP 0 rfl rfl 5 (by decide) (hw _ mw_93) (fun _ h9 => h9) rfl dX5_seenAs_7 ?_
  obtain ⟨r1, er1, hF⟩ := kb hF
  refine kRV (rest := [.ref h_t_book]) C (k_Plain_shownAt l E h_t h_t_deeps h_t_forms h_t_kinds h_t_book c_t_size c_t_hour c_t_sunny c_t_deeps c_t_forms c_t_kinds a1 c_t_hour r1 er1) fn_Plain_shownAt mw_470 ⟨Nat.le_of_ble_eq_true rfl, Nat.le_of_ble_eq_true rfl⟩ hK hT hS (va_recv hK hP (ci := 3) (q0 := 0) rfl rfl) hP [0, 3, 4, 5] rfl rfl rfl hl (Nat.le_of_ble_eq_true rfl) dX5_seenAs_10 ?_
  obtain ⟨r2, er2, hF⟩ := kb hF
  refine kRV (rest := []) C (k_Book_nearest l E h_t_book h_t_book_forms c_t_book_forms r1 r2 er2) fn_Book_nearest mw_471 ⟨Nat.le_of_ble_eq_true rfl, Nat.le_of_ble_eq_true rfl⟩ hK hT hS (va_recv hK hP (ci := 0) (q0 := 1) rfl rfl) hP [1, 2] rfl rfl rfl hl (Nat.le_of_ble_eq_true rfl) dX5_seenAs_13 ?_
  obtain rfl := Option.some.inj hF
  exact W.iret hx hb hr (fun t ht hW => ⟨rfl, ht⟩) nofun dX5_seenAs_16
abbrev w_Plain_countChanged (E : kE) (h_t : Nat) (h_t_deeps : Nat) (h_t_forms : Nat) (h_t_kinds : Nat) (x_t_book : Nat) (c_t_size : Int32) (c_t_hour : Int32) (c_t_sunny : Int32) (c_t_deeps : (Nat → Int32)) (c_t_forms : (Nat → Int32)) (c_t_kinds : (Nat → Int32)) : va_W := [(h_t, .inr (3, [.ref x_t_book, .ref h_t_kinds, .ref h_t_forms, .ref h_t_deeps, .int c_t_size, .int c_t_hour, .int c_t_sunny])), (h_t_deeps, .inl (eI E, 12, .inl c_t_deeps)), (h_t_forms, .inl (eI E, 12, .inl c_t_forms)), (h_t_kinds, .inl (eI E, 12, .inl c_t_kinds))]
set_option maxHeartbeats 4000000 in
set_option maxRecDepth 100000 in
theorem wk_Plain_countChanged_b4 {p : Program} {l : Launch} {e : Env} {s : State} {m : MethodId} {args : Array Value} {below : List Frame} {meth : Method} {c : Code} (E : kE) (h_t : Nat) (h_t_deeps : Nat) (h_t_forms : Nat) (h_t_kinds : Nat) (x_t_book : Nat) (c_t_size : Int32) (c_t_hour : Int32) (c_t_sunny : Int32) (c_t_deeps : (Nat → Int32)) (c_t_forms : (Nat → Int32)) (c_t_kinds : (Nat → Int32)) (a1 : Int32) {out : Int32} (C : kC RX5 cX5_countChanged 4 (some .int) p s m args meth c) (hP : va_P (eD E) vwCl (w_Plain_countChanged E h_t h_t_deeps h_t_forms h_t_kinds x_t_book c_t_size c_t_hour c_t_sunny c_t_deeps c_t_forms c_t_kinds) s.heap) (hK : va_K (eD E) vwCl (eT E) s) (hT : sT E (fun _ => False) s s.heap)  :
    ∀ (n : Nat), ∀ (v2 : Int32) (v3 : Int32), f_Plain_countChanged_b4  c_t_size c_t_hour c_t_sunny c_t_deeps c_t_forms c_t_kinds a1 n v2 v3 = some out → ∀ (ls : Array Slot), lv_has ls 4 [(0, .ref h_t), (1, .int a1), (2, .int v2), (3, .int v3)] → W p l e (rm 4) s m args below meth c s.heap [] 0 0 (MQ below (qR (.int out)) args s 0 0 (fun _ => False)) (F0 m 4 ls []) := by
  obtain ⟨hx, hb, hr, hml, hown, hw, hlocks⟩ := id C
  have hS : va_S (fun _ => False) s.heap s.heap [] := va_S.rf
  intro n
  induction n with
  | zero =>
    intro v2 v3 hF
    exact absurd (show (none : Option (Int32)) = some out from hF) nofun
  | succ n ih =>
    intro v2 v3 hF ls hl
    rw [f_Plain_countChanged_b4] at hF
    refine lv_iload_n hx hb dX5_countChanged_4 rfl (lv_at hl 3 rfl) ?_
    refine lv_aload_n hx hb dX5_countChanged_5 rfl (lv_at hl 0 rfl) ?_
    refine va_get (D := eD E) (ci := 3) (C := RX5) (T := TX5) (N := 7) (v := .int c_t_size) hx hb hw inX5 hown hK hP 0 rfl rfl 4 (by decide) (hw _ mw_91) (fun _ h9 => h9) rfl dX5_countChanged_6 ?_
    refine lv_icmp_ge (tgt := 39) hx hb dX5_countChanged_9 (by decide) (fun q1 => ?_) (fun q1 => ?_)
    · have hF := kp hF q1
      refine lv_iload_n hx hb dX5_countChanged_39 rfl (lv_at hl 2 rfl) ?_
      obtain rfl := Option.some.inj hF
      exact W.iret hx hb hr (fun t ht hW => ⟨rfl, ht⟩) nofun dX5_countChanged_40
    · have hF := kn hF q1
      refine lv_aload_n hx hb dX5_countChanged_12 rfl (lv_at hl 0 rfl) ?_
      refine lv_iload_n hx hb dX5_countChanged_13 rfl (lv_at hl 3 rfl) ?_
      refine lv_aload_n hx hb dX5_countChanged_14 rfl (lv_at hl 0 rfl) ?_
      refine va_get (D := eD E) (ci := 3) (C := RX5) (T := TX5) (N := 7) (v := .int c_t_hour) hx hb hw inX5 hown hK hP 0 rfl rfl 5 (by decide) (hw _ mw_93) (fun _ h9 => h9) rfl dX5_countChanged_15 ?_
      obtain ⟨r2, er2, hF⟩ := kb hF
      refine kRV (rest := []) C (k_Plain_shownAt l E h_t h_t_deeps h_t_forms h_t_kinds x_t_book c_t_size c_t_hour c_t_sunny c_t_deeps c_t_forms c_t_kinds v3 c_t_hour r2 er2) fn_Plain_shownAt mw_470 ⟨Nat.le_of_ble_eq_true rfl, Nat.le_of_ble_eq_true rfl⟩ hK hT hS (va_recv hK hP (ci := 3) (q0 := 0) rfl rfl) hP [0, 1, 2, 3] rfl rfl rfl hl (Nat.le_of_ble_eq_true rfl) dX5_countChanged_18 ?_
      refine lv_aload_n hx hb dX5_countChanged_21 rfl (lv_at hl 0 rfl) ?_
      refine lv_iload_n hx hb dX5_countChanged_22 rfl (lv_at hl 3 rfl) ?_
      refine lv_iload_n hx hb dX5_countChanged_23 rfl (lv_at hl 1 rfl) ?_
      obtain ⟨r3, er3, hF⟩ := kb hF
      refine kRV (rest := [.int r2]) C (k_Plain_shownAt l E h_t h_t_deeps h_t_forms h_t_kinds x_t_book c_t_size c_t_hour c_t_sunny c_t_deeps c_t_forms c_t_kinds v3 a1 r3 er3) fn_Plain_shownAt mw_470 ⟨Nat.le_of_ble_eq_true rfl, Nat.le_of_ble_eq_true rfl⟩ hK hT hS (va_recv hK hP (ci := 3) (q0 := 0) rfl rfl) hP [0, 1, 2, 3] rfl rfl rfl hl (Nat.le_of_ble_eq_true rfl) dX5_countChanged_24 ?_
      refine lv_icmp_eq (tgt := 33) hx hb dX5_countChanged_27 (by decide) (fun q4 => ?_) (fun q4 => ?_)
      · have hF := kp hF q4
        refine lv_iinc (v := (v3 + (1))) (lv' := [(3, .int (v3 + (1))), (0, .ref h_t), (1, .int a1), (2, .int v2)]) hx hb dX5_countChanged_33 hl (k := 3) rfl rfl (by decide) rfl (fun ls hl => ?_)
        refine lv_goto (tgt := 4) hx hb dX5_countChanged_36 (by decide) ?_
        exact ih v2 (v3 + (1)) hF _ (lv_sub hl [1, 2, 3, 0] rfl)
      · have hF := kn hF q4
        refine lv_iinc (v := (v2 + (1))) (lv' := [(2, .int (v2 + (1))), (0, .ref h_t), (1, .int a1), (3, .int v3)]) hx hb dX5_countChanged_30 hl (k := 2) rfl rfl (by decide) rfl (fun ls hl => ?_)
        refine lv_iinc (v := (v3 + (1))) (lv' := [(3, .int (v3 + (1))), (2, .int (v2 + (1))), (0, .ref h_t), (1, .int a1)]) hx hb dX5_countChanged_33 hl (k := 3) rfl rfl (by decide) rfl (fun ls hl => ?_)
        refine lv_goto (tgt := 4) hx hb dX5_countChanged_36 (by decide) ?_
        exact ih (v2 + (1)) (v3 + (1)) hF _ (lv_sub hl [2, 3, 1, 0] rfl)
set_option maxHeartbeats 4000000 in
set_option maxRecDepth 100000 in
theorem k_Plain_countChanged (l : Launch) (E : kE) (h_t : Nat) (h_t_deeps : Nat) (h_t_forms : Nat) (h_t_kinds : Nat) (x_t_book : Nat) (c_t_size : Int32) (c_t_hour : Int32) (c_t_sunny : Int32) (c_t_deeps : (Nat → Int32)) (c_t_forms : (Nat → Int32)) (c_t_kinds : (Nat → Int32)) (a1 : Int32) (out : Int32) (hF : f_Plain_countChanged c_t_size c_t_hour c_t_sunny c_t_deeps c_t_forms c_t_kinds a1 = some out) : Met l yX5_countChanged (Cond.code yX5_countChanged cX5_countChanged 4 (some .int) :: wG) (rm 4) (pR E (w_Plain_countChanged E h_t h_t_deeps h_t_forms h_t_kinds x_t_book c_t_size c_t_hour c_t_sunny c_t_deeps c_t_forms c_t_kinds) [.ref h_t, .int a1]) (qR (.int out)) 0 0 (fun _ => False) := by
  refine met_R (by decide) (Nat.le_of_ble_eq_true rfl) ?_
  intro p e s m args below meth c ls C hP hK hT hl
  obtain ⟨hx, hb, hr, hml, hown, hw, hlocks⟩ := id C
  have hS : va_S (fun _ => False) s.heap s.heap [] := va_S.rf
  have hl : lv_has ls 4 [(0, .ref h_t), (1, .int a1)] := hl
  rw [f_Plain_countChanged] at hF
  refine lv_iconst (v := (0 : Int32)) hx hb dX5_countChanged_0 (by decide) ?_
  refine lv_istore_n (lv' := [(2, .int (0 : Int32)), (0, .ref h_t), (1, .int a1)]) hx hb dX5_countChanged_1 rfl hl (by decide) rfl (fun ls hl => ?_)
  refine lv_iconst (v := (0 : Int32)) hx hb dX5_countChanged_2 (by decide) ?_
  refine lv_istore_n (lv' := [(3, .int (0 : Int32)), (2, .int (0 : Int32)), (0, .ref h_t), (1, .int a1)]) hx hb dX5_countChanged_3 rfl hl (by decide) rfl (fun ls hl => ?_)
  exact wk_Plain_countChanged_b4 E h_t h_t_deeps h_t_forms h_t_kinds x_t_book c_t_size c_t_hour c_t_sunny c_t_deeps c_t_forms c_t_kinds a1 C hP  hK hT  5000 (0 : Int32) (0 : Int32) hF _ (lv_sub hl [2, 3, 1, 0] rfl)
abbrev w_Plain_feetOfAll (E : kE) (h_t : Nat) (h_t_forms : Nat) (h_t_kinds : Nat) (x_t_book : Nat) (x_t_deeps : Nat) (c_t_size : Int32) (c_t_hour : Int32) (c_t_sunny : Int32) (c_t_forms : (Nat → Int32)) (c_t_kinds : (Nat → Int32)) : va_W := [(h_t, .inr (3, [.ref x_t_book, .ref h_t_kinds, .ref h_t_forms, .ref x_t_deeps, .int c_t_size, .int c_t_hour, .int c_t_sunny])), (h_t_forms, .inl (eI E, 12, .inl c_t_forms)), (h_t_kinds, .inl (eI E, 12, .inl c_t_kinds))]
set_option maxHeartbeats 4000000 in
set_option maxRecDepth 100000 in
theorem wk_Plain_feetOfAll_b4 {p : Program} {l : Launch} {e : Env} {s : State} {m : MethodId} {args : Array Value} {below : List Frame} {meth : Method} {c : Code} (E : kE) (h_t : Nat) (h_t_forms : Nat) (h_t_kinds : Nat) (x_t_book : Nat) (x_t_deeps : Nat) (c_t_size : Int32) (c_t_hour : Int32) (c_t_sunny : Int32) (c_t_forms : (Nat → Int32)) (c_t_kinds : (Nat → Int32))  {out : Int32} (C : kC RX5 cX5_feetOfAll 3 (some .int) p s m args meth c) (hP : va_P (eD E) vwCl (w_Plain_feetOfAll E h_t h_t_forms h_t_kinds x_t_book x_t_deeps c_t_size c_t_hour c_t_sunny c_t_forms c_t_kinds) s.heap) (hK : va_K (eD E) vwCl (eT E) s) (hT : sT E (fun _ => False) s s.heap)  :
    ∀ (n : Nat), ∀ (v1 : Int32) (v2 : Int32), f_Plain_feetOfAll_b4  c_t_size c_t_forms c_t_kinds n v1 v2 = some out → ∀ (ls : Array Slot), lv_has ls 3 [(0, .ref h_t), (1, .int v1), (2, .int v2)] → W p l e (rm 6) s m args below meth c s.heap [] 0 0 (MQ below (qR (.int out)) args s 0 0 (fun _ => False)) (F0 m 4 ls []) := by
  obtain ⟨hx, hb, hr, hml, hown, hw, hlocks⟩ := id C
  have hS : va_S (fun _ => False) s.heap s.heap [] := va_S.rf
  intro n
  induction n with
  | zero =>
    intro v1 v2 hF
    exact absurd (show (none : Option (Int32)) = some out from hF) nofun
  | succ n ih =>
    intro v1 v2 hF ls hl
    rw [f_Plain_feetOfAll_b4] at hF
    refine lv_iload_n hx hb dX5_feetOfAll_4 rfl (lv_at hl 2 rfl) ?_
    refine lv_aload_n hx hb dX5_feetOfAll_5 rfl (lv_at hl 0 rfl) ?_
    refine va_get (D := eD E) (ci := 3) (C := RX5) (T := TX5) (N := 7) (v := .int c_t_size) hx hb hw inX5 hown hK hP 0 rfl rfl 4 (by decide) (hw _ mw_91) (fun _ h9 => h9) rfl dX5_feetOfAll_6 ?_
    refine lv_icmp_ge (tgt := 26) hx hb dX5_feetOfAll_9 (by decide) (fun q1 => ?_) (fun q1 => ?_)
    · have hF := kp hF q1
      refine lv_iload_n hx hb dX5_feetOfAll_26 rfl (lv_at hl 1 rfl) ?_
      obtain rfl := Option.some.inj hF
      exact W.iret hx hb hr (fun t ht hW => ⟨rfl, ht⟩) nofun dX5_feetOfAll_27
    · have hF := kn hF q1
      refine lv_iload_n hx hb dX5_feetOfAll_12 rfl (lv_at hl 1 rfl) ?_
      refine lv_aload_n hx hb dX5_feetOfAll_13 rfl (lv_at hl 0 rfl) ?_
      refine lv_iload_n hx hb dX5_feetOfAll_14 rfl (lv_at hl 2 rfl) ?_
      obtain ⟨r2, er2, hF⟩ := kb hF
      refine kRV (rest := [.int v1]) C (k_Plain_feetOf l E h_t h_t_forms h_t_kinds x_t_book x_t_deeps c_t_size c_t_hour c_t_sunny c_t_forms c_t_kinds v2 r2 er2) fn_Plain_feetOf mw_511 ⟨Nat.le_of_ble_eq_true rfl, Nat.le_of_ble_eq_true rfl⟩ hK hT hS (va_recv hK hP (ci := 3) (q0 := 0) rfl rfl) hP [0, 1, 2] rfl rfl rfl hl (Nat.le_of_ble_eq_true rfl) dX5_feetOfAll_15 ?_
      refine lv_iadd hx hb dX5_feetOfAll_18 ?_
      refine lv_istore_n (lv' := [(1, .int (v1 + r2)), (0, .ref h_t), (2, .int v2)]) hx hb dX5_feetOfAll_19 rfl hl (by decide) rfl (fun ls hl => ?_)
      refine lv_iinc (v := (v2 + (1))) (lv' := [(2, .int (v2 + (1))), (1, .int (v1 + r2)), (0, .ref h_t)]) hx hb dX5_feetOfAll_20 hl (k := 2) rfl rfl (by decide) rfl (fun ls hl => ?_)
      refine lv_goto (tgt := 4) hx hb dX5_feetOfAll_23 (by decide) ?_
      exact ih (v1 + r2) (v2 + (1)) hF _ (lv_sub hl [2, 1, 0] rfl)
set_option maxHeartbeats 4000000 in
set_option maxRecDepth 100000 in
theorem k_Plain_feetOfAll (l : Launch) (E : kE) (h_t : Nat) (h_t_forms : Nat) (h_t_kinds : Nat) (x_t_book : Nat) (x_t_deeps : Nat) (c_t_size : Int32) (c_t_hour : Int32) (c_t_sunny : Int32) (c_t_forms : (Nat → Int32)) (c_t_kinds : (Nat → Int32))  (out : Int32) (hF : f_Plain_feetOfAll c_t_size c_t_forms c_t_kinds  = some out) : Met l yX5_feetOfAll (Cond.code yX5_feetOfAll cX5_feetOfAll 3 (some .int) :: wG) (rm 6) (pR E (w_Plain_feetOfAll E h_t h_t_forms h_t_kinds x_t_book x_t_deeps c_t_size c_t_hour c_t_sunny c_t_forms c_t_kinds) [.ref h_t]) (qR (.int out)) 0 0 (fun _ => False) := by
  refine met_R (by decide) (Nat.le_of_ble_eq_true rfl) ?_
  intro p e s m args below meth c ls C hP hK hT hl
  obtain ⟨hx, hb, hr, hml, hown, hw, hlocks⟩ := id C
  have hS : va_S (fun _ => False) s.heap s.heap [] := va_S.rf
  have hl : lv_has ls 3 [(0, .ref h_t)] := hl
  rw [f_Plain_feetOfAll] at hF
  refine lv_iconst (v := (0 : Int32)) hx hb dX5_feetOfAll_0 (by decide) ?_
  refine lv_istore_n (lv' := [(1, .int (0 : Int32)), (0, .ref h_t)]) hx hb dX5_feetOfAll_1 rfl hl (by decide) rfl (fun ls hl => ?_)
  refine lv_iconst (v := (0 : Int32)) hx hb dX5_feetOfAll_2 (by decide) ?_
  refine lv_istore_n (lv' := [(2, .int (0 : Int32)), (1, .int (0 : Int32)), (0, .ref h_t)]) hx hb dX5_feetOfAll_3 rfl hl (by decide) rfl (fun ls hl => ?_)
  exact wk_Plain_feetOfAll_b4 E h_t h_t_forms h_t_kinds x_t_book x_t_deeps c_t_size c_t_hour c_t_sunny c_t_forms c_t_kinds  C hP  hK hT  5000 (0 : Int32) (0 : Int32) hF _ (lv_sub hl [2, 1, 0] rfl)
abbrev w_Plain_isMisreadAt (E : kE) (h_t : Nat) (h_t_book : Nat) (h_t_book_forms : Nat) (h_t_deeps : Nat) (h_t_forms : Nat) (h_t_kinds : Nat)  (c_t_size : Int32) (c_t_hour : Int32) (c_t_sunny : Int32) (c_t_book_forms : (Nat → Int32)) (c_t_deeps : (Nat → Int32)) (c_t_forms : (Nat → Int32)) (c_t_kinds : (Nat → Int32)) : va_W := [(h_t, .inr (3, [.ref h_t_book, .ref h_t_kinds, .ref h_t_forms, .ref h_t_deeps, .int c_t_size, .int c_t_hour, .int c_t_sunny])), (h_t_book, .inr (0, [.ref h_t_book_forms])), (h_t_book_forms, .inl (eI E, 26, .inl c_t_book_forms)), (h_t_deeps, .inl (eI E, 12, .inl c_t_deeps)), (h_t_forms, .inl (eI E, 12, .inl c_t_forms)), (h_t_kinds, .inl (eI E, 12, .inl c_t_kinds))]
set_option maxHeartbeats 4000000 in
set_option maxRecDepth 100000 in
theorem k_Plain_isMisreadAt (l : Launch) (E : kE) (h_t : Nat) (h_t_book : Nat) (h_t_book_forms : Nat) (h_t_deeps : Nat) (h_t_forms : Nat) (h_t_kinds : Nat)  (c_t_size : Int32) (c_t_hour : Int32) (c_t_sunny : Int32) (c_t_book_forms : (Nat → Int32)) (c_t_deeps : (Nat → Int32)) (c_t_forms : (Nat → Int32)) (c_t_kinds : (Nat → Int32)) (a1 : Int32) (a2 : Int32) (out : Int32) (hF : f_Plain_isMisreadAt c_t_sunny c_t_book_forms c_t_deeps c_t_forms c_t_kinds a1 a2 = some out) : Met l yX5_isMisreadAt (Cond.code yX5_isMisreadAt cX5_isMisreadAt 3 (some .boolean) :: wG) (rm 4) (pR E (w_Plain_isMisreadAt E h_t h_t_book h_t_book_forms h_t_deeps h_t_forms h_t_kinds c_t_size c_t_hour c_t_sunny c_t_book_forms c_t_deeps c_t_forms c_t_kinds) [.ref h_t, .int a1, .int a2]) (qR (.int out)) 0 0 (fun _ => False) := by
  refine met_R (by decide) (Nat.le_of_ble_eq_true rfl) ?_
  intro p e s m args below meth c ls C hP hK hT hl
  obtain ⟨hx, hb, hr, hml, hown, hw, hlocks⟩ := id C
  have hS : va_S (fun _ => False) s.heap s.heap [] := va_S.rf
  have hl : lv_has ls 3 [(0, .ref h_t), (1, .int a1), (2, .int a2)] := hl
  rw [f_Plain_isMisreadAt] at hF
  refine lv_aload_n hx hb dX5_isMisreadAt_0 rfl (lv_at hl 0 rfl) ?_
  refine va_get (D := eD E) (ci := 3) (C := RX5) (T := TX5) (N := 7) (v := .ref h_t_book) hx hb hw inX5 hown hK hP 0 rfl rfl 0 (by decide) (hw _ mw_81) (fun _ h9 => h9) rfl dX5_isMisreadAt_1 ?_
  refine lv_aload_n hx hb dX5_isMisreadAt_4 rfl (lv_at hl 0 rfl) ?_
  refine lv_iload_n hx hb dX5_isMisreadAt_5 rfl (lv_at hl 1 rfl) ?_
  refine lv_iload_n hx hb dX5_isMisreadAt_6 rfl (lv_at hl 2 rfl) ?_
  obtain ⟨r1, er1, hF⟩ := kb hF
  refine kRV (rest := [.ref h_t_book]) C (k_Plain_shownAt l E h_t h_t_deeps h_t_forms h_t_kinds h_t_book c_t_size c_t_hour c_t_sunny c_t_deeps c_t_forms c_t_kinds a1 a2 r1 er1) fn_Plain_shownAt mw_470 ⟨Nat.le_of_ble_eq_true rfl, Nat.le_of_ble_eq_true rfl⟩ hK hT hS (va_recv hK hP (ci := 3) (q0 := 0) rfl rfl) hP [0, 3, 4, 5] rfl rfl rfl hl (Nat.le_of_ble_eq_true rfl) dX5_isMisreadAt_7 ?_
  obtain ⟨r2, er2, hF⟩ := kb hF
  refine kRV (rest := []) C (k_Book_nearest l E h_t_book h_t_book_forms c_t_book_forms r1 r2 er2) fn_Book_nearest mw_471 ⟨Nat.le_of_ble_eq_true rfl, Nat.le_of_ble_eq_true rfl⟩ hK hT hS (va_recv hK hP (ci := 0) (q0 := 1) rfl rfl) hP [1, 2] rfl rfl rfl hl (Nat.le_of_ble_eq_true rfl) dX5_isMisreadAt_10 ?_
  refine lv_aload_n hx hb dX5_isMisreadAt_13 rfl (lv_at hl 0 rfl) ?_
  refine va_get (D := eD E) (ci := 3) (C := RX5) (T := TX5) (N := 7) (v := .ref h_t_book) hx hb hw inX5 hown hK hP 0 rfl rfl 0 (by decide) (hw _ mw_81) (fun _ h9 => h9) rfl dX5_isMisreadAt_14 ?_
  refine lv_aload_n hx hb dX5_isMisreadAt_17 rfl (lv_at hl 0 rfl) ?_
  refine va_get (D := eD E) (ci := 3) (C := RX5) (T := TX5) (N := 7) (v := .ref h_t_forms) hx hb hw inX5 hown hK hP 0 rfl rfl 2 (by decide) (hw _ mw_86) (fun _ h9 => h9) rfl dX5_isMisreadAt_18 ?_
  refine lv_iload_n hx hb dX5_isMisreadAt_21 rfl (lv_at hl 1 rfl) ?_
  obtain ⟨r3, er3, hF⟩ := kb hF
  refine wa_iald hx hb hK hP 4 0 rfl rfl er3 dX5_isMisreadAt_22 ?_
  obtain ⟨r4, er4, hF⟩ := kb hF
  refine kRV (rest := [.int r2]) C (k_Book_nearest l E h_t_book h_t_book_forms c_t_book_forms r3 r4 er4) fn_Book_nearest mw_471 ⟨Nat.le_of_ble_eq_true rfl, Nat.le_of_ble_eq_true rfl⟩ hK hT hS (va_recv hK hP (ci := 0) (q0 := 1) rfl rfl) hP [1, 2] rfl rfl rfl hl (Nat.le_of_ble_eq_true rfl) dX5_isMisreadAt_23 ?_
  refine lv_icmp_eq (tgt := 33) hx hb dX5_isMisreadAt_26 (by decide) (fun q5 => ?_) (fun q5 => ?_)
  · have hF := kp hF q5
    refine lv_iconst (v := (0 : Int32)) hx hb dX5_isMisreadAt_33 (by decide) ?_
    obtain rfl := Option.some.inj hF
    exact W.zret (ty := .boolean) hx hb hr rfl (fun t ht hW => ⟨rfl, ht⟩) nofun dX5_isMisreadAt_34
  · have hF := kn hF q5
    refine lv_iconst (v := (1 : Int32)) hx hb dX5_isMisreadAt_29 (by decide) ?_
    refine lv_goto (tgt := 34) hx hb dX5_isMisreadAt_30 (by decide) ?_
    obtain rfl := Option.some.inj hF
    exact W.zret (ty := .boolean) hx hb hr rfl (fun t ht hW => ⟨rfl, ht⟩) nofun dX5_isMisreadAt_34
abbrev w_Plain_lettersMisread (E : kE) (h_t : Nat) (h_t_book : Nat) (h_t_book_forms : Nat) (h_t_deeps : Nat) (h_t_forms : Nat) (h_t_kinds : Nat)  (c_t_size : Int32) (c_t_hour : Int32) (c_t_sunny : Int32) (c_t_book_forms : (Nat → Int32)) (c_t_deeps : (Nat → Int32)) (c_t_forms : (Nat → Int32)) (c_t_kinds : (Nat → Int32)) : va_W := [(h_t, .inr (3, [.ref h_t_book, .ref h_t_kinds, .ref h_t_forms, .ref h_t_deeps, .int c_t_size, .int c_t_hour, .int c_t_sunny])), (h_t_book, .inr (0, [.ref h_t_book_forms])), (h_t_book_forms, .inl (eI E, 26, .inl c_t_book_forms)), (h_t_deeps, .inl (eI E, 12, .inl c_t_deeps)), (h_t_forms, .inl (eI E, 12, .inl c_t_forms)), (h_t_kinds, .inl (eI E, 12, .inl c_t_kinds))]
set_option maxHeartbeats 4000000 in
set_option maxRecDepth 100000 in
theorem wk_Plain_lettersMisread_b4 {p : Program} {l : Launch} {e : Env} {s : State} {m : MethodId} {args : Array Value} {below : List Frame} {meth : Method} {c : Code} (E : kE) (h_t : Nat) (h_t_book : Nat) (h_t_book_forms : Nat) (h_t_deeps : Nat) (h_t_forms : Nat) (h_t_kinds : Nat)  (c_t_size : Int32) (c_t_hour : Int32) (c_t_sunny : Int32) (c_t_book_forms : (Nat → Int32)) (c_t_deeps : (Nat → Int32)) (c_t_forms : (Nat → Int32)) (c_t_kinds : (Nat → Int32))  {out : Int32} (C : kC RX5 cX5_lettersMisread 3 (some .int) p s m args meth c) (hP : va_P (eD E) vwCl (w_Plain_lettersMisread E h_t h_t_book h_t_book_forms h_t_deeps h_t_forms h_t_kinds c_t_size c_t_hour c_t_sunny c_t_book_forms c_t_deeps c_t_forms c_t_kinds) s.heap) (hK : va_K (eD E) vwCl (eT E) s) (hT : sT E (fun _ => False) s s.heap)  :
    ∀ (n : Nat), ∀ (v1 : Int32) (v2 : Int32), f_Plain_lettersMisread_b4  c_t_size c_t_hour c_t_sunny c_t_book_forms c_t_deeps c_t_forms c_t_kinds n v1 v2 = some out → ∀ (ls : Array Slot), lv_has ls 3 [(0, .ref h_t), (1, .int v1), (2, .int v2)] → W p l e (rm 5) s m args below meth c s.heap [] 0 0 (MQ below (qR (.int out)) args s 0 0 (fun _ => False)) (F0 m 4 ls []) := by
  obtain ⟨hx, hb, hr, hml, hown, hw, hlocks⟩ := id C
  have hS : va_S (fun _ => False) s.heap s.heap [] := va_S.rf
  intro n
  induction n with
  | zero =>
    intro v1 v2 hF
    exact absurd (show (none : Option (Int32)) = some out from hF) nofun
  | succ n ih =>
    intro v1 v2 hF ls hl
    rw [f_Plain_lettersMisread_b4] at hF
    refine lv_iload_n hx hb dX5_lettersMisread_4 rfl (lv_at hl 2 rfl) ?_
    refine lv_aload_n hx hb dX5_lettersMisread_5 rfl (lv_at hl 0 rfl) ?_
    refine va_get (D := eD E) (ci := 3) (C := RX5) (T := TX5) (N := 7) (v := .int c_t_size) hx hb hw inX5 hown hK hP 0 rfl rfl 4 (by decide) (hw _ mw_91) (fun _ h9 => h9) rfl dX5_lettersMisread_6 ?_
    refine lv_icmp_ge (tgt := 36) hx hb dX5_lettersMisread_9 (by decide) (fun q1 => ?_) (fun q1 => ?_)
    · have hF := kp hF q1
      refine lv_iload_n hx hb dX5_lettersMisread_36 rfl (lv_at hl 1 rfl) ?_
      obtain rfl := Option.some.inj hF
      exact W.iret hx hb hr (fun t ht hW => ⟨rfl, ht⟩) nofun dX5_lettersMisread_37
    · have hF := kn hF q1
      refine lv_aload_n hx hb dX5_lettersMisread_12 rfl (lv_at hl 0 rfl) ?_
      refine lv_iload_n hx hb dX5_lettersMisread_13 rfl (lv_at hl 2 rfl) ?_
      refine lv_aload_n hx hb dX5_lettersMisread_14 rfl (lv_at hl 0 rfl) ?_
      refine va_get (D := eD E) (ci := 3) (C := RX5) (T := TX5) (N := 7) (v := .int c_t_hour) hx hb hw inX5 hown hK hP 0 rfl rfl 5 (by decide) (hw _ mw_93) (fun _ h9 => h9) rfl dX5_lettersMisread_15 ?_
      obtain ⟨r2, er2, hF⟩ := kb hF
      refine kRV (rest := []) C (k_Plain_isMisreadAt l E h_t h_t_book h_t_book_forms h_t_deeps h_t_forms h_t_kinds c_t_size c_t_hour c_t_sunny c_t_book_forms c_t_deeps c_t_forms c_t_kinds v2 c_t_hour r2 er2) fn_Plain_isMisreadAt mw_516 ⟨Nat.le_of_ble_eq_true rfl, Nat.le_of_ble_eq_true rfl⟩ hK hT hS (va_recv hK hP (ci := 3) (q0 := 0) rfl rfl) hP [0, 1, 2, 3, 4, 5] rfl rfl rfl hl (Nat.le_of_ble_eq_true rfl) dX5_lettersMisread_18 ?_
      refine lv_if_eq (tgt := 30) hx hb dX5_lettersMisread_21 (by decide) (fun q3 => ?_) (fun q3 => ?_)
      · have hF := kp hF q3
        refine lv_iinc (v := (v2 + (1))) (lv' := [(2, .int (v2 + (1))), (0, .ref h_t), (1, .int v1)]) hx hb dX5_lettersMisread_30 hl (k := 2) rfl rfl (by decide) rfl (fun ls hl => ?_)
        refine lv_goto (tgt := 4) hx hb dX5_lettersMisread_33 (by decide) ?_
        exact ih v1 (v2 + (1)) hF _ (lv_sub hl [1, 2, 0] rfl)
      · have hF := kn hF q3
        refine lv_iload_n hx hb dX5_lettersMisread_24 rfl (lv_at hl 1 rfl) ?_
        refine lv_iconst (v := (1 : Int32)) hx hb dX5_lettersMisread_25 (by decide) ?_
        refine lv_iload_n hx hb dX5_lettersMisread_26 rfl (lv_at hl 2 rfl) ?_
        refine lv_ishl hx hb dX5_lettersMisread_27 ?_
        refine lv_ior hx hb dX5_lettersMisread_28 ?_
        refine lv_istore_n (lv' := [(1, .int (v1 ||| ((1 : Int32) <<< (v2 &&& 31)))), (0, .ref h_t), (2, .int v2)]) hx hb dX5_lettersMisread_29 rfl hl (by decide) rfl (fun ls hl => ?_)
        refine lv_iinc (v := (v2 + (1))) (lv' := [(2, .int (v2 + (1))), (1, .int (v1 ||| ((1 : Int32) <<< (v2 &&& 31)))), (0, .ref h_t)]) hx hb dX5_lettersMisread_30 hl (k := 2) rfl rfl (by decide) rfl (fun ls hl => ?_)
        refine lv_goto (tgt := 4) hx hb dX5_lettersMisread_33 (by decide) ?_
        exact ih (v1 ||| ((1 : Int32) <<< (v2 &&& 31))) (v2 + (1)) hF _ (lv_sub hl [2, 1, 0] rfl)
set_option maxHeartbeats 4000000 in
set_option maxRecDepth 100000 in
theorem k_Plain_lettersMisread (l : Launch) (E : kE) (h_t : Nat) (h_t_book : Nat) (h_t_book_forms : Nat) (h_t_deeps : Nat) (h_t_forms : Nat) (h_t_kinds : Nat)  (c_t_size : Int32) (c_t_hour : Int32) (c_t_sunny : Int32) (c_t_book_forms : (Nat → Int32)) (c_t_deeps : (Nat → Int32)) (c_t_forms : (Nat → Int32)) (c_t_kinds : (Nat → Int32))  (out : Int32) (hF : f_Plain_lettersMisread c_t_size c_t_hour c_t_sunny c_t_book_forms c_t_deeps c_t_forms c_t_kinds  = some out) : Met l yX5_lettersMisread (Cond.code yX5_lettersMisread cX5_lettersMisread 3 (some .int) :: wG) (rm 5) (pR E (w_Plain_lettersMisread E h_t h_t_book h_t_book_forms h_t_deeps h_t_forms h_t_kinds c_t_size c_t_hour c_t_sunny c_t_book_forms c_t_deeps c_t_forms c_t_kinds) [.ref h_t]) (qR (.int out)) 0 0 (fun _ => False) := by
  refine met_R (by decide) (Nat.le_of_ble_eq_true rfl) ?_
  intro p e s m args below meth c ls C hP hK hT hl
  obtain ⟨hx, hb, hr, hml, hown, hw, hlocks⟩ := id C
  have hS : va_S (fun _ => False) s.heap s.heap [] := va_S.rf
  have hl : lv_has ls 3 [(0, .ref h_t)] := hl
  rw [f_Plain_lettersMisread] at hF
  refine lv_iconst (v := (0 : Int32)) hx hb dX5_lettersMisread_0 (by decide) ?_
  refine lv_istore_n (lv' := [(1, .int (0 : Int32)), (0, .ref h_t)]) hx hb dX5_lettersMisread_1 rfl hl (by decide) rfl (fun ls hl => ?_)
  refine lv_iconst (v := (0 : Int32)) hx hb dX5_lettersMisread_2 (by decide) ?_
  refine lv_istore_n (lv' := [(2, .int (0 : Int32)), (1, .int (0 : Int32)), (0, .ref h_t)]) hx hb dX5_lettersMisread_3 rfl hl (by decide) rfl (fun ls hl => ?_)
  exact wk_Plain_lettersMisread_b4 E h_t h_t_book h_t_book_forms h_t_deeps h_t_forms h_t_kinds c_t_size c_t_hour c_t_sunny c_t_book_forms c_t_deeps c_t_forms c_t_kinds  C hP  hK hT  5000 (0 : Int32) (0 : Int32) hF _ (lv_sub hl [2, 1, 0] rfl)
abbrev w_Choice_offer (E : kE) (h_t : Nat) (x_t_steps : Nat) (x_t_worths : Nat) (c_t_chosen : Int32) (c_t_mostWorth : Int32) : va_W := [(h_t, .inr (1, [.ref x_t_steps, .ref x_t_worths, .int c_t_chosen, .int c_t_mostWorth]))]
set_option maxHeartbeats 4000000 in
set_option maxRecDepth 100000 in
theorem wk_Choice_offer_b24 {p : Program} {l : Launch} {e : Env} {s : State} {m : MethodId} {args : Array Value} {below : List Frame} {meth : Method} {c : Code} {A : Nat → Prop} (E : kE) (h_t : Nat) (x_t_steps : Nat) (x_t_worths : Nat)  (a1 : Int32) (a2 : Int32) {out : Int32 × Int32} (C : kC RX1 cX1_offer 3 none p s m args meth c) (hA : ∀ q : Nat, s.heap.size ≤ q → A q) (hK : va_K (eD E) vwCl (eT E) s) (hT : sT E A s s.heap)  :
    ∀ (c_t_chosen : Int32) (c_t_mostWorth : Int32), f_Choice_offer_b24  a1 a2 c_t_chosen c_t_mostWorth = some out → ∀ (H : Heap) (locs : List Loc), va_P (eD E) vwCl (w_Choice_offer E h_t x_t_steps x_t_worths c_t_chosen c_t_mostWorth) H → va_D A (w_Choice_offer E h_t x_t_steps x_t_worths c_t_chosen c_t_mostWorth) → va_S A s.heap H locs → ∀ (ls : Array Slot), lv_has ls 3 [(0, .ref h_t), (1, .int a1), (2, .int a2)] → W p l e (rm 1) s m args below meth c H locs 0 0 (MQ below (qW none E (w_Choice_offer E h_t x_t_steps x_t_worths out.1 out.2) A) args s 0 0 A) (F0 m 24 ls []) := by
  obtain ⟨hx, hb, hr, hml, hown, hw, hlocks⟩ := id C
  intro c_t_chosen c_t_mostWorth hF H locs hP hD hS ls hl
  rw [f_Choice_offer_b24] at hF
  refine lv_aload_n hx hb dX1_offer_24 rfl (lv_at hl 0 rfl) ?_
  refine lv_iload_n hx hb dX1_offer_25 rfl (lv_at hl 1 rfl) ?_
  refine va_put (D := eD E) (ci := 1) (v := .int a1) (ty := .int) (C := RX1) (T := TX1) (N := 4) hx hb hw inX1 tyX1 tyX1_ok nmX1 hown hK hP hD hS 0 rfl rfl 2 (by decide) (hw _ mw_189) (fun _ h9 => h9) rfl (by decide +kernel) rfl rfl (Nat.le_of_ble_eq_true rfl) dX1_offer_26 (fun H locs hP hD hS => ?_)
  have hP : va_P (eD E) vwCl (w_Choice_offer E h_t x_t_steps x_t_worths a1 c_t_mostWorth) H := hP
  have hD : va_D A (w_Choice_offer E h_t x_t_steps x_t_worths a1 c_t_mostWorth) := hD
  refine lv_aload_n hx hb dX1_offer_29 rfl (lv_at hl 0 rfl) ?_
  refine lv_iload_n hx hb dX1_offer_30 rfl (lv_at hl 2 rfl) ?_
  refine va_put (D := eD E) (ci := 1) (v := .int a2) (ty := .int) (C := RX1) (T := TX1) (N := 4) hx hb hw inX1 tyX1 tyX1_ok nmX1 hown hK hP hD hS 0 rfl rfl 3 (by decide) (hw _ mw_191) (fun _ h9 => h9) rfl (by decide +kernel) rfl rfl (Nat.le_of_ble_eq_true rfl) dX1_offer_31 (fun H locs hP hD hS => ?_)
  have hP : va_P (eD E) vwCl (w_Choice_offer E h_t x_t_steps x_t_worths a1 a2) H := hP
  have hD : va_D A (w_Choice_offer E h_t x_t_steps x_t_worths a1 a2) := hD
  obtain rfl := Option.some.inj hF
  exact W.vret hx hb hr (fun t ht hW => ⟨⟨rfl, by rw [ht]; exact hP, hD⟩, hS.F ht⟩) hS.2.2 dX1_offer_34
set_option maxHeartbeats 4000000 in
set_option maxRecDepth 100000 in
theorem k_Choice_offer (l : Launch) (E : kE) (h_t : Nat) (x_t_steps : Nat) (x_t_worths : Nat) (sz : Nat) (c_t_chosen : Int32) (c_t_mostWorth : Int32) (a1 : Int32) (a2 : Int32) (out : Int32 × Int32) (hF : f_Choice_offer c_t_chosen c_t_mostWorth a1 a2 = some out) : Met l yX1_offer (Cond.code yX1_offer cX1_offer 3 none :: wG) (rm 1) (pW E (w_Choice_offer E h_t x_t_steps x_t_worths c_t_chosen c_t_mostWorth) sz [.ref h_t, .int a1, .int a2]) (qW none E (w_Choice_offer E h_t x_t_steps x_t_worths out.1 out.2) (va_A (w_Choice_offer E h_t x_t_steps x_t_worths c_t_chosen c_t_mostWorth) sz)) 0 0 (va_A (w_Choice_offer E h_t x_t_steps x_t_worths c_t_chosen c_t_mostWorth) sz) := by
  refine met_W (by decide) (Nat.le_of_ble_eq_true rfl) ?_
  intro p e s m args below meth c A ls C hP hD hS hA hK hT hl
  obtain ⟨hx, hb, hr, hml, hown, hw, hlocks⟩ := id C
  have hl : lv_has ls 3 [(0, .ref h_t), (1, .int a1), (2, .int a2)] := hl
  rw [f_Choice_offer] at hF
  refine lv_iload_n hx hb dX1_offer_0 rfl (lv_at hl 2 rfl) ?_
  refine lv_aload_n hx hb dX1_offer_1 rfl (lv_at hl 0 rfl) ?_
  refine va_get (D := eD E) (ci := 1) (C := RX1) (T := TX1) (N := 4) (v := .int c_t_mostWorth) hx hb hw inX1 hown hK hP 0 rfl rfl 3 (by decide) (hw _ mw_191) (fun _ h9 => h9) rfl dX1_offer_2 ?_
  refine lv_icmp_gt (tgt := 24) hx hb dX1_offer_5 (by decide) (fun q1 => ?_) (fun q1 => ?_)
  · have hF := kp hF q1
    exact wk_Choice_offer_b24 E h_t x_t_steps x_t_worths a1 a2 C hA  hK hT  c_t_chosen c_t_mostWorth hF _ _ hP hD hS _ (lv_sub hl [0, 1, 2] rfl)
  · have hF := kn hF q1
    refine lv_iload_n hx hb dX1_offer_8 rfl (lv_at hl 2 rfl) ?_
    refine lv_aload_n hx hb dX1_offer_9 rfl (lv_at hl 0 rfl) ?_
    refine va_get (D := eD E) (ci := 1) (C := RX1) (T := TX1) (N := 4) (v := .int c_t_mostWorth) hx hb hw inX1 hown hK hP 0 rfl rfl 3 (by decide) (hw _ mw_191) (fun _ h9 => h9) rfl dX1_offer_10 ?_
    refine lv_icmp_ne (tgt := 34) hx hb dX1_offer_13 (by decide) (fun q2 => ?_) (fun q2 => ?_)
    · have hF := kn hF q2
      obtain rfl := Option.some.inj hF
      exact W.vret hx hb hr (fun t ht hW => ⟨⟨rfl, by rw [ht]; exact hP, hD⟩, hS.F ht⟩) hS.2.2 dX1_offer_34
    · have hF := kp hF q2
      refine lv_iload_n hx hb dX1_offer_16 rfl (lv_at hl 1 rfl) ?_
      refine lv_aload_n hx hb dX1_offer_17 rfl (lv_at hl 0 rfl) ?_
      refine va_get (D := eD E) (ci := 1) (C := RX1) (T := TX1) (N := 4) (v := .int c_t_chosen) hx hb hw inX1 hown hK hP 0 rfl rfl 2 (by decide) (hw _ mw_189) (fun _ h9 => h9) rfl dX1_offer_18 ?_
      refine lv_icmp_ge (tgt := 34) hx hb dX1_offer_21 (by decide) (fun q3 => ?_) (fun q3 => ?_)
      · have hF := kp hF q3
        obtain rfl := Option.some.inj hF
        exact W.vret hx hb hr (fun t ht hW => ⟨⟨rfl, by rw [ht]; exact hP, hD⟩, hS.F ht⟩) hS.2.2 dX1_offer_34
      · have hF := kn hF q3
        exact wk_Choice_offer_b24 E h_t x_t_steps x_t_worths a1 a2 C hA  hK hT  c_t_chosen c_t_mostWorth hF _ _ hP hD hS _ (lv_sub hl [0, 1, 2] rfl)
abbrev w_Plain_worthOf (E : kE) (h_t : Nat) (h_t_book : Nat) (h_t_book_forms : Nat) (h_t_deeps : Nat) (h_t_forms : Nat) (h_t_kinds : Nat)  (c_t_size : Int32) (c_t_hour : Int32) (c_t_sunny : Int32) (c_t_book_forms : (Nat → Int32)) (c_t_deeps : (Nat → Int32)) (c_t_forms : (Nat → Int32)) (c_t_kinds : (Nat → Int32)) : va_W := [(h_t, .inr (3, [.ref h_t_book, .ref h_t_kinds, .ref h_t_forms, .ref h_t_deeps, .int c_t_size, .int c_t_hour, .int c_t_sunny])), (h_t_book, .inr (0, [.ref h_t_book_forms])), (h_t_book_forms, .inl (eI E, 26, .inl c_t_book_forms)), (h_t_deeps, .inl (eI E, 12, .inl c_t_deeps)), (h_t_forms, .inl (eI E, 12, .inl c_t_forms)), (h_t_kinds, .inl (eI E, 12, .inl c_t_kinds))]
set_option maxHeartbeats 4000000 in
set_option maxRecDepth 100000 in
theorem wk_Plain_worthOf_b45 {p : Program} {l : Launch} {e : Env} {s : State} {m : MethodId} {args : Array Value} {below : List Frame} {meth : Method} {c : Code} (E : kE) (h_t : Nat) (h_t_book : Nat) (h_t_book_forms : Nat) (h_t_deeps : Nat) (h_t_forms : Nat) (h_t_kinds : Nat)  (c_t_size : Int32) (c_t_hour : Int32) (c_t_sunny : Int32) (c_t_book_forms : (Nat → Int32)) (c_t_deeps : (Nat → Int32)) (c_t_forms : (Nat → Int32)) (c_t_kinds : (Nat → Int32)) (a1 : Int32) {out : Int32} (C : kC RX5 cX5_worthOf 5 (some .int) p s m args meth c) (hP : va_P (eD E) vwCl (w_Plain_worthOf E h_t h_t_book h_t_book_forms h_t_deeps h_t_forms h_t_kinds c_t_size c_t_hour c_t_sunny c_t_book_forms c_t_deeps c_t_forms c_t_kinds) s.heap) (hK : va_K (eD E) vwCl (eT E) s) (hT : sT E (fun _ => False) s s.heap)  :
    ∀ (v2 : Int32) (s0 : Int32), f_Plain_worthOf_b45  c_t_hour c_t_sunny c_t_book_forms c_t_deeps c_t_forms c_t_kinds a1 v2 s0 = some out → ∀ (ls : Array Slot), lv_has ls 5 [(2, .int v2)] → W p l e (rm 4) s m args below meth c s.heap [] 0 0 (MQ below (qR (.int out)) args s 0 0 (fun _ => False)) (F0 m 45 ls [.int s0]) := by
  obtain ⟨hx, hb, hr, hml, hown, hw, hlocks⟩ := id C
  have hS : va_S (fun _ => False) s.heap s.heap [] := va_S.rf
  intro v2 s0 hF ls hl
  rw [f_Plain_worthOf_b45] at hF
  refine lv_istore (lv' := [(4, .int s0), (2, .int v2)]) hx hb dX5_worthOf_45 hl (by decide) rfl (fun ls hl => ?_)
  refine lv_iload_n hx hb dX5_worthOf_47 rfl (lv_at hl 1 rfl) ?_
  obtain ⟨r1, er1, hF⟩ := kb hF
  refine kRS (rest := []) C (k_Int_bitCount l E v2 r1 er1) fn_Int_bitCount mw_554 ⟨Nat.le_of_ble_eq_true rfl, Nat.le_of_ble_eq_true rfl⟩ hK hT hS hP [] rfl rfl rfl hl (Nat.le_of_ble_eq_true rfl) dX5_worthOf_48 ?_
  refine lv_iload hx hb dX5_worthOf_51 (lv_at hl 0 rfl) ?_
  refine lv_if_eq (tgt := 61) hx hb dX5_worthOf_53 (by decide) (fun q2 => ?_) (fun q2 => ?_)
  · have hF := kp hF q2
    refine lv_iconst (v := (0 : Int32)) hx hb dX5_worthOf_61 (by decide) ?_
    refine lv_iadd hx hb dX5_worthOf_62 ?_
    obtain rfl := Option.some.inj hF
    exact W.iret hx hb hr (fun t ht hW => ⟨rfl, ht⟩) nofun dX5_worthOf_63
  · have hF := kn hF q2
    refine lv_bipush (v := (10 : Int32)) hx hb dX5_worthOf_56 (by decide) ?_
    refine lv_goto (tgt := 62) hx hb dX5_worthOf_58 (by decide) ?_
    refine lv_iadd hx hb dX5_worthOf_62 ?_
    obtain rfl := Option.some.inj hF
    exact W.iret hx hb hr (fun t ht hW => ⟨rfl, ht⟩) nofun dX5_worthOf_63
set_option maxHeartbeats 4000000 in
set_option maxRecDepth 100000 in
theorem k_Plain_worthOf (l : Launch) (E : kE) (h_t : Nat) (h_t_book : Nat) (h_t_book_forms : Nat) (h_t_deeps : Nat) (h_t_forms : Nat) (h_t_kinds : Nat)  (c_t_size : Int32) (c_t_hour : Int32) (c_t_sunny : Int32) (c_t_book_forms : (Nat → Int32)) (c_t_deeps : (Nat → Int32)) (c_t_forms : (Nat → Int32)) (c_t_kinds : (Nat → Int32)) (a1 : Int32) (out : Int32) (hF : f_Plain_worthOf c_t_hour c_t_sunny c_t_book_forms c_t_deeps c_t_forms c_t_kinds a1 = some out) : Met l yX5_worthOf (Cond.code yX5_worthOf cX5_worthOf 5 (some .int) :: wG) (rm 4) (pR E (w_Plain_worthOf E h_t h_t_book h_t_book_forms h_t_deeps h_t_forms h_t_kinds c_t_size c_t_hour c_t_sunny c_t_book_forms c_t_deeps c_t_forms c_t_kinds) [.ref h_t, .int a1]) (qR (.int out)) 0 0 (fun _ => False) := by
  refine met_R (by decide) (Nat.le_of_ble_eq_true rfl) ?_
  intro p e s m args below meth c ls C hP hK hT hl
  obtain ⟨hx, hb, hr, hml, hown, hw, hlocks⟩ := id C
  have hS : va_S (fun _ => False) s.heap s.heap [] := va_S.rf
  have hl : lv_has ls 5 [(0, .ref h_t), (1, .int a1)] := hl
  rw [f_Plain_worthOf] at hF
  refine lv_aload_n hx hb dX5_worthOf_0 rfl (lv_at hl 0 rfl) ?_
  refine lv_iload_n hx hb dX5_worthOf_1 rfl (lv_at hl 1 rfl) ?_
  refine lv_aload_n hx hb dX5_worthOf_2 rfl (lv_at hl 0 rfl) ?_
  refine va_get (D := eD E) (ci := 3) (C := RX5) (T := TX5) (N := 7) (v := .int c_t_hour) hx hb hw inX5 hown hK hP 0 rfl rfl 5 (by decide) (hw _ mw_93) (fun _ h9 => h9) rfl dX5_worthOf_3 ?_
  obtain ⟨r3, er3, hF⟩ := kb hF
  refine kRV (rest := []) C (k_Plain_shownAt l E h_t h_t_deeps h_t_forms h_t_kinds h_t_book c_t_size c_t_hour c_t_sunny c_t_deeps c_t_forms c_t_kinds a1 c_t_hour r3 er3) fn_Plain_shownAt mw_470 ⟨Nat.le_of_ble_eq_true rfl, Nat.le_of_ble_eq_true rfl⟩ hK hT hS (va_recv hK hP (ci := 3) (q0 := 0) rfl rfl) hP [0, 3, 4, 5] rfl rfl rfl hl (Nat.le_of_ble_eq_true rfl) dX5_worthOf_6 ?_
  refine lv_istore_n (lv' := [(2, .int r3), (0, .ref h_t), (1, .int a1)]) hx hb dX5_worthOf_9 rfl hl (by decide) rfl (fun ls hl => ?_)
  refine lv_aload_n hx hb dX5_worthOf_10 rfl (lv_at hl 1 rfl) ?_
  refine va_get (D := eD E) (ci := 3) (C := RX5) (T := TX5) (N := 7) (v := .ref h_t_book) hx hb hw inX5 hown hK hP 0 rfl rfl 0 (by decide) (hw _ mw_81) (fun _ h9 => h9) rfl dX5_worthOf_11 ?_
  refine lv_iload_n hx hb dX5_worthOf_14 rfl (lv_at hl 0 rfl) ?_
  obtain ⟨r4, er4, hF⟩ := kb hF
  refine kRV (rest := []) C (k_Book_nearest l E h_t_book h_t_book_forms c_t_book_forms r3 r4 er4) fn_Book_nearest mw_471 ⟨Nat.le_of_ble_eq_true rfl, Nat.le_of_ble_eq_true rfl⟩ hK hT hS (va_recv hK hP (ci := 0) (q0 := 1) rfl rfl) hP [1, 2] rfl rfl rfl hl (Nat.le_of_ble_eq_true rfl) dX5_worthOf_15 ?_
  refine lv_istore_n (lv' := [(3, .int r4), (2, .int r3), (0, .ref h_t), (1, .int a1)]) hx hb dX5_worthOf_18 rfl hl (by decide) rfl (fun ls hl => ?_)
  refine lv_iload_n hx hb dX5_worthOf_19 rfl (lv_at hl 0 rfl) ?_
  refine lv_if_lt (tgt := 44) hx hb dX5_worthOf_20 (by decide) (fun q5 => ?_) (fun q5 => ?_)
  · have hF := kp hF q5
    refine lv_iconst (v := (0 : Int32)) hx hb dX5_worthOf_44 (by decide) ?_
    exact wk_Plain_worthOf_b45 E h_t h_t_book h_t_book_forms h_t_deeps h_t_forms h_t_kinds c_t_size c_t_hour c_t_sunny c_t_book_forms c_t_deeps c_t_forms c_t_kinds a1 C hP  hK hT  r3 (0 : Int32) hF _ (lv_sub hl [1] rfl)
  · have hF := kn hF q5
    refine lv_iload_n hx hb dX5_worthOf_23 rfl (lv_at hl 0 rfl) ?_
    refine lv_aload_n hx hb dX5_worthOf_24 rfl (lv_at hl 2 rfl) ?_
    refine va_get (D := eD E) (ci := 3) (C := RX5) (T := TX5) (N := 7) (v := .ref h_t_book) hx hb hw inX5 hown hK hP 0 rfl rfl 0 (by decide) (hw _ mw_81) (fun _ h9 => h9) rfl dX5_worthOf_25 ?_
    refine lv_aload_n hx hb dX5_worthOf_28 rfl (lv_at hl 2 rfl) ?_
    refine va_get (D := eD E) (ci := 3) (C := RX5) (T := TX5) (N := 7) (v := .ref h_t_forms) hx hb hw inX5 hown hK hP 0 rfl rfl 2 (by decide) (hw _ mw_86) (fun _ h9 => h9) rfl dX5_worthOf_29 ?_
    refine lv_iload_n hx hb dX5_worthOf_32 rfl (lv_at hl 3 rfl) ?_
    obtain ⟨r6, er6, hF⟩ := kb hF
    refine wa_iald hx hb hK hP 4 0 rfl rfl er6 dX5_worthOf_33 ?_
    obtain ⟨r7, er7, hF⟩ := kb hF
    refine kRV (rest := [.int r4]) C (k_Book_nearest l E h_t_book h_t_book_forms c_t_book_forms r6 r7 er7) fn_Book_nearest mw_471 ⟨Nat.le_of_ble_eq_true rfl, Nat.le_of_ble_eq_true rfl⟩ hK hT hS (va_recv hK hP (ci := 0) (q0 := 1) rfl rfl) hP [1, 2] rfl rfl rfl hl (Nat.le_of_ble_eq_true rfl) dX5_worthOf_34 ?_
    refine lv_icmp_ne (tgt := 44) hx hb dX5_worthOf_37 (by decide) (fun q8 => ?_) (fun q8 => ?_)
    · have hF := kn hF q8
      refine lv_iconst (v := (0 : Int32)) hx hb dX5_worthOf_44 (by decide) ?_
      exact wk_Plain_worthOf_b45 E h_t h_t_book h_t_book_forms h_t_deeps h_t_forms h_t_kinds c_t_size c_t_hour c_t_sunny c_t_book_forms c_t_deeps c_t_forms c_t_kinds a1 C hP  hK hT  r3 (0 : Int32) hF _ (lv_sub hl [1] rfl)
    · have hF := kp hF q8
      refine lv_iconst (v := (1 : Int32)) hx hb dX5_worthOf_40 (by decide) ?_
      refine lv_goto (tgt := 45) hx hb dX5_worthOf_41 (by decide) ?_
      exact wk_Plain_worthOf_b45 E h_t h_t_book h_t_book_forms h_t_deeps h_t_forms h_t_kinds c_t_size c_t_hour c_t_sunny c_t_book_forms c_t_deeps c_t_forms c_t_kinds a1 C hP  hK hT  r3 (1 : Int32) hF _ (lv_sub hl [1] rfl)
abbrev w_Choice_choose (E : kE) (h_t : Nat) (h_t_steps : Nat) (h_t_worths : Nat) (h_p1 : Nat) (h_p1_book : Nat) (h_p1_book_forms : Nat) (h_p1_deeps : Nat) (h_p1_forms : Nat) (h_p1_kinds : Nat)  (c_t_chosen : Int32) (c_t_mostWorth : Int32) (c_t_steps : (Nat → Int32)) (c_t_worths : (Nat → Int32)) (c_p1_size : Int32) (c_p1_hour : Int32) (c_p1_sunny : Int32) (c_p1_book_forms : (Nat → Int32)) (c_p1_deeps : (Nat → Int32)) (c_p1_forms : (Nat → Int32)) (c_p1_kinds : (Nat → Int32)) : va_W := [(h_t, .inr (1, [.ref h_t_steps, .ref h_t_worths, .int c_t_chosen, .int c_t_mostWorth])), (h_t_steps, .inl (eI E, 12, .inl c_t_steps)), (h_t_worths, .inl (eI E, 12, .inl c_t_worths)), (h_p1, .inr (3, [.ref h_p1_book, .ref h_p1_kinds, .ref h_p1_forms, .ref h_p1_deeps, .int c_p1_size, .int c_p1_hour, .int c_p1_sunny])), (h_p1_book, .inr (0, [.ref h_p1_book_forms])), (h_p1_book_forms, .inl (eI E, 26, .inl c_p1_book_forms)), (h_p1_deeps, .inl (eI E, 12, .inl c_p1_deeps)), (h_p1_forms, .inl (eI E, 12, .inl c_p1_forms)), (h_p1_kinds, .inl (eI E, 12, .inl c_p1_kinds))]
set_option maxHeartbeats 4000000 in
set_option maxRecDepth 100000 in
theorem wk_Choice_choose_b107 {p : Program} {l : Launch} {e : Env} {s : State} {m : MethodId} {args : Array Value} {below : List Frame} {meth : Method} {c : Code} {A : Nat → Prop} (E : kE) (h_t : Nat) (h_t_steps : Nat) (h_t_worths : Nat) (h_p1 : Nat) (h_p1_book : Nat) (h_p1_book_forms : Nat) (h_p1_deeps : Nat) (h_p1_forms : Nat) (h_p1_kinds : Nat)  (c_p1_size : Int32) (c_p1_hour : Int32) (c_p1_sunny : Int32) (c_p1_book_forms : (Nat → Int32)) (c_p1_deeps : (Nat → Int32)) (c_p1_forms : (Nat → Int32)) (c_p1_kinds : (Nat → Int32)) (a2 : Int32) {out : Int32 × Int32 × (Nat → Int32) × (Nat → Int32)} (C : kC RX1 cX1_choose 10 none p s m args meth c) (hA : ∀ q : Nat, s.heap.size ≤ q → A q) (hK : va_K (eD E) vwCl (eT E) s) (hT : sT E A s s.heap) (k68 : Int32 → Int32 → (Nat → Int32) → (Nat → Int32) → Int32 → Int32 → Int32 → Int32 → Int32 → Option (Int32 × Int32 × (Nat → Int32) × (Nat → Int32))) (hk68 : ∀ (c_t_chosen : Int32) (c_t_mostWorth : Int32) (c_t_steps : (Nat → Int32)) (c_t_worths : (Nat → Int32)) (v3 : Int32) (v4 : Int32) (v5 : Int32) (v6 : Int32) (v7 : Int32), k68 c_t_chosen c_t_mostWorth c_t_steps c_t_worths v3 v4 v5 v6 v7 = some out → ∀ (H : Heap) (locs : List Loc), va_P (eD E) vwCl (w_Choice_choose E h_t h_t_steps h_t_worths h_p1 h_p1_book h_p1_book_forms h_p1_deeps h_p1_forms h_p1_kinds c_t_chosen c_t_mostWorth c_t_steps c_t_worths c_p1_size c_p1_hour c_p1_sunny c_p1_book_forms c_p1_deeps c_p1_forms c_p1_kinds) H → va_D A (w_Choice_choose E h_t h_t_steps h_t_worths h_p1 h_p1_book h_p1_book_forms h_p1_deeps h_p1_forms h_p1_kinds c_t_chosen c_t_mostWorth c_t_steps c_t_worths c_p1_size c_p1_hour c_p1_sunny c_p1_book_forms c_p1_deeps c_p1_forms c_p1_kinds) → va_S A s.heap H locs → ∀ (ls : Array Slot), lv_has ls 10 [(0, .ref h_t), (2, .int a2), (3, .int v3), (4, .int v4), (5, .int v5), (6, .int v6), (7, .int v7)] → W p l e (rm 6) s m args below meth c H locs 0 0 (MQ below (qW none E (w_Choice_choose E h_t h_t_steps h_t_worths h_p1 h_p1_book h_p1_book_forms h_p1_deeps h_p1_forms h_p1_kinds out.1 out.2.1 out.2.2.1 out.2.2.2 c_p1_size c_p1_hour c_p1_sunny c_p1_book_forms c_p1_deeps c_p1_forms c_p1_kinds) A) args s 0 0 A) (F0 m 68 ls [])) :
    ∀ (c_t_chosen : Int32) (c_t_mostWorth : Int32) (c_t_steps : (Nat → Int32)) (c_t_worths : (Nat → Int32)) (v3 : Int32) (v4 : Int32) (v5 : Int32) (v6 : Int32) (v7 : Int32) (v8 : Int32) (s0 : Int32), f_Choice_choose_b107 k68 c_p1_size c_p1_hour c_p1_sunny c_p1_book_forms c_p1_deeps c_p1_forms c_p1_kinds a2 c_t_chosen c_t_mostWorth c_t_steps c_t_worths v3 v4 v5 v6 v7 v8 s0 = some out → ∀ (H : Heap) (locs : List Loc), va_P (eD E) vwCl (w_Choice_choose E h_t h_t_steps h_t_worths h_p1 h_p1_book h_p1_book_forms h_p1_deeps h_p1_forms h_p1_kinds c_t_chosen c_t_mostWorth c_t_steps c_t_worths c_p1_size c_p1_hour c_p1_sunny c_p1_book_forms c_p1_deeps c_p1_forms c_p1_kinds) H → va_D A (w_Choice_choose E h_t h_t_steps h_t_worths h_p1 h_p1_book h_p1_book_forms h_p1_deeps h_p1_forms h_p1_kinds c_t_chosen c_t_mostWorth c_t_steps c_t_worths c_p1_size c_p1_hour c_p1_sunny c_p1_book_forms c_p1_deeps c_p1_forms c_p1_kinds) → va_S A s.heap H locs → ∀ (ls : Array Slot), lv_has ls 10 [(0, .ref h_t), (2, .int a2), (3, .int v3), (4, .int v4), (5, .int v5), (6, .int v6), (7, .int v7), (8, .int v8)] → W p l e (rm 6) s m args below meth c H locs 0 0 (MQ below (qW none E (w_Choice_choose E h_t h_t_steps h_t_worths h_p1 h_p1_book h_p1_book_forms h_p1_deeps h_p1_forms h_p1_kinds out.1 out.2.1 out.2.2.1 out.2.2.2 c_p1_size c_p1_hour c_p1_sunny c_p1_book_forms c_p1_deeps c_p1_forms c_p1_kinds) A) args s 0 0 A) (F0 m 107 ls [.int s0]) := by
  obtain ⟨hx, hb, hr, hml, hown, hw, hlocks⟩ := id C
  intro c_t_chosen c_t_mostWorth c_t_steps c_t_worths v3 v4 v5 v6 v7 v8 s0 hF H locs hP hD hS ls hl
  rw [f_Choice_choose_b107] at hF
  refine lv_istore (lv' := [(9, .int s0), (0, .ref h_t), (2, .int a2), (3, .int v3), (4, .int v4), (5, .int v5), (6, .int v6), (7, .int v7), (8, .int v8)]) hx hb dX1_choose_107 hl (by decide) rfl (fun ls hl => ?_)
  refine lv_iload hx hb dX1_choose_109 (lv_at hl 5 rfl) ?_
  refine lv_iload hx hb dX1_choose_111 (lv_at hl 0 rfl) ?_
  refine lv_aload_n hx hb dX1_choose_113 rfl (lv_at hl 1 rfl) ?_
  refine va_get (D := eD E) (ci := 1) (C := RX1) (T := TX1) (N := 4) (v := .ref h_t_steps) hx hb hw inX1 hown hK hP 0 rfl rfl 0 (by decide) (hw _ mw_187) (fun _ h9 => h9) rfl dX1_choose_114 ?_
  refine lv_iload hx hb dX1_choose_117 (lv_at hl 8 rfl) ?_
  obtain ⟨r1, er1, hF⟩ := kb hF
  refine wa_iald hx hb hK hP 1 0 rfl rfl er1 dX1_choose_119 ?_
  refine lv_imul hx hb dX1_choose_120 ?_
  refine lv_iadd hx hb dX1_choose_121 ?_
  refine lv_istore (lv' := [(5, .int (v5 + (s0 * r1))), (9, .int s0), (0, .ref h_t), (2, .int a2), (3, .int v3), (4, .int v4), (6, .int v6), (7, .int v7), (8, .int v8)]) hx hb dX1_choose_122 hl (by decide) rfl (fun ls hl => ?_)
  refine lv_iload hx hb dX1_choose_124 (lv_at hl 6 rfl) ?_
  refine lv_iload hx hb dX1_choose_126 (lv_at hl 1 rfl) ?_
  refine lv_aload_n hx hb dX1_choose_128 rfl (lv_at hl 2 rfl) ?_
  refine va_get (D := eD E) (ci := 1) (C := RX1) (T := TX1) (N := 4) (v := .ref h_t_worths) hx hb hw inX1 hown hK hP 0 rfl rfl 1 (by decide) (hw _ mw_188) (fun _ h9 => h9) rfl dX1_choose_129 ?_
  refine lv_iload hx hb dX1_choose_132 (lv_at hl 8 rfl) ?_
  obtain ⟨r2, er2, hF⟩ := kb hF
  refine wa_iald hx hb hK hP 2 0 rfl rfl er2 dX1_choose_134 ?_
  refine lv_imul hx hb dX1_choose_135 ?_
  refine lv_iadd hx hb dX1_choose_136 ?_
  refine lv_istore (lv' := [(6, .int (v6 + (s0 * r2))), (5, .int (v5 + (s0 * r1))), (9, .int s0), (0, .ref h_t), (2, .int a2), (3, .int v3), (4, .int v4), (7, .int v7), (8, .int v8)]) hx hb dX1_choose_137 hl (by decide) rfl (fun ls hl => ?_)
  refine lv_iload hx hb dX1_choose_139 (lv_at hl 1 rfl) ?_
  refine lv_iload_n hx hb dX1_choose_141 rfl (lv_at hl 4 rfl) ?_
  refine lv_icmp_gt (tgt := 153) hx hb dX1_choose_142 (by decide) (fun q3 => ?_) (fun q3 => ?_)
  · have hF := kp hF q3
    refine lv_iinc (v := (v7 + (1))) (lv' := [(7, .int (v7 + (1))), (6, .int (v6 + (s0 * r2))), (5, .int (v5 + (s0 * r1))), (9, .int s0), (0, .ref h_t), (2, .int a2), (3, .int v3), (4, .int v4), (8, .int v8)]) hx hb dX1_choose_153 hl (k := 7) rfl rfl (by decide) rfl (fun ls hl => ?_)
    refine lv_goto (tgt := 68) hx hb dX1_choose_156 (by decide) ?_
    exact hk68 c_t_chosen c_t_mostWorth c_t_steps c_t_worths v3 v4 (v5 + (s0 * r1)) (v6 + (s0 * r2)) (v7 + (1)) hF _ _ hP hD hS _ (lv_sub hl [4, 5, 6, 7, 2, 1, 0] rfl)
  · have hF := kn hF q3
    refine lv_aload_n hx hb dX1_choose_145 rfl (lv_at hl 3 rfl) ?_
    refine lv_iload hx hb dX1_choose_146 (lv_at hl 6 rfl) ?_
    refine lv_iload hx hb dX1_choose_148 (lv_at hl 0 rfl) ?_
    obtain ⟨r4, er4, hF⟩ := kb hF
    refine kWV (rest := []) (Wr := [(h_t_steps, .inl (eI E, 12, .inl c_t_steps)), (h_t_worths, .inl (eI E, 12, .inl c_t_worths)), (h_p1, .inr (3, [.ref h_p1_book, .ref h_p1_kinds, .ref h_p1_forms, .ref h_p1_deeps, .int c_p1_size, .int c_p1_hour, .int c_p1_sunny])), (h_p1_book, .inr (0, [.ref h_p1_book_forms])), (h_p1_book_forms, .inl (eI E, 26, .inl c_p1_book_forms)), (h_p1_deeps, .inl (eI E, 12, .inl c_p1_deeps)), (h_p1_forms, .inl (eI E, 12, .inl c_p1_forms)), (h_p1_kinds, .inl (eI E, 12, .inl c_p1_kinds))]) (Wn := (w_Choice_choose E h_t h_t_steps h_t_worths h_p1 h_p1_book h_p1_book_forms h_p1_deeps h_p1_forms h_p1_kinds r4.1 r4.2 c_t_steps c_t_worths c_p1_size c_p1_hour c_p1_sunny c_p1_book_forms c_p1_deeps c_p1_forms c_p1_kinds)) C (k_Choice_offer l E h_t h_t_steps h_t_worths H.size c_t_chosen c_t_mostWorth v4 (v6 + (s0 * r2)) r4 er4) fn_Choice_offer mw_559 ⟨Nat.le_of_ble_eq_true rfl, Nat.le_of_ble_eq_true rfl⟩ hK hT hS hA (va_recv hK hP (ci := 1) (q0 := 0) rfl rfl) hP hD [0] rfl (by decide) [1, 2, 3, 4, 5, 6, 7, 8] rfl (by decide) (by decide) [8, 0, 1, 2, 3, 4, 5, 6, 7] rfl (by decide) rfl rfl hl (Nat.le_of_ble_eq_true rfl) dX1_choose_150 (fun H locs hP hD hS => ?_)
    refine W.eq (g2 := F0 m 153 ls []) rfl ?_
    refine lv_iinc (v := (v7 + (1))) (lv' := [(7, .int (v7 + (1))), (6, .int (v6 + (s0 * r2))), (5, .int (v5 + (s0 * r1))), (9, .int s0), (0, .ref h_t), (2, .int a2), (3, .int v3), (4, .int v4), (8, .int v8)]) hx hb dX1_choose_153 hl (k := 7) rfl rfl (by decide) rfl (fun ls hl => ?_)
    refine lv_goto (tgt := 68) hx hb dX1_choose_156 (by decide) ?_
    exact hk68 r4.1 r4.2 c_t_steps c_t_worths v3 v4 (v5 + (s0 * r1)) (v6 + (s0 * r2)) (v7 + (1)) hF _ _ hP hD hS _ (lv_sub hl [4, 5, 6, 7, 2, 1, 0] rfl)
set_option maxHeartbeats 4000000 in
set_option maxRecDepth 100000 in
theorem wk_Choice_choose_b68 {p : Program} {l : Launch} {e : Env} {s : State} {m : MethodId} {args : Array Value} {below : List Frame} {meth : Method} {c : Code} {A : Nat → Prop} (E : kE) (h_t : Nat) (h_t_steps : Nat) (h_t_worths : Nat) (h_p1 : Nat) (h_p1_book : Nat) (h_p1_book_forms : Nat) (h_p1_deeps : Nat) (h_p1_forms : Nat) (h_p1_kinds : Nat)  (c_p1_size : Int32) (c_p1_hour : Int32) (c_p1_sunny : Int32) (c_p1_book_forms : (Nat → Int32)) (c_p1_deeps : (Nat → Int32)) (c_p1_forms : (Nat → Int32)) (c_p1_kinds : (Nat → Int32)) (a2 : Int32) {out : Int32 × Int32 × (Nat → Int32) × (Nat → Int32)} (C : kC RX1 cX1_choose 10 none p s m args meth c) (hA : ∀ q : Nat, s.heap.size ≤ q → A q) (hK : va_K (eD E) vwCl (eT E) s) (hT : sT E A s s.heap)  :
    ∀ (n : Nat), ∀ (c_t_chosen : Int32) (c_t_mostWorth : Int32) (c_t_steps : (Nat → Int32)) (c_t_worths : (Nat → Int32)) (v3 : Int32) (v4 : Int32) (v5 : Int32) (v6 : Int32) (v7 : Int32), f_Choice_choose_b68  c_p1_size c_p1_hour c_p1_sunny c_p1_book_forms c_p1_deeps c_p1_forms c_p1_kinds a2 n c_t_chosen c_t_mostWorth c_t_steps c_t_worths v3 v4 v5 v6 v7 = some out → ∀ (H : Heap) (locs : List Loc), va_P (eD E) vwCl (w_Choice_choose E h_t h_t_steps h_t_worths h_p1 h_p1_book h_p1_book_forms h_p1_deeps h_p1_forms h_p1_kinds c_t_chosen c_t_mostWorth c_t_steps c_t_worths c_p1_size c_p1_hour c_p1_sunny c_p1_book_forms c_p1_deeps c_p1_forms c_p1_kinds) H → va_D A (w_Choice_choose E h_t h_t_steps h_t_worths h_p1 h_p1_book h_p1_book_forms h_p1_deeps h_p1_forms h_p1_kinds c_t_chosen c_t_mostWorth c_t_steps c_t_worths c_p1_size c_p1_hour c_p1_sunny c_p1_book_forms c_p1_deeps c_p1_forms c_p1_kinds) → va_S A s.heap H locs → ∀ (ls : Array Slot), lv_has ls 10 [(0, .ref h_t), (2, .int a2), (3, .int v3), (4, .int v4), (5, .int v5), (6, .int v6), (7, .int v7)] → W p l e (rm 6) s m args below meth c H locs 0 0 (MQ below (qW none E (w_Choice_choose E h_t h_t_steps h_t_worths h_p1 h_p1_book h_p1_book_forms h_p1_deeps h_p1_forms h_p1_kinds out.1 out.2.1 out.2.2.1 out.2.2.2 c_p1_size c_p1_hour c_p1_sunny c_p1_book_forms c_p1_deeps c_p1_forms c_p1_kinds) A) args s 0 0 A) (F0 m 68 ls []) := by
  obtain ⟨hx, hb, hr, hml, hown, hw, hlocks⟩ := id C
  intro n
  induction n with
  | zero =>
    intro c_t_chosen c_t_mostWorth c_t_steps c_t_worths v3 v4 v5 v6 v7 hF
    exact absurd (show (none : Option (Int32 × Int32 × (Nat → Int32) × (Nat → Int32))) = some out from hF) nofun
  | succ n ih =>
    intro c_t_chosen c_t_mostWorth c_t_steps c_t_worths v3 v4 v5 v6 v7 hF H locs hP hD hS ls hl
    rw [f_Choice_choose_b68] at hF
    refine lv_iload hx hb dX1_choose_68 (lv_at hl 6 rfl) ?_
    refine lv_iconst (v := (1 : Int32)) hx hb dX1_choose_70 (by decide) ?_
    refine lv_iload_n hx hb dX1_choose_71 rfl (lv_at hl 2 rfl) ?_
    refine lv_ishl hx hb dX1_choose_72 ?_
    refine lv_icmp_ge (tgt := 159) hx hb dX1_choose_73 (by decide) (fun q5 => ?_) (fun q5 => ?_)
    · have hF := kp hF q5
      obtain rfl := Option.some.inj hF
      exact W.vret hx hb hr (fun t ht hW => ⟨⟨rfl, by rw [ht]; exact hP, hD⟩, hS.F ht⟩) hS.2.2 dX1_choose_159
    · have hF := kn hF q5
      refine lv_iload hx hb dX1_choose_76 (lv_at hl 6 rfl) ?_
      obtain ⟨r6, er6, hF⟩ := kb hF
      refine kRS (rest := []) C (k_Int_numberOfTrailingZeros l E v7 r6 er6) fn_Int_numberOfTrailingZeros mw_555 ⟨Nat.le_of_ble_eq_true rfl, Nat.le_of_ble_eq_true rfl⟩ hK hT hS hP [] rfl rfl rfl hl (Nat.le_of_ble_eq_true rfl) dX1_choose_78 ?_
      refine lv_istore (lv' := [(8, .int r6), (0, .ref h_t), (2, .int a2), (3, .int v3), (4, .int v4), (5, .int v5), (6, .int v6), (7, .int v7)]) hx hb dX1_choose_81 hl (by decide) rfl (fun ls hl => ?_)
      refine lv_iload hx hb dX1_choose_83 (lv_at hl 4 rfl) ?_
      refine lv_iconst (v := (1 : Int32)) hx hb dX1_choose_85 (by decide) ?_
      refine lv_iload hx hb dX1_choose_86 (lv_at hl 0 rfl) ?_
      refine lv_ishl hx hb dX1_choose_88 ?_
      refine lv_ixor hx hb dX1_choose_89 ?_
      refine lv_istore (lv' := [(4, .int (v4 ^^^ ((1 : Int32) <<< (r6 &&& 31)))), (8, .int r6), (0, .ref h_t), (2, .int a2), (3, .int v3), (5, .int v5), (6, .int v6), (7, .int v7)]) hx hb dX1_choose_90 hl (by decide) rfl (fun ls hl => ?_)
      refine lv_iload hx hb dX1_choose_92 (lv_at hl 0 rfl) ?_
      refine lv_iload hx hb dX1_choose_94 (lv_at hl 1 rfl) ?_
      refine lv_ishr hx hb dX1_choose_96 ?_
      refine lv_iconst (v := (1 : Int32)) hx hb dX1_choose_97 (by decide) ?_
      refine lv_iand hx hb dX1_choose_98 ?_
      refine lv_if_eq (tgt := 106) hx hb dX1_choose_99 (by decide) (fun q7 => ?_) (fun q7 => ?_)
      · have hF := kp hF q7
        refine lv_iconst (v := (-1 : Int32)) hx hb dX1_choose_106 (by decide) ?_
        exact wk_Choice_choose_b107 E h_t h_t_steps h_t_worths h_p1 h_p1_book h_p1_book_forms h_p1_deeps h_p1_forms h_p1_kinds c_p1_size c_p1_hour c_p1_sunny c_p1_book_forms c_p1_deeps c_p1_forms c_p1_kinds a2 C hA  hK hT (f_Choice_choose_b68  c_p1_size c_p1_hour c_p1_sunny c_p1_book_forms c_p1_deeps c_p1_forms c_p1_kinds a2 n) ih c_t_chosen c_t_mostWorth c_t_steps c_t_worths v3 (v4 ^^^ ((1 : Int32) <<< (r6 &&& 31))) v5 v6 v7 r6 (-1 : Int32) hF _ _ hP hD hS _ (lv_sub hl [2, 3, 4, 0, 5, 6, 7, 1] rfl)
      · have hF := kn hF q7
        refine lv_iconst (v := (1 : Int32)) hx hb dX1_choose_102 (by decide) ?_
        refine lv_goto (tgt := 107) hx hb dX1_choose_103 (by decide) ?_
        exact wk_Choice_choose_b107 E h_t h_t_steps h_t_worths h_p1 h_p1_book h_p1_book_forms h_p1_deeps h_p1_forms h_p1_kinds c_p1_size c_p1_hour c_p1_sunny c_p1_book_forms c_p1_deeps c_p1_forms c_p1_kinds a2 C hA  hK hT (f_Choice_choose_b68  c_p1_size c_p1_hour c_p1_sunny c_p1_book_forms c_p1_deeps c_p1_forms c_p1_kinds a2 n) ih c_t_chosen c_t_mostWorth c_t_steps c_t_worths v3 (v4 ^^^ ((1 : Int32) <<< (r6 &&& 31))) v5 v6 v7 r6 (1 : Int32) hF _ _ hP hD hS _ (lv_sub hl [2, 3, 4, 0, 5, 6, 7, 1] rfl)
set_option maxHeartbeats 4000000 in
set_option maxRecDepth 100000 in
theorem wk_Choice_choose_b8 {p : Program} {l : Launch} {e : Env} {s : State} {m : MethodId} {args : Array Value} {below : List Frame} {meth : Method} {c : Code} {A : Nat → Prop} (E : kE) (h_t : Nat) (h_t_steps : Nat) (h_t_worths : Nat) (h_p1 : Nat) (h_p1_book : Nat) (h_p1_book_forms : Nat) (h_p1_deeps : Nat) (h_p1_forms : Nat) (h_p1_kinds : Nat)  (c_p1_size : Int32) (c_p1_hour : Int32) (c_p1_sunny : Int32) (c_p1_book_forms : (Nat → Int32)) (c_p1_deeps : (Nat → Int32)) (c_p1_forms : (Nat → Int32)) (c_p1_kinds : (Nat → Int32)) (a2 : Int32) {out : Int32 × Int32 × (Nat → Int32) × (Nat → Int32)} (C : kC RX1 cX1_choose 10 none p s m args meth c) (hA : ∀ q : Nat, s.heap.size ≤ q → A q) (hK : va_K (eD E) vwCl (eT E) s) (hT : sT E A s s.heap)  :
    ∀ (n : Nat), ∀ (c_t_chosen : Int32) (c_t_mostWorth : Int32) (c_t_steps : (Nat → Int32)) (c_t_worths : (Nat → Int32)) (v3 : Int32) (v4 : Int32), f_Choice_choose_b8  c_p1_size c_p1_hour c_p1_sunny c_p1_book_forms c_p1_deeps c_p1_forms c_p1_kinds a2 n c_t_chosen c_t_mostWorth c_t_steps c_t_worths v3 v4 = some out → ∀ (H : Heap) (locs : List Loc), va_P (eD E) vwCl (w_Choice_choose E h_t h_t_steps h_t_worths h_p1 h_p1_book h_p1_book_forms h_p1_deeps h_p1_forms h_p1_kinds c_t_chosen c_t_mostWorth c_t_steps c_t_worths c_p1_size c_p1_hour c_p1_sunny c_p1_book_forms c_p1_deeps c_p1_forms c_p1_kinds) H → va_D A (w_Choice_choose E h_t h_t_steps h_t_worths h_p1 h_p1_book h_p1_book_forms h_p1_deeps h_p1_forms h_p1_kinds c_t_chosen c_t_mostWorth c_t_steps c_t_worths c_p1_size c_p1_hour c_p1_sunny c_p1_book_forms c_p1_deeps c_p1_forms c_p1_kinds) → va_S A s.heap H locs → ∀ (ls : Array Slot), lv_has ls 10 [(0, .ref h_t), (1, .ref h_p1), (2, .int a2), (3, .int v3), (4, .int v4)] → W p l e (rm 6) s m args below meth c H locs 0 0 (MQ below (qW none E (w_Choice_choose E h_t h_t_steps h_t_worths h_p1 h_p1_book h_p1_book_forms h_p1_deeps h_p1_forms h_p1_kinds out.1 out.2.1 out.2.2.1 out.2.2.2 c_p1_size c_p1_hour c_p1_sunny c_p1_book_forms c_p1_deeps c_p1_forms c_p1_kinds) A) args s 0 0 A) (F0 m 8 ls []) := by
  obtain ⟨hx, hb, hr, hml, hown, hw, hlocks⟩ := id C
  intro n
  induction n with
  | zero =>
    intro c_t_chosen c_t_mostWorth c_t_steps c_t_worths v3 v4 hF
    exact absurd (show (none : Option (Int32 × Int32 × (Nat → Int32) × (Nat → Int32))) = some out from hF) nofun
  | succ n ih =>
    intro c_t_chosen c_t_mostWorth c_t_steps c_t_worths v3 v4 hF H locs hP hD hS ls hl
    rw [f_Choice_choose_b8] at hF
    refine lv_iload hx hb dX1_choose_8 (lv_at hl 4 rfl) ?_
    refine lv_iload_n hx hb dX1_choose_10 rfl (lv_at hl 3 rfl) ?_
    refine lv_icmp_ge (tgt := 46) hx hb dX1_choose_11 (by decide) (fun q8 => ?_) (fun q8 => ?_)
    · have hF := kp hF q8
      refine lv_aload_n hx hb dX1_choose_46 rfl (lv_at hl 0 rfl) ?_
      refine lv_iconst (v := (0 : Int32)) hx hb dX1_choose_47 (by decide) ?_
      refine va_put (D := eD E) (ci := 1) (v := .int (0 : Int32)) (ty := .int) (C := RX1) (T := TX1) (N := 4) hx hb hw inX1 tyX1 tyX1_ok nmX1 hown hK hP hD hS 0 rfl rfl 2 (by decide) (hw _ mw_189) (fun _ h9 => h9) rfl (by decide +kernel) rfl rfl (Nat.le_of_ble_eq_true rfl) dX1_choose_48 (fun H locs hP hD hS => ?_)
      have hP : va_P (eD E) vwCl (w_Choice_choose E h_t h_t_steps h_t_worths h_p1 h_p1_book h_p1_book_forms h_p1_deeps h_p1_forms h_p1_kinds (0 : Int32) c_t_mostWorth c_t_steps c_t_worths c_p1_size c_p1_hour c_p1_sunny c_p1_book_forms c_p1_deeps c_p1_forms c_p1_kinds) H := hP
      have hD : va_D A (w_Choice_choose E h_t h_t_steps h_t_worths h_p1 h_p1_book h_p1_book_forms h_p1_deeps h_p1_forms h_p1_kinds (0 : Int32) c_t_mostWorth c_t_steps c_t_worths c_p1_size c_p1_hour c_p1_sunny c_p1_book_forms c_p1_deeps c_p1_forms c_p1_kinds) := hD
      refine lv_aload_n hx hb dX1_choose_51 rfl (lv_at hl 0 rfl) ?_
      refine lv_iconst (v := (0 : Int32)) hx hb dX1_choose_52 (by decide) ?_
      refine va_put (D := eD E) (ci := 1) (v := .int (0 : Int32)) (ty := .int) (C := RX1) (T := TX1) (N := 4) hx hb hw inX1 tyX1 tyX1_ok nmX1 hown hK hP hD hS 0 rfl rfl 3 (by decide) (hw _ mw_191) (fun _ h9 => h9) rfl (by decide +kernel) rfl rfl (Nat.le_of_ble_eq_true rfl) dX1_choose_53 (fun H locs hP hD hS => ?_)
      have hP : va_P (eD E) vwCl (w_Choice_choose E h_t h_t_steps h_t_worths h_p1 h_p1_book h_p1_book_forms h_p1_deeps h_p1_forms h_p1_kinds (0 : Int32) (0 : Int32) c_t_steps c_t_worths c_p1_size c_p1_hour c_p1_sunny c_p1_book_forms c_p1_deeps c_p1_forms c_p1_kinds) H := hP
      have hD : va_D A (w_Choice_choose E h_t h_t_steps h_t_worths h_p1 h_p1_book h_p1_book_forms h_p1_deeps h_p1_forms h_p1_kinds (0 : Int32) (0 : Int32) c_t_steps c_t_worths c_p1_size c_p1_hour c_p1_sunny c_p1_book_forms c_p1_deeps c_p1_forms c_p1_kinds) := hD
      refine lv_iconst (v := (0 : Int32)) hx hb dX1_choose_56 (by decide) ?_
      refine lv_istore (lv' := [(4, .int (0 : Int32)), (0, .ref h_t), (1, .ref h_p1), (2, .int a2), (3, .int v3)]) hx hb dX1_choose_57 hl (by decide) rfl (fun ls hl => ?_)
      refine lv_iconst (v := (0 : Int32)) hx hb dX1_choose_59 (by decide) ?_
      refine lv_istore (lv' := [(5, .int (0 : Int32)), (4, .int (0 : Int32)), (0, .ref h_t), (1, .ref h_p1), (2, .int a2), (3, .int v3)]) hx hb dX1_choose_60 hl (by decide) rfl (fun ls hl => ?_)
      refine lv_iconst (v := (0 : Int32)) hx hb dX1_choose_62 (by decide) ?_
      refine lv_istore (lv' := [(6, .int (0 : Int32)), (5, .int (0 : Int32)), (4, .int (0 : Int32)), (0, .ref h_t), (1, .ref h_p1), (2, .int a2), (3, .int v3)]) hx hb dX1_choose_63 hl (by decide) rfl (fun ls hl => ?_)
      refine lv_iconst (v := (1 : Int32)) hx hb dX1_choose_65 (by decide) ?_
      refine lv_istore (lv' := [(7, .int (1 : Int32)), (6, .int (0 : Int32)), (5, .int (0 : Int32)), (4, .int (0 : Int32)), (0, .ref h_t), (1, .ref h_p1), (2, .int a2), (3, .int v3)]) hx hb dX1_choose_66 hl (by decide) rfl (fun ls hl => ?_)
      exact wk_Choice_choose_b68 E h_t h_t_steps h_t_worths h_p1 h_p1_book h_p1_book_forms h_p1_deeps h_p1_forms h_p1_kinds c_p1_size c_p1_hour c_p1_sunny c_p1_book_forms c_p1_deeps c_p1_forms c_p1_kinds a2 C hA  hK hT  5000 (0 : Int32) (0 : Int32) c_t_steps c_t_worths v3 (0 : Int32) (0 : Int32) (0 : Int32) (1 : Int32) hF _ _ hP hD hS _ (lv_sub hl [4, 6, 7, 3, 2, 1, 0] rfl)
    · have hF := kn hF q8
      refine lv_aload_n hx hb dX1_choose_14 rfl (lv_at hl 0 rfl) ?_
      refine va_get (D := eD E) (ci := 1) (C := RX1) (T := TX1) (N := 4) (v := .ref h_t_steps) hx hb hw inX1 hown hK hP 0 rfl rfl 0 (by decide) (hw _ mw_187) (fun _ h9 => h9) rfl dX1_choose_15 ?_
      refine lv_iload hx hb dX1_choose_18 (lv_at hl 4 rfl) ?_
      refine lv_aload_n hx hb dX1_choose_20 rfl (lv_at hl 1 rfl) ?_
      refine lv_iload hx hb dX1_choose_21 (lv_at hl 4 rfl) ?_
      obtain ⟨r9, er9, hF⟩ := kb hF
      refine kRV (rest := [.int v4, .ref h_t_steps]) C (k_Plain_feetOf l E h_p1 h_p1_forms h_p1_kinds h_p1_book h_p1_deeps c_p1_size c_p1_hour c_p1_sunny c_p1_forms c_p1_kinds v4 r9 er9) fn_Plain_feetOf mw_549 ⟨Nat.le_of_ble_eq_true rfl, Nat.le_of_ble_eq_true rfl⟩ hK hT hS (va_recv hK hP (ci := 3) (q0 := 3) rfl rfl) hP [3, 7, 8] rfl rfl rfl hl (Nat.le_of_ble_eq_true rfl) dX1_choose_23 ?_
      obtain ⟨r10, er10, hF⟩ := kb hF
      refine wa_iast hx hb hK hP hD hS 1 0 rfl rfl er10 dX1_choose_26 (fun H locs hP hD hS => ?_)
      have hP : va_P (eD E) vwCl (w_Choice_choose E h_t h_t_steps h_t_worths h_p1 h_p1_book h_p1_book_forms h_p1_deeps h_p1_forms h_p1_kinds c_t_chosen c_t_mostWorth r10 c_t_worths c_p1_size c_p1_hour c_p1_sunny c_p1_book_forms c_p1_deeps c_p1_forms c_p1_kinds) H := hP
      have hD : va_D A (w_Choice_choose E h_t h_t_steps h_t_worths h_p1 h_p1_book h_p1_book_forms h_p1_deeps h_p1_forms h_p1_kinds c_t_chosen c_t_mostWorth r10 c_t_worths c_p1_size c_p1_hour c_p1_sunny c_p1_book_forms c_p1_deeps c_p1_forms c_p1_kinds) := hD
      refine lv_aload_n hx hb dX1_choose_27 rfl (lv_at hl 0 rfl) ?_
      refine va_get (D := eD E) (ci := 1) (C := RX1) (T := TX1) (N := 4) (v := .ref h_t_worths) hx hb hw inX1 hown hK hP 0 rfl rfl 1 (by decide) (hw _ mw_188) (fun _ h9 => h9) rfl dX1_choose_28 ?_
      refine lv_iload hx hb dX1_choose_31 (lv_at hl 4 rfl) ?_
      refine lv_aload_n hx hb dX1_choose_33 rfl (lv_at hl 1 rfl) ?_
      refine lv_iload hx hb dX1_choose_34 (lv_at hl 4 rfl) ?_
      obtain ⟨r11, er11, hF⟩ := kb hF
      refine kRV (rest := [.int v4, .ref h_t_worths]) C (k_Plain_worthOf l E h_p1 h_p1_book h_p1_book_forms h_p1_deeps h_p1_forms h_p1_kinds c_p1_size c_p1_hour c_p1_sunny c_p1_book_forms c_p1_deeps c_p1_forms c_p1_kinds v4 r11 er11) fn_Plain_worthOf mw_550 ⟨Nat.le_of_ble_eq_true rfl, Nat.le_of_ble_eq_true rfl⟩ hK hT hS (va_recv hK hP (ci := 3) (q0 := 3) rfl rfl) hP [3, 4, 5, 6, 7, 8] rfl rfl rfl hl (Nat.le_of_ble_eq_true rfl) dX1_choose_36 ?_
      obtain ⟨r12, er12, hF⟩ := kb hF
      refine wa_iast hx hb hK hP hD hS 2 0 rfl rfl er12 dX1_choose_39 (fun H locs hP hD hS => ?_)
      have hP : va_P (eD E) vwCl (w_Choice_choose E h_t h_t_steps h_t_worths h_p1 h_p1_book h_p1_book_forms h_p1_deeps h_p1_forms h_p1_kinds c_t_chosen c_t_mostWorth r10 r12 c_p1_size c_p1_hour c_p1_sunny c_p1_book_forms c_p1_deeps c_p1_forms c_p1_kinds) H := hP
      have hD : va_D A (w_Choice_choose E h_t h_t_steps h_t_worths h_p1 h_p1_book h_p1_book_forms h_p1_deeps h_p1_forms h_p1_kinds c_t_chosen c_t_mostWorth r10 r12 c_p1_size c_p1_hour c_p1_sunny c_p1_book_forms c_p1_deeps c_p1_forms c_p1_kinds) := hD
      refine lv_iinc (v := (v4 + (1))) (lv' := [(4, .int (v4 + (1))), (0, .ref h_t), (1, .ref h_p1), (2, .int a2), (3, .int v3)]) hx hb dX1_choose_40 hl (k := 4) rfl rfl (by decide) rfl (fun ls hl => ?_)
      refine lv_goto (tgt := 8) hx hb dX1_choose_43 (by decide) ?_
      exact ih c_t_chosen c_t_mostWorth r10 r12 v3 (v4 + (1)) hF _ _ hP hD hS _ (lv_sub hl [1, 2, 3, 4, 0] rfl)
set_option maxHeartbeats 4000000 in
set_option maxRecDepth 100000 in
theorem k_Choice_choose (l : Launch) (E : kE) (h_t : Nat) (h_t_steps : Nat) (h_t_worths : Nat) (h_p1 : Nat) (h_p1_book : Nat) (h_p1_book_forms : Nat) (h_p1_deeps : Nat) (h_p1_forms : Nat) (h_p1_kinds : Nat)  (sz : Nat) (c_t_chosen : Int32) (c_t_mostWorth : Int32) (c_t_steps : (Nat → Int32)) (c_t_worths : (Nat → Int32)) (c_p1_size : Int32) (c_p1_hour : Int32) (c_p1_sunny : Int32) (c_p1_book_forms : (Nat → Int32)) (c_p1_deeps : (Nat → Int32)) (c_p1_forms : (Nat → Int32)) (c_p1_kinds : (Nat → Int32)) (a2 : Int32) (out : Int32 × Int32 × (Nat → Int32) × (Nat → Int32)) (hF : f_Choice_choose c_t_chosen c_t_mostWorth c_t_steps c_t_worths c_p1_size c_p1_hour c_p1_sunny c_p1_book_forms c_p1_deeps c_p1_forms c_p1_kinds a2 = some out) : Met l yX1_choose (Cond.code yX1_choose cX1_choose 10 none :: wG) (rm 6) (pW E (w_Choice_choose E h_t h_t_steps h_t_worths h_p1 h_p1_book h_p1_book_forms h_p1_deeps h_p1_forms h_p1_kinds c_t_chosen c_t_mostWorth c_t_steps c_t_worths c_p1_size c_p1_hour c_p1_sunny c_p1_book_forms c_p1_deeps c_p1_forms c_p1_kinds) sz [.ref h_t, .ref h_p1, .int a2]) (qW none E (w_Choice_choose E h_t h_t_steps h_t_worths h_p1 h_p1_book h_p1_book_forms h_p1_deeps h_p1_forms h_p1_kinds out.1 out.2.1 out.2.2.1 out.2.2.2 c_p1_size c_p1_hour c_p1_sunny c_p1_book_forms c_p1_deeps c_p1_forms c_p1_kinds) (va_A (w_Choice_choose E h_t h_t_steps h_t_worths h_p1 h_p1_book h_p1_book_forms h_p1_deeps h_p1_forms h_p1_kinds c_t_chosen c_t_mostWorth c_t_steps c_t_worths c_p1_size c_p1_hour c_p1_sunny c_p1_book_forms c_p1_deeps c_p1_forms c_p1_kinds) sz)) 0 0 (va_A (w_Choice_choose E h_t h_t_steps h_t_worths h_p1 h_p1_book h_p1_book_forms h_p1_deeps h_p1_forms h_p1_kinds c_t_chosen c_t_mostWorth c_t_steps c_t_worths c_p1_size c_p1_hour c_p1_sunny c_p1_book_forms c_p1_deeps c_p1_forms c_p1_kinds) sz) := by
  refine met_W (by decide) (Nat.le_of_ble_eq_true rfl) ?_
  intro p e s m args below meth c A ls C hP hD hS hA hK hT hl
  obtain ⟨hx, hb, hr, hml, hown, hw, hlocks⟩ := id C
  have hl : lv_has ls 10 [(0, .ref h_t), (1, .ref h_p1), (2, .int a2)] := hl
  rw [f_Choice_choose] at hF
  refine lv_aload_n hx hb dX1_choose_0 rfl (lv_at hl 1 rfl) ?_
  refine va_getN (D := eD E) (ci := 3) (C := RX5) (T := TX5) (N := 7) (v := .int c_p1_size) hx hb hw inX5 hown hK hP 3 rfl rfl 4 (by decide) ((sF_5 hT).use rfl) (fun _ h9 => h9) rfl dX1_choose_1 ?_
  refine lv_istore_n (lv' := [(3, .int c_p1_size), (0, .ref h_t), (1, .ref h_p1), (2, .int a2)]) hx hb dX1_choose_4 rfl hl (by decide) rfl (fun ls hl => ?_)
  refine lv_iconst (v := (0 : Int32)) hx hb dX1_choose_5 (by decide) ?_
  refine lv_istore (lv' := [(4, .int (0 : Int32)), (3, .int c_p1_size), (0, .ref h_t), (1, .ref h_p1), (2, .int a2)]) hx hb dX1_choose_6 hl (by decide) rfl (fun ls hl => ?_)
  exact wk_Choice_choose_b8 E h_t h_t_steps h_t_worths h_p1 h_p1_book h_p1_book_forms h_p1_deeps h_p1_forms h_p1_kinds c_p1_size c_p1_hour c_p1_sunny c_p1_book_forms c_p1_deeps c_p1_forms c_p1_kinds a2 C hA  hK hT  5000 c_t_chosen c_t_mostWorth c_t_steps c_t_worths c_p1_size (0 : Int32) hF _ _ hP hD hS _ (lv_sub hl [2, 3, 4, 1, 0] rfl)
abbrev w_Plain_become (E : kE) (h_t : Nat) (h_t_book : Nat) (h_t_book_forms : Nat) (h_t_deeps : Nat) (h_t_forms : Nat) (h_t_kinds : Nat) (h_p1 : Nat) (h_p1_book : Nat) (h_p1_book_forms : Nat) (h_p1_deeps : Nat) (h_p1_forms : Nat) (h_p1_kinds : Nat)  (c_t_size : Int32) (c_t_hour : Int32) (c_t_sunny : Int32) (c_t_book_forms : (Nat → Int32)) (c_t_deeps : (Nat → Int32)) (c_t_forms : (Nat → Int32)) (c_t_kinds : (Nat → Int32)) (c_p1_size : Int32) (c_p1_hour : Int32) (c_p1_sunny : Int32) (c_p1_book_forms : (Nat → Int32)) (c_p1_deeps : (Nat → Int32)) (c_p1_forms : (Nat → Int32)) (c_p1_kinds : (Nat → Int32)) : va_W := [(h_t, .inr (3, [.ref h_t_book, .ref h_t_kinds, .ref h_t_forms, .ref h_t_deeps, .int c_t_size, .int c_t_hour, .int c_t_sunny])), (h_t_book, .inr (0, [.ref h_t_book_forms])), (h_t_book_forms, .inl (eI E, 26, .inl c_t_book_forms)), (h_t_deeps, .inl (eI E, 12, .inl c_t_deeps)), (h_t_forms, .inl (eI E, 12, .inl c_t_forms)), (h_t_kinds, .inl (eI E, 12, .inl c_t_kinds)), (h_p1, .inr (3, [.ref h_p1_book, .ref h_p1_kinds, .ref h_p1_forms, .ref h_p1_deeps, .int c_p1_size, .int c_p1_hour, .int c_p1_sunny])), (h_p1_book, .inr (0, [.ref h_p1_book_forms])), (h_p1_book_forms, .inl (eI E, 26, .inl c_p1_book_forms)), (h_p1_deeps, .inl (eI E, 12, .inl c_p1_deeps)), (h_p1_forms, .inl (eI E, 12, .inl c_p1_forms)), (h_p1_kinds, .inl (eI E, 12, .inl c_p1_kinds))]
set_option maxHeartbeats 4000000 in
set_option maxRecDepth 100000 in
theorem k_Plain_become (l : Launch) (E : kE) (h_t : Nat) (h_t_book : Nat) (h_t_book_forms : Nat) (h_t_deeps : Nat) (h_t_forms : Nat) (h_t_kinds : Nat) (h_p1 : Nat) (h_p1_book : Nat) (h_p1_book_forms : Nat) (h_p1_deeps : Nat) (h_p1_forms : Nat) (h_p1_kinds : Nat)  (sz : Nat) (c_t_size : Int32) (c_t_hour : Int32) (c_t_sunny : Int32) (c_t_book_forms : (Nat → Int32)) (c_t_deeps : (Nat → Int32)) (c_t_forms : (Nat → Int32)) (c_t_kinds : (Nat → Int32)) (c_p1_size : Int32) (c_p1_hour : Int32) (c_p1_sunny : Int32) (c_p1_book_forms : (Nat → Int32)) (c_p1_deeps : (Nat → Int32)) (c_p1_forms : (Nat → Int32)) (c_p1_kinds : (Nat → Int32))  (out : Int32 × Int32 × Int32 × (Nat → Int32) × (Nat → Int32) × (Nat → Int32) × (Nat → Int32)) (hF : f_Plain_become c_t_size c_t_hour c_t_sunny c_t_book_forms c_t_deeps c_t_forms c_t_kinds c_p1_size c_p1_hour c_p1_sunny c_p1_book_forms c_p1_deeps c_p1_forms c_p1_kinds  = some out) : Met l yX5_become (Cond.code yX5_become cX5_become 2 none :: wG) (rm 3) (pW E (w_Plain_become E h_t h_t_book h_t_book_forms h_t_deeps h_t_forms h_t_kinds h_p1 h_p1_book h_p1_book_forms h_p1_deeps h_p1_forms h_p1_kinds c_t_size c_t_hour c_t_sunny c_t_book_forms c_t_deeps c_t_forms c_t_kinds c_p1_size c_p1_hour c_p1_sunny c_p1_book_forms c_p1_deeps c_p1_forms c_p1_kinds) sz [.ref h_t, .ref h_p1]) (qW none E (w_Plain_become E h_t h_t_book h_t_book_forms h_t_deeps h_t_forms h_t_kinds h_p1 h_p1_book h_p1_book_forms h_p1_deeps h_p1_forms h_p1_kinds out.1 out.2.1 out.2.2.1 out.2.2.2.1 out.2.2.2.2.1 out.2.2.2.2.2.1 out.2.2.2.2.2.2 c_p1_size c_p1_hour c_p1_sunny c_p1_book_forms c_p1_deeps c_p1_forms c_p1_kinds) (va_A (w_Plain_become E h_t h_t_book h_t_book_forms h_t_deeps h_t_forms h_t_kinds h_p1 h_p1_book h_p1_book_forms h_p1_deeps h_p1_forms h_p1_kinds c_t_size c_t_hour c_t_sunny c_t_book_forms c_t_deeps c_t_forms c_t_kinds c_p1_size c_p1_hour c_p1_sunny c_p1_book_forms c_p1_deeps c_p1_forms c_p1_kinds) sz)) 0 0 (va_A (w_Plain_become E h_t h_t_book h_t_book_forms h_t_deeps h_t_forms h_t_kinds h_p1 h_p1_book h_p1_book_forms h_p1_deeps h_p1_forms h_p1_kinds c_t_size c_t_hour c_t_sunny c_t_book_forms c_t_deeps c_t_forms c_t_kinds c_p1_size c_p1_hour c_p1_sunny c_p1_book_forms c_p1_deeps c_p1_forms c_p1_kinds) sz) := by
  refine met_W (by decide) (Nat.le_of_ble_eq_true rfl) ?_
  intro p e s m args below meth c A ls C hP hD hS hA hK hT hl
  obtain ⟨hx, hb, hr, hml, hown, hw, hlocks⟩ := id C
  have hl : lv_has ls 2 [(0, .ref h_t), (1, .ref h_p1)] := hl
  rw [f_Plain_become] at hF
  refine lv_aload_n hx hb dX5_become_0 rfl (lv_at hl 0 rfl) ?_
  refine va_get (D := eD E) (ci := 3) (C := RX5) (T := TX5) (N := 7) (v := .ref h_t_book) hx hb hw inX5 hown hK hP 0 rfl rfl 0 (by decide) (hw _ mw_81) (fun _ h9 => h9) rfl dX5_become_1 ?_
  refine lv_aload_n hx hb dX5_become_4 rfl (lv_at hl 1 rfl) ?_
  refine va_get (D := eD E) (ci := 3) (C := RX5) (T := TX5) (N := 7) (v := .ref h_p1_book) hx hb hw inX5 hown hK hP 6 rfl rfl 0 (by decide) (hw _ mw_81) (fun _ h9 => h9) rfl dX5_become_5 ?_
  obtain ⟨r1, er1, hF⟩ := kb hF
  refine kWV (rest := []) (Wr := [(h_t, .inr (3, [.ref h_t_book, .ref h_t_kinds, .ref h_t_forms, .ref h_t_deeps, .int c_t_size, .int c_t_hour, .int c_t_sunny])), (h_t_deeps, .inl (eI E, 12, .inl c_t_deeps)), (h_t_forms, .inl (eI E, 12, .inl c_t_forms)), (h_t_kinds, .inl (eI E, 12, .inl c_t_kinds)), (h_p1, .inr (3, [.ref h_p1_book, .ref h_p1_kinds, .ref h_p1_forms, .ref h_p1_deeps, .int c_p1_size, .int c_p1_hour, .int c_p1_sunny])), (h_p1_deeps, .inl (eI E, 12, .inl c_p1_deeps)), (h_p1_forms, .inl (eI E, 12, .inl c_p1_forms)), (h_p1_kinds, .inl (eI E, 12, .inl c_p1_kinds))]) (Wn := (w_Plain_become E h_t h_t_book h_t_book_forms h_t_deeps h_t_forms h_t_kinds h_p1 h_p1_book h_p1_book_forms h_p1_deeps h_p1_forms h_p1_kinds c_t_size c_t_hour c_t_sunny r1 c_t_deeps c_t_forms c_t_kinds c_p1_size c_p1_hour c_p1_sunny c_p1_book_forms c_p1_deeps c_p1_forms c_p1_kinds)) C (k_Book_become l E h_t_book h_t_book_forms h_p1_book h_p1_book_forms s.heap.size c_t_book_forms c_p1_book_forms r1 er1) fn_Book_become mw_612 ⟨Nat.le_of_ble_eq_true rfl, Nat.le_of_ble_eq_true rfl⟩ hK hT hS hA (va_recv hK hP (ci := 0) (q0 := 1) rfl rfl) hP hD [1, 2, 7, 8] rfl (by decide) [0, 3, 4, 5, 6, 9, 10, 11] rfl (by decide) (by decide) [0, 8, 9, 1, 2, 3, 4, 10, 11, 5, 6, 7] rfl (by decide) rfl rfl hl (Nat.le_of_ble_eq_true rfl) dX5_become_8 (fun H locs hP hD hS => ?_)
  refine W.eq (g2 := F0 m 11 ls []) rfl ?_
  refine lv_aload_n hx hb dX5_become_11 rfl (lv_at hl 1 rfl) ?_
  refine va_get (D := eD E) (ci := 3) (C := RX5) (T := TX5) (N := 7) (v := .ref h_p1_kinds) hx hb hw inX5 hown hK hP 6 rfl rfl 1 (by decide) (hw _ mw_84) (fun _ h9 => h9) rfl dX5_become_12 ?_
  refine lv_iconst (v := (0 : Int32)) hx hb dX5_become_15 (by decide) ?_
  refine lv_aload_n hx hb dX5_become_16 rfl (lv_at hl 0 rfl) ?_
  refine va_get (D := eD E) (ci := 3) (C := RX5) (T := TX5) (N := 7) (v := .ref h_t_kinds) hx hb hw inX5 hown hK hP 0 rfl rfl 1 (by decide) (hw _ mw_84) (fun _ h9 => h9) rfl dX5_become_17 ?_
  refine lv_iconst (v := (0 : Int32)) hx hb dX5_become_20 (by decide) ?_
  refine lv_bipush (v := (12 : Int32)) hx hb dX5_become_21 (by decide) ?_
  obtain ⟨r2, er2, hF⟩ := kb hF
  obtain ⟨g1r2, g2r2, g3r2, g4r2, g5r2, g6r2⟩ := cpy_some er2
  refine va_copyi hx hb (hml.trans hl.1.symm) hown (hw _ mw_619) (hw _ mw_618) (hw _ mw_617) (hw _ mw_51) hK hP hD hS 11 5 0 0 rfl rfl rfl rfl rfl g1r2 g2r2 g3r2 g4r2 g5r2 (fun _ _ => rfl) (Nat.le_of_ble_eq_true rfl) (Nat.le_of_ble_eq_true rfl) dX5_become_23 (fun H locs hP hD hS => ?_)
  rw [g6r2] at hP hD
  have hP : va_P (eD E) vwCl (w_Plain_become E h_t h_t_book h_t_book_forms h_t_deeps h_t_forms h_t_kinds h_p1 h_p1_book h_p1_book_forms h_p1_deeps h_p1_forms h_p1_kinds c_t_size c_t_hour c_t_sunny r1 c_t_deeps c_t_forms r2 c_p1_size c_p1_hour c_p1_sunny c_p1_book_forms c_p1_deeps c_p1_forms c_p1_kinds) H := hP
  have hD : va_D A (w_Plain_become E h_t h_t_book h_t_book_forms h_t_deeps h_t_forms h_t_kinds h_p1 h_p1_book h_p1_book_forms h_p1_deeps h_p1_forms h_p1_kinds c_t_size c_t_hour c_t_sunny r1 c_t_deeps c_t_forms r2 c_p1_size c_p1_hour c_p1_sunny c_p1_book_forms c_p1_deeps c_p1_forms c_p1_kinds) := hD
  refine lv_aload_n hx hb dX5_become_26 rfl (lv_at hl 1 rfl) ?_
  refine va_get (D := eD E) (ci := 3) (C := RX5) (T := TX5) (N := 7) (v := .ref h_p1_forms) hx hb hw inX5 hown hK hP 6 rfl rfl 2 (by decide) (hw _ mw_86) (fun _ h9 => h9) rfl dX5_become_27 ?_
  refine lv_iconst (v := (0 : Int32)) hx hb dX5_become_30 (by decide) ?_
  refine lv_aload_n hx hb dX5_become_31 rfl (lv_at hl 0 rfl) ?_
  refine va_get (D := eD E) (ci := 3) (C := RX5) (T := TX5) (N := 7) (v := .ref h_t_forms) hx hb hw inX5 hown hK hP 0 rfl rfl 2 (by decide) (hw _ mw_86) (fun _ h9 => h9) rfl dX5_become_32 ?_
  refine lv_iconst (v := (0 : Int32)) hx hb dX5_become_35 (by decide) ?_
  refine lv_bipush (v := (12 : Int32)) hx hb dX5_become_36 (by decide) ?_
  obtain ⟨r3, er3, hF⟩ := kb hF
  obtain ⟨g1r3, g2r3, g3r3, g4r3, g5r3, g6r3⟩ := cpy_some er3
  refine va_copyi hx hb (hml.trans hl.1.symm) hown (hw _ mw_619) (hw _ mw_618) (hw _ mw_617) (hw _ mw_51) hK hP hD hS 10 4 0 0 rfl rfl rfl rfl rfl g1r3 g2r3 g3r3 g4r3 g5r3 (fun _ _ => rfl) (Nat.le_of_ble_eq_true rfl) (Nat.le_of_ble_eq_true rfl) dX5_become_38 (fun H locs hP hD hS => ?_)
  rw [g6r3] at hP hD
  have hP : va_P (eD E) vwCl (w_Plain_become E h_t h_t_book h_t_book_forms h_t_deeps h_t_forms h_t_kinds h_p1 h_p1_book h_p1_book_forms h_p1_deeps h_p1_forms h_p1_kinds c_t_size c_t_hour c_t_sunny r1 c_t_deeps r3 r2 c_p1_size c_p1_hour c_p1_sunny c_p1_book_forms c_p1_deeps c_p1_forms c_p1_kinds) H := hP
  have hD : va_D A (w_Plain_become E h_t h_t_book h_t_book_forms h_t_deeps h_t_forms h_t_kinds h_p1 h_p1_book h_p1_book_forms h_p1_deeps h_p1_forms h_p1_kinds c_t_size c_t_hour c_t_sunny r1 c_t_deeps r3 r2 c_p1_size c_p1_hour c_p1_sunny c_p1_book_forms c_p1_deeps c_p1_forms c_p1_kinds) := hD
  refine lv_aload_n hx hb dX5_become_41 rfl (lv_at hl 1 rfl) ?_
  refine va_get (D := eD E) (ci := 3) (C := RX5) (T := TX5) (N := 7) (v := .ref h_p1_deeps) hx hb hw inX5 hown hK hP 6 rfl rfl 3 (by decide) (hw _ mw_88) (fun _ h9 => h9) rfl dX5_become_42 ?_
  refine lv_iconst (v := (0 : Int32)) hx hb dX5_become_45 (by decide) ?_
  refine lv_aload_n hx hb dX5_become_46 rfl (lv_at hl 0 rfl) ?_
  refine va_get (D := eD E) (ci := 3) (C := RX5) (T := TX5) (N := 7) (v := .ref h_t_deeps) hx hb hw inX5 hown hK hP 0 rfl rfl 3 (by decide) (hw _ mw_88) (fun _ h9 => h9) rfl dX5_become_47 ?_
  refine lv_iconst (v := (0 : Int32)) hx hb dX5_become_50 (by decide) ?_
  refine lv_bipush (v := (12 : Int32)) hx hb dX5_become_51 (by decide) ?_
  obtain ⟨r4, er4, hF⟩ := kb hF
  obtain ⟨g1r4, g2r4, g3r4, g4r4, g5r4, g6r4⟩ := cpy_some er4
  refine va_copyi hx hb (hml.trans hl.1.symm) hown (hw _ mw_619) (hw _ mw_618) (hw _ mw_617) (hw _ mw_51) hK hP hD hS 9 3 0 0 rfl rfl rfl rfl rfl g1r4 g2r4 g3r4 g4r4 g5r4 (fun _ _ => rfl) (Nat.le_of_ble_eq_true rfl) (Nat.le_of_ble_eq_true rfl) dX5_become_53 (fun H locs hP hD hS => ?_)
  rw [g6r4] at hP hD
  have hP : va_P (eD E) vwCl (w_Plain_become E h_t h_t_book h_t_book_forms h_t_deeps h_t_forms h_t_kinds h_p1 h_p1_book h_p1_book_forms h_p1_deeps h_p1_forms h_p1_kinds c_t_size c_t_hour c_t_sunny r1 r4 r3 r2 c_p1_size c_p1_hour c_p1_sunny c_p1_book_forms c_p1_deeps c_p1_forms c_p1_kinds) H := hP
  have hD : va_D A (w_Plain_become E h_t h_t_book h_t_book_forms h_t_deeps h_t_forms h_t_kinds h_p1 h_p1_book h_p1_book_forms h_p1_deeps h_p1_forms h_p1_kinds c_t_size c_t_hour c_t_sunny r1 r4 r3 r2 c_p1_size c_p1_hour c_p1_sunny c_p1_book_forms c_p1_deeps c_p1_forms c_p1_kinds) := hD
  refine lv_aload_n hx hb dX5_become_56 rfl (lv_at hl 0 rfl) ?_
  refine lv_aload_n hx hb dX5_become_57 rfl (lv_at hl 1 rfl) ?_
  refine va_get (D := eD E) (ci := 3) (C := RX5) (T := TX5) (N := 7) (v := .int c_p1_size) hx hb hw inX5 hown hK hP 6 rfl rfl 4 (by decide) (hw _ mw_91) (fun _ h9 => h9) rfl dX5_become_58 ?_
  refine va_put (D := eD E) (ci := 3) (v := .int c_p1_size) (ty := .int) (C := RX5) (T := TX5) (N := 7) hx hb hw inX5 tyX5 tyX5_ok nmX5 hown hK hP hD hS 0 rfl rfl 4 (by decide) (hw _ mw_91) (fun _ h9 => h9) rfl (by decide +kernel) rfl rfl (Nat.le_of_ble_eq_true rfl) dX5_become_61 (fun H locs hP hD hS => ?_)
  have hP : va_P (eD E) vwCl (w_Plain_become E h_t h_t_book h_t_book_forms h_t_deeps h_t_forms h_t_kinds h_p1 h_p1_book h_p1_book_forms h_p1_deeps h_p1_forms h_p1_kinds c_p1_size c_t_hour c_t_sunny r1 r4 r3 r2 c_p1_size c_p1_hour c_p1_sunny c_p1_book_forms c_p1_deeps c_p1_forms c_p1_kinds) H := hP
  have hD : va_D A (w_Plain_become E h_t h_t_book h_t_book_forms h_t_deeps h_t_forms h_t_kinds h_p1 h_p1_book h_p1_book_forms h_p1_deeps h_p1_forms h_p1_kinds c_p1_size c_t_hour c_t_sunny r1 r4 r3 r2 c_p1_size c_p1_hour c_p1_sunny c_p1_book_forms c_p1_deeps c_p1_forms c_p1_kinds) := hD
  refine lv_aload_n hx hb dX5_become_64 rfl (lv_at hl 0 rfl) ?_
  refine lv_aload_n hx hb dX5_become_65 rfl (lv_at hl 1 rfl) ?_
  refine va_get (D := eD E) (ci := 3) (C := RX5) (T := TX5) (N := 7) (v := .int c_p1_hour) hx hb hw inX5 hown hK hP 6 rfl rfl 5 (by decide) (hw _ mw_93) (fun _ h9 => h9) rfl dX5_become_66 ?_
  refine va_put (D := eD E) (ci := 3) (v := .int c_p1_hour) (ty := .int) (C := RX5) (T := TX5) (N := 7) hx hb hw inX5 tyX5 tyX5_ok nmX5 hown hK hP hD hS 0 rfl rfl 5 (by decide) (hw _ mw_93) (fun _ h9 => h9) rfl (by decide +kernel) rfl rfl (Nat.le_of_ble_eq_true rfl) dX5_become_69 (fun H locs hP hD hS => ?_)
  have hP : va_P (eD E) vwCl (w_Plain_become E h_t h_t_book h_t_book_forms h_t_deeps h_t_forms h_t_kinds h_p1 h_p1_book h_p1_book_forms h_p1_deeps h_p1_forms h_p1_kinds c_p1_size c_p1_hour c_t_sunny r1 r4 r3 r2 c_p1_size c_p1_hour c_p1_sunny c_p1_book_forms c_p1_deeps c_p1_forms c_p1_kinds) H := hP
  have hD : va_D A (w_Plain_become E h_t h_t_book h_t_book_forms h_t_deeps h_t_forms h_t_kinds h_p1 h_p1_book h_p1_book_forms h_p1_deeps h_p1_forms h_p1_kinds c_p1_size c_p1_hour c_t_sunny r1 r4 r3 r2 c_p1_size c_p1_hour c_p1_sunny c_p1_book_forms c_p1_deeps c_p1_forms c_p1_kinds) := hD
  refine lv_aload_n hx hb dX5_become_72 rfl (lv_at hl 0 rfl) ?_
  refine lv_aload_n hx hb dX5_become_73 rfl (lv_at hl 1 rfl) ?_
  refine va_get (D := eD E) (ci := 3) (C := RX5) (T := TX5) (N := 7) (v := .int c_p1_sunny) hx hb hw inX5 hown hK hP 6 rfl rfl 6 (by decide) (hw _ mw_95) (fun _ h9 => h9) rfl dX5_become_74 ?_
  refine va_put (D := eD E) (ci := 3) (v := .int c_p1_sunny) (ty := .int) (C := RX5) (T := TX5) (N := 7) hx hb hw inX5 tyX5 tyX5_ok nmX5 hown hK hP hD hS 0 rfl rfl 6 (by decide) (hw _ mw_95) (fun _ h9 => h9) rfl (by decide +kernel) rfl rfl (Nat.le_of_ble_eq_true rfl) dX5_become_77 (fun H locs hP hD hS => ?_)
  have hP : va_P (eD E) vwCl (w_Plain_become E h_t h_t_book h_t_book_forms h_t_deeps h_t_forms h_t_kinds h_p1 h_p1_book h_p1_book_forms h_p1_deeps h_p1_forms h_p1_kinds c_p1_size c_p1_hour c_p1_sunny r1 r4 r3 r2 c_p1_size c_p1_hour c_p1_sunny c_p1_book_forms c_p1_deeps c_p1_forms c_p1_kinds) H := hP
  have hD : va_D A (w_Plain_become E h_t h_t_book h_t_book_forms h_t_deeps h_t_forms h_t_kinds h_p1 h_p1_book h_p1_book_forms h_p1_deeps h_p1_forms h_p1_kinds c_p1_size c_p1_hour c_p1_sunny r1 r4 r3 r2 c_p1_size c_p1_hour c_p1_sunny c_p1_book_forms c_p1_deeps c_p1_forms c_p1_kinds) := hD
  obtain rfl := Option.some.inj hF
  exact W.vret hx hb hr (fun t ht hW => ⟨⟨rfl, by rw [ht]; exact hP, hD⟩, hS.F ht⟩) hS.2.2 dX5_become_80
abbrev w_Plain_strokesOfAll (E : kE) (h_t : Nat) (h_t_forms : Nat) (x_t_book : Nat) (x_t_kinds : Nat) (x_t_deeps : Nat) (c_t_size : Int32) (c_t_hour : Int32) (c_t_sunny : Int32) (c_t_forms : (Nat → Int32)) : va_W := [(h_t, .inr (3, [.ref x_t_book, .ref x_t_kinds, .ref h_t_forms, .ref x_t_deeps, .int c_t_size, .int c_t_hour, .int c_t_sunny])), (h_t_forms, .inl (eI E, 12, .inl c_t_forms))]
set_option maxHeartbeats 4000000 in
set_option maxRecDepth 100000 in
theorem wk_Plain_strokesOfAll_b4 {p : Program} {l : Launch} {e : Env} {s : State} {m : MethodId} {args : Array Value} {below : List Frame} {meth : Method} {c : Code} (E : kE) (h_t : Nat) (h_t_forms : Nat) (x_t_book : Nat) (x_t_kinds : Nat) (x_t_deeps : Nat) (c_t_size : Int32) (c_t_hour : Int32) (c_t_sunny : Int32) (c_t_forms : (Nat → Int32))  {out : Int32} (C : kC RX5 cX5_strokesOfAll 3 (some .int) p s m args meth c) (hP : va_P (eD E) vwCl (w_Plain_strokesOfAll E h_t h_t_forms x_t_book x_t_kinds x_t_deeps c_t_size c_t_hour c_t_sunny c_t_forms) s.heap) (hK : va_K (eD E) vwCl (eT E) s) (hT : sT E (fun _ => False) s s.heap)  :
    ∀ (n : Nat), ∀ (v1 : Int32) (v2 : Int32), f_Plain_strokesOfAll_b4  c_t_size c_t_forms n v1 v2 = some out → ∀ (ls : Array Slot), lv_has ls 3 [(0, .ref h_t), (1, .int v1), (2, .int v2)] → W p l e (rm 2) s m args below meth c s.heap [] 0 0 (MQ below (qR (.int out)) args s 0 0 (fun _ => False)) (F0 m 4 ls []) := by
  obtain ⟨hx, hb, hr, hml, hown, hw, hlocks⟩ := id C
  have hS : va_S (fun _ => False) s.heap s.heap [] := va_S.rf
  intro n
  induction n with
  | zero =>
    intro v1 v2 hF
    exact absurd (show (none : Option (Int32)) = some out from hF) nofun
  | succ n ih =>
    intro v1 v2 hF ls hl
    rw [f_Plain_strokesOfAll_b4] at hF
    refine lv_iload_n hx hb dX5_strokesOfAll_4 rfl (lv_at hl 2 rfl) ?_
    refine lv_aload_n hx hb dX5_strokesOfAll_5 rfl (lv_at hl 0 rfl) ?_
    refine va_get (D := eD E) (ci := 3) (C := RX5) (T := TX5) (N := 7) (v := .int c_t_size) hx hb hw inX5 hown hK hP 0 rfl rfl 4 (by decide) (hw _ mw_91) (fun _ h9 => h9) rfl dX5_strokesOfAll_6 ?_
    refine lv_icmp_ge (tgt := 30) hx hb dX5_strokesOfAll_9 (by decide) (fun q1 => ?_) (fun q1 => ?_)
    · have hF := kp hF q1
      refine lv_iload_n hx hb dX5_strokesOfAll_30 rfl (lv_at hl 1 rfl) ?_
      obtain rfl := Option.some.inj hF
      exact W.iret hx hb hr (fun t ht hW => ⟨rfl, ht⟩) nofun dX5_strokesOfAll_31
    · have hF := kn hF q1
      refine lv_iload_n hx hb dX5_strokesOfAll_12 rfl (lv_at hl 1 rfl) ?_
      refine lv_aload_n hx hb dX5_strokesOfAll_13 rfl (lv_at hl 0 rfl) ?_
      refine va_get (D := eD E) (ci := 3) (C := RX5) (T := TX5) (N := 7) (v := .ref h_t_forms) hx hb hw inX5 hown hK hP 0 rfl rfl 2 (by decide) (hw _ mw_86) (fun _ h9 => h9) rfl dX5_strokesOfAll_14 ?_
      refine lv_iload_n hx hb dX5_strokesOfAll_17 rfl (lv_at hl 2 rfl) ?_
      obtain ⟨r2, er2, hF⟩ := kb hF
      refine wa_iald hx hb hK hP 1 0 rfl rfl er2 dX5_strokesOfAll_18 ?_
      obtain ⟨r3, er3, hF⟩ := kb hF
      refine kRS (rest := [.int v1]) C (k_Int_bitCount l E r2 r3 er3) fn_Int_bitCount mw_554 ⟨Nat.le_of_ble_eq_true rfl, Nat.le_of_ble_eq_true rfl⟩ hK hT hS hP [] rfl rfl rfl hl (Nat.le_of_ble_eq_true rfl) dX5_strokesOfAll_19 ?_
      refine lv_iadd hx hb dX5_strokesOfAll_22 ?_
      refine lv_istore_n (lv' := [(1, .int (v1 + r3)), (0, .ref h_t), (2, .int v2)]) hx hb dX5_strokesOfAll_23 rfl hl (by decide) rfl (fun ls hl => ?_)
      refine lv_iinc (v := (v2 + (1))) (lv' := [(2, .int (v2 + (1))), (1, .int (v1 + r3)), (0, .ref h_t)]) hx hb dX5_strokesOfAll_24 hl (k := 2) rfl rfl (by decide) rfl (fun ls hl => ?_)
      refine lv_goto (tgt := 4) hx hb dX5_strokesOfAll_27 (by decide) ?_
      exact ih (v1 + r3) (v2 + (1)) hF _ (lv_sub hl [2, 1, 0] rfl)
set_option maxHeartbeats 4000000 in
set_option maxRecDepth 100000 in
theorem k_Plain_strokesOfAll (l : Launch) (E : kE) (h_t : Nat) (h_t_forms : Nat) (x_t_book : Nat) (x_t_kinds : Nat) (x_t_deeps : Nat) (c_t_size : Int32) (c_t_hour : Int32) (c_t_sunny : Int32) (c_t_forms : (Nat → Int32))  (out : Int32) (hF : f_Plain_strokesOfAll c_t_size c_t_forms  = some out) : Met l yX5_strokesOfAll (Cond.code yX5_strokesOfAll cX5_strokesOfAll 3 (some .int) :: wG) (rm 2) (pR E (w_Plain_strokesOfAll E h_t h_t_forms x_t_book x_t_kinds x_t_deeps c_t_size c_t_hour c_t_sunny c_t_forms) [.ref h_t]) (qR (.int out)) 0 0 (fun _ => False) := by
  refine met_R (by decide) (Nat.le_of_ble_eq_true rfl) ?_
  intro p e s m args below meth c ls C hP hK hT hl
  obtain ⟨hx, hb, hr, hml, hown, hw, hlocks⟩ := id C
  have hS : va_S (fun _ => False) s.heap s.heap [] := va_S.rf
  have hl : lv_has ls 3 [(0, .ref h_t)] := hl
  rw [f_Plain_strokesOfAll] at hF
  refine lv_iconst (v := (0 : Int32)) hx hb dX5_strokesOfAll_0 (by decide) ?_
  refine lv_istore_n (lv' := [(1, .int (0 : Int32)), (0, .ref h_t)]) hx hb dX5_strokesOfAll_1 rfl hl (by decide) rfl (fun ls hl => ?_)
  refine lv_iconst (v := (0 : Int32)) hx hb dX5_strokesOfAll_2 (by decide) ?_
  refine lv_istore_n (lv' := [(2, .int (0 : Int32)), (1, .int (0 : Int32)), (0, .ref h_t)]) hx hb dX5_strokesOfAll_3 rfl hl (by decide) rfl (fun ls hl => ?_)
  exact wk_Plain_strokesOfAll_b4 E h_t h_t_forms x_t_book x_t_kinds x_t_deeps c_t_size c_t_hour c_t_sunny c_t_forms  C hP  hK hT  5000 (0 : Int32) (0 : Int32) hF _ (lv_sub hl [2, 1, 0] rfl)
