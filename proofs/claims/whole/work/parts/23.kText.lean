abbrev w_Tape_append (E : kE) (h_t : Nat) (h_t_bytes : Nat)  (c_t_length : Int32) (c_t_bytes : (Nat → Int32)) : va_W := [(h_t, .inr (5, [.ref h_t_bytes, .int c_t_length])), (h_t_bytes, .inl (eB E, 120, .inl c_t_bytes))]
set_option maxHeartbeats 4000000 in
set_option maxRecDepth 100000 in
theorem wk_Tape_append_b4 {p : Program} {l : Launch} {e : Env} {s : State} {m : MethodId} {args : Array Value} {below : List Frame} {meth : Method} {c : Code} {A : Nat → Prop} (E : kE) (h_t : Nat) (h_t_bytes : Nat)   (a1 : Int32) (a2 : Int32) {out : Int32 × (Nat → Int32)} (C : kC RX7 cX7_append 4 none p s m args meth c) (hA : ∀ q : Nat, s.heap.size ≤ q → A q) (hK : va_K (eD E) vwCl (eT E) s) (hT : sT E A s s.heap)  :
    ∀ (n : Nat), ∀ (c_t_length : Int32) (c_t_bytes : (Nat → Int32)) (v3 : Int32), f_Tape_append_b4  a1 a2 n c_t_length c_t_bytes v3 = some out → ∀ (H : Heap) (locs : List Loc), va_P (eD E) vwCl (w_Tape_append E h_t h_t_bytes c_t_length c_t_bytes) H → va_D A (w_Tape_append E h_t h_t_bytes c_t_length c_t_bytes) → va_S A s.heap H locs → ∀ (ls : Array Slot), lv_has ls 4 [(0, .ref h_t), (1, .int a1), (3, .int v3)] → W p l e (rm 1) s m args below meth c H locs 0 0 (MQ below (qW none E (w_Tape_append E h_t h_t_bytes out.1 out.2) A) args s 0 0 A) (F0 m 4 ls []) := by
  obtain ⟨hx, hb, hr, hml, hown, hw, hlocks⟩ := id C
  intro n
  induction n with
  | zero =>
    intro c_t_length c_t_bytes v3 hF
    exact absurd (show (none : Option (Int32 × (Nat → Int32))) = some out from hF) nofun
  | succ n ih =>
    intro c_t_length c_t_bytes v3 hF H locs hP hD hS ls hl
    rw [f_Tape_append_b4] at hF
    refine lv_iload_n hx hb dX7_append_4 rfl (lv_at hl 2 rfl) ?_
    refine lv_if_lt (tgt := 49) hx hb dX7_append_5 (by decide) (fun q1 => ?_) (fun q1 => ?_)
    · have hF := kp hF q1
      obtain rfl := Option.some.inj hF
      exact W.vret hx hb hr (fun t ht hW => ⟨⟨rfl, by rw [ht]; exact hP, hD⟩, hS.F ht⟩) hS.2.2 dX7_append_49
    · have hF := kn hF q1
      refine lv_aload_n hx hb dX7_append_8 rfl (lv_at hl 0 rfl) ?_
      refine va_get (D := eD E) (ci := 5) (C := RX7) (T := TX7) (N := 2) (v := .int c_t_length) hx hb hw inX7 hown hK hP 0 rfl rfl 1 (by decide) (hw _ mw_120) (fun _ h9 => h9) rfl dX7_append_9 ?_
      refine lv_bipush (v := (120 : Int32)) hx hb dX7_append_12 (by decide) ?_
      refine lv_icmp_ge (tgt := 49) hx hb dX7_append_14 (by decide) (fun q2 => ?_) (fun q2 => ?_)
      · have hF := kp hF q2
        obtain rfl := Option.some.inj hF
        exact W.vret hx hb hr (fun t ht hW => ⟨⟨rfl, by rw [ht]; exact hP, hD⟩, hS.F ht⟩) hS.2.2 dX7_append_49
      · have hF := kn hF q2
        refine lv_aload_n hx hb dX7_append_17 rfl (lv_at hl 0 rfl) ?_
        refine va_get (D := eD E) (ci := 5) (C := RX7) (T := TX7) (N := 2) (v := .ref h_t_bytes) hx hb hw inX7 hown hK hP 0 rfl rfl 0 (by decide) (hw _ mw_119) (fun _ h9 => h9) rfl dX7_append_18 ?_
        refine lv_aload_n hx hb dX7_append_21 rfl (lv_at hl 0 rfl) ?_
        refine va_get (D := eD E) (ci := 5) (C := RX7) (T := TX7) (N := 2) (v := .int c_t_length) hx hb hw inX7 hown hK hP 0 rfl rfl 1 (by decide) (hw _ mw_120) (fun _ h9 => h9) rfl dX7_append_22 ?_
        refine lv_iload_n hx hb dX7_append_25 rfl (lv_at hl 1 rfl) ?_
        refine lv_bipush (v := (8 : Int32)) hx hb dX7_append_26 (by decide) ?_
        refine lv_iload_n hx hb dX7_append_28 rfl (lv_at hl 2 rfl) ?_
        refine lv_imul hx hb dX7_append_29 ?_
        refine lv_ishr hx hb dX7_append_30 ?_
        refine lv_i2b (v := (a1 >>> (((8 : Int32) * v3) &&& 31)).toInt8.toInt32) hx hb dX7_append_31 rfl ?_
        obtain ⟨r3, er3, hF⟩ := kb hF
        refine wa_bast hx hb hK hP hD hS 1 1 rfl rfl er3 dX7_append_32 (fun H locs hP hD hS => ?_)
        have hP : va_P (eD E) vwCl (w_Tape_append E h_t h_t_bytes c_t_length r3) H := hP
        have hD : va_D A (w_Tape_append E h_t h_t_bytes c_t_length r3) := hD
        refine lv_aload_n hx hb dX7_append_33 rfl (lv_at hl 0 rfl) ?_
        refine lv_dup hx hb dX7_append_34 rfl ?_
        refine va_get (D := eD E) (ci := 5) (C := RX7) (T := TX7) (N := 2) (v := .int c_t_length) hx hb hw inX7 hown hK hP 0 rfl rfl 1 (by decide) (hw _ mw_120) (fun _ h9 => h9) rfl dX7_append_35 ?_
        refine lv_iconst (v := (1 : Int32)) hx hb dX7_append_38 (by decide) ?_
        refine lv_iadd hx hb dX7_append_39 ?_
        refine va_put (D := eD E) (ci := 5) (v := .int (c_t_length + (1 : Int32))) (ty := .int) (C := RX7) (T := TX7) (N := 2) hx hb hw inX7 tyX7 tyX7_ok nmX7 hown hK hP hD hS 0 rfl rfl 1 (by decide) (hw _ mw_120) (fun _ h9 => h9) rfl (by decide +kernel) rfl rfl (Nat.le_of_ble_eq_true rfl) dX7_append_40 (fun H locs hP hD hS => ?_)
        have hP : va_P (eD E) vwCl (w_Tape_append E h_t h_t_bytes (c_t_length + (1 : Int32)) r3) H := hP
        have hD : va_D A (w_Tape_append E h_t h_t_bytes (c_t_length + (1 : Int32)) r3) := hD
        refine lv_iinc (v := (v3 + (-1))) (lv' := [(3, .int (v3 + (-1))), (0, .ref h_t), (1, .int a1)]) hx hb dX7_append_43 hl (k := 2) rfl rfl (by decide) rfl (fun ls hl => ?_)
        refine lv_goto (tgt := 4) hx hb dX7_append_46 (by decide) ?_
        exact ih (c_t_length + (1 : Int32)) r3 (v3 + (-1)) hF _ _ hP hD hS _ (lv_sub hl [1, 2, 0] rfl)
set_option maxHeartbeats 4000000 in
set_option maxRecDepth 100000 in
theorem k_Tape_append (l : Launch) (E : kE) (h_t : Nat) (h_t_bytes : Nat)  (sz : Nat) (c_t_length : Int32) (c_t_bytes : (Nat → Int32)) (a1 : Int32) (a2 : Int32) (out : Int32 × (Nat → Int32)) (hF : f_Tape_append c_t_length c_t_bytes a1 a2 = some out) : Met l yX7_append (Cond.code yX7_append cX7_append 4 none :: wG) (rm 1) (pW E (w_Tape_append E h_t h_t_bytes c_t_length c_t_bytes) sz [.ref h_t, .int a1, .int a2]) (qW none E (w_Tape_append E h_t h_t_bytes out.1 out.2) (va_A (w_Tape_append E h_t h_t_bytes c_t_length c_t_bytes) sz)) 0 0 (va_A (w_Tape_append E h_t h_t_bytes c_t_length c_t_bytes) sz) := by
  refine met_W (by decide) (Nat.le_of_ble_eq_true rfl) ?_
  intro p e s m args below meth c A ls C hP hD hS hA hK hT hl
  obtain ⟨hx, hb, hr, hml, hown, hw, hlocks⟩ := id C
  have hl : lv_has ls 4 [(0, .ref h_t), (1, .int a1), (2, .int a2)] := hl
  rw [f_Tape_append] at hF
  refine lv_iload_n hx hb dX7_append_0 rfl (lv_at hl 2 rfl) ?_
  refine lv_iconst (v := (1 : Int32)) hx hb dX7_append_1 (by decide) ?_
  refine lv_isub hx hb dX7_append_2 ?_
  refine lv_istore_n (lv' := [(3, .int (a2 - (1 : Int32))), (0, .ref h_t), (1, .int a1), (2, .int a2)]) hx hb dX7_append_3 rfl hl (by decide) rfl (fun ls hl => ?_)
  exact wk_Tape_append_b4 E h_t h_t_bytes a1 a2 C hA  hK hT  5000 c_t_length c_t_bytes (a2 - (1 : Int32)) hF _ _ hP hD hS _ (lv_sub hl [1, 2, 0] rfl)
abbrev w_Tape_hasRoomFor (E : kE) (h_t : Nat) (x_t_bytes : Nat) (c_t_length : Int32) : va_W := [(h_t, .inr (5, [.ref x_t_bytes, .int c_t_length]))]
set_option maxHeartbeats 4000000 in
set_option maxRecDepth 100000 in
theorem k_Tape_hasRoomFor (l : Launch) (E : kE) (h_t : Nat) (x_t_bytes : Nat) (c_t_length : Int32) (a1 : Int32) (out : Int32) (hF : f_Tape_hasRoomFor c_t_length a1 = some out) : Met l yX7_hasRoomFor (Cond.code yX7_hasRoomFor cX7_hasRoomFor 2 (some .boolean) :: wG) (rm 1) (pR E (w_Tape_hasRoomFor E h_t x_t_bytes c_t_length) [.ref h_t, .int a1]) (qR (.int out)) 0 0 (fun _ => False) := by
  refine met_R (by decide) (Nat.le_of_ble_eq_true rfl) ?_
  intro p e s m args below meth c ls C hP hK hT hl
  obtain ⟨hx, hb, hr, hml, hown, hw, hlocks⟩ := id C
  have hS : va_S (fun _ => False) s.heap s.heap [] := va_S.rf
  have hl : lv_has ls 2 [(0, .ref h_t), (1, .int a1)] := hl
  rw [f_Tape_hasRoomFor] at hF
  refine lv_iload_n hx hb dX7_hasRoomFor_0 rfl (lv_at hl 1 rfl) ?_
  refine lv_bipush (v := (120 : Int32)) hx hb dX7_hasRoomFor_1 (by decide) ?_
  refine lv_aload_n hx hb dX7_hasRoomFor_3 rfl (lv_at hl 0 rfl) ?_
  refine va_get (D := eD E) (ci := 5) (C := RX7) (T := TX7) (N := 2) (v := .int c_t_length) hx hb hw inX7 hown hK hP 0 rfl rfl 1 (by decide) (hw _ mw_120) (fun _ h9 => h9) rfl dX7_hasRoomFor_4 ?_
  refine lv_isub hx hb dX7_hasRoomFor_7 ?_
  refine lv_icmp_gt (tgt := 15) hx hb dX7_hasRoomFor_8 (by decide) (fun q1 => ?_) (fun q1 => ?_)
  · have hF := kp hF q1
    refine lv_iconst (v := (0 : Int32)) hx hb dX7_hasRoomFor_15 (by decide) ?_
    obtain rfl := Option.some.inj hF
    exact W.zret (ty := .boolean) hx hb hr rfl (fun t ht hW => ⟨rfl, ht⟩) nofun dX7_hasRoomFor_16
  · have hF := kn hF q1
    refine lv_iconst (v := (1 : Int32)) hx hb dX7_hasRoomFor_11 (by decide) ?_
    refine lv_goto (tgt := 16) hx hb dX7_hasRoomFor_12 (by decide) ?_
    obtain rfl := Option.some.inj hF
    exact W.zret (ty := .boolean) hx hb hr rfl (fun t ht hW => ⟨rfl, ht⟩) nofun dX7_hasRoomFor_16
abbrev w_Tape_empty (E : kE) (h_t : Nat) (x_t_bytes : Nat) (c_t_length : Int32) : va_W := [(h_t, .inr (5, [.ref x_t_bytes, .int c_t_length]))]
set_option maxHeartbeats 4000000 in
set_option maxRecDepth 100000 in
theorem k_Tape_empty (l : Launch) (E : kE) (h_t : Nat) (x_t_bytes : Nat) (sz : Nat) (c_t_length : Int32)  (out : Int32 × Int32) (hF : f_Tape_empty c_t_length  = some out) : Met l yX7_empty (Cond.code yX7_empty cX7_empty 2 (some .int) :: wG) (rm 1) (pW E (w_Tape_empty E h_t x_t_bytes c_t_length) sz [.ref h_t]) (qW (some (.int out.1)) E (w_Tape_empty E h_t x_t_bytes out.2) (va_A (w_Tape_empty E h_t x_t_bytes c_t_length) sz)) 0 0 (va_A (w_Tape_empty E h_t x_t_bytes c_t_length) sz) := by
  refine met_W (by decide) (Nat.le_of_ble_eq_true rfl) ?_
  intro p e s m args below meth c A ls C hP hD hS hA hK hT hl
  obtain ⟨hx, hb, hr, hml, hown, hw, hlocks⟩ := id C
  have hl : lv_has ls 2 [(0, .ref h_t)] := hl
  rw [f_Tape_empty] at hF
  refine lv_aload_n hx hb dX7_empty_0 rfl (lv_at hl 0 rfl) ?_
  refine va_get (D := eD E) (ci := 5) (C := RX7) (T := TX7) (N := 2) (v := .int c_t_length) hx hb hw inX7 hown hK hP 0 rfl rfl 1 (by decide) (hw _ mw_120) (fun _ h9 => h9) rfl dX7_empty_1 ?_
  refine lv_istore_n (lv' := [(1, .int c_t_length), (0, .ref h_t)]) hx hb dX7_empty_4 rfl hl (by decide) rfl (fun ls hl => ?_)
  refine lv_aload_n hx hb dX7_empty_5 rfl (lv_at hl 1 rfl) ?_
  refine lv_iconst (v := (0 : Int32)) hx hb dX7_empty_6 (by decide) ?_
  refine va_put (D := eD E) (ci := 5) (v := .int (0 : Int32)) (ty := .int) (C := RX7) (T := TX7) (N := 2) hx hb hw inX7 tyX7 tyX7_ok nmX7 hown hK hP hD hS 0 rfl rfl 1 (by decide) (hw _ mw_120) (fun _ h9 => h9) rfl (by decide +kernel) rfl rfl (Nat.le_of_ble_eq_true rfl) dX7_empty_7 (fun H locs hP hD hS => ?_)
  have hP : va_P (eD E) vwCl (w_Tape_empty E h_t x_t_bytes (0 : Int32)) H := hP
  have hD : va_D A (w_Tape_empty E h_t x_t_bytes (0 : Int32)) := hD
  refine lv_iload_n hx hb dX7_empty_10 rfl (lv_at hl 0 rfl) ?_
  obtain rfl := Option.some.inj hF
  exact W.iret hx hb hr (fun t ht hW => ⟨⟨rfl, by rw [ht]; exact hP, hD⟩, hS.F ht⟩) hS.2.2 dX7_empty_11
abbrev w_Tokens_valueAt (E : kE) (h_t : Nat) (h_t_types : Nat) (h_t_values : Nat) (x_t_starts : Nat) (c_t_size : Int32) (c_t_length : Int32) (c_t_types : (Nat → Int32)) (c_t_values : (Nat → Int32)) : va_W := [(h_t, .inr (6, [.ref h_t_types, .ref x_t_starts, .ref h_t_values, .int c_t_size, .int c_t_length])), (h_t_types, .inl (eI E, 120, .inl c_t_types)), (h_t_values, .inl (eI E, 120, .inl c_t_values))]
set_option maxHeartbeats 4000000 in
set_option maxRecDepth 100000 in
theorem k_Tokens_valueAt (l : Launch) (E : kE) (h_t : Nat) (h_t_types : Nat) (h_t_values : Nat) (x_t_starts : Nat) (c_t_size : Int32) (c_t_length : Int32) (c_t_types : (Nat → Int32)) (c_t_values : (Nat → Int32)) (a1 : Int32) (a2 : Int32) (out : Int32) (hF : f_Tokens_valueAt c_t_size c_t_types c_t_values a1 a2 = some out) : Met l yX8_valueAt (Cond.code yX8_valueAt cX8_valueAt 3 (some .int) :: wG) (rm 1) (pR E (w_Tokens_valueAt E h_t h_t_types h_t_values x_t_starts c_t_size c_t_length c_t_types c_t_values) [.ref h_t, .int a1, .int a2]) (qR (.int out)) 0 0 (fun _ => False) := by
  refine met_R (by decide) (Nat.le_of_ble_eq_true rfl) ?_
  intro p e s m args below meth c ls C hP hK hT hl
  obtain ⟨hx, hb, hr, hml, hown, hw, hlocks⟩ := id C
  have hS : va_S (fun _ => False) s.heap s.heap [] := va_S.rf
  have hl : lv_has ls 3 [(0, .ref h_t), (1, .int a1), (2, .int a2)] := hl
  rw [f_Tokens_valueAt] at hF
  refine lv_iload_n hx hb dX8_valueAt_0 rfl (lv_at hl 1 rfl) ?_
  refine lv_if_lt (tgt := 31) hx hb dX8_valueAt_1 (by decide) (fun q1 => ?_) (fun q1 => ?_)
  · have hF := kp hF q1
    refine lv_iconst (v := (-1 : Int32)) hx hb dX8_valueAt_31 (by decide) ?_
    obtain rfl := Option.some.inj hF
    exact W.iret hx hb hr (fun t ht hW => ⟨rfl, ht⟩) nofun dX8_valueAt_32
  · have hF := kn hF q1
    refine lv_iload_n hx hb dX8_valueAt_4 rfl (lv_at hl 1 rfl) ?_
    refine lv_aload_n hx hb dX8_valueAt_5 rfl (lv_at hl 0 rfl) ?_
    refine va_get (D := eD E) (ci := 6) (C := RX8) (T := TX8) (N := 5) (v := .int c_t_size) hx hb hw inX8 hown hK hP 0 rfl rfl 3 (by decide) (hw _ mw_144) (fun _ h9 => h9) rfl dX8_valueAt_6 ?_
    refine lv_icmp_ge (tgt := 31) hx hb dX8_valueAt_9 (by decide) (fun q2 => ?_) (fun q2 => ?_)
    · have hF := kp hF q2
      refine lv_iconst (v := (-1 : Int32)) hx hb dX8_valueAt_31 (by decide) ?_
      obtain rfl := Option.some.inj hF
      exact W.iret hx hb hr (fun t ht hW => ⟨rfl, ht⟩) nofun dX8_valueAt_32
    · have hF := kn hF q2
      refine lv_aload_n hx hb dX8_valueAt_12 rfl (lv_at hl 0 rfl) ?_
      refine va_get (D := eD E) (ci := 6) (C := RX8) (T := TX8) (N := 5) (v := .ref h_t_types) hx hb hw inX8 hown hK hP 0 rfl rfl 0 (by decide) (hw _ mw_141) (fun _ h9 => h9) rfl dX8_valueAt_13 ?_
      refine lv_iload_n hx hb dX8_valueAt_16 rfl (lv_at hl 1 rfl) ?_
      obtain ⟨r3, er3, hF⟩ := kb hF
      refine wa_iald hx hb hK hP 1 0 rfl rfl er3 dX8_valueAt_17 ?_
      refine lv_iload_n hx hb dX8_valueAt_18 rfl (lv_at hl 2 rfl) ?_
      refine lv_icmp_ne (tgt := 31) hx hb dX8_valueAt_19 (by decide) (fun q4 => ?_) (fun q4 => ?_)
      · have hF := kn hF q4
        refine lv_iconst (v := (-1 : Int32)) hx hb dX8_valueAt_31 (by decide) ?_
        obtain rfl := Option.some.inj hF
        exact W.iret hx hb hr (fun t ht hW => ⟨rfl, ht⟩) nofun dX8_valueAt_32
      · have hF := kp hF q4
        refine lv_aload_n hx hb dX8_valueAt_22 rfl (lv_at hl 0 rfl) ?_
        refine va_get (D := eD E) (ci := 6) (C := RX8) (T := TX8) (N := 5) (v := .ref h_t_values) hx hb hw inX8 hown hK hP 0 rfl rfl 2 (by decide) (hw _ mw_143) (fun _ h9 => h9) rfl dX8_valueAt_23 ?_
        refine lv_iload_n hx hb dX8_valueAt_26 rfl (lv_at hl 1 rfl) ?_
        obtain ⟨r5, er5, hF⟩ := kb hF
        refine wa_iald hx hb hK hP 2 0 rfl rfl er5 dX8_valueAt_27 ?_
        refine lv_goto (tgt := 32) hx hb dX8_valueAt_28 (by decide) ?_
        obtain rfl := Option.some.inj hF
        exact W.iret hx hb hr (fun t ht hW => ⟨rfl, ht⟩) nofun dX8_valueAt_32
abbrev w_Tape_byteAt (E : kE) (h_t : Nat) (h_t_bytes : Nat)  (c_t_length : Int32) (c_t_bytes : (Nat → Int32)) : va_W := [(h_t, .inr (5, [.ref h_t_bytes, .int c_t_length])), (h_t_bytes, .inl (eB E, 120, .inl c_t_bytes))]
set_option maxHeartbeats 4000000 in
set_option maxRecDepth 100000 in
theorem k_Tape_byteAt (l : Launch) (E : kE) (h_t : Nat) (h_t_bytes : Nat)  (c_t_length : Int32) (c_t_bytes : (Nat → Int32)) (a1 : Int32) (out : Int32) (hF : f_Tape_byteAt c_t_length c_t_bytes a1 = some out) : Met l yX7_byteAt (Cond.code yX7_byteAt cX7_byteAt 2 (some .int) :: wG) (rm 1) (pR E (w_Tape_byteAt E h_t h_t_bytes c_t_length c_t_bytes) [.ref h_t, .int a1]) (qR (.int out)) 0 0 (fun _ => False) := by
  refine met_R (by decide) (Nat.le_of_ble_eq_true rfl) ?_
  intro p e s m args below meth c ls C hP hK hT hl
  obtain ⟨hx, hb, hr, hml, hown, hw, hlocks⟩ := id C
  have hS : va_S (fun _ => False) s.heap s.heap [] := va_S.rf
  have hl : lv_has ls 2 [(0, .ref h_t), (1, .int a1)] := hl
  rw [f_Tape_byteAt] at hF
  refine lv_iload_n hx hb dX7_byteAt_0 rfl (lv_at hl 1 rfl) ?_
  refine lv_if_lt (tgt := 25) hx hb dX7_byteAt_1 (by decide) (fun q1 => ?_) (fun q1 => ?_)
  · have hF := kp hF q1
    refine lv_iconst (v := (0 : Int32)) hx hb dX7_byteAt_25 (by decide) ?_
    obtain rfl := Option.some.inj hF
    exact W.iret hx hb hr (fun t ht hW => ⟨rfl, ht⟩) nofun dX7_byteAt_26
  · have hF := kn hF q1
    refine lv_iload_n hx hb dX7_byteAt_4 rfl (lv_at hl 1 rfl) ?_
    refine lv_aload_n hx hb dX7_byteAt_5 rfl (lv_at hl 0 rfl) ?_
    refine va_get (D := eD E) (ci := 5) (C := RX7) (T := TX7) (N := 2) (v := .int c_t_length) hx hb hw inX7 hown hK hP 0 rfl rfl 1 (by decide) (hw _ mw_120) (fun _ h9 => h9) rfl dX7_byteAt_6 ?_
    refine lv_icmp_ge (tgt := 25) hx hb dX7_byteAt_9 (by decide) (fun q2 => ?_) (fun q2 => ?_)
    · have hF := kp hF q2
      refine lv_iconst (v := (0 : Int32)) hx hb dX7_byteAt_25 (by decide) ?_
      obtain rfl := Option.some.inj hF
      exact W.iret hx hb hr (fun t ht hW => ⟨rfl, ht⟩) nofun dX7_byteAt_26
    · have hF := kn hF q2
      refine lv_aload_n hx hb dX7_byteAt_12 rfl (lv_at hl 0 rfl) ?_
      refine va_get (D := eD E) (ci := 5) (C := RX7) (T := TX7) (N := 2) (v := .ref h_t_bytes) hx hb hw inX7 hown hK hP 0 rfl rfl 0 (by decide) (hw _ mw_119) (fun _ h9 => h9) rfl dX7_byteAt_13 ?_
      refine lv_iload_n hx hb dX7_byteAt_16 rfl (lv_at hl 1 rfl) ?_
      obtain ⟨r3, er3, hF⟩ := kb hF
      refine wa_bald hx hb hK hP 1 1 rfl rfl er3 dX7_byteAt_17 ?_
      refine lv_sipush (v := (255 : Int32)) hx hb dX7_byteAt_18 (by decide) ?_
      refine lv_iand hx hb dX7_byteAt_21 ?_
      refine lv_goto (tgt := 26) hx hb dX7_byteAt_22 (by decide) ?_
      obtain rfl := Option.some.inj hF
      exact W.iret hx hb hr (fun t ht hW => ⟨rfl, ht⟩) nofun dX7_byteAt_26
abbrev w_Tokens_typeOf (E : kE)    : va_W := []
set_option maxHeartbeats 4000000 in
set_option maxRecDepth 100000 in
theorem wk_Tokens_typeOf_b28 {p : Program} {l : Launch} {e : Env} {s : State} {m : MethodId} {args : Array Value} {below : List Frame} {meth : Method} {c : Code} (E : kE)    (a0 : Int32) {out : Int32} (C : kC RX8 cX8_typeOf 1 (some .int) p s m args meth c) (hP : va_P (eD E) vwCl (w_Tokens_typeOf E ) s.heap) (hK : va_K (eD E) vwCl (eT E) s) (hT : sT E (fun _ => False) s s.heap)  :
    f_Tokens_typeOf_b28  a0  = some out → ∀ (ls : Array Slot), lv_has ls 1 [(0, .int a0)] → W p l e (rm 1) s m args below meth c s.heap [] 0 0 (MQ below (qR (.int out)) args s 0 0 (fun _ => False)) (F0 m 28 ls []) := by
  obtain ⟨hx, hb, hr, hml, hown, hw, hlocks⟩ := id C
  have hS : va_S (fun _ => False) s.heap s.heap [] := va_S.rf
  intro  hF ls hl
  rw [f_Tokens_typeOf_b28] at hF
  refine lv_iload_n hx hb dX8_typeOf_28 rfl (lv_at hl 0 rfl) ?_
  refine lv_bipush (v := (59 : Int32)) hx hb dX8_typeOf_29 (by decide) ?_
  refine lv_icmp_ne (tgt := 36) hx hb dX8_typeOf_31 (by decide) (fun q1 => ?_) (fun q1 => ?_)
  · have hF := kn hF q1
    refine lv_iload_n hx hb dX8_typeOf_36 rfl (lv_at hl 0 rfl) ?_
    refine lv_bipush (v := (32 : Int32)) hx hb dX8_typeOf_37 (by decide) ?_
    refine lv_icmp_ne (tgt := 46) hx hb dX8_typeOf_39 (by decide) (fun q2 => ?_) (fun q2 => ?_)
    · have hF := kn hF q2
      refine lv_iconst (v := (4 : Int32)) hx hb dX8_typeOf_46 (by decide) ?_
      obtain rfl := Option.some.inj hF
      exact W.iret hx hb hr (fun t ht hW => ⟨rfl, ht⟩) nofun dX8_typeOf_47
    · have hF := kp hF q2
      refine lv_iconst (v := (0 : Int32)) hx hb dX8_typeOf_42 (by decide) ?_
      refine lv_goto (tgt := 47) hx hb dX8_typeOf_43 (by decide) ?_
      obtain rfl := Option.some.inj hF
      exact W.iret hx hb hr (fun t ht hW => ⟨rfl, ht⟩) nofun dX8_typeOf_47
  · have hF := kp hF q1
    refine lv_iconst (v := (3 : Int32)) hx hb dX8_typeOf_34 (by decide) ?_
    obtain rfl := Option.some.inj hF
    exact W.iret hx hb hr (fun t ht hW => ⟨rfl, ht⟩) nofun dX8_typeOf_35
set_option maxHeartbeats 4000000 in
set_option maxRecDepth 100000 in
theorem wk_Tokens_typeOf_b14 {p : Program} {l : Launch} {e : Env} {s : State} {m : MethodId} {args : Array Value} {below : List Frame} {meth : Method} {c : Code} (E : kE)    (a0 : Int32) {out : Int32} (C : kC RX8 cX8_typeOf 1 (some .int) p s m args meth c) (hP : va_P (eD E) vwCl (w_Tokens_typeOf E ) s.heap) (hK : va_K (eD E) vwCl (eT E) s) (hT : sT E (fun _ => False) s s.heap)  :
    f_Tokens_typeOf_b14  a0  = some out → ∀ (ls : Array Slot), lv_has ls 1 [(0, .int a0)] → W p l e (rm 1) s m args below meth c s.heap [] 0 0 (MQ below (qR (.int out)) args s 0 0 (fun _ => False)) (F0 m 14 ls []) := by
  obtain ⟨hx, hb, hr, hml, hown, hw, hlocks⟩ := id C
  have hS : va_S (fun _ => False) s.heap s.heap [] := va_S.rf
  intro  hF ls hl
  rw [f_Tokens_typeOf_b14] at hF
  refine lv_iload_n hx hb dX8_typeOf_14 rfl (lv_at hl 0 rfl) ?_
  refine lv_bipush (v := (48 : Int32)) hx hb dX8_typeOf_15 (by decide) ?_
  refine lv_icmp_lt (tgt := 28) hx hb dX8_typeOf_17 (by decide) (fun q3 => ?_) (fun q3 => ?_)
  · have hF := kp hF q3
    exact wk_Tokens_typeOf_b28 E  a0 C hP  hK hT   hF _ (lv_sub hl [0] rfl)
  · have hF := kn hF q3
    refine lv_iload_n hx hb dX8_typeOf_20 rfl (lv_at hl 0 rfl) ?_
    refine lv_bipush (v := (57 : Int32)) hx hb dX8_typeOf_21 (by decide) ?_
    refine lv_icmp_gt (tgt := 28) hx hb dX8_typeOf_23 (by decide) (fun q4 => ?_) (fun q4 => ?_)
    · have hF := kp hF q4
      exact wk_Tokens_typeOf_b28 E  a0 C hP  hK hT   hF _ (lv_sub hl [0] rfl)
    · have hF := kn hF q4
      refine lv_iconst (v := (2 : Int32)) hx hb dX8_typeOf_26 (by decide) ?_
      obtain rfl := Option.some.inj hF
      exact W.iret hx hb hr (fun t ht hW => ⟨rfl, ht⟩) nofun dX8_typeOf_27
set_option maxHeartbeats 4000000 in
set_option maxRecDepth 100000 in
theorem k_Tokens_typeOf (l : Launch) (E : kE)    (a0 : Int32) (out : Int32) (hF : f_Tokens_typeOf  a0 = some out) : Met l yX8_typeOf (Cond.code yX8_typeOf cX8_typeOf 1 (some .int) :: wG) (rm 1) (pR E (w_Tokens_typeOf E ) [.int a0]) (qR (.int out)) 0 0 (fun _ => False) := by
  refine met_R (by decide) (Nat.le_of_ble_eq_true rfl) ?_
  intro p e s m args below meth c ls C hP hK hT hl
  obtain ⟨hx, hb, hr, hml, hown, hw, hlocks⟩ := id C
  have hS : va_S (fun _ => False) s.heap s.heap [] := va_S.rf
  have hl : lv_has ls 1 [(0, .int a0)] := hl
  rw [f_Tokens_typeOf] at hF
  refine lv_iload_n hx hb dX8_typeOf_0 rfl (lv_at hl 0 rfl) ?_
  refine lv_bipush (v := (97 : Int32)) hx hb dX8_typeOf_1 (by decide) ?_
  refine lv_icmp_lt (tgt := 14) hx hb dX8_typeOf_3 (by decide) (fun q5 => ?_) (fun q5 => ?_)
  · have hF := kp hF q5
    exact wk_Tokens_typeOf_b14 E  a0 C hP  hK hT   hF _ (lv_sub hl [0] rfl)
  · have hF := kn hF q5
    refine lv_iload_n hx hb dX8_typeOf_6 rfl (lv_at hl 0 rfl) ?_
    refine lv_bipush (v := (122 : Int32)) hx hb dX8_typeOf_7 (by decide) ?_
    refine lv_icmp_gt (tgt := 14) hx hb dX8_typeOf_9 (by decide) (fun q6 => ?_) (fun q6 => ?_)
    · have hF := kp hF q6
      exact wk_Tokens_typeOf_b14 E  a0 C hP  hK hT   hF _ (lv_sub hl [0] rfl)
    · have hF := kn hF q6
      refine lv_iconst (v := (1 : Int32)) hx hb dX8_typeOf_12 (by decide) ?_
      obtain rfl := Option.some.inj hF
      exact W.iret hx hb hr (fun t ht hW => ⟨rfl, ht⟩) nofun dX8_typeOf_13
abbrev w_Tokens_endOf (E : kE) (h_p0 : Nat) (h_p0_bytes : Nat)  (c_p0_length : Int32) (c_p0_bytes : (Nat → Int32)) : va_W := [(h_p0, .inr (5, [.ref h_p0_bytes, .int c_p0_length])), (h_p0_bytes, .inl (eB E, 120, .inl c_p0_bytes))]
set_option maxHeartbeats 4000000 in
set_option maxRecDepth 100000 in
theorem wk_Tokens_endOf_b21 {p : Program} {l : Launch} {e : Env} {s : State} {m : MethodId} {args : Array Value} {below : List Frame} {meth : Method} {c : Code} (E : kE) (h_p0 : Nat) (h_p0_bytes : Nat)  (c_p0_length : Int32) (c_p0_bytes : (Nat → Int32)) (a1 : Int32) (a2 : Int32) {out : Int32} (C : kC RX8 cX8_endOf 5 (some .int) p s m args meth c) (hP : va_P (eD E) vwCl (w_Tokens_endOf E h_p0 h_p0_bytes c_p0_length c_p0_bytes) s.heap) (hK : va_K (eD E) vwCl (eT E) s) (hT : sT E (fun _ => False) s s.heap)  :
    ∀ (n : Nat), ∀ (v3 : Int32) (v4 : Int32), f_Tokens_endOf_b21  c_p0_length c_p0_bytes a1 a2 n v3 v4 = some out → ∀ (ls : Array Slot), lv_has ls 5 [(0, .ref h_p0), (2, .int a2), (3, .int v3), (4, .int v4)] → W p l e (rm 2) s m args below meth c s.heap [] 0 0 (MQ below (qR (.int out)) args s 0 0 (fun _ => False)) (F0 m 21 ls []) := by
  obtain ⟨hx, hb, hr, hml, hown, hw, hlocks⟩ := id C
  have hS : va_S (fun _ => False) s.heap s.heap [] := va_S.rf
  intro n
  induction n with
  | zero =>
    intro v3 v4 hF
    exact absurd (show (none : Option (Int32)) = some out from hF) nofun
  | succ n ih =>
    intro v3 v4 hF ls hl
    rw [f_Tokens_endOf_b21] at hF
    refine lv_iload hx hb dX8_endOf_21 (lv_at hl 3 rfl) ?_
    refine lv_if_eq (tgt := 52) hx hb dX8_endOf_23 (by decide) (fun q1 => ?_) (fun q1 => ?_)
    · have hF := kp hF q1
      refine lv_iload_n hx hb dX8_endOf_52 rfl (lv_at hl 2 rfl) ?_
      obtain rfl := Option.some.inj hF
      exact W.iret hx hb hr (fun t ht hW => ⟨rfl, ht⟩) nofun dX8_endOf_53
    · have hF := kn hF q1
      refine lv_iload_n hx hb dX8_endOf_26 rfl (lv_at hl 2 rfl) ?_
      refine lv_aload_n hx hb dX8_endOf_27 rfl (lv_at hl 0 rfl) ?_
      refine va_getN (D := eD E) (ci := 5) (C := RX7) (T := TX7) (N := 2) (v := .int c_p0_length) hx hb hw inX7 hown hK hP 0 rfl rfl 1 (by decide) ((sF_10 hT).use rfl) (fun _ h9 => h9) rfl dX8_endOf_28 ?_
      refine lv_icmp_ge (tgt := 52) hx hb dX8_endOf_31 (by decide) (fun q2 => ?_) (fun q2 => ?_)
      · have hF := kp hF q2
        refine lv_iload_n hx hb dX8_endOf_52 rfl (lv_at hl 2 rfl) ?_
        obtain rfl := Option.some.inj hF
        exact W.iret hx hb hr (fun t ht hW => ⟨rfl, ht⟩) nofun dX8_endOf_53
      · have hF := kn hF q2
        refine lv_aload_n hx hb dX8_endOf_34 rfl (lv_at hl 0 rfl) ?_
        refine lv_iload_n hx hb dX8_endOf_35 rfl (lv_at hl 2 rfl) ?_
        obtain ⟨r3, er3, hF⟩ := kb hF
        refine kRV (rest := []) C (k_Tape_byteAt l E h_p0 h_p0_bytes c_p0_length c_p0_bytes v3 r3 er3) fn_Tape_byteAt mw_628 ⟨Nat.le_of_ble_eq_true rfl, Nat.le_of_ble_eq_true rfl⟩ hK hT hS (va_recv hK hP (ci := 5) (q0 := 0) rfl rfl) hP [0, 1] rfl rfl rfl hl (Nat.le_of_ble_eq_true rfl) dX8_endOf_36 ?_
        obtain ⟨r4, er4, hF⟩ := kb hF
        refine kRS (rest := []) C (k_Tokens_typeOf l E r3 r4 er4) fn_Tokens_typeOf mw_632 ⟨Nat.le_of_ble_eq_true rfl, Nat.le_of_ble_eq_true rfl⟩ hK hT hS hP [] rfl rfl rfl hl (Nat.le_of_ble_eq_true rfl) dX8_endOf_39 ?_
        refine lv_iload_n hx hb dX8_endOf_42 rfl (lv_at hl 1 rfl) ?_
        refine lv_icmp_ne (tgt := 52) hx hb dX8_endOf_43 (by decide) (fun q5 => ?_) (fun q5 => ?_)
        · have hF := kn hF q5
          refine lv_iload_n hx hb dX8_endOf_52 rfl (lv_at hl 2 rfl) ?_
          obtain rfl := Option.some.inj hF
          exact W.iret hx hb hr (fun t ht hW => ⟨rfl, ht⟩) nofun dX8_endOf_53
        · have hF := kp hF q5
          refine lv_iinc (v := (v3 + (1))) (lv' := [(3, .int (v3 + (1))), (0, .ref h_p0), (2, .int a2), (4, .int v4)]) hx hb dX8_endOf_46 hl (k := 2) rfl rfl (by decide) rfl (fun ls hl => ?_)
          refine lv_goto (tgt := 21) hx hb dX8_endOf_49 (by decide) ?_
          exact ih (v3 + (1)) v4 hF _ (lv_sub hl [1, 2, 0, 3] rfl)
set_option maxHeartbeats 4000000 in
set_option maxRecDepth 100000 in
theorem wk_Tokens_endOf_b14 {p : Program} {l : Launch} {e : Env} {s : State} {m : MethodId} {args : Array Value} {below : List Frame} {meth : Method} {c : Code} (E : kE) (h_p0 : Nat) (h_p0_bytes : Nat)  (c_p0_length : Int32) (c_p0_bytes : (Nat → Int32)) (a1 : Int32) (a2 : Int32) {out : Int32} (C : kC RX8 cX8_endOf 5 (some .int) p s m args meth c) (hP : va_P (eD E) vwCl (w_Tokens_endOf E h_p0 h_p0_bytes c_p0_length c_p0_bytes) s.heap) (hK : va_K (eD E) vwCl (eT E) s) (hT : sT E (fun _ => False) s s.heap)  :
    ∀ (v3 : Int32), f_Tokens_endOf_b14  c_p0_length c_p0_bytes a1 a2 v3 = some out → ∀ (ls : Array Slot), lv_has ls 5 [(0, .ref h_p0), (2, .int a2), (3, .int v3)] → W p l e (rm 2) s m args below meth c s.heap [] 0 0 (MQ below (qR (.int out)) args s 0 0 (fun _ => False)) (F0 m 14 ls []) := by
  obtain ⟨hx, hb, hr, hml, hown, hw, hlocks⟩ := id C
  have hS : va_S (fun _ => False) s.heap s.heap [] := va_S.rf
  intro v3 hF ls hl
  rw [f_Tokens_endOf_b14] at hF
  refine lv_iconst (v := (1 : Int32)) hx hb dX8_endOf_14 (by decide) ?_
  refine lv_goto (tgt := 19) hx hb dX8_endOf_15 (by decide) ?_
  refine lv_istore (lv' := [(4, .int (1 : Int32)), (0, .ref h_p0), (2, .int a2), (3, .int v3)]) hx hb dX8_endOf_19 hl (by decide) rfl (fun ls hl => ?_)
  exact wk_Tokens_endOf_b21 E h_p0 h_p0_bytes c_p0_length c_p0_bytes a1 a2 C hP  hK hT  5000 v3 (1 : Int32) hF _ (lv_sub hl [1, 2, 3, 0] rfl)
set_option maxHeartbeats 4000000 in
set_option maxRecDepth 100000 in
theorem k_Tokens_endOf (l : Launch) (E : kE) (h_p0 : Nat) (h_p0_bytes : Nat)  (c_p0_length : Int32) (c_p0_bytes : (Nat → Int32)) (a1 : Int32) (a2 : Int32) (out : Int32) (hF : f_Tokens_endOf c_p0_length c_p0_bytes a1 a2 = some out) : Met l yX8_endOf (Cond.code yX8_endOf cX8_endOf 5 (some .int) :: wG) (rm 2) (pR E (w_Tokens_endOf E h_p0 h_p0_bytes c_p0_length c_p0_bytes) [.ref h_p0, .int a1, .int a2]) (qR (.int out)) 0 0 (fun _ => False) := by
  refine met_R (by decide) (Nat.le_of_ble_eq_true rfl) ?_
  intro p e s m args below meth c ls C hP hK hT hl
  obtain ⟨hx, hb, hr, hml, hown, hw, hlocks⟩ := id C
  have hS : va_S (fun _ => False) s.heap s.heap [] := va_S.rf
  have hl : lv_has ls 5 [(0, .ref h_p0), (1, .int a1), (2, .int a2)] := hl
  rw [f_Tokens_endOf] at hF
  refine lv_iload_n hx hb dX8_endOf_0 rfl (lv_at hl 1 rfl) ?_
  refine lv_iconst (v := (1 : Int32)) hx hb dX8_endOf_1 (by decide) ?_
  refine lv_iadd hx hb dX8_endOf_2 ?_
  refine lv_istore_n (lv' := [(3, .int (a1 + (1 : Int32))), (0, .ref h_p0), (1, .int a1), (2, .int a2)]) hx hb dX8_endOf_3 rfl hl (by decide) rfl (fun ls hl => ?_)
  refine lv_iload_n hx hb dX8_endOf_4 rfl (lv_at hl 3 rfl) ?_
  refine lv_iconst (v := (1 : Int32)) hx hb dX8_endOf_5 (by decide) ?_
  refine lv_icmp_eq (tgt := 14) hx hb dX8_endOf_6 (by decide) (fun q6 => ?_) (fun q6 => ?_)
  · have hF := kp hF q6
    exact wk_Tokens_endOf_b14 E h_p0 h_p0_bytes c_p0_length c_p0_bytes a1 a2 C hP  hK hT  (a1 + (1 : Int32)) hF _ (lv_sub hl [1, 3, 0] rfl)
  · have hF := kn hF q6
    refine lv_iload_n hx hb dX8_endOf_9 rfl (lv_at hl 3 rfl) ?_
    refine lv_iconst (v := (2 : Int32)) hx hb dX8_endOf_10 (by decide) ?_
    refine lv_icmp_ne (tgt := 18) hx hb dX8_endOf_11 (by decide) (fun q7 => ?_) (fun q7 => ?_)
    · have hF := kn hF q7
      refine lv_iconst (v := (0 : Int32)) hx hb dX8_endOf_18 (by decide) ?_
      refine lv_istore (lv' := [(4, .int (0 : Int32)), (3, .int (a1 + (1 : Int32))), (0, .ref h_p0), (1, .int a1), (2, .int a2)]) hx hb dX8_endOf_19 hl (by decide) rfl (fun ls hl => ?_)
      exact wk_Tokens_endOf_b21 E h_p0 h_p0_bytes c_p0_length c_p0_bytes a1 a2 C hP  hK hT  5000 (a1 + (1 : Int32)) (0 : Int32) hF _ (lv_sub hl [2, 4, 1, 0] rfl)
    · have hF := kp hF q7
      exact wk_Tokens_endOf_b14 E h_p0 h_p0_bytes c_p0_length c_p0_bytes a1 a2 C hP  hK hT  (a1 + (1 : Int32)) hF _ (lv_sub hl [1, 3, 0] rfl)
abbrev w_Tokens_numberIn (E : kE) (h_p0 : Nat) (h_p0_bytes : Nat)  (c_p0_length : Int32) (c_p0_bytes : (Nat → Int32)) : va_W := [(h_p0, .inr (5, [.ref h_p0_bytes, .int c_p0_length])), (h_p0_bytes, .inl (eB E, 120, .inl c_p0_bytes))]
set_option maxHeartbeats 4000000 in
set_option maxRecDepth 100000 in
theorem wk_Tokens_numberIn_b5 {p : Program} {l : Launch} {e : Env} {s : State} {m : MethodId} {args : Array Value} {below : List Frame} {meth : Method} {c : Code} (E : kE) (h_p0 : Nat) (h_p0_bytes : Nat)  (c_p0_length : Int32) (c_p0_bytes : (Nat → Int32)) (a1 : Int32) (a2 : Int32) {out : Int32} (C : kC RX8 cX8_numberIn 5 (some .int) p s m args meth c) (hP : va_P (eD E) vwCl (w_Tokens_numberIn E h_p0 h_p0_bytes c_p0_length c_p0_bytes) s.heap) (hK : va_K (eD E) vwCl (eT E) s) (hT : sT E (fun _ => False) s s.heap)  :
    ∀ (n : Nat), ∀ (v3 : Int32) (v4 : Int32), f_Tokens_numberIn_b5  c_p0_length c_p0_bytes a1 a2 n v3 v4 = some out → ∀ (ls : Array Slot), lv_has ls 5 [(0, .ref h_p0), (2, .int a2), (3, .int v3), (4, .int v4)] → W p l e (rm 2) s m args below meth c s.heap [] 0 0 (MQ below (qR (.int out)) args s 0 0 (fun _ => False)) (F0 m 5 ls []) := by
  obtain ⟨hx, hb, hr, hml, hown, hw, hlocks⟩ := id C
  have hS : va_S (fun _ => False) s.heap s.heap [] := va_S.rf
  intro n
  induction n with
  | zero =>
    intro v3 v4 hF
    exact absurd (show (none : Option (Int32)) = some out from hF) nofun
  | succ n ih =>
    intro v3 v4 hF ls hl
    rw [f_Tokens_numberIn_b5] at hF
    refine lv_iload hx hb dX8_numberIn_5 (lv_at hl 3 rfl) ?_
    refine lv_iload_n hx hb dX8_numberIn_7 rfl (lv_at hl 1 rfl) ?_
    refine lv_icmp_ge (tgt := 38) hx hb dX8_numberIn_8 (by decide) (fun q1 => ?_) (fun q1 => ?_)
    · have hF := kp hF q1
      refine lv_iload_n hx hb dX8_numberIn_38 rfl (lv_at hl 2 rfl) ?_
      obtain rfl := Option.some.inj hF
      exact W.iret hx hb hr (fun t ht hW => ⟨rfl, ht⟩) nofun dX8_numberIn_39
    · have hF := kn hF q1
      refine lv_sipush (v := (4096 : Int32)) hx hb dX8_numberIn_11 (by decide) ?_
      refine lv_iload_n hx hb dX8_numberIn_14 rfl (lv_at hl 2 rfl) ?_
      refine lv_bipush (v := (10 : Int32)) hx hb dX8_numberIn_15 (by decide) ?_
      refine lv_imul hx hb dX8_numberIn_17 ?_
      refine lv_aload_n hx hb dX8_numberIn_18 rfl (lv_at hl 0 rfl) ?_
      refine lv_iload hx hb dX8_numberIn_19 (lv_at hl 3 rfl) ?_
      obtain ⟨r2, er2, hF⟩ := kb hF
      refine kRV (rest := [.int (v3 * (10 : Int32)), .int (4096 : Int32)]) C (k_Tape_byteAt l E h_p0 h_p0_bytes c_p0_length c_p0_bytes v4 r2 er2) fn_Tape_byteAt mw_628 ⟨Nat.le_of_ble_eq_true rfl, Nat.le_of_ble_eq_true rfl⟩ hK hT hS (va_recv hK hP (ci := 5) (q0 := 0) rfl rfl) hP [0, 1] rfl rfl rfl hl (Nat.le_of_ble_eq_true rfl) dX8_numberIn_21 ?_
      refine lv_iadd hx hb dX8_numberIn_24 ?_
      refine lv_bipush (v := (48 : Int32)) hx hb dX8_numberIn_25 (by decide) ?_
      refine lv_isub hx hb dX8_numberIn_27 ?_
      refine va_mmin hx hb (hml.trans hl.1.symm) hown (hw _ mw_710) (hw _ mw_711) (hw _ mw_49) (hw _ mw_712) (Nat.le_of_ble_eq_true rfl) (Nat.le_of_ble_eq_true rfl) (Nat.zero_le _) (Nat.zero_le _) dX8_numberIn_28 ?_
      refine lv_topi (fun x3 ex3 => ?_)
      have hF := kl_at hF ex3
      refine lv_istore_n (lv' := [(3, .int x3), (0, .ref h_p0), (2, .int a2), (4, .int v4)]) hx hb dX8_numberIn_31 rfl hl (by decide) rfl (fun ls hl => ?_)
      refine lv_iinc (v := (v4 + (1))) (lv' := [(4, .int (v4 + (1))), (3, .int x3), (0, .ref h_p0), (2, .int a2)]) hx hb dX8_numberIn_32 hl (k := 3) rfl rfl (by decide) rfl (fun ls hl => ?_)
      refine lv_goto (tgt := 5) hx hb dX8_numberIn_35 (by decide) ?_
      exact ih x3 (v4 + (1)) hF _ (lv_sub hl [2, 3, 1, 0] rfl)
set_option maxHeartbeats 4000000 in
set_option maxRecDepth 100000 in
theorem k_Tokens_numberIn (l : Launch) (E : kE) (h_p0 : Nat) (h_p0_bytes : Nat)  (c_p0_length : Int32) (c_p0_bytes : (Nat → Int32)) (a1 : Int32) (a2 : Int32) (out : Int32) (hF : f_Tokens_numberIn c_p0_length c_p0_bytes a1 a2 = some out) : Met l yX8_numberIn (Cond.code yX8_numberIn cX8_numberIn 5 (some .int) :: wG) (rm 2) (pR E (w_Tokens_numberIn E h_p0 h_p0_bytes c_p0_length c_p0_bytes) [.ref h_p0, .int a1, .int a2]) (qR (.int out)) 0 0 (fun _ => False) := by
  refine met_R (by decide) (Nat.le_of_ble_eq_true rfl) ?_
  intro p e s m args below meth c ls C hP hK hT hl
  obtain ⟨hx, hb, hr, hml, hown, hw, hlocks⟩ := id C
  have hS : va_S (fun _ => False) s.heap s.heap [] := va_S.rf
  have hl : lv_has ls 5 [(0, .ref h_p0), (1, .int a1), (2, .int a2)] := hl
  rw [f_Tokens_numberIn] at hF
  refine lv_iconst (v := (0 : Int32)) hx hb dX8_numberIn_0 (by decide) ?_
  refine lv_istore_n (lv' := [(3, .int (0 : Int32)), (0, .ref h_p0), (1, .int a1), (2, .int a2)]) hx hb dX8_numberIn_1 rfl hl (by decide) rfl (fun ls hl => ?_)
  refine lv_iload_n hx hb dX8_numberIn_2 rfl (lv_at hl 2 rfl) ?_
  refine lv_istore (lv' := [(4, .int a1), (3, .int (0 : Int32)), (0, .ref h_p0), (1, .int a1), (2, .int a2)]) hx hb dX8_numberIn_3 hl (by decide) rfl (fun ls hl => ?_)
  exact wk_Tokens_numberIn_b5 E h_p0 h_p0_bytes c_p0_length c_p0_bytes a1 a2 C hP  hK hT  5000 (0 : Int32) a1 hF _ (lv_sub hl [2, 4, 1, 0] rfl)
abbrev w_Tokens_isSpelt (E : kE) (h_p0 : Nat) (h_p0_bytes : Nat)  (c_p0_length : Int32) (c_p0_bytes : (Nat → Int32)) : va_W := [(h_p0, .inr (5, [.ref h_p0_bytes, .int c_p0_length])), (h_p0_bytes, .inl (eB E, 120, .inl c_p0_bytes))]
set_option maxHeartbeats 4000000 in
set_option maxRecDepth 100000 in
theorem wk_Tokens_isSpelt_b15 {p : Program} {l : Launch} {e : Env} {s : State} {m : MethodId} {args : Array Value} {below : List Frame} {meth : Method} {c : Code} (E : kE) (h_p0 : Nat) (h_p0_bytes : Nat)  (c_p0_length : Int32) (c_p0_bytes : (Nat → Int32)) (a1 : Int32) (a2 : Int32) (a3 : Nat) {out : Int32} (C : kC RX8 cX8_isSpelt 5 (some .boolean) p s m args meth c) (hP : va_P (eD E) vwCl (w_Tokens_isSpelt E h_p0 h_p0_bytes c_p0_length c_p0_bytes) s.heap) (hK : va_K (eD E) vwCl (eT E) s) (hT : sT E (fun _ => False) s s.heap)  :
    ∀ (n : Nat), ∀ (v4 : Int32), f_Tokens_isSpelt_b15  c_p0_length c_p0_bytes a1 a2 a3 n v4 = some out → ∀ (ls : Array Slot), lv_has ls 5 [(0, .ref h_p0), (1, .int a1), (3, .ref (eK E a3)), (4, .int v4)] → W p l e (rm 6) s m args below meth c s.heap [] 0 0 (MQ below (qR (.int out)) args s 0 0 (fun _ => False)) (F0 m 15 ls []) := by
  obtain ⟨hx, hb, hr, hml, hown, hw, hlocks⟩ := id C
  have hS : va_S (fun _ => False) s.heap s.heap [] := va_S.rf
  intro n
  induction n with
  | zero =>
    intro v4 hF
    exact absurd (show (none : Option (Int32)) = some out from hF) nofun
  | succ n ih =>
    intro v4 hF ls hl
    rw [f_Tokens_isSpelt_b15] at hF
    refine lv_iload hx hb dX8_isSpelt_15 (lv_at hl 3 rfl) ?_
    refine lv_aload_n hx hb dX8_isSpelt_17 rfl (lv_at hl 2 rfl) ?_
    obtain ⟨r1, er1, hF⟩ := kb hF
    refine kRV (rest := [.int v4]) C (k_Str_length l E a3 r1 er1) fn_Str_length mw_659 ⟨Nat.le_of_ble_eq_true rfl, Nat.le_of_ble_eq_true rfl⟩ hK hT hS (s_recvL hT hS er1) hP [] rfl rfl rfl hl (Nat.le_of_ble_eq_true rfl) dX8_isSpelt_18 ?_
    refine lv_icmp_ge (tgt := 49) hx hb dX8_isSpelt_21 (by decide) (fun q2 => ?_) (fun q2 => ?_)
    · have hF := kp hF q2
      refine lv_iconst (v := (1 : Int32)) hx hb dX8_isSpelt_49 (by decide) ?_
      obtain rfl := Option.some.inj hF
      exact W.zret (ty := .boolean) hx hb hr rfl (fun t ht hW => ⟨rfl, ht⟩) nofun dX8_isSpelt_50
    · have hF := kn hF q2
      refine lv_aload_n hx hb dX8_isSpelt_24 rfl (lv_at hl 0 rfl) ?_
      refine lv_iload_n hx hb dX8_isSpelt_25 rfl (lv_at hl 1 rfl) ?_
      refine lv_iload hx hb dX8_isSpelt_26 (lv_at hl 3 rfl) ?_
      refine lv_iadd hx hb dX8_isSpelt_28 ?_
      obtain ⟨r3, er3, hF⟩ := kb hF
      refine kRV (rest := []) C (k_Tape_byteAt l E h_p0 h_p0_bytes c_p0_length c_p0_bytes (a1 + v4) r3 er3) fn_Tape_byteAt mw_628 ⟨Nat.le_of_ble_eq_true rfl, Nat.le_of_ble_eq_true rfl⟩ hK hT hS (va_recv hK hP (ci := 5) (q0 := 0) rfl rfl) hP [0, 1] rfl rfl rfl hl (Nat.le_of_ble_eq_true rfl) dX8_isSpelt_29 ?_
      refine lv_aload_n hx hb dX8_isSpelt_32 rfl (lv_at hl 2 rfl) ?_
      refine lv_iload hx hb dX8_isSpelt_33 (lv_at hl 3 rfl) ?_
      obtain ⟨r4, er4, hF⟩ := kb hF
      refine kRV (rest := [.int r3]) C (k_Str_charAt l E a3 v4 r4 er4) fn_Str_charAt mw_669 ⟨Nat.le_of_ble_eq_true rfl, Nat.le_of_ble_eq_true rfl⟩ hK hT hS (s_recv hT hS er4) hP [] rfl rfl rfl hl (Nat.le_of_ble_eq_true rfl) dX8_isSpelt_35 ?_
      refine lv_icmp_eq (tgt := 43) hx hb dX8_isSpelt_38 (by decide) (fun q5 => ?_) (fun q5 => ?_)
      · have hF := kp hF q5
        refine lv_iinc (v := (v4 + (1))) (lv' := [(4, .int (v4 + (1))), (0, .ref h_p0), (1, .int a1), (3, .ref (eK E a3))]) hx hb dX8_isSpelt_43 hl (k := 3) rfl rfl (by decide) rfl (fun ls hl => ?_)
        refine lv_goto (tgt := 15) hx hb dX8_isSpelt_46 (by decide) ?_
        exact ih (v4 + (1)) hF _ (lv_sub hl [1, 2, 3, 0] rfl)
      · have hF := kn hF q5
        refine lv_iconst (v := (0 : Int32)) hx hb dX8_isSpelt_41 (by decide) ?_
        obtain rfl := Option.some.inj hF
        exact W.zret (ty := .boolean) hx hb hr rfl (fun t ht hW => ⟨rfl, ht⟩) nofun dX8_isSpelt_42
set_option maxHeartbeats 4000000 in
set_option maxRecDepth 100000 in
theorem k_Tokens_isSpelt (l : Launch) (E : kE) (h_p0 : Nat) (h_p0_bytes : Nat)  (c_p0_length : Int32) (c_p0_bytes : (Nat → Int32)) (a1 : Int32) (a2 : Int32) (a3 : Nat) (out : Int32) (hF : f_Tokens_isSpelt c_p0_length c_p0_bytes a1 a2 a3 = some out) : Met l yX8_isSpelt (Cond.code yX8_isSpelt cX8_isSpelt 5 (some .boolean) :: wG) (rm 6) (pR E (w_Tokens_isSpelt E h_p0 h_p0_bytes c_p0_length c_p0_bytes) [.ref h_p0, .int a1, .int a2, .ref (eK E a3)]) (qR (.int out)) 0 0 (fun _ => False) := by
  refine met_R (by decide) (Nat.le_of_ble_eq_true rfl) ?_
  intro p e s m args below meth c ls C hP hK hT hl
  obtain ⟨hx, hb, hr, hml, hown, hw, hlocks⟩ := id C
  have hS : va_S (fun _ => False) s.heap s.heap [] := va_S.rf
  have hl : lv_has ls 5 [(0, .ref h_p0), (1, .int a1), (2, .int a2), (3, .ref (eK E a3))] := hl
  rw [f_Tokens_isSpelt] at hF
  refine lv_iload_n hx hb dX8_isSpelt_0 rfl (lv_at hl 2 rfl) ?_
  refine lv_iload_n hx hb dX8_isSpelt_1 rfl (lv_at hl 1 rfl) ?_
  refine lv_isub hx hb dX8_isSpelt_2 ?_
  refine lv_aload_n hx hb dX8_isSpelt_3 rfl (lv_at hl 3 rfl) ?_
  obtain ⟨r6, er6, hF⟩ := kb hF
  refine kRV (rest := [.int (a2 - a1)]) C (k_Str_length l E a3 r6 er6) fn_Str_length mw_659 ⟨Nat.le_of_ble_eq_true rfl, Nat.le_of_ble_eq_true rfl⟩ hK hT hS (s_recvL hT hS er6) hP [] rfl rfl rfl hl (Nat.le_of_ble_eq_true rfl) dX8_isSpelt_4 ?_
  refine lv_icmp_eq (tgt := 12) hx hb dX8_isSpelt_7 (by decide) (fun q7 => ?_) (fun q7 => ?_)
  · have hF := kp hF q7
    refine lv_iconst (v := (0 : Int32)) hx hb dX8_isSpelt_12 (by decide) ?_
    refine lv_istore (lv' := [(4, .int (0 : Int32)), (0, .ref h_p0), (1, .int a1), (2, .int a2), (3, .ref (eK E a3))]) hx hb dX8_isSpelt_13 hl (by decide) rfl (fun ls hl => ?_)
    exact wk_Tokens_isSpelt_b15 E h_p0 h_p0_bytes c_p0_length c_p0_bytes a1 a2 a3 C hP  hK hT  5000 (0 : Int32) hF _ (lv_sub hl [1, 2, 4, 0] rfl)
  · have hF := kn hF q7
    refine lv_iconst (v := (0 : Int32)) hx hb dX8_isSpelt_10 (by decide) ?_
    obtain rfl := Option.some.inj hF
    exact W.zret (ty := .boolean) hx hb hr rfl (fun t ht hW => ⟨rfl, ht⟩) nofun dX8_isSpelt_11
abbrev w_Tokens_spellingOf (E : kE)    : va_W := []
set_option maxHeartbeats 4000000 in
set_option maxRecDepth 100000 in
theorem k_Tokens_spellingOf (l : Launch) (E : kE)    (a0 : Int32) (out : Nat) (hF : f_Tokens_spellingOf  a0 = some out) : Met l yX8_spellingOf (Cond.code yX8_spellingOf cX8_spellingOf 1 (some (.object "java/lang/String")) :: wG) (rm 1) (pR E (w_Tokens_spellingOf E ) [.int a0]) (qR (.ref (eK E out))) 0 0 (fun _ => False) := by
  refine met_R (by decide) (Nat.le_of_ble_eq_true rfl) ?_
  intro p e s m args below meth c ls C hP hK hT hl
  obtain ⟨hx, hb, hr, hml, hown, hw, hlocks⟩ := id C
  have hS : va_S (fun _ => False) s.heap s.heap [] := va_S.rf
  have hl : lv_has ls 1 [(0, .int a0)] := hl
  rw [f_Tokens_spellingOf] at hF
  refine lv_iload_n hx hb dX8_spellingOf_0 rfl (lv_at hl 0 rfl) ?_
  by_cases q1_0 : a0 = (0 : Int32)
  · have hF := kp hF q1_0
    refine lv_tableIn (tgt := 60) (off := 59) hx hb dX8_spellingOf_1 (sw_in (lo := 0) (hi := 10) q1_0 (by decide)).1 (sw_in (lo := 0) (hi := 10) q1_0 (by decide)).2 (sw_at q1_0 rfl) (by decide) ?_
    refine va_ldcS (own := RX8) hx hb hown (sR_0 hT) dX8_spellingOf_60 ?_
    obtain rfl := Option.some.inj hF
    exact W.aret hx hb hr (Or.inl ⟨_, rfl⟩) (Or.inr ⟨_, rfl⟩) (fun t ht hW => ⟨rfl, ht⟩) nofun dX8_spellingOf_62
  have hF := kn hF q1_0
  by_cases q1_1 : a0 = (1 : Int32)
  · have hF := kp hF q1_1
    refine lv_tableIn (tgt := 63) (off := 62) hx hb dX8_spellingOf_1 (sw_in (lo := 0) (hi := 10) q1_1 (by decide)).1 (sw_in (lo := 0) (hi := 10) q1_1 (by decide)).2 (sw_at q1_1 rfl) (by decide) ?_
    refine va_ldcS (own := RX8) hx hb hown (sR_1 hT) dX8_spellingOf_63 ?_
    obtain rfl := Option.some.inj hF
    exact W.aret hx hb hr (Or.inl ⟨_, rfl⟩) (Or.inr ⟨_, rfl⟩) (fun t ht hW => ⟨rfl, ht⟩) nofun dX8_spellingOf_65
  have hF := kn hF q1_1
  by_cases q1_2 : a0 = (2 : Int32)
  · have hF := kp hF q1_2
    refine lv_tableIn (tgt := 66) (off := 65) hx hb dX8_spellingOf_1 (sw_in (lo := 0) (hi := 10) q1_2 (by decide)).1 (sw_in (lo := 0) (hi := 10) q1_2 (by decide)).2 (sw_at q1_2 rfl) (by decide) ?_
    refine va_ldcS (own := RX8) hx hb hown (sR_2 hT) dX8_spellingOf_66 ?_
    obtain rfl := Option.some.inj hF
    exact W.aret hx hb hr (Or.inl ⟨_, rfl⟩) (Or.inr ⟨_, rfl⟩) (fun t ht hW => ⟨rfl, ht⟩) nofun dX8_spellingOf_68
  have hF := kn hF q1_2
  by_cases q1_3 : a0 = (3 : Int32)
  · have hF := kp hF q1_3
    refine lv_tableIn (tgt := 69) (off := 68) hx hb dX8_spellingOf_1 (sw_in (lo := 0) (hi := 10) q1_3 (by decide)).1 (sw_in (lo := 0) (hi := 10) q1_3 (by decide)).2 (sw_at q1_3 rfl) (by decide) ?_
    refine va_ldcS (own := RX8) hx hb hown (sR_3 hT) dX8_spellingOf_69 ?_
    obtain rfl := Option.some.inj hF
    exact W.aret hx hb hr (Or.inl ⟨_, rfl⟩) (Or.inr ⟨_, rfl⟩) (fun t ht hW => ⟨rfl, ht⟩) nofun dX8_spellingOf_71
  have hF := kn hF q1_3
  by_cases q1_4 : a0 = (4 : Int32)
  · have hF := kp hF q1_4
    refine lv_tableIn (tgt := 72) (off := 71) hx hb dX8_spellingOf_1 (sw_in (lo := 0) (hi := 10) q1_4 (by decide)).1 (sw_in (lo := 0) (hi := 10) q1_4 (by decide)).2 (sw_at q1_4 rfl) (by decide) ?_
    refine va_ldcS (own := RX8) hx hb hown (sR_4 hT) dX8_spellingOf_72 ?_
    obtain rfl := Option.some.inj hF
    exact W.aret hx hb hr (Or.inl ⟨_, rfl⟩) (Or.inr ⟨_, rfl⟩) (fun t ht hW => ⟨rfl, ht⟩) nofun dX8_spellingOf_74
  have hF := kn hF q1_4
  by_cases q1_5 : a0 = (5 : Int32)
  · have hF := kp hF q1_5
    refine lv_tableIn (tgt := 75) (off := 74) hx hb dX8_spellingOf_1 (sw_in (lo := 0) (hi := 10) q1_5 (by decide)).1 (sw_in (lo := 0) (hi := 10) q1_5 (by decide)).2 (sw_at q1_5 rfl) (by decide) ?_
    refine va_ldcS (own := RX8) hx hb hown (sR_5 hT) dX8_spellingOf_75 ?_
    obtain rfl := Option.some.inj hF
    exact W.aret hx hb hr (Or.inl ⟨_, rfl⟩) (Or.inr ⟨_, rfl⟩) (fun t ht hW => ⟨rfl, ht⟩) nofun dX8_spellingOf_77
  have hF := kn hF q1_5
  by_cases q1_6 : a0 = (6 : Int32)
  · have hF := kp hF q1_6
    refine lv_tableIn (tgt := 78) (off := 77) hx hb dX8_spellingOf_1 (sw_in (lo := 0) (hi := 10) q1_6 (by decide)).1 (sw_in (lo := 0) (hi := 10) q1_6 (by decide)).2 (sw_at q1_6 rfl) (by decide) ?_
    refine va_ldcS (own := RX8) hx hb hown (sR_6 hT) dX8_spellingOf_78 ?_
    obtain rfl := Option.some.inj hF
    exact W.aret hx hb hr (Or.inl ⟨_, rfl⟩) (Or.inr ⟨_, rfl⟩) (fun t ht hW => ⟨rfl, ht⟩) nofun dX8_spellingOf_80
  have hF := kn hF q1_6
  by_cases q1_7 : a0 = (7 : Int32)
  · have hF := kp hF q1_7
    refine lv_tableIn (tgt := 81) (off := 80) hx hb dX8_spellingOf_1 (sw_in (lo := 0) (hi := 10) q1_7 (by decide)).1 (sw_in (lo := 0) (hi := 10) q1_7 (by decide)).2 (sw_at q1_7 rfl) (by decide) ?_
    refine va_ldcS (own := RX8) hx hb hown (sR_7 hT) dX8_spellingOf_81 ?_
    obtain rfl := Option.some.inj hF
    exact W.aret hx hb hr (Or.inl ⟨_, rfl⟩) (Or.inr ⟨_, rfl⟩) (fun t ht hW => ⟨rfl, ht⟩) nofun dX8_spellingOf_83
  have hF := kn hF q1_7
  by_cases q1_8 : a0 = (8 : Int32)
  · have hF := kp hF q1_8
    refine lv_tableIn (tgt := 84) (off := 83) hx hb dX8_spellingOf_1 (sw_in (lo := 0) (hi := 10) q1_8 (by decide)).1 (sw_in (lo := 0) (hi := 10) q1_8 (by decide)).2 (sw_at q1_8 rfl) (by decide) ?_
    refine va_ldcS (own := RX8) hx hb hown (sR_8 hT) dX8_spellingOf_84 ?_
    obtain rfl := Option.some.inj hF
    exact W.aret hx hb hr (Or.inl ⟨_, rfl⟩) (Or.inr ⟨_, rfl⟩) (fun t ht hW => ⟨rfl, ht⟩) nofun dX8_spellingOf_86
  have hF := kn hF q1_8
  by_cases q1_9 : a0 = (9 : Int32)
  · have hF := kp hF q1_9
    refine lv_tableIn (tgt := 87) (off := 86) hx hb dX8_spellingOf_1 (sw_in (lo := 0) (hi := 10) q1_9 (by decide)).1 (sw_in (lo := 0) (hi := 10) q1_9 (by decide)).2 (sw_at q1_9 rfl) (by decide) ?_
    refine va_ldcS (own := RX8) hx hb hown (sR_9 hT) dX8_spellingOf_87 ?_
    obtain rfl := Option.some.inj hF
    exact W.aret hx hb hr (Or.inl ⟨_, rfl⟩) (Or.inr ⟨_, rfl⟩) (fun t ht hW => ⟨rfl, ht⟩) nofun dX8_spellingOf_89
  have hF := kn hF q1_9
  by_cases q1_10 : a0 = (10 : Int32)
  · have hF := kp hF q1_10
    refine lv_tableIn (tgt := 90) (off := 89) hx hb dX8_spellingOf_1 (sw_in (lo := 0) (hi := 10) q1_10 (by decide)).1 (sw_in (lo := 0) (hi := 10) q1_10 (by decide)).2 (sw_at q1_10 rfl) (by decide) ?_
    refine va_ldcS (own := RX8) hx hb hown (sR_10 hT) dX8_spellingOf_90 ?_
    obtain rfl := Option.some.inj hF
    exact W.aret hx hb hr (Or.inl ⟨_, rfl⟩) (Or.inr ⟨_, rfl⟩) (fun t ht hW => ⟨rfl, ht⟩) nofun dX8_spellingOf_92
  have hF := kn hF q1_10
  refine lv_tableOut (tgt := 93) hx hb dX8_spellingOf_1 (by have z0 := lv_neT q1_0 (a := 0) (by decide); have z1 := lv_neT q1_1 (a := 1) (by decide); have z2 := lv_neT q1_2 (a := 2) (by decide); have z3 := lv_neT q1_3 (a := 3) (by decide); have z4 := lv_neT q1_4 (a := 4) (by decide); have z5 := lv_neT q1_5 (a := 5) (by decide); have z6 := lv_neT q1_6 (a := 6) (by decide); have z7 := lv_neT q1_7 (a := 7) (by decide); have z8 := lv_neT q1_8 (a := 8) (by decide); have z9 := lv_neT q1_9 (a := 9) (by decide); have z10 := lv_neT q1_10 (a := 10) (by decide); omega) (by decide) ?_
  refine va_ldcS (own := RX8) hx hb hown (sR_11 hT) dX8_spellingOf_93 ?_
  obtain rfl := Option.some.inj hF
  exact W.aret hx hb hr (Or.inl ⟨_, rfl⟩) (Or.inr ⟨_, rfl⟩) (fun t ht hW => ⟨rfl, ht⟩) nofun dX8_spellingOf_95
abbrev w_Tokens_wordIn (E : kE) (h_p0 : Nat) (h_p0_bytes : Nat)  (c_p0_length : Int32) (c_p0_bytes : (Nat → Int32)) : va_W := [(h_p0, .inr (5, [.ref h_p0_bytes, .int c_p0_length])), (h_p0_bytes, .inl (eB E, 120, .inl c_p0_bytes))]
set_option maxHeartbeats 4000000 in
set_option maxRecDepth 100000 in
theorem wk_Tokens_wordIn_b2 {p : Program} {l : Launch} {e : Env} {s : State} {m : MethodId} {args : Array Value} {below : List Frame} {meth : Method} {c : Code} (E : kE) (h_p0 : Nat) (h_p0_bytes : Nat)  (c_p0_length : Int32) (c_p0_bytes : (Nat → Int32)) (a1 : Int32) (a2 : Int32) {out : Int32} (C : kC RX8 cX8_wordIn 4 (some .int) p s m args meth c) (hP : va_P (eD E) vwCl (w_Tokens_wordIn E h_p0 h_p0_bytes c_p0_length c_p0_bytes) s.heap) (hK : va_K (eD E) vwCl (eT E) s) (hT : sT E (fun _ => False) s s.heap)  :
    ∀ (n : Nat), ∀ (v3 : Int32), f_Tokens_wordIn_b2  c_p0_length c_p0_bytes a1 a2 n v3 = some out → ∀ (ls : Array Slot), lv_has ls 4 [(0, .ref h_p0), (1, .int a1), (2, .int a2), (3, .int v3)] → W p l e (rm 7) s m args below meth c s.heap [] 0 0 (MQ below (qR (.int out)) args s 0 0 (fun _ => False)) (F0 m 2 ls []) := by
  obtain ⟨hx, hb, hr, hml, hown, hw, hlocks⟩ := id C
  have hS : va_S (fun _ => False) s.heap s.heap [] := va_S.rf
  intro n
  induction n with
  | zero =>
    intro v3 hF
    exact absurd (show (none : Option (Int32)) = some out from hF) nofun
  | succ n ih =>
    intro v3 hF ls hl
    rw [f_Tokens_wordIn_b2] at hF
    refine lv_iload_n hx hb dX8_wordIn_2 rfl (lv_at hl 3 rfl) ?_
    refine lv_bipush (v := (11 : Int32)) hx hb dX8_wordIn_3 (by decide) ?_
    refine lv_icmp_ge (tgt := 29) hx hb dX8_wordIn_5 (by decide) (fun q1 => ?_) (fun q1 => ?_)
    · have hF := kp hF q1
      refine lv_iconst (v := (-1 : Int32)) hx hb dX8_wordIn_29 (by decide) ?_
      obtain rfl := Option.some.inj hF
      exact W.iret hx hb hr (fun t ht hW => ⟨rfl, ht⟩) nofun dX8_wordIn_30
    · have hF := kn hF q1
      refine lv_aload_n hx hb dX8_wordIn_8 rfl (lv_at hl 0 rfl) ?_
      refine lv_iload_n hx hb dX8_wordIn_9 rfl (lv_at hl 1 rfl) ?_
      refine lv_iload_n hx hb dX8_wordIn_10 rfl (lv_at hl 2 rfl) ?_
      refine lv_iload_n hx hb dX8_wordIn_11 rfl (lv_at hl 3 rfl) ?_
      obtain ⟨r2, er2, hF⟩ := kb hF
      refine kRS (rest := [.int a2, .int a1, .ref h_p0]) C (k_Tokens_spellingOf l E v3 r2 er2) fn_Tokens_spellingOf mw_641 ⟨Nat.le_of_ble_eq_true rfl, Nat.le_of_ble_eq_true rfl⟩ hK hT hS hP [] rfl rfl rfl hl (Nat.le_of_ble_eq_true rfl) dX8_wordIn_12 ?_
      obtain ⟨r3, er3, hF⟩ := kb hF
      refine kRS (rest := []) C (k_Tokens_isSpelt l E h_p0 h_p0_bytes c_p0_length c_p0_bytes a1 a2 r2 r3 er3) fn_Tokens_isSpelt mw_656 ⟨Nat.le_of_ble_eq_true rfl, Nat.le_of_ble_eq_true rfl⟩ hK hT hS hP [0, 1] rfl rfl rfl hl (Nat.le_of_ble_eq_true rfl) dX8_wordIn_15 ?_
      refine lv_if_eq (tgt := 23) hx hb dX8_wordIn_18 (by decide) (fun q4 => ?_) (fun q4 => ?_)
      · have hF := kp hF q4
        refine lv_iinc (v := (v3 + (1))) (lv' := [(3, .int (v3 + (1))), (0, .ref h_p0), (1, .int a1), (2, .int a2)]) hx hb dX8_wordIn_23 hl (k := 3) rfl rfl (by decide) rfl (fun ls hl => ?_)
        refine lv_goto (tgt := 2) hx hb dX8_wordIn_26 (by decide) ?_
        exact ih (v3 + (1)) hF _ (lv_sub hl [1, 2, 3, 0] rfl)
      · have hF := kn hF q4
        refine lv_iload_n hx hb dX8_wordIn_21 rfl (lv_at hl 3 rfl) ?_
        obtain rfl := Option.some.inj hF
        exact W.iret hx hb hr (fun t ht hW => ⟨rfl, ht⟩) nofun dX8_wordIn_22
set_option maxHeartbeats 4000000 in
set_option maxRecDepth 100000 in
theorem k_Tokens_wordIn (l : Launch) (E : kE) (h_p0 : Nat) (h_p0_bytes : Nat)  (c_p0_length : Int32) (c_p0_bytes : (Nat → Int32)) (a1 : Int32) (a2 : Int32) (out : Int32) (hF : f_Tokens_wordIn c_p0_length c_p0_bytes a1 a2 = some out) : Met l yX8_wordIn (Cond.code yX8_wordIn cX8_wordIn 4 (some .int) :: wG) (rm 7) (pR E (w_Tokens_wordIn E h_p0 h_p0_bytes c_p0_length c_p0_bytes) [.ref h_p0, .int a1, .int a2]) (qR (.int out)) 0 0 (fun _ => False) := by
  refine met_R (by decide) (Nat.le_of_ble_eq_true rfl) ?_
  intro p e s m args below meth c ls C hP hK hT hl
  obtain ⟨hx, hb, hr, hml, hown, hw, hlocks⟩ := id C
  have hS : va_S (fun _ => False) s.heap s.heap [] := va_S.rf
  have hl : lv_has ls 4 [(0, .ref h_p0), (1, .int a1), (2, .int a2)] := hl
  rw [f_Tokens_wordIn] at hF
  refine lv_iconst (v := (0 : Int32)) hx hb dX8_wordIn_0 (by decide) ?_
  refine lv_istore_n (lv' := [(3, .int (0 : Int32)), (0, .ref h_p0), (1, .int a1), (2, .int a2)]) hx hb dX8_wordIn_1 rfl hl (by decide) rfl (fun ls hl => ?_)
  exact wk_Tokens_wordIn_b2 E h_p0 h_p0_bytes c_p0_length c_p0_bytes a1 a2 C hP  hK hT  5000 (0 : Int32) hF _ (lv_sub hl [1, 2, 3, 0] rfl)
abbrev w_Tokens_cut (E : kE) (h_t : Nat) (h_t_starts : Nat) (h_t_types : Nat) (h_t_values : Nat) (h_p1 : Nat) (h_p1_bytes : Nat)  (c_t_size : Int32) (c_t_length : Int32) (c_t_starts : (Nat → Int32)) (c_t_types : (Nat → Int32)) (c_t_values : (Nat → Int32)) (c_p1_length : Int32) (c_p1_bytes : (Nat → Int32)) : va_W := [(h_t, .inr (6, [.ref h_t_types, .ref h_t_starts, .ref h_t_values, .int c_t_size, .int c_t_length])), (h_t_starts, .inl (eI E, 120, .inl c_t_starts)), (h_t_types, .inl (eI E, 120, .inl c_t_types)), (h_t_values, .inl (eI E, 120, .inl c_t_values)), (h_p1, .inr (5, [.ref h_p1_bytes, .int c_p1_length])), (h_p1_bytes, .inl (eB E, 120, .inl c_p1_bytes))]
set_option maxHeartbeats 4000000 in
set_option maxRecDepth 100000 in
theorem wk_Tokens_cut_b118 {p : Program} {l : Launch} {e : Env} {s : State} {m : MethodId} {args : Array Value} {below : List Frame} {meth : Method} {c : Code} {A : Nat → Prop} (E : kE) (h_t : Nat) (h_t_starts : Nat) (h_t_types : Nat) (h_t_values : Nat) (h_p1 : Nat) (h_p1_bytes : Nat)  (c_p1_length : Int32) (c_p1_bytes : (Nat → Int32))  {out : Int32 × Int32 × (Nat → Int32) × (Nat → Int32) × (Nat → Int32)} (C : kC RX8 cX8_cut 6 none p s m args meth c) (hA : ∀ q : Nat, s.heap.size ≤ q → A q) (hK : va_K (eD E) vwCl (eT E) s) (hT : sT E A s s.heap) (k17 : Int32 → Int32 → (Nat → Int32) → (Nat → Int32) → (Nat → Int32) → Int32 → Int32 → Option (Int32 × Int32 × (Nat → Int32) × (Nat → Int32) × (Nat → Int32))) (hk17 : ∀ (c_t_size : Int32) (c_t_length : Int32) (c_t_starts : (Nat → Int32)) (c_t_types : (Nat → Int32)) (c_t_values : (Nat → Int32)) (v2 : Int32) (v3 : Int32), k17 c_t_size c_t_length c_t_starts c_t_types c_t_values v2 v3 = some out → ∀ (H : Heap) (locs : List Loc), va_P (eD E) vwCl (w_Tokens_cut E h_t h_t_starts h_t_types h_t_values h_p1 h_p1_bytes c_t_size c_t_length c_t_starts c_t_types c_t_values c_p1_length c_p1_bytes) H → va_D A (w_Tokens_cut E h_t h_t_starts h_t_types h_t_values h_p1 h_p1_bytes c_t_size c_t_length c_t_starts c_t_types c_t_values c_p1_length c_p1_bytes) → va_S A s.heap H locs → ∀ (ls : Array Slot), lv_has ls 6 [(0, .ref h_t), (1, .ref h_p1), (2, .int v2), (3, .int v3)] → W p l e (rm 8) s m args below meth c H locs 0 0 (MQ below (qW none E (w_Tokens_cut E h_t h_t_starts h_t_types h_t_values h_p1 h_p1_bytes out.1 out.2.1 out.2.2.1 out.2.2.2.1 out.2.2.2.2 c_p1_length c_p1_bytes) A) args s 0 0 A) (F0 m 17 ls [])) :
    ∀ (c_t_size : Int32) (c_t_length : Int32) (c_t_starts : (Nat → Int32)) (c_t_types : (Nat → Int32)) (c_t_values : (Nat → Int32)) (v3 : Int32) (v5 : Int32), f_Tokens_cut_b118 k17 c_p1_length c_p1_bytes c_t_size c_t_length c_t_starts c_t_types c_t_values v3 v5 = some out → ∀ (H : Heap) (locs : List Loc), va_P (eD E) vwCl (w_Tokens_cut E h_t h_t_starts h_t_types h_t_values h_p1 h_p1_bytes c_t_size c_t_length c_t_starts c_t_types c_t_values c_p1_length c_p1_bytes) H → va_D A (w_Tokens_cut E h_t h_t_starts h_t_types h_t_values h_p1 h_p1_bytes c_t_size c_t_length c_t_starts c_t_types c_t_values c_p1_length c_p1_bytes) → va_S A s.heap H locs → ∀ (ls : Array Slot), lv_has ls 6 [(0, .ref h_t), (1, .ref h_p1), (3, .int v3), (5, .int v5)] → W p l e (rm 8) s m args below meth c H locs 0 0 (MQ below (qW none E (w_Tokens_cut E h_t h_t_starts h_t_types h_t_values h_p1 h_p1_bytes out.1 out.2.1 out.2.2.1 out.2.2.2.1 out.2.2.2.2 c_p1_length c_p1_bytes) A) args s 0 0 A) (F0 m 118 ls []) := by
  obtain ⟨hx, hb, hr, hml, hown, hw, hlocks⟩ := id C
  intro c_t_size c_t_length c_t_starts c_t_types c_t_values v3 v5 hF H locs hP hD hS ls hl
  rw [f_Tokens_cut_b118] at hF
  refine lv_iload hx hb dX8_cut_118 (lv_at hl 3 rfl) ?_
  refine lv_istore_n (lv' := [(2, .int v5), (0, .ref h_t), (1, .ref h_p1), (3, .int v3), (5, .int v5)]) hx hb dX8_cut_120 rfl hl (by decide) rfl (fun ls hl => ?_)
  refine lv_iinc (v := (v3 + (1))) (lv' := [(3, .int (v3 + (1))), (2, .int v5), (0, .ref h_t), (1, .ref h_p1), (5, .int v5)]) hx hb dX8_cut_121 hl (k := 3) rfl rfl (by decide) rfl (fun ls hl => ?_)
  refine lv_goto (tgt := 17) hx hb dX8_cut_124 (by decide) ?_
  exact hk17 c_t_size c_t_length c_t_starts c_t_types c_t_values v5 (v3 + (1)) hF _ _ hP hD hS _ (lv_sub hl [2, 3, 1, 0] rfl)
set_option maxHeartbeats 4000000 in
set_option maxRecDepth 100000 in
theorem wk_Tokens_cut_b107 {p : Program} {l : Launch} {e : Env} {s : State} {m : MethodId} {args : Array Value} {below : List Frame} {meth : Method} {c : Code} {A : Nat → Prop} (E : kE) (h_t : Nat) (h_t_starts : Nat) (h_t_types : Nat) (h_t_values : Nat) (h_p1 : Nat) (h_p1_bytes : Nat)  (c_p1_length : Int32) (c_p1_bytes : (Nat → Int32))  {out : Int32 × Int32 × (Nat → Int32) × (Nat → Int32) × (Nat → Int32)} (C : kC RX8 cX8_cut 6 none p s m args meth c) (hA : ∀ q : Nat, s.heap.size ≤ q → A q) (hK : va_K (eD E) vwCl (eT E) s) (hT : sT E A s s.heap) (k17 : Int32 → Int32 → (Nat → Int32) → (Nat → Int32) → (Nat → Int32) → Int32 → Int32 → Option (Int32 × Int32 × (Nat → Int32) × (Nat → Int32) × (Nat → Int32))) (hk17 : ∀ (c_t_size : Int32) (c_t_length : Int32) (c_t_starts : (Nat → Int32)) (c_t_types : (Nat → Int32)) (c_t_values : (Nat → Int32)) (v2 : Int32) (v3 : Int32), k17 c_t_size c_t_length c_t_starts c_t_types c_t_values v2 v3 = some out → ∀ (H : Heap) (locs : List Loc), va_P (eD E) vwCl (w_Tokens_cut E h_t h_t_starts h_t_types h_t_values h_p1 h_p1_bytes c_t_size c_t_length c_t_starts c_t_types c_t_values c_p1_length c_p1_bytes) H → va_D A (w_Tokens_cut E h_t h_t_starts h_t_types h_t_values h_p1 h_p1_bytes c_t_size c_t_length c_t_starts c_t_types c_t_values c_p1_length c_p1_bytes) → va_S A s.heap H locs → ∀ (ls : Array Slot), lv_has ls 6 [(0, .ref h_t), (1, .ref h_p1), (2, .int v2), (3, .int v3)] → W p l e (rm 8) s m args below meth c H locs 0 0 (MQ below (qW none E (w_Tokens_cut E h_t h_t_starts h_t_types h_t_values h_p1 h_p1_bytes out.1 out.2.1 out.2.2.1 out.2.2.2.1 out.2.2.2.2 c_p1_length c_p1_bytes) A) args s 0 0 A) (F0 m 17 ls [])) :
    ∀ (c_t_size : Int32) (c_t_length : Int32) (c_t_starts : (Nat → Int32)) (c_t_types : (Nat → Int32)) (c_t_values : (Nat → Int32)) (v3 : Int32) (v5 : Int32) (s0 : Int32) (s1 : Int32), f_Tokens_cut_b107 k17 c_p1_length c_p1_bytes c_t_size c_t_length c_t_starts c_t_types c_t_values v3 v5 s0 s1 = some out → ∀ (H : Heap) (locs : List Loc), va_P (eD E) vwCl (w_Tokens_cut E h_t h_t_starts h_t_types h_t_values h_p1 h_p1_bytes c_t_size c_t_length c_t_starts c_t_types c_t_values c_p1_length c_p1_bytes) H → va_D A (w_Tokens_cut E h_t h_t_starts h_t_types h_t_values h_p1 h_p1_bytes c_t_size c_t_length c_t_starts c_t_types c_t_values c_p1_length c_p1_bytes) → va_S A s.heap H locs → ∀ (ls : Array Slot), lv_has ls 6 [(0, .ref h_t), (1, .ref h_p1), (3, .int v3), (5, .int v5)] → W p l e (rm 8) s m args below meth c H locs 0 0 (MQ below (qW none E (w_Tokens_cut E h_t h_t_starts h_t_types h_t_values h_p1 h_p1_bytes out.1 out.2.1 out.2.2.1 out.2.2.2.1 out.2.2.2.2 c_p1_length c_p1_bytes) A) args s 0 0 A) (F0 m 107 ls [.int s0, .int s1, .ref h_t_values]) := by
  obtain ⟨hx, hb, hr, hml, hown, hw, hlocks⟩ := id C
  intro c_t_size c_t_length c_t_starts c_t_types c_t_values v3 v5 s0 s1 hF H locs hP hD hS ls hl
  rw [f_Tokens_cut_b107] at hF
  obtain ⟨r1, er1, hF⟩ := kb hF
  refine wa_iast hx hb hK hP hD hS 3 0 rfl rfl er1 dX8_cut_107 (fun H locs hP hD hS => ?_)
  have hP : va_P (eD E) vwCl (w_Tokens_cut E h_t h_t_starts h_t_types h_t_values h_p1 h_p1_bytes c_t_size c_t_length c_t_starts c_t_types r1 c_p1_length c_p1_bytes) H := hP
  have hD : va_D A (w_Tokens_cut E h_t h_t_starts h_t_types h_t_values h_p1 h_p1_bytes c_t_size c_t_length c_t_starts c_t_types r1 c_p1_length c_p1_bytes) := hD
  refine lv_aload_n hx hb dX8_cut_108 rfl (lv_at hl 0 rfl) ?_
  refine lv_dup hx hb dX8_cut_109 rfl ?_
  refine va_get (D := eD E) (ci := 6) (C := RX8) (T := TX8) (N := 5) (v := .int c_t_size) hx hb hw inX8 hown hK hP 0 rfl rfl 3 (by decide) (hw _ mw_144) (fun _ h9 => h9) rfl dX8_cut_110 ?_
  refine lv_iconst (v := (1 : Int32)) hx hb dX8_cut_113 (by decide) ?_
  refine lv_iadd hx hb dX8_cut_114 ?_
  refine va_put (D := eD E) (ci := 6) (v := .int (c_t_size + (1 : Int32))) (ty := .int) (C := RX8) (T := TX8) (N := 5) hx hb hw inX8 tyX8 tyX8_ok nmX8 hown hK hP hD hS 0 rfl rfl 3 (by decide) (hw _ mw_144) (fun _ h9 => h9) rfl (by decide +kernel) rfl rfl (Nat.le_of_ble_eq_true rfl) dX8_cut_115 (fun H locs hP hD hS => ?_)
  have hP : va_P (eD E) vwCl (w_Tokens_cut E h_t h_t_starts h_t_types h_t_values h_p1 h_p1_bytes (c_t_size + (1 : Int32)) c_t_length c_t_starts c_t_types r1 c_p1_length c_p1_bytes) H := hP
  have hD : va_D A (w_Tokens_cut E h_t h_t_starts h_t_types h_t_values h_p1 h_p1_bytes (c_t_size + (1 : Int32)) c_t_length c_t_starts c_t_types r1 c_p1_length c_p1_bytes) := hD
  exact wk_Tokens_cut_b118 E h_t h_t_starts h_t_types h_t_values h_p1 h_p1_bytes c_p1_length c_p1_bytes  C hA  hK hT k17 hk17 (c_t_size + (1 : Int32)) c_t_length c_t_starts c_t_types r1 v3 v5 hF _ _ hP hD hS _ (lv_sub hl [0, 1, 2, 3] rfl)
set_option maxHeartbeats 4000000 in
set_option maxRecDepth 100000 in
theorem wk_Tokens_cut_b17 {p : Program} {l : Launch} {e : Env} {s : State} {m : MethodId} {args : Array Value} {below : List Frame} {meth : Method} {c : Code} {A : Nat → Prop} (E : kE) (h_t : Nat) (h_t_starts : Nat) (h_t_types : Nat) (h_t_values : Nat) (h_p1 : Nat) (h_p1_bytes : Nat)  (c_p1_length : Int32) (c_p1_bytes : (Nat → Int32))  {out : Int32 × Int32 × (Nat → Int32) × (Nat → Int32) × (Nat → Int32)} (C : kC RX8 cX8_cut 6 none p s m args meth c) (hA : ∀ q : Nat, s.heap.size ≤ q → A q) (hK : va_K (eD E) vwCl (eT E) s) (hT : sT E A s s.heap)  :
    ∀ (n : Nat), ∀ (c_t_size : Int32) (c_t_length : Int32) (c_t_starts : (Nat → Int32)) (c_t_types : (Nat → Int32)) (c_t_values : (Nat → Int32)) (v2 : Int32) (v3 : Int32), f_Tokens_cut_b17  c_p1_length c_p1_bytes n c_t_size c_t_length c_t_starts c_t_types c_t_values v2 v3 = some out → ∀ (H : Heap) (locs : List Loc), va_P (eD E) vwCl (w_Tokens_cut E h_t h_t_starts h_t_types h_t_values h_p1 h_p1_bytes c_t_size c_t_length c_t_starts c_t_types c_t_values c_p1_length c_p1_bytes) H → va_D A (w_Tokens_cut E h_t h_t_starts h_t_types h_t_values h_p1 h_p1_bytes c_t_size c_t_length c_t_starts c_t_types c_t_values c_p1_length c_p1_bytes) → va_S A s.heap H locs → ∀ (ls : Array Slot), lv_has ls 6 [(0, .ref h_t), (1, .ref h_p1), (2, .int v2), (3, .int v3)] → W p l e (rm 8) s m args below meth c H locs 0 0 (MQ below (qW none E (w_Tokens_cut E h_t h_t_starts h_t_types h_t_values h_p1 h_p1_bytes out.1 out.2.1 out.2.2.1 out.2.2.2.1 out.2.2.2.2 c_p1_length c_p1_bytes) A) args s 0 0 A) (F0 m 17 ls []) := by
  obtain ⟨hx, hb, hr, hml, hown, hw, hlocks⟩ := id C
  intro n
  induction n with
  | zero =>
    intro c_t_size c_t_length c_t_starts c_t_types c_t_values v2 v3 hF
    exact absurd (show (none : Option (Int32 × Int32 × (Nat → Int32) × (Nat → Int32) × (Nat → Int32))) = some out from hF) nofun
  | succ n ih =>
    intro c_t_size c_t_length c_t_starts c_t_types c_t_values v2 v3 hF H locs hP hD hS ls hl
    rw [f_Tokens_cut_b17] at hF
    refine lv_iload_n hx hb dX8_cut_17 rfl (lv_at hl 3 rfl) ?_
    refine lv_bipush (v := (120 : Int32)) hx hb dX8_cut_18 (by decide) ?_
    refine lv_icmp_ge (tgt := 127) hx hb dX8_cut_20 (by decide) (fun q2 => ?_) (fun q2 => ?_)
    · have hF := kp hF q2
      obtain rfl := Option.some.inj hF
      exact W.vret hx hb hr (fun t ht hW => ⟨⟨rfl, by rw [ht]; exact hP, hD⟩, hS.F ht⟩) hS.2.2 dX8_cut_127
    · have hF := kn hF q2
      refine lv_iload_n hx hb dX8_cut_23 rfl (lv_at hl 2 rfl) ?_
      refine lv_aload_n hx hb dX8_cut_24 rfl (lv_at hl 0 rfl) ?_
      refine va_get (D := eD E) (ci := 6) (C := RX8) (T := TX8) (N := 5) (v := .int c_t_length) hx hb hw inX8 hown hK hP 0 rfl rfl 4 (by decide) (hw _ mw_145) (fun _ h9 => h9) rfl dX8_cut_25 ?_
      refine lv_icmp_ge (tgt := 127) hx hb dX8_cut_28 (by decide) (fun q3 => ?_) (fun q3 => ?_)
      · have hF := kp hF q3
        obtain rfl := Option.some.inj hF
        exact W.vret hx hb hr (fun t ht hW => ⟨⟨rfl, by rw [ht]; exact hP, hD⟩, hS.F ht⟩) hS.2.2 dX8_cut_127
      · have hF := kn hF q3
        refine lv_aload_n hx hb dX8_cut_31 rfl (lv_at hl 1 rfl) ?_
        refine lv_iload_n hx hb dX8_cut_32 rfl (lv_at hl 2 rfl) ?_
        obtain ⟨r4, er4, hF⟩ := kb hF
        refine kRV (rest := []) C (k_Tape_byteAt l E h_p1 h_p1_bytes c_p1_length c_p1_bytes v2 r4 er4) fn_Tape_byteAt mw_628 ⟨Nat.le_of_ble_eq_true rfl, Nat.le_of_ble_eq_true rfl⟩ hK hT hS (va_recv hK hP (ci := 5) (q0 := 4) rfl rfl) hP [4, 5] rfl rfl rfl hl (Nat.le_of_ble_eq_true rfl) dX8_cut_33 ?_
        obtain ⟨r5, er5, hF⟩ := kb hF
        refine kRS (rest := []) C (k_Tokens_typeOf l E r4 r5 er5) fn_Tokens_typeOf mw_632 ⟨Nat.le_of_ble_eq_true rfl, Nat.le_of_ble_eq_true rfl⟩ hK hT hS hP [] rfl rfl rfl hl (Nat.le_of_ble_eq_true rfl) dX8_cut_36 ?_
        refine lv_istore (lv' := [(4, .int r5), (0, .ref h_t), (1, .ref h_p1), (2, .int v2), (3, .int v3)]) hx hb dX8_cut_39 hl (by decide) rfl (fun ls hl => ?_)
        refine lv_aload_n hx hb dX8_cut_41 rfl (lv_at hl 2 rfl) ?_
        refine lv_iload_n hx hb dX8_cut_42 rfl (lv_at hl 3 rfl) ?_
        refine lv_iload hx hb dX8_cut_43 (lv_at hl 0 rfl) ?_
        obtain ⟨r6, er6, hF⟩ := kb hF
        refine kRS (rest := []) C (k_Tokens_endOf l E h_p1 h_p1_bytes c_p1_length c_p1_bytes v2 r5 r6 er6) fn_Tokens_endOf mw_635 ⟨Nat.le_of_ble_eq_true rfl, Nat.le_of_ble_eq_true rfl⟩ hK hT hS hP [4, 5] rfl rfl rfl hl (Nat.le_of_ble_eq_true rfl) dX8_cut_45 ?_
        refine lv_istore (lv' := [(5, .int r6), (4, .int r5), (0, .ref h_t), (1, .ref h_p1), (2, .int v2), (3, .int v3)]) hx hb dX8_cut_48 hl (by decide) rfl (fun ls hl => ?_)
        refine lv_iload hx hb dX8_cut_50 (lv_at hl 1 rfl) ?_
        refine lv_if_eq (tgt := 118) hx hb dX8_cut_52 (by decide) (fun q7 => ?_) (fun q7 => ?_)
        · have hF := kp hF q7
          exact wk_Tokens_cut_b118 E h_t h_t_starts h_t_types h_t_values h_p1 h_p1_bytes c_p1_length c_p1_bytes  C hA  hK hT (f_Tokens_cut_b17  c_p1_length c_p1_bytes n) ih c_t_size c_t_length c_t_starts c_t_types c_t_values v3 r6 hF _ _ hP hD hS _ (lv_sub hl [2, 3, 5, 0] rfl)
        · have hF := kn hF q7
          refine lv_aload_n hx hb dX8_cut_55 rfl (lv_at hl 2 rfl) ?_
          refine va_get (D := eD E) (ci := 6) (C := RX8) (T := TX8) (N := 5) (v := .ref h_t_types) hx hb hw inX8 hown hK hP 0 rfl rfl 0 (by decide) (hw _ mw_141) (fun _ h9 => h9) rfl dX8_cut_56 ?_
          refine lv_aload_n hx hb dX8_cut_59 rfl (lv_at hl 2 rfl) ?_
          refine va_get (D := eD E) (ci := 6) (C := RX8) (T := TX8) (N := 5) (v := .int c_t_size) hx hb hw inX8 hown hK hP 0 rfl rfl 3 (by decide) (hw _ mw_144) (fun _ h9 => h9) rfl dX8_cut_60 ?_
          refine lv_iload hx hb dX8_cut_63 (lv_at hl 1 rfl) ?_
          obtain ⟨r8, er8, hF⟩ := kb hF
          refine wa_iast hx hb hK hP hD hS 2 0 rfl rfl er8 dX8_cut_65 (fun H locs hP hD hS => ?_)
          have hP : va_P (eD E) vwCl (w_Tokens_cut E h_t h_t_starts h_t_types h_t_values h_p1 h_p1_bytes c_t_size c_t_length c_t_starts r8 c_t_values c_p1_length c_p1_bytes) H := hP
          have hD : va_D A (w_Tokens_cut E h_t h_t_starts h_t_types h_t_values h_p1 h_p1_bytes c_t_size c_t_length c_t_starts r8 c_t_values c_p1_length c_p1_bytes) := hD
          refine lv_aload_n hx hb dX8_cut_66 rfl (lv_at hl 2 rfl) ?_
          refine va_get (D := eD E) (ci := 6) (C := RX8) (T := TX8) (N := 5) (v := .ref h_t_starts) hx hb hw inX8 hown hK hP 0 rfl rfl 1 (by decide) (hw _ mw_142) (fun _ h9 => h9) rfl dX8_cut_67 ?_
          refine lv_aload_n hx hb dX8_cut_70 rfl (lv_at hl 2 rfl) ?_
          refine va_get (D := eD E) (ci := 6) (C := RX8) (T := TX8) (N := 5) (v := .int c_t_size) hx hb hw inX8 hown hK hP 0 rfl rfl 3 (by decide) (hw _ mw_144) (fun _ h9 => h9) rfl dX8_cut_71 ?_
          refine lv_iload_n hx hb dX8_cut_74 rfl (lv_at hl 4 rfl) ?_
          obtain ⟨r9, er9, hF⟩ := kb hF
          refine wa_iast hx hb hK hP hD hS 1 0 rfl rfl er9 dX8_cut_75 (fun H locs hP hD hS => ?_)
          have hP : va_P (eD E) vwCl (w_Tokens_cut E h_t h_t_starts h_t_types h_t_values h_p1 h_p1_bytes c_t_size c_t_length r9 r8 c_t_values c_p1_length c_p1_bytes) H := hP
          have hD : va_D A (w_Tokens_cut E h_t h_t_starts h_t_types h_t_values h_p1 h_p1_bytes c_t_size c_t_length r9 r8 c_t_values c_p1_length c_p1_bytes) := hD
          refine lv_aload_n hx hb dX8_cut_76 rfl (lv_at hl 2 rfl) ?_
          refine va_get (D := eD E) (ci := 6) (C := RX8) (T := TX8) (N := 5) (v := .ref h_t_values) hx hb hw inX8 hown hK hP 0 rfl rfl 2 (by decide) (hw _ mw_143) (fun _ h9 => h9) rfl dX8_cut_77 ?_
          refine lv_aload_n hx hb dX8_cut_80 rfl (lv_at hl 2 rfl) ?_
          refine va_get (D := eD E) (ci := 6) (C := RX8) (T := TX8) (N := 5) (v := .int c_t_size) hx hb hw inX8 hown hK hP 0 rfl rfl 3 (by decide) (hw _ mw_144) (fun _ h9 => h9) rfl dX8_cut_81 ?_
          refine lv_iload hx hb dX8_cut_84 (lv_at hl 1 rfl) ?_
          refine lv_iconst (v := (1 : Int32)) hx hb dX8_cut_86 (by decide) ?_
          refine lv_icmp_ne (tgt := 100) hx hb dX8_cut_87 (by decide) (fun q10 => ?_) (fun q10 => ?_)
          · have hF := kn hF q10
            refine lv_aload_n hx hb dX8_cut_100 rfl (lv_at hl 3 rfl) ?_
            refine lv_iload_n hx hb dX8_cut_101 rfl (lv_at hl 4 rfl) ?_
            refine lv_iload hx hb dX8_cut_102 (lv_at hl 0 rfl) ?_
            obtain ⟨r11, er11, hF⟩ := kb hF
            refine kRS (rest := [.int c_t_size, .ref h_t_values]) C (k_Tokens_numberIn l E h_p1 h_p1_bytes c_p1_length c_p1_bytes v2 r6 r11 er11) fn_Tokens_numberIn mw_707 ⟨Nat.le_of_ble_eq_true rfl, Nat.le_of_ble_eq_true rfl⟩ hK hT hS hP [4, 5] rfl rfl rfl hl (Nat.le_of_ble_eq_true rfl) dX8_cut_104 ?_
            exact wk_Tokens_cut_b107 E h_t h_t_starts h_t_types h_t_values h_p1 h_p1_bytes c_p1_length c_p1_bytes  C hA  hK hT (f_Tokens_cut_b17  c_p1_length c_p1_bytes n) ih c_t_size c_t_length r9 r8 c_t_values v3 r6 r11 c_t_size hF _ _ hP hD hS _ (lv_sub hl [2, 3, 5, 0] rfl)
          · have hF := kp hF q10
            refine lv_aload_n hx hb dX8_cut_90 rfl (lv_at hl 3 rfl) ?_
            refine lv_iload_n hx hb dX8_cut_91 rfl (lv_at hl 4 rfl) ?_
            refine lv_iload hx hb dX8_cut_92 (lv_at hl 0 rfl) ?_
            obtain ⟨r12, er12, hF⟩ := kb hF
            refine kRS (rest := [.int c_t_size, .ref h_t_values]) C (k_Tokens_wordIn l E h_p1 h_p1_bytes c_p1_length c_p1_bytes v2 r6 r12 er12) fn_Tokens_wordIn mw_638 ⟨Nat.le_of_ble_eq_true rfl, Nat.le_of_ble_eq_true rfl⟩ hK hT hS hP [4, 5] rfl rfl rfl hl (Nat.le_of_ble_eq_true rfl) dX8_cut_94 ?_
            refine lv_goto (tgt := 107) hx hb dX8_cut_97 (by decide) ?_
            exact wk_Tokens_cut_b107 E h_t h_t_starts h_t_types h_t_values h_p1 h_p1_bytes c_p1_length c_p1_bytes  C hA  hK hT (f_Tokens_cut_b17  c_p1_length c_p1_bytes n) ih c_t_size c_t_length r9 r8 c_t_values v3 r6 r12 c_t_size hF _ _ hP hD hS _ (lv_sub hl [2, 3, 5, 0] rfl)
set_option maxHeartbeats 4000000 in
set_option maxRecDepth 100000 in
theorem k_Tokens_cut (l : Launch) (E : kE) (h_t : Nat) (h_t_starts : Nat) (h_t_types : Nat) (h_t_values : Nat) (h_p1 : Nat) (h_p1_bytes : Nat)  (sz : Nat) (c_t_size : Int32) (c_t_length : Int32) (c_t_starts : (Nat → Int32)) (c_t_types : (Nat → Int32)) (c_t_values : (Nat → Int32)) (c_p1_length : Int32) (c_p1_bytes : (Nat → Int32))  (out : Int32 × Int32 × (Nat → Int32) × (Nat → Int32) × (Nat → Int32)) (hF : f_Tokens_cut c_t_size c_t_length c_t_starts c_t_types c_t_values c_p1_length c_p1_bytes  = some out) : Met l yX8_cut (Cond.code yX8_cut cX8_cut 6 none :: wG) (rm 8) (pW E (w_Tokens_cut E h_t h_t_starts h_t_types h_t_values h_p1 h_p1_bytes c_t_size c_t_length c_t_starts c_t_types c_t_values c_p1_length c_p1_bytes) sz [.ref h_t, .ref h_p1]) (qW none E (w_Tokens_cut E h_t h_t_starts h_t_types h_t_values h_p1 h_p1_bytes out.1 out.2.1 out.2.2.1 out.2.2.2.1 out.2.2.2.2 c_p1_length c_p1_bytes) (va_A (w_Tokens_cut E h_t h_t_starts h_t_types h_t_values h_p1 h_p1_bytes c_t_size c_t_length c_t_starts c_t_types c_t_values c_p1_length c_p1_bytes) sz)) 0 0 (va_A (w_Tokens_cut E h_t h_t_starts h_t_types h_t_values h_p1 h_p1_bytes c_t_size c_t_length c_t_starts c_t_types c_t_values c_p1_length c_p1_bytes) sz) := by
  refine met_W (by decide) (Nat.le_of_ble_eq_true rfl) ?_
  intro p e s m args below meth c A ls C hP hD hS hA hK hT hl
  obtain ⟨hx, hb, hr, hml, hown, hw, hlocks⟩ := id C
  have hl : lv_has ls 6 [(0, .ref h_t), (1, .ref h_p1)] := hl
  rw [f_Tokens_cut] at hF
  refine lv_aload_n hx hb dX8_cut_0 rfl (lv_at hl 0 rfl) ?_
  refine lv_iconst (v := (0 : Int32)) hx hb dX8_cut_1 (by decide) ?_
  refine va_put (D := eD E) (ci := 6) (v := .int (0 : Int32)) (ty := .int) (C := RX8) (T := TX8) (N := 5) hx hb hw inX8 tyX8 tyX8_ok nmX8 hown hK hP hD hS 0 rfl rfl 3 (by decide) (hw _ mw_144) (fun _ h9 => h9) rfl (by decide +kernel) rfl rfl (Nat.le_of_ble_eq_true rfl) dX8_cut_2 (fun H locs hP hD hS => ?_)
  have hP : va_P (eD E) vwCl (w_Tokens_cut E h_t h_t_starts h_t_types h_t_values h_p1 h_p1_bytes (0 : Int32) c_t_length c_t_starts c_t_types c_t_values c_p1_length c_p1_bytes) H := hP
  have hD : va_D A (w_Tokens_cut E h_t h_t_starts h_t_types h_t_values h_p1 h_p1_bytes (0 : Int32) c_t_length c_t_starts c_t_types c_t_values c_p1_length c_p1_bytes) := hD
  refine lv_aload_n hx hb dX8_cut_5 rfl (lv_at hl 0 rfl) ?_
  refine lv_aload_n hx hb dX8_cut_6 rfl (lv_at hl 1 rfl) ?_
  refine va_getN (D := eD E) (ci := 5) (C := RX7) (T := TX7) (N := 2) (v := .int c_p1_length) hx hb hw inX7 hown hK hP 4 rfl rfl 1 (by decide) ((sF_10 hT).use rfl) (fun _ h9 => h9) rfl dX8_cut_7 ?_
  refine va_put (D := eD E) (ci := 6) (v := .int c_p1_length) (ty := .int) (C := RX8) (T := TX8) (N := 5) hx hb hw inX8 tyX8 tyX8_ok nmX8 hown hK hP hD hS 0 rfl rfl 4 (by decide) (hw _ mw_145) (fun _ h9 => h9) rfl (by decide +kernel) rfl rfl (Nat.le_of_ble_eq_true rfl) dX8_cut_10 (fun H locs hP hD hS => ?_)
  have hP : va_P (eD E) vwCl (w_Tokens_cut E h_t h_t_starts h_t_types h_t_values h_p1 h_p1_bytes (0 : Int32) c_p1_length c_t_starts c_t_types c_t_values c_p1_length c_p1_bytes) H := hP
  have hD : va_D A (w_Tokens_cut E h_t h_t_starts h_t_types h_t_values h_p1 h_p1_bytes (0 : Int32) c_p1_length c_t_starts c_t_types c_t_values c_p1_length c_p1_bytes) := hD
  refine lv_iconst (v := (0 : Int32)) hx hb dX8_cut_13 (by decide) ?_
  refine lv_istore_n (lv' := [(2, .int (0 : Int32)), (0, .ref h_t), (1, .ref h_p1)]) hx hb dX8_cut_14 rfl hl (by decide) rfl (fun ls hl => ?_)
  refine lv_iconst (v := (0 : Int32)) hx hb dX8_cut_15 (by decide) ?_
  refine lv_istore_n (lv' := [(3, .int (0 : Int32)), (2, .int (0 : Int32)), (0, .ref h_t), (1, .ref h_p1)]) hx hb dX8_cut_16 rfl hl (by decide) rfl (fun ls hl => ?_)
  exact wk_Tokens_cut_b17 E h_t h_t_starts h_t_types h_t_values h_p1 h_p1_bytes c_p1_length c_p1_bytes  C hA  hK hT  5000 (0 : Int32) c_p1_length c_t_starts c_t_types c_t_values (0 : Int32) (0 : Int32) hF _ _ hP hD hS _ (lv_sub hl [2, 3, 1, 0] rfl)
abbrev w_Tokens_placeAt (E : kE) (h_t : Nat) (h_t_starts : Nat) (x_t_types : Nat) (x_t_values : Nat) (c_t_size : Int32) (c_t_length : Int32) (c_t_starts : (Nat → Int32)) : va_W := [(h_t, .inr (6, [.ref x_t_types, .ref h_t_starts, .ref x_t_values, .int c_t_size, .int c_t_length])), (h_t_starts, .inl (eI E, 120, .inl c_t_starts))]
set_option maxHeartbeats 4000000 in
set_option maxRecDepth 100000 in
theorem wk_Tokens_placeAt_b21 {p : Program} {l : Launch} {e : Env} {s : State} {m : MethodId} {args : Array Value} {below : List Frame} {meth : Method} {c : Code} (E : kE) (h_t : Nat) (h_t_starts : Nat) (x_t_types : Nat) (x_t_values : Nat) (c_t_size : Int32) (c_t_length : Int32) (c_t_starts : (Nat → Int32)) (a1 : Int32) {out : Int32} (C : kC RX8 cX8_placeAt 2 (some .int) p s m args meth c) (hP : va_P (eD E) vwCl (w_Tokens_placeAt E h_t h_t_starts x_t_types x_t_values c_t_size c_t_length c_t_starts) s.heap) (hK : va_K (eD E) vwCl (eT E) s) (hT : sT E (fun _ => False) s s.heap)  :
    f_Tokens_placeAt_b21  c_t_size c_t_length c_t_starts a1  = some out → ∀ (ls : Array Slot), lv_has ls 2 [(0, .ref h_t)] → W p l e (rm 1) s m args below meth c s.heap [] 0 0 (MQ below (qR (.int out)) args s 0 0 (fun _ => False)) (F0 m 21 ls []) := by
  obtain ⟨hx, hb, hr, hml, hown, hw, hlocks⟩ := id C
  have hS : va_S (fun _ => False) s.heap s.heap [] := va_S.rf
  intro  hF ls hl
  rw [f_Tokens_placeAt_b21] at hF
  refine lv_aload_n hx hb dX8_placeAt_21 rfl (lv_at hl 0 rfl) ?_
  refine va_get (D := eD E) (ci := 6) (C := RX8) (T := TX8) (N := 5) (v := .int c_t_length) hx hb hw inX8 hown hK hP 0 rfl rfl 4 (by decide) (hw _ mw_145) (fun _ h9 => h9) rfl dX8_placeAt_22 ?_
  obtain rfl := Option.some.inj hF
  exact W.iret hx hb hr (fun t ht hW => ⟨rfl, ht⟩) nofun dX8_placeAt_25
set_option maxHeartbeats 4000000 in
set_option maxRecDepth 100000 in
theorem k_Tokens_placeAt (l : Launch) (E : kE) (h_t : Nat) (h_t_starts : Nat) (x_t_types : Nat) (x_t_values : Nat) (c_t_size : Int32) (c_t_length : Int32) (c_t_starts : (Nat → Int32)) (a1 : Int32) (out : Int32) (hF : f_Tokens_placeAt c_t_size c_t_length c_t_starts a1 = some out) : Met l yX8_placeAt (Cond.code yX8_placeAt cX8_placeAt 2 (some .int) :: wG) (rm 1) (pR E (w_Tokens_placeAt E h_t h_t_starts x_t_types x_t_values c_t_size c_t_length c_t_starts) [.ref h_t, .int a1]) (qR (.int out)) 0 0 (fun _ => False) := by
  refine met_R (by decide) (Nat.le_of_ble_eq_true rfl) ?_
  intro p e s m args below meth c ls C hP hK hT hl
  obtain ⟨hx, hb, hr, hml, hown, hw, hlocks⟩ := id C
  have hS : va_S (fun _ => False) s.heap s.heap [] := va_S.rf
  have hl : lv_has ls 2 [(0, .ref h_t), (1, .int a1)] := hl
  rw [f_Tokens_placeAt] at hF
  refine lv_iload_n hx hb dX8_placeAt_0 rfl (lv_at hl 1 rfl) ?_
  refine lv_if_lt (tgt := 21) hx hb dX8_placeAt_1 (by decide) (fun q1 => ?_) (fun q1 => ?_)
  · have hF := kp hF q1
    exact wk_Tokens_placeAt_b21 E h_t h_t_starts x_t_types x_t_values c_t_size c_t_length c_t_starts a1 C hP  hK hT   hF _ (lv_sub hl [0] rfl)
  · have hF := kn hF q1
    refine lv_iload_n hx hb dX8_placeAt_4 rfl (lv_at hl 1 rfl) ?_
    refine lv_aload_n hx hb dX8_placeAt_5 rfl (lv_at hl 0 rfl) ?_
    refine va_get (D := eD E) (ci := 6) (C := RX8) (T := TX8) (N := 5) (v := .int c_t_size) hx hb hw inX8 hown hK hP 0 rfl rfl 3 (by decide) (hw _ mw_144) (fun _ h9 => h9) rfl dX8_placeAt_6 ?_
    refine lv_icmp_ge (tgt := 21) hx hb dX8_placeAt_9 (by decide) (fun q2 => ?_) (fun q2 => ?_)
    · have hF := kp hF q2
      exact wk_Tokens_placeAt_b21 E h_t h_t_starts x_t_types x_t_values c_t_size c_t_length c_t_starts a1 C hP  hK hT   hF _ (lv_sub hl [0] rfl)
    · have hF := kn hF q2
      refine lv_aload_n hx hb dX8_placeAt_12 rfl (lv_at hl 0 rfl) ?_
      refine va_get (D := eD E) (ci := 6) (C := RX8) (T := TX8) (N := 5) (v := .ref h_t_starts) hx hb hw inX8 hown hK hP 0 rfl rfl 1 (by decide) (hw _ mw_142) (fun _ h9 => h9) rfl dX8_placeAt_13 ?_
      refine lv_iload_n hx hb dX8_placeAt_16 rfl (lv_at hl 1 rfl) ?_
      obtain ⟨r3, er3, hF⟩ := kb hF
      refine wa_iald hx hb hK hP 1 0 rfl rfl er3 dX8_placeAt_17 ?_
      refine lv_goto (tgt := 25) hx hb dX8_placeAt_18 (by decide) ?_
      obtain rfl := Option.some.inj hF
      exact W.iret hx hb hr (fun t ht hW => ⟨rfl, ht⟩) nofun dX8_placeAt_25
abbrev w_Tokens_typeAt (E : kE) (h_t : Nat) (h_t_types : Nat) (x_t_starts : Nat) (x_t_values : Nat) (c_t_size : Int32) (c_t_length : Int32) (c_t_types : (Nat → Int32)) : va_W := [(h_t, .inr (6, [.ref h_t_types, .ref x_t_starts, .ref x_t_values, .int c_t_size, .int c_t_length])), (h_t_types, .inl (eI E, 120, .inl c_t_types))]
set_option maxHeartbeats 4000000 in
set_option maxRecDepth 100000 in
theorem k_Tokens_typeAt (l : Launch) (E : kE) (h_t : Nat) (h_t_types : Nat) (x_t_starts : Nat) (x_t_values : Nat) (c_t_size : Int32) (c_t_length : Int32) (c_t_types : (Nat → Int32)) (a1 : Int32) (out : Int32) (hF : f_Tokens_typeAt c_t_size c_t_types a1 = some out) : Met l yX8_typeAt (Cond.code yX8_typeAt cX8_typeAt 2 (some .int) :: wG) (rm 1) (pR E (w_Tokens_typeAt E h_t h_t_types x_t_starts x_t_values c_t_size c_t_length c_t_types) [.ref h_t, .int a1]) (qR (.int out)) 0 0 (fun _ => False) := by
  refine met_R (by decide) (Nat.le_of_ble_eq_true rfl) ?_
  intro p e s m args below meth c ls C hP hK hT hl
  obtain ⟨hx, hb, hr, hml, hown, hw, hlocks⟩ := id C
  have hS : va_S (fun _ => False) s.heap s.heap [] := va_S.rf
  have hl : lv_has ls 2 [(0, .ref h_t), (1, .int a1)] := hl
  rw [f_Tokens_typeAt] at hF
  refine lv_iload_n hx hb dX8_typeAt_0 rfl (lv_at hl 1 rfl) ?_
  refine lv_if_lt (tgt := 21) hx hb dX8_typeAt_1 (by decide) (fun q1 => ?_) (fun q1 => ?_)
  · have hF := kp hF q1
    refine lv_iconst (v := (0 : Int32)) hx hb dX8_typeAt_21 (by decide) ?_
    obtain rfl := Option.some.inj hF
    exact W.iret hx hb hr (fun t ht hW => ⟨rfl, ht⟩) nofun dX8_typeAt_22
  · have hF := kn hF q1
    refine lv_iload_n hx hb dX8_typeAt_4 rfl (lv_at hl 1 rfl) ?_
    refine lv_aload_n hx hb dX8_typeAt_5 rfl (lv_at hl 0 rfl) ?_
    refine va_get (D := eD E) (ci := 6) (C := RX8) (T := TX8) (N := 5) (v := .int c_t_size) hx hb hw inX8 hown hK hP 0 rfl rfl 3 (by decide) (hw _ mw_144) (fun _ h9 => h9) rfl dX8_typeAt_6 ?_
    refine lv_icmp_ge (tgt := 21) hx hb dX8_typeAt_9 (by decide) (fun q2 => ?_) (fun q2 => ?_)
    · have hF := kp hF q2
      refine lv_iconst (v := (0 : Int32)) hx hb dX8_typeAt_21 (by decide) ?_
      obtain rfl := Option.some.inj hF
      exact W.iret hx hb hr (fun t ht hW => ⟨rfl, ht⟩) nofun dX8_typeAt_22
    · have hF := kn hF q2
      refine lv_aload_n hx hb dX8_typeAt_12 rfl (lv_at hl 0 rfl) ?_
      refine va_get (D := eD E) (ci := 6) (C := RX8) (T := TX8) (N := 5) (v := .ref h_t_types) hx hb hw inX8 hown hK hP 0 rfl rfl 0 (by decide) (hw _ mw_141) (fun _ h9 => h9) rfl dX8_typeAt_13 ?_
      refine lv_iload_n hx hb dX8_typeAt_16 rfl (lv_at hl 1 rfl) ?_
      obtain ⟨r3, er3, hF⟩ := kb hF
      refine wa_iald hx hb hK hP 1 0 rfl rfl er3 dX8_typeAt_17 ?_
      refine lv_goto (tgt := 22) hx hb dX8_typeAt_18 (by decide) ?_
      obtain rfl := Option.some.inj hF
      exact W.iret hx hb hr (fun t ht hW => ⟨rfl, ht⟩) nofun dX8_typeAt_22
