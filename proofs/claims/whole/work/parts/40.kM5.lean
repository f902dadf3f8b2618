abbrev w_M_signTold (E : kE) (h_t : Nat) (h_t_s : Nat) (h_t_tape : Nat) (x_t_kept : Nat) (x_t_before : Nat) (x_t_findings : Nat) (x_t_shown : Nat) (x_t_worths : Nat) (x_t_steps : Nat) (x_t_bits : Nat) (x_t_longs : Nat) (x_t_cells : Nat) (x_t_between : Nat) (c_t_isKept : Int32) (c_t_most : Int32) (c_t_taped : Int32) (c_t_here : Int32) (c_t_fault : Int32) (c_t_value : Int32) (c_t_s : (Nat → Int32)) (c_t_tape : (Nat → Int32)) : va_W := [(h_t, .inr (8, [.ref h_t_s, .ref x_t_kept, .ref x_t_before, .int c_t_isKept, .ref x_t_findings, .ref x_t_shown, .int c_t_most, .ref x_t_worths, .ref x_t_steps, .ref h_t_tape, .int c_t_taped, .int c_t_here, .int c_t_fault, .int c_t_value, .ref x_t_bits, .ref x_t_longs, .ref x_t_cells, .ref x_t_between])), (h_t_s, .inl (eI E, 65, .inl c_t_s)), (h_t_tape, .inl (eI E, 120, .inl c_t_tape))]
set_option maxHeartbeats 4000000 in
set_option maxRecDepth 100000 in
theorem k_M_signTold (l : Launch) (E : kE) (h_t : Nat) (h_t_s : Nat) (h_t_tape : Nat) (x_t_kept : Nat) (x_t_before : Nat) (x_t_findings : Nat) (x_t_shown : Nat) (x_t_worths : Nat) (x_t_steps : Nat) (x_t_bits : Nat) (x_t_longs : Nat) (x_t_cells : Nat) (x_t_between : Nat) (sz : Nat) (c_t_isKept : Int32) (c_t_most : Int32) (c_t_taped : Int32) (c_t_here : Int32) (c_t_fault : Int32) (c_t_value : Int32) (c_t_s : (Nat → Int32)) (c_t_tape : (Nat → Int32))  (out : Int32 × Int32 × Int32 × Int32 × (Nat → Int32)) (hF : f_M_signTold c_t_taped c_t_here c_t_fault c_t_value c_t_s c_t_tape  = some out) : Met l yX10_signTold (Cond.code yX10_signTold cX10_signTold 2 (some .boolean) :: wG) (rm 4) (pW E (w_M_signTold E h_t h_t_s h_t_tape x_t_kept x_t_before x_t_findings x_t_shown x_t_worths x_t_steps x_t_bits x_t_longs x_t_cells x_t_between c_t_isKept c_t_most c_t_taped c_t_here c_t_fault c_t_value c_t_s c_t_tape) sz [.ref h_t]) (qW (some (.int out.1)) E (w_M_signTold E h_t h_t_s h_t_tape x_t_kept x_t_before x_t_findings x_t_shown x_t_worths x_t_steps x_t_bits x_t_longs x_t_cells x_t_between c_t_isKept c_t_most c_t_taped out.2.1 out.2.2.1 out.2.2.2.1 out.2.2.2.2 c_t_tape) (va_A (w_M_signTold E h_t h_t_s h_t_tape x_t_kept x_t_before x_t_findings x_t_shown x_t_worths x_t_steps x_t_bits x_t_longs x_t_cells x_t_between c_t_isKept c_t_most c_t_taped c_t_here c_t_fault c_t_value c_t_s c_t_tape) sz)) 0 0 (va_A (w_M_signTold E h_t h_t_s h_t_tape x_t_kept x_t_before x_t_findings x_t_shown x_t_worths x_t_steps x_t_bits x_t_longs x_t_cells x_t_between c_t_isKept c_t_most c_t_taped c_t_here c_t_fault c_t_value c_t_s c_t_tape) sz) := by
  refine met_W (by decide) (Nat.le_of_ble_eq_true rfl) ?_
  intro p e s m args below meth c A ls C hP hD hS hA hK hT hl
  obtain ⟨hx, hb, hr, hml, hown, hw, hlocks⟩ := id C
  have hl : lv_has ls 2 [(0, .ref h_t)] := hl
  rw [f_M_signTold] at hF
  refine lv_aload_n hx hb dX10_signTold_0 rfl (lv_at hl 0 rfl) ?_
  refine lv_iconst (v := (0 : Int32)) hx hb dX10_signTold_1 (by decide) ?_
  refine lv_bipush (v := (25 : Int32)) hx hb dX10_signTold_2 (by decide) ?_
  obtain ⟨r1, er1, hF⟩ := kb hF
  refine kWV (rest := []) (Wr := [(h_t_s, .inl (eI E, 65, .inl c_t_s))]) (Wn := (w_M_signTold E h_t h_t_s h_t_tape x_t_kept x_t_before x_t_findings x_t_shown x_t_worths x_t_steps x_t_bits x_t_longs x_t_cells x_t_between c_t_isKept c_t_most c_t_taped r1.2.1 r1.2.2.1 r1.2.2.2 c_t_s c_t_tape)) C (k_M_number l E h_t h_t_tape h_t_s x_t_kept x_t_before x_t_findings x_t_shown x_t_worths x_t_steps x_t_bits x_t_longs x_t_cells x_t_between s.heap.size c_t_isKept c_t_most c_t_taped c_t_here c_t_fault c_t_value c_t_tape (0 : Int32) (25 : Int32) r1 er1) fn_M_number mw_1251 ⟨Nat.le_of_ble_eq_true rfl, Nat.le_of_ble_eq_true rfl⟩ hK hT hS hA (va_recv hK hP (ci := 8) (q0 := 0) rfl rfl) hP hD [0, 2] rfl (by decide) [1] rfl (by decide) (by decide) [1, 0, 2] rfl (by decide) rfl rfl hl (Nat.le_of_ble_eq_true rfl) dX10_signTold_4 (fun H locs hP hD hS => ?_)
  refine W.eq (g2 := F0 m 7 ls [.int r1.1]) rfl ?_
  refine lv_if_ne (tgt := 12) hx hb dX10_signTold_7 (by decide) (fun q2 => ?_) (fun q2 => ?_)
  · have hF := kn hF q2
    refine lv_aload_n hx hb dX10_signTold_12 rfl (lv_at hl 0 rfl) ?_
    refine va_get (D := eD E) (ci := 8) (C := RX10) (T := TX10) (N := 18) (v := .int r1.2.2.2) hx hb hw inX10 hown hK hP 0 rfl rfl 13 (by decide) (hw _ mw_894) (fun _ h9 => h9) rfl dX10_signTold_13 ?_
    refine lv_istore_n (lv' := [(1, .int r1.2.2.2), (0, .ref h_t)]) hx hb dX10_signTold_16 rfl hl (by decide) rfl (fun ls hl => ?_)
    refine lv_aload_n hx hb dX10_signTold_17 rfl (lv_at hl 1 rfl) ?_
    refine lv_iconst (v := (0 : Int32)) hx hb dX10_signTold_18 (by decide) ?_
    refine lv_sipush (v := (4095 : Int32)) hx hb dX10_signTold_19 (by decide) ?_
    obtain ⟨r3, er3, hF⟩ := kb hF
    refine kWV (rest := []) (Wr := [(h_t_s, .inl (eI E, 65, .inl c_t_s))]) (Wn := (w_M_signTold E h_t h_t_s h_t_tape x_t_kept x_t_before x_t_findings x_t_shown x_t_worths x_t_steps x_t_bits x_t_longs x_t_cells x_t_between c_t_isKept c_t_most c_t_taped r3.2.1 r3.2.2.1 r3.2.2.2 c_t_s c_t_tape)) C (k_M_number l E h_t h_t_tape h_t_s x_t_kept x_t_before x_t_findings x_t_shown x_t_worths x_t_steps x_t_bits x_t_longs x_t_cells x_t_between H.size c_t_isKept c_t_most c_t_taped r1.2.1 r1.2.2.1 r1.2.2.2 c_t_tape (0 : Int32) (4095 : Int32) r3 er3) fn_M_number mw_1251 ⟨Nat.le_of_ble_eq_true rfl, Nat.le_of_ble_eq_true rfl⟩ hK hT hS hA (va_recv hK hP (ci := 8) (q0 := 0) rfl rfl) hP hD [0, 2] rfl (by decide) [1] rfl (by decide) (by decide) [1, 0, 2] rfl (by decide) rfl rfl hl (Nat.le_of_ble_eq_true rfl) dX10_signTold_22 (fun H locs hP hD hS => ?_)
    refine W.eq (g2 := F0 m 25 ls [.int r3.1]) rfl ?_
    refine lv_if_ne (tgt := 30) hx hb dX10_signTold_25 (by decide) (fun q4 => ?_) (fun q4 => ?_)
    · have hF := kn hF q4
      refine lv_aload_n hx hb dX10_signTold_30 rfl (lv_at hl 1 rfl) ?_
      refine va_get (D := eD E) (ci := 8) (C := RX10) (T := TX10) (N := 18) (v := .ref h_t_s) hx hb hw inX10 hown hK hP 0 rfl rfl 0 (by decide) (hw _ mw_881) (fun _ h9 => h9) rfl dX10_signTold_31 ?_
      refine lv_iconst (v := (3 : Int32)) hx hb dX10_signTold_34 (by decide) ?_
      refine lv_iload_n hx hb dX10_signTold_35 rfl (lv_at hl 0 rfl) ?_
      refine lv_iadd hx hb dX10_signTold_36 ?_
      refine lv_aload_n hx hb dX10_signTold_37 rfl (lv_at hl 1 rfl) ?_
      refine va_get (D := eD E) (ci := 8) (C := RX10) (T := TX10) (N := 18) (v := .int r3.2.2.2) hx hb hw inX10 hown hK hP 0 rfl rfl 13 (by decide) (hw _ mw_894) (fun _ h9 => h9) rfl dX10_signTold_38 ?_
      obtain ⟨r5, er5, hF⟩ := kb hF
      refine wa_iast hx hb hK hP hD hS 1 0 rfl rfl er5 dX10_signTold_41 (fun H locs hP hD hS => ?_)
      have hP : va_P (eD E) vwCl (w_M_signTold E h_t h_t_s h_t_tape x_t_kept x_t_before x_t_findings x_t_shown x_t_worths x_t_steps x_t_bits x_t_longs x_t_cells x_t_between c_t_isKept c_t_most c_t_taped r3.2.1 r3.2.2.1 r3.2.2.2 r5 c_t_tape) H := hP
      have hD : va_D A (w_M_signTold E h_t h_t_s h_t_tape x_t_kept x_t_before x_t_findings x_t_shown x_t_worths x_t_steps x_t_bits x_t_longs x_t_cells x_t_between c_t_isKept c_t_most c_t_taped r3.2.1 r3.2.2.1 r3.2.2.2 r5 c_t_tape) := hD
      refine lv_iconst (v := (1 : Int32)) hx hb dX10_signTold_42 (by decide) ?_
      obtain rfl := Option.some.inj hF
      exact W.zret (ty := .boolean) hx hb hr rfl (fun t ht hW => ⟨⟨rfl, by rw [ht]; exact hP, hD⟩, hS.F ht⟩) hS.2.2 dX10_signTold_43
    · have hF := kp hF q4
      refine lv_iconst (v := (0 : Int32)) hx hb dX10_signTold_28 (by decide) ?_
      obtain rfl := Option.some.inj hF
      exact W.zret (ty := .boolean) hx hb hr rfl (fun t ht hW => ⟨⟨rfl, by rw [ht]; exact hP, hD⟩, hS.F ht⟩) hS.2.2 dX10_signTold_29
  · have hF := kp hF q2
    refine lv_iconst (v := (0 : Int32)) hx hb dX10_signTold_10 (by decide) ?_
    obtain rfl := Option.some.inj hF
    exact W.zret (ty := .boolean) hx hb hr rfl (fun t ht hW => ⟨⟨rfl, by rw [ht]; exact hP, hD⟩, hS.F ht⟩) hS.2.2 dX10_signTold_11
abbrev w_M_item (E : kE) (h_t : Nat) (h_t_s : Nat) (h_t_tape : Nat) (x_t_kept : Nat) (x_t_before : Nat) (x_t_findings : Nat) (x_t_shown : Nat) (x_t_worths : Nat) (x_t_steps : Nat) (x_t_bits : Nat) (x_t_longs : Nat) (x_t_cells : Nat) (x_t_between : Nat) (c_t_isKept : Int32) (c_t_most : Int32) (c_t_taped : Int32) (c_t_here : Int32) (c_t_fault : Int32) (c_t_value : Int32) (c_t_s : (Nat → Int32)) (c_t_tape : (Nat → Int32)) : va_W := [(h_t, .inr (8, [.ref h_t_s, .ref x_t_kept, .ref x_t_before, .int c_t_isKept, .ref x_t_findings, .ref x_t_shown, .int c_t_most, .ref x_t_worths, .ref x_t_steps, .ref h_t_tape, .int c_t_taped, .int c_t_here, .int c_t_fault, .int c_t_value, .ref x_t_bits, .ref x_t_longs, .ref x_t_cells, .ref x_t_between])), (h_t_s, .inl (eI E, 65, .inl c_t_s)), (h_t_tape, .inl (eI E, 120, .inl c_t_tape))]
set_option maxHeartbeats 4000000 in
set_option maxRecDepth 100000 in
theorem wk_M_item_b34 {p : Program} {l : Launch} {e : Env} {s : State} {m : MethodId} {args : Array Value} {below : List Frame} {meth : Method} {c : Code} {A : Nat → Prop} (E : kE) (h_t : Nat) (h_t_s : Nat) (h_t_tape : Nat) (x_t_kept : Nat) (x_t_before : Nat) (x_t_findings : Nat) (x_t_shown : Nat) (x_t_worths : Nat) (x_t_steps : Nat) (x_t_bits : Nat) (x_t_longs : Nat) (x_t_cells : Nat) (x_t_between : Nat) (c_t_isKept : Int32) (c_t_most : Int32) (c_t_taped : Int32) (c_t_tape : (Nat → Int32))  {out : Int32 × Int32 × Int32 × Int32 × (Nat → Int32)} (C : kC RX10 cX10_item 2 (some .boolean) p s m args meth c) (hA : ∀ q : Nat, s.heap.size ≤ q → A q) (hK : va_K (eD E) vwCl (eT E) s) (hT : sT E A s s.heap) (k2 : Int32 → Int32 → Int32 → (Nat → Int32) → Int32 → Option (Int32 × Int32 × Int32 × Int32 × (Nat → Int32))) (hk2 : ∀ (c_t_here : Int32) (c_t_fault : Int32) (c_t_value : Int32) (c_t_s : (Nat → Int32)) (v1 : Int32), k2 c_t_here c_t_fault c_t_value c_t_s v1 = some out → ∀ (H : Heap) (locs : List Loc), va_P (eD E) vwCl (w_M_item E h_t h_t_s h_t_tape x_t_kept x_t_before x_t_findings x_t_shown x_t_worths x_t_steps x_t_bits x_t_longs x_t_cells x_t_between c_t_isKept c_t_most c_t_taped c_t_here c_t_fault c_t_value c_t_s c_t_tape) H → va_D A (w_M_item E h_t h_t_s h_t_tape x_t_kept x_t_before x_t_findings x_t_shown x_t_worths x_t_steps x_t_bits x_t_longs x_t_cells x_t_between c_t_isKept c_t_most c_t_taped c_t_here c_t_fault c_t_value c_t_s c_t_tape) → va_S A s.heap H locs → ∀ (ls : Array Slot), lv_has ls 2 [(0, .ref h_t), (1, .int v1)] → W p l e (rm 10) s m args below meth c H locs 0 0 (MQ below (qW (some (.int out.1)) E (w_M_item E h_t h_t_s h_t_tape x_t_kept x_t_before x_t_findings x_t_shown x_t_worths x_t_steps x_t_bits x_t_longs x_t_cells x_t_between c_t_isKept c_t_most c_t_taped out.2.1 out.2.2.1 out.2.2.2.1 out.2.2.2.2 c_t_tape) A) args s 0 0 A) (F0 m 2 ls [])) :
    ∀ (c_t_here : Int32) (c_t_fault : Int32) (c_t_value : Int32) (c_t_s : (Nat → Int32)) (v1 : Int32), f_M_item_b34 k2 c_t_taped c_t_tape c_t_here c_t_fault c_t_value c_t_s v1 = some out → ∀ (H : Heap) (locs : List Loc), va_P (eD E) vwCl (w_M_item E h_t h_t_s h_t_tape x_t_kept x_t_before x_t_findings x_t_shown x_t_worths x_t_steps x_t_bits x_t_longs x_t_cells x_t_between c_t_isKept c_t_most c_t_taped c_t_here c_t_fault c_t_value c_t_s c_t_tape) H → va_D A (w_M_item E h_t h_t_s h_t_tape x_t_kept x_t_before x_t_findings x_t_shown x_t_worths x_t_steps x_t_bits x_t_longs x_t_cells x_t_between c_t_isKept c_t_most c_t_taped c_t_here c_t_fault c_t_value c_t_s c_t_tape) → va_S A s.heap H locs → ∀ (ls : Array Slot), lv_has ls 2 [(0, .ref h_t), (1, .int v1)] → W p l e (rm 10) s m args below meth c H locs 0 0 (MQ below (qW (some (.int out.1)) E (w_M_item E h_t h_t_s h_t_tape x_t_kept x_t_before x_t_findings x_t_shown x_t_worths x_t_steps x_t_bits x_t_longs x_t_cells x_t_between c_t_isKept c_t_most c_t_taped out.2.1 out.2.2.1 out.2.2.2.1 out.2.2.2.2 c_t_tape) A) args s 0 0 A) (F0 m 34 ls []) := by
  obtain ⟨hx, hb, hr, hml, hown, hw, hlocks⟩ := id C
  intro c_t_here c_t_fault c_t_value c_t_s v1 hF H locs hP hD hS ls hl
  rw [f_M_item_b34] at hF
  refine lv_aload_n hx hb dX10_item_34 rfl (lv_at hl 0 rfl) ?_
  refine lv_iload_n hx hb dX10_item_35 rfl (lv_at hl 1 rfl) ?_
  obtain ⟨r1, er1, hF⟩ := kb hF
  refine kRS (rest := [.ref h_t]) C (k_M_kindName l E v1 r1 er1) fn_M_kindName mw_1203 ⟨Nat.le_of_ble_eq_true rfl, Nat.le_of_ble_eq_true rfl⟩ hK hT hS hP [] rfl rfl rfl hl (Nat.le_of_ble_eq_true rfl) dX10_item_36 ?_
  obtain ⟨r2, er2, hF⟩ := kb hF
  refine kWV (rest := []) (Wr := [(h_t_s, .inl (eI E, 65, .inl c_t_s))]) (Wn := (w_M_item E h_t h_t_s h_t_tape x_t_kept x_t_before x_t_findings x_t_shown x_t_worths x_t_steps x_t_bits x_t_longs x_t_cells x_t_between c_t_isKept c_t_most c_t_taped r2.2 c_t_fault c_t_value c_t_s c_t_tape)) C (k_M_may l E h_t h_t_tape h_t_s x_t_kept x_t_before x_t_findings x_t_shown x_t_worths x_t_steps x_t_bits x_t_longs x_t_cells x_t_between H.size c_t_isKept c_t_most c_t_taped c_t_here c_t_fault c_t_value c_t_tape r1 r2 er2) fn_M_may mw_1237 ⟨Nat.le_of_ble_eq_true rfl, Nat.le_of_ble_eq_true rfl⟩ hK hT hS hA (va_recv hK hP (ci := 8) (q0 := 0) rfl rfl) hP hD [0, 2] rfl (by decide) [1] rfl (by decide) (by decide) [1, 0, 2] rfl (by decide) rfl rfl hl (Nat.le_of_ble_eq_true rfl) dX10_item_39 (fun H locs hP hD hS => ?_)
  refine W.eq (g2 := F0 m 42 ls [.int r2.1]) rfl ?_
  refine lv_if_eq (tgt := 51) hx hb dX10_item_42 (by decide) (fun q3 => ?_) (fun q3 => ?_)
  · have hF := kp hF q3
    refine lv_iinc (v := (v1 + (1))) (lv' := [(1, .int (v1 + (1))), (0, .ref h_t)]) hx hb dX10_item_51 hl (k := 1) rfl rfl (by decide) rfl (fun ls hl => ?_)
    refine lv_goto (tgt := 2) hx hb dX10_item_54 (by decide) ?_
    exact hk2 r2.2 c_t_fault c_t_value c_t_s (v1 + (1)) hF _ _ hP hD hS _ (lv_sub hl [1, 0] rfl)
  · have hF := kn hF q3
    refine lv_aload_n hx hb dX10_item_45 rfl (lv_at hl 0 rfl) ?_
    refine lv_iload_n hx hb dX10_item_46 rfl (lv_at hl 1 rfl) ?_
    obtain ⟨r4, er4, hF⟩ := kb hF
    refine kWV (rest := []) (Wr := []) (Wn := (w_M_item E h_t h_t_s h_t_tape x_t_kept x_t_before x_t_findings x_t_shown x_t_worths x_t_steps x_t_bits x_t_longs x_t_cells x_t_between c_t_isKept c_t_most c_t_taped r4.2.1 r4.2.2.1 r4.2.2.2.1 r4.2.2.2.2 c_t_tape)) C (k_M_letterTold l E h_t h_t_s h_t_tape x_t_kept x_t_before x_t_findings x_t_shown x_t_worths x_t_steps x_t_bits x_t_longs x_t_cells x_t_between H.size c_t_isKept c_t_most c_t_taped r2.2 c_t_fault c_t_value c_t_s c_t_tape v1 r4 er4) fn_M_letterTold mw_1241 ⟨Nat.le_of_ble_eq_true rfl, Nat.le_of_ble_eq_true rfl⟩ hK hT hS hA (va_recv hK hP (ci := 8) (q0 := 0) rfl rfl) hP hD [0, 1, 2] rfl (by decide) [] rfl (by decide) (by decide) [0, 1, 2] rfl (by decide) rfl rfl hl (Nat.le_of_ble_eq_true rfl) dX10_item_47 (fun H locs hP hD hS => ?_)
    refine W.eq (g2 := F0 m 50 ls [.int r4.1]) rfl ?_
    obtain ⟨b5, eb5, hF⟩ := kb hF
    obtain ⟨eeb5, hnb5⟩ := bl_some eb5
    subst eeb5
    obtain rfl := Option.some.inj hF
    exact W.zret (ty := .boolean) hx hb hr hnb5 (fun t ht hW => ⟨⟨rfl, by rw [ht]; exact hP, hD⟩, hS.F ht⟩) hS.2.2 dX10_item_50
set_option maxHeartbeats 4000000 in
set_option maxRecDepth 100000 in
theorem wk_M_item_b2 {p : Program} {l : Launch} {e : Env} {s : State} {m : MethodId} {args : Array Value} {below : List Frame} {meth : Method} {c : Code} {A : Nat → Prop} (E : kE) (h_t : Nat) (h_t_s : Nat) (h_t_tape : Nat) (x_t_kept : Nat) (x_t_before : Nat) (x_t_findings : Nat) (x_t_shown : Nat) (x_t_worths : Nat) (x_t_steps : Nat) (x_t_bits : Nat) (x_t_longs : Nat) (x_t_cells : Nat) (x_t_between : Nat) (c_t_isKept : Int32) (c_t_most : Int32) (c_t_taped : Int32) (c_t_tape : (Nat → Int32))  {out : Int32 × Int32 × Int32 × Int32 × (Nat → Int32)} (C : kC RX10 cX10_item 2 (some .boolean) p s m args meth c) (hA : ∀ q : Nat, s.heap.size ≤ q → A q) (hK : va_K (eD E) vwCl (eT E) s) (hT : sT E A s s.heap)  :
    ∀ (n : Nat), ∀ (c_t_here : Int32) (c_t_fault : Int32) (c_t_value : Int32) (c_t_s : (Nat → Int32)) (v1 : Int32), f_M_item_b2  c_t_taped c_t_tape n c_t_here c_t_fault c_t_value c_t_s v1 = some out → ∀ (H : Heap) (locs : List Loc), va_P (eD E) vwCl (w_M_item E h_t h_t_s h_t_tape x_t_kept x_t_before x_t_findings x_t_shown x_t_worths x_t_steps x_t_bits x_t_longs x_t_cells x_t_between c_t_isKept c_t_most c_t_taped c_t_here c_t_fault c_t_value c_t_s c_t_tape) H → va_D A (w_M_item E h_t h_t_s h_t_tape x_t_kept x_t_before x_t_findings x_t_shown x_t_worths x_t_steps x_t_bits x_t_longs x_t_cells x_t_between c_t_isKept c_t_most c_t_taped c_t_here c_t_fault c_t_value c_t_s c_t_tape) → va_S A s.heap H locs → ∀ (ls : Array Slot), lv_has ls 2 [(0, .ref h_t), (1, .int v1)] → W p l e (rm 10) s m args below meth c H locs 0 0 (MQ below (qW (some (.int out.1)) E (w_M_item E h_t h_t_s h_t_tape x_t_kept x_t_before x_t_findings x_t_shown x_t_worths x_t_steps x_t_bits x_t_longs x_t_cells x_t_between c_t_isKept c_t_most c_t_taped out.2.1 out.2.2.1 out.2.2.2.1 out.2.2.2.2 c_t_tape) A) args s 0 0 A) (F0 m 2 ls []) := by
  obtain ⟨hx, hb, hr, hml, hown, hw, hlocks⟩ := id C
  intro n
  induction n with
  | zero =>
    intro c_t_here c_t_fault c_t_value c_t_s v1 hF
    exact absurd (show (none : Option (Int32 × Int32 × Int32 × Int32 × (Nat → Int32))) = some out from hF) nofun
  | succ n ih =>
    intro c_t_here c_t_fault c_t_value c_t_s v1 hF H locs hP hD hS ls hl
    rw [f_M_item_b2] at hF
    refine lv_iload_n hx hb dX10_item_2 rfl (lv_at hl 1 rfl) ?_
    refine lv_iconst (v := (5 : Int32)) hx hb dX10_item_3 (by decide) ?_
    refine lv_icmp_gt (tgt := 57) hx hb dX10_item_4 (by decide) (fun q6 => ?_) (fun q6 => ?_)
    · have hF := kp hF q6
      refine lv_aload_n hx hb dX10_item_57 rfl (lv_at hl 0 rfl) ?_
      refine va_ldcSw (own := RX10) hx hb hown (sR_21 hT) dX10_item_58 ?_
      obtain ⟨r7, er7, hF⟩ := kb hF
      refine kWV (rest := []) (Wr := [(h_t_s, .inl (eI E, 65, .inl c_t_s))]) (Wn := (w_M_item E h_t h_t_s h_t_tape x_t_kept x_t_before x_t_findings x_t_shown x_t_worths x_t_steps x_t_bits x_t_longs x_t_cells x_t_between c_t_isKept c_t_most c_t_taped r7.2 c_t_fault c_t_value c_t_s c_t_tape)) C (k_M_may l E h_t h_t_tape h_t_s x_t_kept x_t_before x_t_findings x_t_shown x_t_worths x_t_steps x_t_bits x_t_longs x_t_cells x_t_between H.size c_t_isKept c_t_most c_t_taped c_t_here c_t_fault c_t_value c_t_tape 6 r7 er7) fn_M_may mw_1237 ⟨Nat.le_of_ble_eq_true rfl, Nat.le_of_ble_eq_true rfl⟩ hK hT hS hA (va_recv hK hP (ci := 8) (q0 := 0) rfl rfl) hP hD [0, 2] rfl (by decide) [1] rfl (by decide) (by decide) [1, 0, 2] rfl (by decide) rfl rfl hl (Nat.le_of_ble_eq_true rfl) dX10_item_61 (fun H locs hP hD hS => ?_)
      refine W.eq (g2 := F0 m 64 ls [.int r7.1]) rfl ?_
      refine lv_if_eq (tgt := 72) hx hb dX10_item_64 (by decide) (fun q8 => ?_) (fun q8 => ?_)
      · have hF := kp hF q8
        refine lv_aload_n hx hb dX10_item_72 rfl (lv_at hl 0 rfl) ?_
        refine va_ldcSw (own := RX10) hx hb hown (sR_22 hT) dX10_item_73 ?_
        obtain ⟨r9, er9, hF⟩ := kb hF
        refine kWV (rest := []) (Wr := [(h_t_s, .inl (eI E, 65, .inl c_t_s))]) (Wn := (w_M_item E h_t h_t_s h_t_tape x_t_kept x_t_before x_t_findings x_t_shown x_t_worths x_t_steps x_t_bits x_t_longs x_t_cells x_t_between c_t_isKept c_t_most c_t_taped r9.2.1 r9.2.2 c_t_value c_t_s c_t_tape)) C (k_M_must l E h_t h_t_tape h_t_s x_t_kept x_t_before x_t_findings x_t_shown x_t_worths x_t_steps x_t_bits x_t_longs x_t_cells x_t_between H.size c_t_isKept c_t_most c_t_taped r7.2 c_t_fault c_t_value c_t_tape 7 r9 er9) fn_M_must mw_1247 ⟨Nat.le_of_ble_eq_true rfl, Nat.le_of_ble_eq_true rfl⟩ hK hT hS hA (va_recv hK hP (ci := 8) (q0 := 0) rfl rfl) hP hD [0, 2] rfl (by decide) [1] rfl (by decide) (by decide) [1, 0, 2] rfl (by decide) rfl rfl hl (Nat.le_of_ble_eq_true rfl) dX10_item_76 (fun H locs hP hD hS => ?_)
        refine W.eq (g2 := F0 m 79 ls [.int r9.1]) rfl ?_
        refine lv_if_eq (tgt := 93) hx hb dX10_item_79 (by decide) (fun q10 => ?_) (fun q10 => ?_)
        · have hF := kp hF q10
          refine lv_iconst (v := (0 : Int32)) hx hb dX10_item_93 (by decide) ?_
          obtain rfl := Option.some.inj hF
          exact W.zret (ty := .boolean) hx hb hr rfl (fun t ht hW => ⟨⟨rfl, by rw [ht]; exact hP, hD⟩, hS.F ht⟩) hS.2.2 dX10_item_94
        · have hF := kn hF q10
          refine lv_aload_n hx hb dX10_item_82 rfl (lv_at hl 0 rfl) ?_
          refine lv_iconst (v := (0 : Int32)) hx hb dX10_item_83 (by decide) ?_
          refine lv_sipush (v := (4095 : Int32)) hx hb dX10_item_84 (by decide) ?_
          obtain ⟨r11, er11, hF⟩ := kb hF
          refine kWV (rest := []) (Wr := [(h_t_s, .inl (eI E, 65, .inl c_t_s))]) (Wn := (w_M_item E h_t h_t_s h_t_tape x_t_kept x_t_before x_t_findings x_t_shown x_t_worths x_t_steps x_t_bits x_t_longs x_t_cells x_t_between c_t_isKept c_t_most c_t_taped r11.2.1 r11.2.2.1 r11.2.2.2 c_t_s c_t_tape)) C (k_M_number l E h_t h_t_tape h_t_s x_t_kept x_t_before x_t_findings x_t_shown x_t_worths x_t_steps x_t_bits x_t_longs x_t_cells x_t_between H.size c_t_isKept c_t_most c_t_taped r9.2.1 r9.2.2 c_t_value c_t_tape (0 : Int32) (4095 : Int32) r11 er11) fn_M_number mw_1251 ⟨Nat.le_of_ble_eq_true rfl, Nat.le_of_ble_eq_true rfl⟩ hK hT hS hA (va_recv hK hP (ci := 8) (q0 := 0) rfl rfl) hP hD [0, 2] rfl (by decide) [1] rfl (by decide) (by decide) [1, 0, 2] rfl (by decide) rfl rfl hl (Nat.le_of_ble_eq_true rfl) dX10_item_87 (fun H locs hP hD hS => ?_)
          refine W.eq (g2 := F0 m 90 ls [.int r11.1]) rfl ?_
          refine lv_if_ne (tgt := 95) hx hb dX10_item_90 (by decide) (fun q12 => ?_) (fun q12 => ?_)
          · have hF := kn hF q12
            refine lv_aload_n hx hb dX10_item_95 rfl (lv_at hl 0 rfl) ?_
            refine va_get (D := eD E) (ci := 8) (C := RX10) (T := TX10) (N := 18) (v := .ref h_t_s) hx hb hw inX10 hown hK hP 0 rfl rfl 0 (by decide) (hw _ mw_881) (fun _ h9 => h9) rfl dX10_item_96 ?_
            refine lv_iconst (v := (1 : Int32)) hx hb dX10_item_99 (by decide) ?_
            refine lv_aload_n hx hb dX10_item_100 rfl (lv_at hl 0 rfl) ?_
            refine va_get (D := eD E) (ci := 8) (C := RX10) (T := TX10) (N := 18) (v := .int r11.2.2.2) hx hb hw inX10 hown hK hP 0 rfl rfl 13 (by decide) (hw _ mw_894) (fun _ h9 => h9) rfl dX10_item_101 ?_
            obtain ⟨r13, er13, hF⟩ := kb hF
            refine wa_iast hx hb hK hP hD hS 1 0 rfl rfl er13 dX10_item_104 (fun H locs hP hD hS => ?_)
            have hP : va_P (eD E) vwCl (w_M_item E h_t h_t_s h_t_tape x_t_kept x_t_before x_t_findings x_t_shown x_t_worths x_t_steps x_t_bits x_t_longs x_t_cells x_t_between c_t_isKept c_t_most c_t_taped r11.2.1 r11.2.2.1 r11.2.2.2 r13 c_t_tape) H := hP
            have hD : va_D A (w_M_item E h_t h_t_s h_t_tape x_t_kept x_t_before x_t_findings x_t_shown x_t_worths x_t_steps x_t_bits x_t_longs x_t_cells x_t_between c_t_isKept c_t_most c_t_taped r11.2.1 r11.2.2.1 r11.2.2.2 r13 c_t_tape) := hD
            refine lv_iconst (v := (1 : Int32)) hx hb dX10_item_105 (by decide) ?_
            obtain rfl := Option.some.inj hF
            exact W.zret (ty := .boolean) hx hb hr rfl (fun t ht hW => ⟨⟨rfl, by rw [ht]; exact hP, hD⟩, hS.F ht⟩) hS.2.2 dX10_item_106
          · have hF := kp hF q12
            refine lv_iconst (v := (0 : Int32)) hx hb dX10_item_93 (by decide) ?_
            obtain rfl := Option.some.inj hF
            exact W.zret (ty := .boolean) hx hb hr rfl (fun t ht hW => ⟨⟨rfl, by rw [ht]; exact hP, hD⟩, hS.F ht⟩) hS.2.2 dX10_item_94
      · have hF := kn hF q8
        refine lv_aload_n hx hb dX10_item_67 rfl (lv_at hl 0 rfl) ?_
        obtain ⟨r14, er14, hF⟩ := kb hF
        refine kWV (rest := []) (Wr := []) (Wn := (w_M_item E h_t h_t_s h_t_tape x_t_kept x_t_before x_t_findings x_t_shown x_t_worths x_t_steps x_t_bits x_t_longs x_t_cells x_t_between c_t_isKept c_t_most c_t_taped r14.2.1 r14.2.2.1 r14.2.2.2.1 r14.2.2.2.2 c_t_tape)) C (k_M_signTold l E h_t h_t_s h_t_tape x_t_kept x_t_before x_t_findings x_t_shown x_t_worths x_t_steps x_t_bits x_t_longs x_t_cells x_t_between H.size c_t_isKept c_t_most c_t_taped r7.2 c_t_fault c_t_value c_t_s c_t_tape r14 er14) fn_M_signTold mw_1266 ⟨Nat.le_of_ble_eq_true rfl, Nat.le_of_ble_eq_true rfl⟩ hK hT hS hA (va_recv hK hP (ci := 8) (q0 := 0) rfl rfl) hP hD [0, 1, 2] rfl (by decide) [] rfl (by decide) (by decide) [0, 1, 2] rfl (by decide) rfl rfl hl (Nat.le_of_ble_eq_true rfl) dX10_item_68 (fun H locs hP hD hS => ?_)
        refine W.eq (g2 := F0 m 71 ls [.int r14.1]) rfl ?_
        obtain ⟨b15, eb15, hF⟩ := kb hF
        obtain ⟨eeb15, hnb15⟩ := bl_some eb15
        subst eeb15
        obtain rfl := Option.some.inj hF
        exact W.zret (ty := .boolean) hx hb hr hnb15 (fun t ht hW => ⟨⟨rfl, by rw [ht]; exact hP, hD⟩, hS.F ht⟩) hS.2.2 dX10_item_71
    · have hF := kn hF q6
      refine lv_aload_n hx hb dX10_item_7 rfl (lv_at hl 0 rfl) ?_
      refine lv_iload_n hx hb dX10_item_8 rfl (lv_at hl 1 rfl) ?_
      obtain ⟨r16, er16, hF⟩ := kb hF
      refine kRS (rest := [.ref h_t]) C (k_M_kindName l E v1 r16 er16) fn_M_kindName mw_1203 ⟨Nat.le_of_ble_eq_true rfl, Nat.le_of_ble_eq_true rfl⟩ hK hT hS hP [] rfl rfl rfl hl (Nat.le_of_ble_eq_true rfl) dX10_item_9 ?_
      obtain ⟨r17, er17, hF⟩ := kb hF
      refine kWV (rest := []) (Wr := [(h_t_s, .inl (eI E, 65, .inl c_t_s))]) (Wn := (w_M_item E h_t h_t_s h_t_tape x_t_kept x_t_before x_t_findings x_t_shown x_t_worths x_t_steps x_t_bits x_t_longs x_t_cells x_t_between c_t_isKept c_t_most c_t_taped r17.2 c_t_fault c_t_value c_t_s c_t_tape)) C (k_M_isWord l E h_t h_t_tape h_t_s x_t_kept x_t_before x_t_findings x_t_shown x_t_worths x_t_steps x_t_bits x_t_longs x_t_cells x_t_between H.size c_t_isKept c_t_most c_t_taped c_t_here c_t_fault c_t_value c_t_tape r16 r17 er17) fn_M_isWord mw_1212 ⟨Nat.le_of_ble_eq_true rfl, Nat.le_of_ble_eq_true rfl⟩ hK hT hS hA (va_recv hK hP (ci := 8) (q0 := 0) rfl rfl) hP hD [0, 2] rfl (by decide) [1] rfl (by decide) (by decide) [1, 0, 2] rfl (by decide) rfl rfl hl (Nat.le_of_ble_eq_true rfl) dX10_item_12 (fun H locs hP hD hS => ?_)
      refine W.eq (g2 := F0 m 15 ls [.int r17.1]) rfl ?_
      refine lv_if_eq (tgt := 34) hx hb dX10_item_15 (by decide) (fun q18 => ?_) (fun q18 => ?_)
      · have hF := kp hF q18
        exact wk_M_item_b34 E h_t h_t_s h_t_tape x_t_kept x_t_before x_t_findings x_t_shown x_t_worths x_t_steps x_t_bits x_t_longs x_t_cells x_t_between c_t_isKept c_t_most c_t_taped c_t_tape  C hA  hK hT (f_M_item_b2  c_t_taped c_t_tape n) ih r17.2 c_t_fault c_t_value c_t_s v1 hF _ _ hP hD hS _ (lv_sub hl [0, 1] rfl)
      · have hF := kn hF q18
        refine lv_aload_n hx hb dX10_item_18 rfl (lv_at hl 0 rfl) ?_
        refine va_get (D := eD E) (ci := 8) (C := RX10) (T := TX10) (N := 18) (v := .ref h_t_s) hx hb hw inX10 hown hK hP 0 rfl rfl 0 (by decide) (hw _ mw_881) (fun _ h9 => h9) rfl dX10_item_19 ?_
        refine lv_iconst (v := (2 : Int32)) hx hb dX10_item_22 (by decide) ?_
        obtain ⟨r19, er19, hF⟩ := kb hF
        refine wa_iald hx hb hK hP 1 0 rfl rfl er19 dX10_item_23 ?_
        refine lv_bipush (v := (12 : Int32)) hx hb dX10_item_24 (by decide) ?_
        refine lv_icmp_ne (tgt := 34) hx hb dX10_item_26 (by decide) (fun q20 => ?_) (fun q20 => ?_)
        · have hF := kn hF q20
          exact wk_M_item_b34 E h_t h_t_s h_t_tape x_t_kept x_t_before x_t_findings x_t_shown x_t_worths x_t_steps x_t_bits x_t_longs x_t_cells x_t_between c_t_isKept c_t_most c_t_taped c_t_tape  C hA  hK hT (f_M_item_b2  c_t_taped c_t_tape n) ih r17.2 c_t_fault c_t_value c_t_s v1 hF _ _ hP hD hS _ (lv_sub hl [0, 1] rfl)
        · have hF := kp hF q20
          refine lv_aload_n hx hb dX10_item_29 rfl (lv_at hl 0 rfl) ?_
          obtain ⟨r21, er21, hF⟩ := kb hF
          refine kWV (rest := []) (Wr := [(h_t_s, .inl (eI E, 65, .inl c_t_s)), (h_t_tape, .inl (eI E, 120, .inl c_t_tape))]) (Wn := (w_M_item E h_t h_t_s h_t_tape x_t_kept x_t_before x_t_findings x_t_shown x_t_worths x_t_steps x_t_bits x_t_longs x_t_cells x_t_between c_t_isKept c_t_most c_t_taped r17.2 r21.2 c_t_value c_t_s c_t_tape)) C (k_M_fails l E h_t h_t_s x_t_kept x_t_before x_t_findings x_t_shown x_t_worths x_t_steps h_t_tape x_t_bits x_t_longs x_t_cells x_t_between H.size c_t_isKept c_t_most c_t_taped r17.2 c_t_fault c_t_value r21 er21) fn_M_fails mw_1233 ⟨Nat.le_of_ble_eq_true rfl, Nat.le_of_ble_eq_true rfl⟩ hK hT hS hA (va_recv hK hP (ci := 8) (q0 := 0) rfl rfl) hP hD [0] rfl (by decide) [1, 2] rfl (by decide) (by decide) [2, 0, 1] rfl (by decide) rfl rfl hl (Nat.le_of_ble_eq_true rfl) dX10_item_30 (fun H locs hP hD hS => ?_)
          refine W.eq (g2 := F0 m 33 ls [.int r21.1]) rfl ?_
          obtain ⟨b22, eb22, hF⟩ := kb hF
          obtain ⟨eeb22, hnb22⟩ := bl_some eb22
          subst eeb22
          obtain rfl := Option.some.inj hF
          exact W.zret (ty := .boolean) hx hb hr hnb22 (fun t ht hW => ⟨⟨rfl, by rw [ht]; exact hP, hD⟩, hS.F ht⟩) hS.2.2 dX10_item_33
set_option maxHeartbeats 4000000 in
set_option maxRecDepth 100000 in
theorem k_M_item (l : Launch) (E : kE) (h_t : Nat) (h_t_s : Nat) (h_t_tape : Nat) (x_t_kept : Nat) (x_t_before : Nat) (x_t_findings : Nat) (x_t_shown : Nat) (x_t_worths : Nat) (x_t_steps : Nat) (x_t_bits : Nat) (x_t_longs : Nat) (x_t_cells : Nat) (x_t_between : Nat) (sz : Nat) (c_t_isKept : Int32) (c_t_most : Int32) (c_t_taped : Int32) (c_t_here : Int32) (c_t_fault : Int32) (c_t_value : Int32) (c_t_s : (Nat → Int32)) (c_t_tape : (Nat → Int32))  (out : Int32 × Int32 × Int32 × Int32 × (Nat → Int32)) (hF : f_M_item c_t_taped c_t_here c_t_fault c_t_value c_t_s c_t_tape  = some out) : Met l yX10_item (Cond.code yX10_item cX10_item 2 (some .boolean) :: wG) (rm 10) (pW E (w_M_item E h_t h_t_s h_t_tape x_t_kept x_t_before x_t_findings x_t_shown x_t_worths x_t_steps x_t_bits x_t_longs x_t_cells x_t_between c_t_isKept c_t_most c_t_taped c_t_here c_t_fault c_t_value c_t_s c_t_tape) sz [.ref h_t]) (qW (some (.int out.1)) E (w_M_item E h_t h_t_s h_t_tape x_t_kept x_t_before x_t_findings x_t_shown x_t_worths x_t_steps x_t_bits x_t_longs x_t_cells x_t_between c_t_isKept c_t_most c_t_taped out.2.1 out.2.2.1 out.2.2.2.1 out.2.2.2.2 c_t_tape) (va_A (w_M_item E h_t h_t_s h_t_tape x_t_kept x_t_before x_t_findings x_t_shown x_t_worths x_t_steps x_t_bits x_t_longs x_t_cells x_t_between c_t_isKept c_t_most c_t_taped c_t_here c_t_fault c_t_value c_t_s c_t_tape) sz)) 0 0 (va_A (w_M_item E h_t h_t_s h_t_tape x_t_kept x_t_before x_t_findings x_t_shown x_t_worths x_t_steps x_t_bits x_t_longs x_t_cells x_t_between c_t_isKept c_t_most c_t_taped c_t_here c_t_fault c_t_value c_t_s c_t_tape) sz) := by
  refine met_W (by decide) (Nat.le_of_ble_eq_true rfl) ?_
  intro p e s m args below meth c A ls C hP hD hS hA hK hT hl
  obtain ⟨hx, hb, hr, hml, hown, hw, hlocks⟩ := id C
  have hl : lv_has ls 2 [(0, .ref h_t)] := hl
  rw [f_M_item] at hF
  refine lv_iconst (v := (0 : Int32)) hx hb dX10_item_0 (by decide) ?_
  refine lv_istore_n (lv' := [(1, .int (0 : Int32)), (0, .ref h_t)]) hx hb dX10_item_1 rfl hl (by decide) rfl (fun ls hl => ?_)
  exact wk_M_item_b2 E h_t h_t_s h_t_tape x_t_kept x_t_before x_t_findings x_t_shown x_t_worths x_t_steps x_t_bits x_t_longs x_t_cells x_t_between c_t_isKept c_t_most c_t_taped c_t_tape  C hA  hK hT  5000 c_t_here c_t_fault c_t_value c_t_s (0 : Int32) hF _ _ hP hD hS _ (lv_sub hl [1, 0] rfl)
abbrev w_M_field (E : kE) (h_t : Nat) (h_t_before : Nat) (h_t_s : Nat) (h_t_tape : Nat) (x_t_kept : Nat) (x_t_findings : Nat) (x_t_shown : Nat) (x_t_worths : Nat) (x_t_steps : Nat) (x_t_bits : Nat) (x_t_longs : Nat) (x_t_cells : Nat) (x_t_between : Nat) (c_t_isKept : Int32) (c_t_most : Int32) (c_t_taped : Int32) (c_t_here : Int32) (c_t_fault : Int32) (c_t_value : Int32) (c_t_before : (Nat → Int32)) (c_t_s : (Nat → Int32)) (c_t_tape : (Nat → Int32)) : va_W := [(h_t, .inr (8, [.ref h_t_s, .ref x_t_kept, .ref h_t_before, .int c_t_isKept, .ref x_t_findings, .ref x_t_shown, .int c_t_most, .ref x_t_worths, .ref x_t_steps, .ref h_t_tape, .int c_t_taped, .int c_t_here, .int c_t_fault, .int c_t_value, .ref x_t_bits, .ref x_t_longs, .ref x_t_cells, .ref x_t_between])), (h_t_before, .inl (eI E, 65, .inl c_t_before)), (h_t_s, .inl (eI E, 65, .inl c_t_s)), (h_t_tape, .inl (eI E, 120, .inl c_t_tape))]
set_option maxHeartbeats 4000000 in
set_option maxRecDepth 100000 in
theorem wk_M_field_b106 {p : Program} {l : Launch} {e : Env} {s : State} {m : MethodId} {args : Array Value} {below : List Frame} {meth : Method} {c : Code} {A : Nat → Prop} (E : kE) (h_t : Nat) (h_t_before : Nat) (h_t_s : Nat) (h_t_tape : Nat) (x_t_kept : Nat) (x_t_findings : Nat) (x_t_shown : Nat) (x_t_worths : Nat) (x_t_steps : Nat) (x_t_bits : Nat) (x_t_longs : Nat) (x_t_cells : Nat) (x_t_between : Nat) (c_t_isKept : Int32) (c_t_most : Int32) (c_t_tape : (Nat → Int32))  {out : Int32 × Int32 × Int32 × Int32 × Int32 × (Nat → Int32) × (Nat → Int32)} (C : kC RX10 cX10_field 3 (some .int) p s m args meth c) (hA : ∀ q : Nat, s.heap.size ≤ q → A q) (hK : va_K (eD E) vwCl (eT E) s) (hT : sT E A s s.heap)  :
    ∀ (c_t_taped : Int32) (c_t_here : Int32) (c_t_fault : Int32) (c_t_value : Int32) (c_t_before : (Nat → Int32)) (c_t_s : (Nat → Int32)) (v1 : Int32), f_M_field_b106  c_t_tape c_t_taped c_t_here c_t_fault c_t_value c_t_before c_t_s v1 = some out → ∀ (H : Heap) (locs : List Loc), va_P (eD E) vwCl (w_M_field E h_t h_t_before h_t_s h_t_tape x_t_kept x_t_findings x_t_shown x_t_worths x_t_steps x_t_bits x_t_longs x_t_cells x_t_between c_t_isKept c_t_most c_t_taped c_t_here c_t_fault c_t_value c_t_before c_t_s c_t_tape) H → va_D A (w_M_field E h_t h_t_before h_t_s h_t_tape x_t_kept x_t_findings x_t_shown x_t_worths x_t_steps x_t_bits x_t_longs x_t_cells x_t_between c_t_isKept c_t_most c_t_taped c_t_here c_t_fault c_t_value c_t_before c_t_s c_t_tape) → va_S A s.heap H locs → ∀ (ls : Array Slot), lv_has ls 3 [(0, .ref h_t), (1, .int v1)] → W p l e (rm 11) s m args below meth c H locs 0 0 (MQ below (qW (some (.int out.1)) E (w_M_field E h_t h_t_before h_t_s h_t_tape x_t_kept x_t_findings x_t_shown x_t_worths x_t_steps x_t_bits x_t_longs x_t_cells x_t_between c_t_isKept c_t_most out.2.1 out.2.2.1 out.2.2.2.1 out.2.2.2.2.1 out.2.2.2.2.2.1 out.2.2.2.2.2.2 c_t_tape) A) args s 0 0 A) (F0 m 106 ls []) := by
  obtain ⟨hx, hb, hr, hml, hown, hw, hlocks⟩ := id C
  intro c_t_taped c_t_here c_t_fault c_t_value c_t_before c_t_s v1 hF H locs hP hD hS ls hl
  rw [f_M_field_b106] at hF
  refine lv_aload_n hx hb dX10_field_106 rfl (lv_at hl 0 rfl) ?_
  refine lv_iconst (v := (0 : Int32)) hx hb dX10_field_107 (by decide) ?_
  refine va_put (D := eD E) (ci := 8) (v := .int (0 : Int32)) (ty := .int) (C := RX10) (T := TX10) (N := 18) hx hb hw inX10 tyX10 tyX10_ok nmX10 hown hK hP hD hS 0 rfl rfl 10 (by decide) (hw _ mw_891) (fun _ h9 => h9) rfl (by decide +kernel) rfl rfl (Nat.le_of_ble_eq_true rfl) dX10_field_108 (fun H locs hP hD hS => ?_)
  have hP : va_P (eD E) vwCl (w_M_field E h_t h_t_before h_t_s h_t_tape x_t_kept x_t_findings x_t_shown x_t_worths x_t_steps x_t_bits x_t_longs x_t_cells x_t_between c_t_isKept c_t_most (0 : Int32) c_t_here c_t_fault c_t_value c_t_before c_t_s c_t_tape) H := hP
  have hD : va_D A (w_M_field E h_t h_t_before h_t_s h_t_tape x_t_kept x_t_findings x_t_shown x_t_worths x_t_steps x_t_bits x_t_longs x_t_cells x_t_between c_t_isKept c_t_most (0 : Int32) c_t_here c_t_fault c_t_value c_t_before c_t_s c_t_tape) := hD
  refine lv_aload_n hx hb dX10_field_111 rfl (lv_at hl 0 rfl) ?_
  refine va_get (D := eD E) (ci := 8) (C := RX10) (T := TX10) (N := 18) (v := .int c_t_fault) hx hb hw inX10 hown hK hP 0 rfl rfl 12 (by decide) (hw _ mw_893) (fun _ h9 => h9) rfl dX10_field_112 ?_
  refine lv_if_lt (tgt := 136) hx hb dX10_field_115 (by decide) (fun q1 => ?_) (fun q1 => ?_)
  · have hF := kp hF q1
    refine lv_iload_n hx hb dX10_field_136 rfl (lv_at hl 1 rfl) ?_
    obtain rfl := Option.some.inj hF
    exact W.iret hx hb hr (fun t ht hW => ⟨⟨rfl, by rw [ht]; exact hP, hD⟩, hS.F ht⟩) hS.2.2 dX10_field_137
  · have hF := kn hF q1
    refine lv_aload_n hx hb dX10_field_118 rfl (lv_at hl 0 rfl) ?_
    refine va_get (D := eD E) (ci := 8) (C := RX10) (T := TX10) (N := 18) (v := .ref h_t_before) hx hb hw inX10 hown hK hP 0 rfl rfl 2 (by decide) (hw _ mw_883) (fun _ h9 => h9) rfl dX10_field_119 ?_
    refine lv_aload_n hx hb dX10_field_122 rfl (lv_at hl 0 rfl) ?_
    refine va_get (D := eD E) (ci := 8) (C := RX10) (T := TX10) (N := 18) (v := .ref h_t_s) hx hb hw inX10 hown hK hP 0 rfl rfl 0 (by decide) (hw _ mw_881) (fun _ h9 => h9) rfl dX10_field_123 ?_
    obtain ⟨r2, er2, hF⟩ := kb hF
    refine kWS (rest := []) (Wr := [(h_t, .inr (8, [.ref h_t_s, .ref x_t_kept, .ref h_t_before, .int c_t_isKept, .ref x_t_findings, .ref x_t_shown, .int c_t_most, .ref x_t_worths, .ref x_t_steps, .ref h_t_tape, .int (0 : Int32), .int c_t_here, .int c_t_fault, .int c_t_value, .ref x_t_bits, .ref x_t_longs, .ref x_t_cells, .ref x_t_between])), (h_t_tape, .inl (eI E, 120, .inl c_t_tape))]) (Wn := (w_M_field E h_t h_t_before h_t_s h_t_tape x_t_kept x_t_findings x_t_shown x_t_worths x_t_steps x_t_bits x_t_longs x_t_cells x_t_between c_t_isKept c_t_most (0 : Int32) c_t_here c_t_fault c_t_value c_t_before r2 c_t_tape)) C (k_M_lay l E h_t_before h_t_s H.size c_t_before c_t_s r2 er2) fn_M_lay mw_1196 ⟨Nat.le_of_ble_eq_true rfl, Nat.le_of_ble_eq_true rfl⟩ hK hT hS hA hP hD [1, 2] rfl (by decide) [0, 3] rfl (by decide) (by decide) [0, 2, 3, 1] rfl (by decide) rfl rfl hl (Nat.le_of_ble_eq_true rfl) dX10_field_126 (fun H locs hP hD hS => ?_)
    refine W.eq (g2 := F0 m 129 ls []) rfl ?_
    refine lv_iconst (v := (-1 : Int32)) hx hb dX10_field_129 (by decide) ?_
    refine lv_aload_n hx hb dX10_field_130 rfl (lv_at hl 0 rfl) ?_
    refine va_get (D := eD E) (ci := 8) (C := RX10) (T := TX10) (N := 18) (v := .int c_t_fault) hx hb hw inX10 hown hK hP 0 rfl rfl 12 (by decide) (hw _ mw_893) (fun _ h9 => h9) rfl dX10_field_131 ?_
    refine lv_isub hx hb dX10_field_134 ?_
    obtain rfl := Option.some.inj hF
    exact W.iret hx hb hr (fun t ht hW => ⟨⟨rfl, by rw [ht]; exact hP, hD⟩, hS.F ht⟩) hS.2.2 dX10_field_135
set_option maxHeartbeats 4000000 in
set_option maxRecDepth 100000 in
theorem wk_M_field_b83 {p : Program} {l : Launch} {e : Env} {s : State} {m : MethodId} {args : Array Value} {below : List Frame} {meth : Method} {c : Code} {A : Nat → Prop} (E : kE) (h_t : Nat) (h_t_before : Nat) (h_t_s : Nat) (h_t_tape : Nat) (x_t_kept : Nat) (x_t_findings : Nat) (x_t_shown : Nat) (x_t_worths : Nat) (x_t_steps : Nat) (x_t_bits : Nat) (x_t_longs : Nat) (x_t_cells : Nat) (x_t_between : Nat) (c_t_isKept : Int32) (c_t_most : Int32) (c_t_tape : (Nat → Int32))  {out : Int32 × Int32 × Int32 × Int32 × Int32 × (Nat → Int32) × (Nat → Int32)} (C : kC RX10 cX10_field 3 (some .int) p s m args meth c) (hA : ∀ q : Nat, s.heap.size ≤ q → A q) (hK : va_K (eD E) vwCl (eT E) s) (hT : sT E A s s.heap)  :
    ∀ (c_t_taped : Int32) (c_t_here : Int32) (c_t_fault : Int32) (c_t_value : Int32) (c_t_before : (Nat → Int32)) (c_t_s : (Nat → Int32)) (v1 : Int32), f_M_field_b83  c_t_tape c_t_taped c_t_here c_t_fault c_t_value c_t_before c_t_s v1 = some out → ∀ (H : Heap) (locs : List Loc), va_P (eD E) vwCl (w_M_field E h_t h_t_before h_t_s h_t_tape x_t_kept x_t_findings x_t_shown x_t_worths x_t_steps x_t_bits x_t_longs x_t_cells x_t_between c_t_isKept c_t_most c_t_taped c_t_here c_t_fault c_t_value c_t_before c_t_s c_t_tape) H → va_D A (w_M_field E h_t h_t_before h_t_s h_t_tape x_t_kept x_t_findings x_t_shown x_t_worths x_t_steps x_t_bits x_t_longs x_t_cells x_t_between c_t_isKept c_t_most c_t_taped c_t_here c_t_fault c_t_value c_t_before c_t_s c_t_tape) → va_S A s.heap H locs → ∀ (ls : Array Slot), lv_has ls 3 [(0, .ref h_t), (1, .int v1)] → W p l e (rm 11) s m args below meth c H locs 0 0 (MQ below (qW (some (.int out.1)) E (w_M_field E h_t h_t_before h_t_s h_t_tape x_t_kept x_t_findings x_t_shown x_t_worths x_t_steps x_t_bits x_t_longs x_t_cells x_t_between c_t_isKept c_t_most out.2.1 out.2.2.1 out.2.2.2.1 out.2.2.2.2.1 out.2.2.2.2.2.1 out.2.2.2.2.2.2 c_t_tape) A) args s 0 0 A) (F0 m 83 ls []) := by
  obtain ⟨hx, hb, hr, hml, hown, hw, hlocks⟩ := id C
  intro c_t_taped c_t_here c_t_fault c_t_value c_t_before c_t_s v1 hF H locs hP hD hS ls hl
  rw [f_M_field_b83] at hF
  refine lv_aload_n hx hb dX10_field_83 rfl (lv_at hl 0 rfl) ?_
  refine va_get (D := eD E) (ci := 8) (C := RX10) (T := TX10) (N := 18) (v := .int c_t_fault) hx hb hw inX10 hown hK hP 0 rfl rfl 12 (by decide) (hw _ mw_893) (fun _ h9 => h9) rfl dX10_field_84 ?_
  refine lv_if_ge (tgt := 106) hx hb dX10_field_87 (by decide) (fun q3 => ?_) (fun q3 => ?_)
  · have hF := kp hF q3
    exact wk_M_field_b106 E h_t h_t_before h_t_s h_t_tape x_t_kept x_t_findings x_t_shown x_t_worths x_t_steps x_t_bits x_t_longs x_t_cells x_t_between c_t_isKept c_t_most c_t_tape  C hA  hK hT  c_t_taped c_t_here c_t_fault c_t_value c_t_before c_t_s v1 hF _ _ hP hD hS _ (lv_sub hl [0, 1] rfl)
  · have hF := kn hF q3
    refine lv_aload_n hx hb dX10_field_90 rfl (lv_at hl 0 rfl) ?_
    refine va_get (D := eD E) (ci := 8) (C := RX10) (T := TX10) (N := 18) (v := .int c_t_here) hx hb hw inX10 hown hK hP 0 rfl rfl 11 (by decide) (hw _ mw_892) (fun _ h9 => h9) rfl dX10_field_91 ?_
    refine lv_aload_n hx hb dX10_field_94 rfl (lv_at hl 0 rfl) ?_
    refine va_get (D := eD E) (ci := 8) (C := RX10) (T := TX10) (N := 18) (v := .int c_t_taped) hx hb hw inX10 hown hK hP 0 rfl rfl 10 (by decide) (hw _ mw_891) (fun _ h9 => h9) rfl dX10_field_95 ?_
    refine lv_icmp_ge (tgt := 106) hx hb dX10_field_98 (by decide) (fun q4 => ?_) (fun q4 => ?_)
    · have hF := kp hF q4
      exact wk_M_field_b106 E h_t h_t_before h_t_s h_t_tape x_t_kept x_t_findings x_t_shown x_t_worths x_t_steps x_t_bits x_t_longs x_t_cells x_t_between c_t_isKept c_t_most c_t_tape  C hA  hK hT  c_t_taped c_t_here c_t_fault c_t_value c_t_before c_t_s v1 hF _ _ hP hD hS _ (lv_sub hl [0, 1] rfl)
    · have hF := kn hF q4
      refine lv_aload_n hx hb dX10_field_101 rfl (lv_at hl 0 rfl) ?_
      obtain ⟨r5, er5, hF⟩ := kb hF
      refine kWV (rest := []) (Wr := [(h_t_before, .inl (eI E, 65, .inl c_t_before)), (h_t_s, .inl (eI E, 65, .inl c_t_s)), (h_t_tape, .inl (eI E, 120, .inl c_t_tape))]) (Wn := (w_M_field E h_t h_t_before h_t_s h_t_tape x_t_kept x_t_findings x_t_shown x_t_worths x_t_steps x_t_bits x_t_longs x_t_cells x_t_between c_t_isKept c_t_most c_t_taped c_t_here r5.2 c_t_value c_t_before c_t_s c_t_tape)) C (k_M_fails l E h_t h_t_s x_t_kept h_t_before x_t_findings x_t_shown x_t_worths x_t_steps h_t_tape x_t_bits x_t_longs x_t_cells x_t_between H.size c_t_isKept c_t_most c_t_taped c_t_here c_t_fault c_t_value r5 er5) fn_M_fails mw_1233 ⟨Nat.le_of_ble_eq_true rfl, Nat.le_of_ble_eq_true rfl⟩ hK hT hS hA (va_recv hK hP (ci := 8) (q0 := 0) rfl rfl) hP hD [0] rfl (by decide) [1, 2, 3] rfl (by decide) (by decide) [3, 0, 1, 2] rfl (by decide) rfl rfl hl (Nat.le_of_ble_eq_true rfl) dX10_field_102 (fun H locs hP hD hS => ?_)
      refine W.eq (g2 := F0 m 105 ls [.int r5.1]) rfl ?_
      refine lv_pop hx hb dX10_field_105 rfl ?_
      exact wk_M_field_b106 E h_t h_t_before h_t_s h_t_tape x_t_kept x_t_findings x_t_shown x_t_worths x_t_steps x_t_bits x_t_longs x_t_cells x_t_between c_t_isKept c_t_most c_t_tape  C hA  hK hT  c_t_taped c_t_here r5.2 c_t_value c_t_before c_t_s v1 hF _ _ hP hD hS _ (lv_sub hl [0, 1] rfl)
set_option maxHeartbeats 4000000 in
set_option maxRecDepth 100000 in
theorem wk_M_field_b76 {p : Program} {l : Launch} {e : Env} {s : State} {m : MethodId} {args : Array Value} {below : List Frame} {meth : Method} {c : Code} {A : Nat → Prop} (E : kE) (h_t : Nat) (h_t_before : Nat) (h_t_s : Nat) (h_t_tape : Nat) (x_t_kept : Nat) (x_t_findings : Nat) (x_t_shown : Nat) (x_t_worths : Nat) (x_t_steps : Nat) (x_t_bits : Nat) (x_t_longs : Nat) (x_t_cells : Nat) (x_t_between : Nat) (c_t_isKept : Int32) (c_t_most : Int32) (c_t_tape : (Nat → Int32))  {out : Int32 × Int32 × Int32 × Int32 × Int32 × (Nat → Int32) × (Nat → Int32)} (C : kC RX10 cX10_field 3 (some .int) p s m args meth c) (hA : ∀ q : Nat, s.heap.size ≤ q → A q) (hK : va_K (eD E) vwCl (eT E) s) (hT : sT E A s s.heap) (k25 : Int32 → Int32 → Int32 → Int32 → (Nat → Int32) → (Nat → Int32) → Int32 → Int32 → Option (Int32 × Int32 × Int32 × Int32 × Int32 × (Nat → Int32) × (Nat → Int32))) (hk25 : ∀ (c_t_taped : Int32) (c_t_here : Int32) (c_t_fault : Int32) (c_t_value : Int32) (c_t_before : (Nat → Int32)) (c_t_s : (Nat → Int32)) (v1 : Int32) (v2 : Int32), k25 c_t_taped c_t_here c_t_fault c_t_value c_t_before c_t_s v1 v2 = some out → ∀ (H : Heap) (locs : List Loc), va_P (eD E) vwCl (w_M_field E h_t h_t_before h_t_s h_t_tape x_t_kept x_t_findings x_t_shown x_t_worths x_t_steps x_t_bits x_t_longs x_t_cells x_t_between c_t_isKept c_t_most c_t_taped c_t_here c_t_fault c_t_value c_t_before c_t_s c_t_tape) H → va_D A (w_M_field E h_t h_t_before h_t_s h_t_tape x_t_kept x_t_findings x_t_shown x_t_worths x_t_steps x_t_bits x_t_longs x_t_cells x_t_between c_t_isKept c_t_most c_t_taped c_t_here c_t_fault c_t_value c_t_before c_t_s c_t_tape) → va_S A s.heap H locs → ∀ (ls : Array Slot), lv_has ls 3 [(0, .ref h_t), (1, .int v1), (2, .int v2)] → W p l e (rm 11) s m args below meth c H locs 0 0 (MQ below (qW (some (.int out.1)) E (w_M_field E h_t h_t_before h_t_s h_t_tape x_t_kept x_t_findings x_t_shown x_t_worths x_t_steps x_t_bits x_t_longs x_t_cells x_t_between c_t_isKept c_t_most out.2.1 out.2.2.1 out.2.2.2.1 out.2.2.2.2.1 out.2.2.2.2.2.1 out.2.2.2.2.2.2 c_t_tape) A) args s 0 0 A) (F0 m 25 ls [])) :
    ∀ (c_t_taped : Int32) (c_t_here : Int32) (c_t_fault : Int32) (c_t_value : Int32) (c_t_before : (Nat → Int32)) (c_t_s : (Nat → Int32)) (v1 : Int32) (v2 : Int32) (s0 : Int32) (s1 : Int32), f_M_field_b76 k25 c_t_tape c_t_taped c_t_here c_t_fault c_t_value c_t_before c_t_s v1 v2 s0 s1 = some out → ∀ (H : Heap) (locs : List Loc), va_P (eD E) vwCl (w_M_field E h_t h_t_before h_t_s h_t_tape x_t_kept x_t_findings x_t_shown x_t_worths x_t_steps x_t_bits x_t_longs x_t_cells x_t_between c_t_isKept c_t_most c_t_taped c_t_here c_t_fault c_t_value c_t_before c_t_s c_t_tape) H → va_D A (w_M_field E h_t h_t_before h_t_s h_t_tape x_t_kept x_t_findings x_t_shown x_t_worths x_t_steps x_t_bits x_t_longs x_t_cells x_t_between c_t_isKept c_t_most c_t_taped c_t_here c_t_fault c_t_value c_t_before c_t_s c_t_tape) → va_S A s.heap H locs → ∀ (ls : Array Slot), lv_has ls 3 [(0, .ref h_t), (1, .int v1), (2, .int v2)] → W p l e (rm 11) s m args below meth c H locs 0 0 (MQ below (qW (some (.int out.1)) E (w_M_field E h_t h_t_before h_t_s h_t_tape x_t_kept x_t_findings x_t_shown x_t_worths x_t_steps x_t_bits x_t_longs x_t_cells x_t_between c_t_isKept c_t_most out.2.1 out.2.2.1 out.2.2.2.1 out.2.2.2.2.1 out.2.2.2.2.2.1 out.2.2.2.2.2.2 c_t_tape) A) args s 0 0 A) (F0 m 76 ls [.int s0, .int s1, .ref h_t]) := by
  obtain ⟨hx, hb, hr, hml, hown, hw, hlocks⟩ := id C
  intro c_t_taped c_t_here c_t_fault c_t_value c_t_before c_t_s v1 v2 s0 s1 hF H locs hP hD hS ls hl
  rw [f_M_field_b76] at hF
  refine lv_iadd hx hb dX10_field_76 ?_
  refine va_put (D := eD E) (ci := 8) (v := .int (s1 + s0)) (ty := .int) (C := RX10) (T := TX10) (N := 18) hx hb hw inX10 tyX10 tyX10_ok nmX10 hown hK hP hD hS 0 rfl rfl 11 (by decide) (hw _ mw_892) (fun _ h9 => h9) rfl (by decide +kernel) rfl rfl (Nat.le_of_ble_eq_true rfl) dX10_field_77 (fun H locs hP hD hS => ?_)
  have hP : va_P (eD E) vwCl (w_M_field E h_t h_t_before h_t_s h_t_tape x_t_kept x_t_findings x_t_shown x_t_worths x_t_steps x_t_bits x_t_longs x_t_cells x_t_between c_t_isKept c_t_most c_t_taped (s1 + s0) c_t_fault c_t_value c_t_before c_t_s c_t_tape) H := hP
  have hD : va_D A (w_M_field E h_t h_t_before h_t_s h_t_tape x_t_kept x_t_findings x_t_shown x_t_worths x_t_steps x_t_bits x_t_longs x_t_cells x_t_between c_t_isKept c_t_most c_t_taped (s1 + s0) c_t_fault c_t_value c_t_before c_t_s c_t_tape) := hD
  refine lv_goto (tgt := 25) hx hb dX10_field_80 (by decide) ?_
  exact hk25 c_t_taped (s1 + s0) c_t_fault c_t_value c_t_before c_t_s v1 v2 hF _ _ hP hD hS _ (lv_sub hl [0, 1, 2] rfl)
set_option maxHeartbeats 4000000 in
set_option maxRecDepth 100000 in
theorem wk_M_field_b61 {p : Program} {l : Launch} {e : Env} {s : State} {m : MethodId} {args : Array Value} {below : List Frame} {meth : Method} {c : Code} {A : Nat → Prop} (E : kE) (h_t : Nat) (h_t_before : Nat) (h_t_s : Nat) (h_t_tape : Nat) (x_t_kept : Nat) (x_t_findings : Nat) (x_t_shown : Nat) (x_t_worths : Nat) (x_t_steps : Nat) (x_t_bits : Nat) (x_t_longs : Nat) (x_t_cells : Nat) (x_t_between : Nat) (c_t_isKept : Int32) (c_t_most : Int32) (c_t_tape : (Nat → Int32))  {out : Int32 × Int32 × Int32 × Int32 × Int32 × (Nat → Int32) × (Nat → Int32)} (C : kC RX10 cX10_field 3 (some .int) p s m args meth c) (hA : ∀ q : Nat, s.heap.size ≤ q → A q) (hK : va_K (eD E) vwCl (eT E) s) (hT : sT E A s s.heap) (k25 : Int32 → Int32 → Int32 → Int32 → (Nat → Int32) → (Nat → Int32) → Int32 → Int32 → Option (Int32 × Int32 × Int32 × Int32 × Int32 × (Nat → Int32) × (Nat → Int32))) (hk25 : ∀ (c_t_taped : Int32) (c_t_here : Int32) (c_t_fault : Int32) (c_t_value : Int32) (c_t_before : (Nat → Int32)) (c_t_s : (Nat → Int32)) (v1 : Int32) (v2 : Int32), k25 c_t_taped c_t_here c_t_fault c_t_value c_t_before c_t_s v1 v2 = some out → ∀ (H : Heap) (locs : List Loc), va_P (eD E) vwCl (w_M_field E h_t h_t_before h_t_s h_t_tape x_t_kept x_t_findings x_t_shown x_t_worths x_t_steps x_t_bits x_t_longs x_t_cells x_t_between c_t_isKept c_t_most c_t_taped c_t_here c_t_fault c_t_value c_t_before c_t_s c_t_tape) H → va_D A (w_M_field E h_t h_t_before h_t_s h_t_tape x_t_kept x_t_findings x_t_shown x_t_worths x_t_steps x_t_bits x_t_longs x_t_cells x_t_between c_t_isKept c_t_most c_t_taped c_t_here c_t_fault c_t_value c_t_before c_t_s c_t_tape) → va_S A s.heap H locs → ∀ (ls : Array Slot), lv_has ls 3 [(0, .ref h_t), (1, .int v1), (2, .int v2)] → W p l e (rm 11) s m args below meth c H locs 0 0 (MQ below (qW (some (.int out.1)) E (w_M_field E h_t h_t_before h_t_s h_t_tape x_t_kept x_t_findings x_t_shown x_t_worths x_t_steps x_t_bits x_t_longs x_t_cells x_t_between c_t_isKept c_t_most out.2.1 out.2.2.1 out.2.2.2.1 out.2.2.2.2.1 out.2.2.2.2.2.1 out.2.2.2.2.2.2 c_t_tape) A) args s 0 0 A) (F0 m 25 ls [])) :
    ∀ (c_t_taped : Int32) (c_t_here : Int32) (c_t_fault : Int32) (c_t_value : Int32) (c_t_before : (Nat → Int32)) (c_t_s : (Nat → Int32)) (v1 : Int32) (s0 : Int32), f_M_field_b61 k25 c_t_tape c_t_taped c_t_here c_t_fault c_t_value c_t_before c_t_s v1 s0 = some out → ∀ (H : Heap) (locs : List Loc), va_P (eD E) vwCl (w_M_field E h_t h_t_before h_t_s h_t_tape x_t_kept x_t_findings x_t_shown x_t_worths x_t_steps x_t_bits x_t_longs x_t_cells x_t_between c_t_isKept c_t_most c_t_taped c_t_here c_t_fault c_t_value c_t_before c_t_s c_t_tape) H → va_D A (w_M_field E h_t h_t_before h_t_s h_t_tape x_t_kept x_t_findings x_t_shown x_t_worths x_t_steps x_t_bits x_t_longs x_t_cells x_t_between c_t_isKept c_t_most c_t_taped c_t_here c_t_fault c_t_value c_t_before c_t_s c_t_tape) → va_S A s.heap H locs → ∀ (ls : Array Slot), lv_has ls 3 [(0, .ref h_t), (1, .int v1)] → W p l e (rm 11) s m args below meth c H locs 0 0 (MQ below (qW (some (.int out.1)) E (w_M_field E h_t h_t_before h_t_s h_t_tape x_t_kept x_t_findings x_t_shown x_t_worths x_t_steps x_t_bits x_t_longs x_t_cells x_t_between c_t_isKept c_t_most out.2.1 out.2.2.1 out.2.2.2.1 out.2.2.2.2.1 out.2.2.2.2.2.1 out.2.2.2.2.2.2 c_t_tape) A) args s 0 0 A) (F0 m 61 ls [.int s0]) := by
  obtain ⟨hx, hb, hr, hml, hown, hw, hlocks⟩ := id C
  intro c_t_taped c_t_here c_t_fault c_t_value c_t_before c_t_s v1 s0 hF H locs hP hD hS ls hl
  rw [f_M_field_b61] at hF
  refine lv_istore_n (lv' := [(2, .int s0), (0, .ref h_t), (1, .int v1)]) hx hb dX10_field_61 rfl hl (by decide) rfl (fun ls hl => ?_)
  refine lv_aload_n hx hb dX10_field_62 rfl (lv_at hl 1 rfl) ?_
  refine lv_dup hx hb dX10_field_63 rfl ?_
  refine va_get (D := eD E) (ci := 8) (C := RX10) (T := TX10) (N := 18) (v := .int c_t_here) hx hb hw inX10 hown hK hP 0 rfl rfl 11 (by decide) (hw _ mw_892) (fun _ h9 => h9) rfl dX10_field_64 ?_
  refine lv_iload_n hx hb dX10_field_67 rfl (lv_at hl 0 rfl) ?_
  refine lv_if_eq (tgt := 75) hx hb dX10_field_68 (by decide) (fun q6 => ?_) (fun q6 => ?_)
  · have hF := kp hF q6
    refine lv_iconst (v := (0 : Int32)) hx hb dX10_field_75 (by decide) ?_
    exact wk_M_field_b76 E h_t h_t_before h_t_s h_t_tape x_t_kept x_t_findings x_t_shown x_t_worths x_t_steps x_t_bits x_t_longs x_t_cells x_t_between c_t_isKept c_t_most c_t_tape  C hA  hK hT k25 hk25 c_t_taped c_t_here c_t_fault c_t_value c_t_before c_t_s v1 s0 (0 : Int32) c_t_here hF _ _ hP hD hS _ (lv_sub hl [1, 2, 0] rfl)
  · have hF := kn hF q6
    refine lv_iconst (v := (1 : Int32)) hx hb dX10_field_71 (by decide) ?_
    refine lv_goto (tgt := 76) hx hb dX10_field_72 (by decide) ?_
    exact wk_M_field_b76 E h_t h_t_before h_t_s h_t_tape x_t_kept x_t_findings x_t_shown x_t_worths x_t_steps x_t_bits x_t_longs x_t_cells x_t_between c_t_isKept c_t_most c_t_tape  C hA  hK hT k25 hk25 c_t_taped c_t_here c_t_fault c_t_value c_t_before c_t_s v1 s0 (1 : Int32) c_t_here hF _ _ hP hD hS _ (lv_sub hl [1, 2, 0] rfl)
set_option maxHeartbeats 4000000 in
set_option maxRecDepth 100000 in
theorem wk_M_field_b25 {p : Program} {l : Launch} {e : Env} {s : State} {m : MethodId} {args : Array Value} {below : List Frame} {meth : Method} {c : Code} {A : Nat → Prop} (E : kE) (h_t : Nat) (h_t_before : Nat) (h_t_s : Nat) (h_t_tape : Nat) (x_t_kept : Nat) (x_t_findings : Nat) (x_t_shown : Nat) (x_t_worths : Nat) (x_t_steps : Nat) (x_t_bits : Nat) (x_t_longs : Nat) (x_t_cells : Nat) (x_t_between : Nat) (c_t_isKept : Int32) (c_t_most : Int32) (c_t_tape : (Nat → Int32))  {out : Int32 × Int32 × Int32 × Int32 × Int32 × (Nat → Int32) × (Nat → Int32)} (C : kC RX10 cX10_field 3 (some .int) p s m args meth c) (hA : ∀ q : Nat, s.heap.size ≤ q → A q) (hK : va_K (eD E) vwCl (eT E) s) (hT : sT E A s s.heap)  :
    ∀ (n : Nat), ∀ (c_t_taped : Int32) (c_t_here : Int32) (c_t_fault : Int32) (c_t_value : Int32) (c_t_before : (Nat → Int32)) (c_t_s : (Nat → Int32)) (v1 : Int32) (v2 : Int32), f_M_field_b25  c_t_tape n c_t_taped c_t_here c_t_fault c_t_value c_t_before c_t_s v1 v2 = some out → ∀ (H : Heap) (locs : List Loc), va_P (eD E) vwCl (w_M_field E h_t h_t_before h_t_s h_t_tape x_t_kept x_t_findings x_t_shown x_t_worths x_t_steps x_t_bits x_t_longs x_t_cells x_t_between c_t_isKept c_t_most c_t_taped c_t_here c_t_fault c_t_value c_t_before c_t_s c_t_tape) H → va_D A (w_M_field E h_t h_t_before h_t_s h_t_tape x_t_kept x_t_findings x_t_shown x_t_worths x_t_steps x_t_bits x_t_longs x_t_cells x_t_between c_t_isKept c_t_most c_t_taped c_t_here c_t_fault c_t_value c_t_before c_t_s c_t_tape) → va_S A s.heap H locs → ∀ (ls : Array Slot), lv_has ls 3 [(0, .ref h_t), (1, .int v1), (2, .int v2)] → W p l e (rm 11) s m args below meth c H locs 0 0 (MQ below (qW (some (.int out.1)) E (w_M_field E h_t h_t_before h_t_s h_t_tape x_t_kept x_t_findings x_t_shown x_t_worths x_t_steps x_t_bits x_t_longs x_t_cells x_t_between c_t_isKept c_t_most out.2.1 out.2.2.1 out.2.2.2.1 out.2.2.2.2.1 out.2.2.2.2.2.1 out.2.2.2.2.2.2 c_t_tape) A) args s 0 0 A) (F0 m 25 ls []) := by
  obtain ⟨hx, hb, hr, hml, hown, hw, hlocks⟩ := id C
  intro n
  induction n with
  | zero =>
    intro c_t_taped c_t_here c_t_fault c_t_value c_t_before c_t_s v1 v2 hF
    exact absurd (show (none : Option (Int32 × Int32 × Int32 × Int32 × Int32 × (Nat → Int32) × (Nat → Int32))) = some out from hF) nofun
  | succ n ih =>
    intro c_t_taped c_t_here c_t_fault c_t_value c_t_before c_t_s v1 v2 hF H locs hP hD hS ls hl
    rw [f_M_field_b25] at hF
    refine lv_iload_n hx hb dX10_field_25 rfl (lv_at hl 2 rfl) ?_
    refine lv_if_eq (tgt := 83) hx hb dX10_field_26 (by decide) (fun q7 => ?_) (fun q7 => ?_)
    · have hF := kp hF q7
      exact wk_M_field_b83 E h_t h_t_before h_t_s h_t_tape x_t_kept x_t_findings x_t_shown x_t_worths x_t_steps x_t_bits x_t_longs x_t_cells x_t_between c_t_isKept c_t_most c_t_tape  C hA  hK hT  c_t_taped c_t_here c_t_fault c_t_value c_t_before c_t_s v1 hF _ _ hP hD hS _ (lv_sub hl [0, 1] rfl)
    · have hF := kn hF q7
      refine lv_aload_n hx hb dX10_field_29 rfl (lv_at hl 0 rfl) ?_
      obtain ⟨r8, er8, hF⟩ := kb hF
      refine kWV (rest := []) (Wr := [(h_t_before, .inl (eI E, 65, .inl c_t_before))]) (Wn := (w_M_field E h_t h_t_before h_t_s h_t_tape x_t_kept x_t_findings x_t_shown x_t_worths x_t_steps x_t_bits x_t_longs x_t_cells x_t_between c_t_isKept c_t_most c_t_taped r8.2.1 r8.2.2.1 r8.2.2.2.1 c_t_before r8.2.2.2.2 c_t_tape)) C (k_M_item l E h_t h_t_s h_t_tape x_t_kept h_t_before x_t_findings x_t_shown x_t_worths x_t_steps x_t_bits x_t_longs x_t_cells x_t_between H.size c_t_isKept c_t_most c_t_taped c_t_here c_t_fault c_t_value c_t_s c_t_tape r8 er8) fn_M_item mw_1199 ⟨Nat.le_of_ble_eq_true rfl, Nat.le_of_ble_eq_true rfl⟩ hK hT hS hA (va_recv hK hP (ci := 8) (q0 := 0) rfl rfl) hP hD [0, 2, 3] rfl (by decide) [1] rfl (by decide) (by decide) [1, 0, 2, 3] rfl (by decide) rfl rfl hl (Nat.le_of_ble_eq_true rfl) dX10_field_30 (fun H locs hP hD hS => ?_)
      refine W.eq (g2 := F0 m 33 ls [.int r8.1]) rfl ?_
      refine lv_if_eq (tgt := 83) hx hb dX10_field_33 (by decide) (fun q9 => ?_) (fun q9 => ?_)
      · have hF := kp hF q9
        exact wk_M_field_b83 E h_t h_t_before h_t_s h_t_tape x_t_kept x_t_findings x_t_shown x_t_worths x_t_steps x_t_bits x_t_longs x_t_cells x_t_between c_t_isKept c_t_most c_t_tape  C hA  hK hT  c_t_taped r8.2.1 r8.2.2.1 r8.2.2.2.1 c_t_before r8.2.2.2.2 v1 hF _ _ hP hD hS _ (lv_sub hl [0, 1] rfl)
      · have hF := kn hF q9
        refine lv_iinc (v := (v1 + (1))) (lv' := [(1, .int (v1 + (1))), (0, .ref h_t), (2, .int v2)]) hx hb dX10_field_36 hl (k := 1) rfl rfl (by decide) rfl (fun ls hl => ?_)
        refine lv_aload_n hx hb dX10_field_39 rfl (lv_at hl 1 rfl) ?_
        obtain ⟨r10, er10, hF⟩ := kb hF
        refine kWV (rest := []) (Wr := [(h_t_before, .inl (eI E, 65, .inl c_t_before)), (h_t_s, .inl (eI E, 65, .inl r8.2.2.2.2))]) (Wn := (w_M_field E h_t h_t_before h_t_s h_t_tape x_t_kept x_t_findings x_t_shown x_t_worths x_t_steps x_t_bits x_t_longs x_t_cells x_t_between c_t_isKept c_t_most c_t_taped r10 r8.2.2.1 r8.2.2.2.1 c_t_before r8.2.2.2.2 c_t_tape)) C (k_M_blanks l E h_t h_t_tape h_t_s x_t_kept h_t_before x_t_findings x_t_shown x_t_worths x_t_steps x_t_bits x_t_longs x_t_cells x_t_between H.size c_t_isKept c_t_most c_t_taped r8.2.1 r8.2.2.1 r8.2.2.2.1 c_t_tape r10 er10) fn_M_blanks mw_1216 ⟨Nat.le_of_ble_eq_true rfl, Nat.le_of_ble_eq_true rfl⟩ hK hT hS hA (va_recv hK hP (ci := 8) (q0 := 0) rfl rfl) hP hD [0, 3] rfl (by decide) [1, 2] rfl (by decide) (by decide) [2, 0, 1, 3] rfl (by decide) rfl rfl hl (Nat.le_of_ble_eq_true rfl) dX10_field_40 (fun H locs hP hD hS => ?_)
        refine W.eq (g2 := F0 m 43 ls []) rfl ?_
        refine lv_aload_n hx hb dX10_field_43 rfl (lv_at hl 1 rfl) ?_
        refine lv_aload_n hx hb dX10_field_44 rfl (lv_at hl 1 rfl) ?_
        refine va_get (D := eD E) (ci := 8) (C := RX10) (T := TX10) (N := 18) (v := .int r10) hx hb hw inX10 hown hK hP 0 rfl rfl 11 (by decide) (hw _ mw_892) (fun _ h9 => h9) rfl dX10_field_45 ?_
        obtain ⟨r11, er11, hF⟩ := kb hF
        refine kRV (rest := []) C (k_M_byteAt l E h_t h_t_tape h_t_s x_t_kept h_t_before x_t_findings x_t_shown x_t_worths x_t_steps x_t_bits x_t_longs x_t_cells x_t_between c_t_isKept c_t_most c_t_taped r10 r8.2.2.1 r8.2.2.2.1 c_t_tape r10 r11 er11) fn_M_byteAt mw_1220 ⟨Nat.le_of_ble_eq_true rfl, Nat.le_of_ble_eq_true rfl⟩ hK hT hS (va_recv hK hP (ci := 8) (q0 := 0) rfl rfl) hP [0, 3] rfl rfl rfl hl (Nat.le_of_ble_eq_true rfl) dX10_field_48 ?_
        refine lv_bipush (v := (59 : Int32)) hx hb dX10_field_51 (by decide) ?_
        refine lv_icmp_ne (tgt := 60) hx hb dX10_field_53 (by decide) (fun q12 => ?_) (fun q12 => ?_)
        · have hF := kn hF q12
          refine lv_iconst (v := (0 : Int32)) hx hb dX10_field_60 (by decide) ?_
          exact wk_M_field_b61 E h_t h_t_before h_t_s h_t_tape x_t_kept x_t_findings x_t_shown x_t_worths x_t_steps x_t_bits x_t_longs x_t_cells x_t_between c_t_isKept c_t_most c_t_tape  C hA  hK hT (f_M_field_b25  c_t_tape n) ih c_t_taped r10 r8.2.2.1 r8.2.2.2.1 c_t_before r8.2.2.2.2 (v1 + (1)) (0 : Int32) hF _ _ hP hD hS _ (lv_sub hl [1, 0] rfl)
        · have hF := kp hF q12
          refine lv_iconst (v := (1 : Int32)) hx hb dX10_field_56 (by decide) ?_
          refine lv_goto (tgt := 61) hx hb dX10_field_57 (by decide) ?_
          exact wk_M_field_b61 E h_t h_t_before h_t_s h_t_tape x_t_kept x_t_findings x_t_shown x_t_worths x_t_steps x_t_bits x_t_longs x_t_cells x_t_between c_t_isKept c_t_most c_t_tape  C hA  hK hT (f_M_field_b25  c_t_tape n) ih c_t_taped r10 r8.2.2.1 r8.2.2.2.1 c_t_before r8.2.2.2.2 (v1 + (1)) (1 : Int32) hF _ _ hP hD hS _ (lv_sub hl [1, 0] rfl)
set_option maxHeartbeats 4000000 in
set_option maxRecDepth 100000 in
theorem k_M_field (l : Launch) (E : kE) (h_t : Nat) (h_t_before : Nat) (h_t_s : Nat) (h_t_tape : Nat) (x_t_kept : Nat) (x_t_findings : Nat) (x_t_shown : Nat) (x_t_worths : Nat) (x_t_steps : Nat) (x_t_bits : Nat) (x_t_longs : Nat) (x_t_cells : Nat) (x_t_between : Nat) (sz : Nat) (c_t_isKept : Int32) (c_t_most : Int32) (c_t_taped : Int32) (c_t_here : Int32) (c_t_fault : Int32) (c_t_value : Int32) (c_t_before : (Nat → Int32)) (c_t_s : (Nat → Int32)) (c_t_tape : (Nat → Int32))  (out : Int32 × Int32 × Int32 × Int32 × Int32 × (Nat → Int32) × (Nat → Int32)) (hF : f_M_field c_t_taped c_t_here c_t_fault c_t_value c_t_before c_t_s c_t_tape  = some out) : Met l yX10_field (Cond.code yX10_field cX10_field 3 (some .int) :: wG) (rm 11) (pW E (w_M_field E h_t h_t_before h_t_s h_t_tape x_t_kept x_t_findings x_t_shown x_t_worths x_t_steps x_t_bits x_t_longs x_t_cells x_t_between c_t_isKept c_t_most c_t_taped c_t_here c_t_fault c_t_value c_t_before c_t_s c_t_tape) sz [.ref h_t]) (qW (some (.int out.1)) E (w_M_field E h_t h_t_before h_t_s h_t_tape x_t_kept x_t_findings x_t_shown x_t_worths x_t_steps x_t_bits x_t_longs x_t_cells x_t_between c_t_isKept c_t_most out.2.1 out.2.2.1 out.2.2.2.1 out.2.2.2.2.1 out.2.2.2.2.2.1 out.2.2.2.2.2.2 c_t_tape) (va_A (w_M_field E h_t h_t_before h_t_s h_t_tape x_t_kept x_t_findings x_t_shown x_t_worths x_t_steps x_t_bits x_t_longs x_t_cells x_t_between c_t_isKept c_t_most c_t_taped c_t_here c_t_fault c_t_value c_t_before c_t_s c_t_tape) sz)) 0 0 (va_A (w_M_field E h_t h_t_before h_t_s h_t_tape x_t_kept x_t_findings x_t_shown x_t_worths x_t_steps x_t_bits x_t_longs x_t_cells x_t_between c_t_isKept c_t_most c_t_taped c_t_here c_t_fault c_t_value c_t_before c_t_s c_t_tape) sz) := by
  refine met_W (by decide) (Nat.le_of_ble_eq_true rfl) ?_
  intro p e s m args below meth c A ls C hP hD hS hA hK hT hl
  obtain ⟨hx, hb, hr, hml, hown, hw, hlocks⟩ := id C
  have hl : lv_has ls 3 [(0, .ref h_t)] := hl
  rw [f_M_field] at hF
  refine lv_aload_n hx hb dX10_field_0 rfl (lv_at hl 0 rfl) ?_
  refine lv_iconst (v := (0 : Int32)) hx hb dX10_field_1 (by decide) ?_
  refine va_put (D := eD E) (ci := 8) (v := .int (0 : Int32)) (ty := .int) (C := RX10) (T := TX10) (N := 18) hx hb hw inX10 tyX10 tyX10_ok nmX10 hown hK hP hD hS 0 rfl rfl 11 (by decide) (hw _ mw_892) (fun _ h9 => h9) rfl (by decide +kernel) rfl rfl (Nat.le_of_ble_eq_true rfl) dX10_field_2 (fun H locs hP hD hS => ?_)
  have hP : va_P (eD E) vwCl (w_M_field E h_t h_t_before h_t_s h_t_tape x_t_kept x_t_findings x_t_shown x_t_worths x_t_steps x_t_bits x_t_longs x_t_cells x_t_between c_t_isKept c_t_most c_t_taped (0 : Int32) c_t_fault c_t_value c_t_before c_t_s c_t_tape) H := hP
  have hD : va_D A (w_M_field E h_t h_t_before h_t_s h_t_tape x_t_kept x_t_findings x_t_shown x_t_worths x_t_steps x_t_bits x_t_longs x_t_cells x_t_between c_t_isKept c_t_most c_t_taped (0 : Int32) c_t_fault c_t_value c_t_before c_t_s c_t_tape) := hD
  refine lv_aload_n hx hb dX10_field_5 rfl (lv_at hl 0 rfl) ?_
  refine lv_iconst (v := (-1 : Int32)) hx hb dX10_field_6 (by decide) ?_
  refine va_put (D := eD E) (ci := 8) (v := .int (-1 : Int32)) (ty := .int) (C := RX10) (T := TX10) (N := 18) hx hb hw inX10 tyX10 tyX10_ok nmX10 hown hK hP hD hS 0 rfl rfl 12 (by decide) (hw _ mw_893) (fun _ h9 => h9) rfl (by decide +kernel) rfl rfl (Nat.le_of_ble_eq_true rfl) dX10_field_7 (fun H locs hP hD hS => ?_)
  have hP : va_P (eD E) vwCl (w_M_field E h_t h_t_before h_t_s h_t_tape x_t_kept x_t_findings x_t_shown x_t_worths x_t_steps x_t_bits x_t_longs x_t_cells x_t_between c_t_isKept c_t_most c_t_taped (0 : Int32) (-1 : Int32) c_t_value c_t_before c_t_s c_t_tape) H := hP
  have hD : va_D A (w_M_field E h_t h_t_before h_t_s h_t_tape x_t_kept x_t_findings x_t_shown x_t_worths x_t_steps x_t_bits x_t_longs x_t_cells x_t_between c_t_isKept c_t_most c_t_taped (0 : Int32) (-1 : Int32) c_t_value c_t_before c_t_s c_t_tape) := hD
  refine lv_aload_n hx hb dX10_field_10 rfl (lv_at hl 0 rfl) ?_
  refine va_get (D := eD E) (ci := 8) (C := RX10) (T := TX10) (N := 18) (v := .ref h_t_s) hx hb hw inX10 hown hK hP 0 rfl rfl 0 (by decide) (hw _ mw_881) (fun _ h9 => h9) rfl dX10_field_11 ?_
  refine lv_aload_n hx hb dX10_field_14 rfl (lv_at hl 0 rfl) ?_
  refine va_get (D := eD E) (ci := 8) (C := RX10) (T := TX10) (N := 18) (v := .ref h_t_before) hx hb hw inX10 hown hK hP 0 rfl rfl 2 (by decide) (hw _ mw_883) (fun _ h9 => h9) rfl dX10_field_15 ?_
  obtain ⟨r13, er13, hF⟩ := kb hF
  refine kWS (rest := []) (Wr := [(h_t, .inr (8, [.ref h_t_s, .ref x_t_kept, .ref h_t_before, .int c_t_isKept, .ref x_t_findings, .ref x_t_shown, .int c_t_most, .ref x_t_worths, .ref x_t_steps, .ref h_t_tape, .int c_t_taped, .int (0 : Int32), .int (-1 : Int32), .int c_t_value, .ref x_t_bits, .ref x_t_longs, .ref x_t_cells, .ref x_t_between])), (h_t_tape, .inl (eI E, 120, .inl c_t_tape))]) (Wn := (w_M_field E h_t h_t_before h_t_s h_t_tape x_t_kept x_t_findings x_t_shown x_t_worths x_t_steps x_t_bits x_t_longs x_t_cells x_t_between c_t_isKept c_t_most c_t_taped (0 : Int32) (-1 : Int32) c_t_value r13 c_t_s c_t_tape)) C (k_M_lay l E h_t_s h_t_before H.size c_t_s c_t_before r13 er13) fn_M_lay mw_1196 ⟨Nat.le_of_ble_eq_true rfl, Nat.le_of_ble_eq_true rfl⟩ hK hT hS hA hP hD [2, 1] rfl (by decide) [0, 3] rfl (by decide) (by decide) [0, 3, 2, 1] rfl (by decide) rfl rfl hl (Nat.le_of_ble_eq_true rfl) dX10_field_18 (fun H locs hP hD hS => ?_)
  refine W.eq (g2 := F0 m 21 ls []) rfl ?_
  refine lv_iconst (v := (0 : Int32)) hx hb dX10_field_21 (by decide) ?_
  refine lv_istore_n (lv' := [(1, .int (0 : Int32)), (0, .ref h_t)]) hx hb dX10_field_22 rfl hl (by decide) rfl (fun ls hl => ?_)
  refine lv_iconst (v := (1 : Int32)) hx hb dX10_field_23 (by decide) ?_
  refine lv_istore_n (lv' := [(2, .int (1 : Int32)), (1, .int (0 : Int32)), (0, .ref h_t)]) hx hb dX10_field_24 rfl hl (by decide) rfl (fun ls hl => ?_)
  exact wk_M_field_b25 E h_t h_t_before h_t_s h_t_tape x_t_kept x_t_findings x_t_shown x_t_worths x_t_steps x_t_bits x_t_longs x_t_cells x_t_between c_t_isKept c_t_most c_t_tape  C hA  hK hT  5000 c_t_taped (0 : Int32) (-1 : Int32) c_t_value r13 c_t_s (0 : Int32) (1 : Int32) hF _ _ hP hD hS _ (lv_sub hl [2, 1, 0] rfl)
abbrev w_M_isSheet (E : kE)    : va_W := []
set_option maxHeartbeats 4000000 in
set_option maxRecDepth 100000 in
theorem k_M_isSheet (l : Launch) (E : kE)    (a0 : Int32) (out : Int32) (hF : f_M_isSheet  a0 = some out) : Met l yX10_isSheet (Cond.code yX10_isSheet cX10_isSheet 1 (some .boolean) :: wG) (rm 2) (pR E (w_M_isSheet E ) [.int a0]) (qR (.int out)) 0 0 (fun _ => False) := by
  refine met_R (by decide) (Nat.le_of_ble_eq_true rfl) ?_
  intro p e s m args below meth c ls C hP hK hT hl
  obtain ⟨hx, hb, hr, hml, hown, hw, hlocks⟩ := id C
  have hS : va_S (fun _ => False) s.heap s.heap [] := va_S.rf
  have hl : lv_has ls 1 [(0, .int a0)] := hl
  rw [f_M_isSheet] at hF
  refine lv_iload_n hx hb dX10_isSheet_0 rfl (lv_at hl 0 rfl) ?_
  refine lv_iconst (v := (0 : Int32)) hx hb dX10_isSheet_1 (by decide) ?_
  refine lv_iconst (v := (3 : Int32)) hx hb dX10_isSheet_2 (by decide) ?_
  obtain ⟨r1, er1, hF⟩ := kb hF
  refine kRS (rest := []) C (k_M_in l E a0 (0 : Int32) (3 : Int32) r1 er1) fn_M_in mw_943 ⟨Nat.le_of_ble_eq_true rfl, Nat.le_of_ble_eq_true rfl⟩ hK hT hS hP [] rfl rfl rfl hl (Nat.le_of_ble_eq_true rfl) dX10_isSheet_3 ?_
  obtain ⟨b2, eb2, hF⟩ := kb hF
  obtain ⟨eeb2, hnb2⟩ := bl_some eb2
  subst eeb2
  obtain rfl := Option.some.inj hF
  exact W.zret (ty := .boolean) hx hb hr hnb2 (fun t ht hW => ⟨rfl, ht⟩) nofun dX10_isSheet_6
abbrev w_M_sheet (E : kE) (h_t : Nat) (h_t_bits : Nat) (h_t_cells : Nat) (h_t_findings : Nat) (h_t_longs : Nat) (x_t_s : Nat) (x_t_kept : Nat) (x_t_before : Nat) (x_t_shown : Nat) (x_t_worths : Nat) (x_t_steps : Nat) (x_t_tape : Nat) (x_t_between : Nat) (c_t_isKept : Int32) (c_t_most : Int32) (c_t_taped : Int32) (c_t_here : Int32) (c_t_fault : Int32) (c_t_value : Int32) (c_t_bits : (Nat → Int32)) (c_t_cells : (Nat → Int64)) (c_t_findings : (Nat → Int32)) (c_t_longs : (Nat → Int32)) : va_W := [(h_t, .inr (8, [.ref x_t_s, .ref x_t_kept, .ref x_t_before, .int c_t_isKept, .ref h_t_findings, .ref x_t_shown, .int c_t_most, .ref x_t_worths, .ref x_t_steps, .ref x_t_tape, .int c_t_taped, .int c_t_here, .int c_t_fault, .int c_t_value, .ref h_t_bits, .ref h_t_longs, .ref h_t_cells, .ref x_t_between])), (h_t_bits, .inl (eI E, 4, .inl c_t_bits)), (h_t_cells, .inl (eJ E, 160, .inr (.inl c_t_cells))), (h_t_findings, .inl (eI E, 7, .inl c_t_findings)), (h_t_longs, .inl (eI E, 4, .inl c_t_longs))]
set_option maxHeartbeats 4000000 in
set_option maxRecDepth 100000 in
theorem wk_M_sheet_b29 {p : Program} {l : Launch} {e : Env} {s : State} {m : MethodId} {args : Array Value} {below : List Frame} {meth : Method} {c : Code} {A : Nat → Prop} (E : kE) (h_t : Nat) (h_t_bits : Nat) (h_t_cells : Nat) (h_t_findings : Nat) (h_t_longs : Nat) (x_t_s : Nat) (x_t_kept : Nat) (x_t_before : Nat) (x_t_shown : Nat) (x_t_worths : Nat) (x_t_steps : Nat) (x_t_tape : Nat) (x_t_between : Nat) (c_t_isKept : Int32) (c_t_most : Int32) (c_t_taped : Int32) (c_t_here : Int32) (c_t_fault : Int32) (c_t_value : Int32) (a1 : Int32) (a2 : Int32) (a3 : Int32) {out : Int32 × (Nat → Int32) × (Nat → Int64) × (Nat → Int32) × (Nat → Int32)} (C : kC RX10 cX10_sheet 5 (some .int) p s m args meth c) (hA : ∀ q : Nat, s.heap.size ≤ q → A q) (hK : va_K (eD E) vwCl (eT E) s) (hT : sT E A s s.heap)  :
    ∀ (c_t_bits : (Nat → Int32)) (c_t_cells : (Nat → Int64)) (c_t_findings : (Nat → Int32)) (c_t_longs : (Nat → Int32)), f_M_sheet_b29  a1 a2 a3 c_t_bits c_t_cells c_t_findings c_t_longs = some out → ∀ (H : Heap) (locs : List Loc), va_P (eD E) vwCl (w_M_sheet E h_t h_t_bits h_t_cells h_t_findings h_t_longs x_t_s x_t_kept x_t_before x_t_shown x_t_worths x_t_steps x_t_tape x_t_between c_t_isKept c_t_most c_t_taped c_t_here c_t_fault c_t_value c_t_bits c_t_cells c_t_findings c_t_longs) H → va_D A (w_M_sheet E h_t h_t_bits h_t_cells h_t_findings h_t_longs x_t_s x_t_kept x_t_before x_t_shown x_t_worths x_t_steps x_t_tape x_t_between c_t_isKept c_t_most c_t_taped c_t_here c_t_fault c_t_value c_t_bits c_t_cells c_t_findings c_t_longs) → va_S A s.heap H locs → ∀ (ls : Array Slot), lv_has ls 5 [(0, .ref h_t)] → W p l e (rm 3) s m args below meth c H locs 0 0 (MQ below (qW (some (.int out.1)) E (w_M_sheet E h_t h_t_bits h_t_cells h_t_findings h_t_longs x_t_s x_t_kept x_t_before x_t_shown x_t_worths x_t_steps x_t_tape x_t_between c_t_isKept c_t_most c_t_taped c_t_here c_t_fault c_t_value out.2.1 out.2.2.1 out.2.2.2.1 out.2.2.2.2) A) args s 0 0 A) (F0 m 29 ls []) := by
  obtain ⟨hx, hb, hr, hml, hown, hw, hlocks⟩ := id C
  intro c_t_bits c_t_cells c_t_findings c_t_longs hF H locs hP hD hS ls hl
  rw [f_M_sheet_b29] at hF
  refine lv_aload_n hx hb dX10_sheet_29 rfl (lv_at hl 0 rfl) ?_
  refine lv_iconst (v := (0 : Int32)) hx hb dX10_sheet_30 (by decide) ?_
  obtain ⟨r1, er1, hF⟩ := kb hF
  refine kWV (rest := []) (Wr := [(h_t_bits, .inl (eI E, 4, .inl c_t_bits)), (h_t_cells, .inl (eJ E, 160, .inr (.inl c_t_cells))), (h_t_longs, .inl (eI E, 4, .inl c_t_longs))]) (Wn := (w_M_sheet E h_t h_t_bits h_t_cells h_t_findings h_t_longs x_t_s x_t_kept x_t_before x_t_shown x_t_worths x_t_steps x_t_tape x_t_between c_t_isKept c_t_most c_t_taped c_t_here c_t_fault c_t_value c_t_bits c_t_cells r1.2 c_t_longs)) C (k_M_no l E h_t h_t_findings x_t_s x_t_kept x_t_before x_t_shown x_t_worths x_t_steps x_t_tape h_t_bits h_t_longs h_t_cells x_t_between H.size c_t_isKept c_t_most c_t_taped c_t_here c_t_fault c_t_value c_t_findings (0 : Int32) r1 er1) fn_M_no mw_964 ⟨Nat.le_of_ble_eq_true rfl, Nat.le_of_ble_eq_true rfl⟩ hK hT hS hA (va_recv hK hP (ci := 8) (q0 := 0) rfl rfl) hP hD [0, 3] rfl (by decide) [1, 2, 4] rfl (by decide) (by decide) [3, 0, 1, 4, 2] rfl (by decide) rfl rfl hl (Nat.le_of_ble_eq_true rfl) dX10_sheet_31 (fun H locs hP hD hS => ?_)
  refine W.eq (g2 := F0 m 34 ls [.int r1.1]) rfl ?_
  obtain rfl := Option.some.inj hF
  exact W.iret hx hb hr (fun t ht hW => ⟨⟨rfl, by rw [ht]; exact hP, hD⟩, hS.F ht⟩) hS.2.2 dX10_sheet_34
set_option maxHeartbeats 4000000 in
set_option maxRecDepth 100000 in
theorem wk_M_sheet_b83 {p : Program} {l : Launch} {e : Env} {s : State} {m : MethodId} {args : Array Value} {below : List Frame} {meth : Method} {c : Code} {A : Nat → Prop} (E : kE) (h_t : Nat) (h_t_bits : Nat) (h_t_cells : Nat) (h_t_findings : Nat) (h_t_longs : Nat) (x_t_s : Nat) (x_t_kept : Nat) (x_t_before : Nat) (x_t_shown : Nat) (x_t_worths : Nat) (x_t_steps : Nat) (x_t_tape : Nat) (x_t_between : Nat) (c_t_isKept : Int32) (c_t_most : Int32) (c_t_taped : Int32) (c_t_here : Int32) (c_t_fault : Int32) (c_t_value : Int32) (a1 : Int32) (a2 : Int32) (a3 : Int32) {out : Int32 × (Nat → Int32) × (Nat → Int64) × (Nat → Int32) × (Nat → Int32)} (C : kC RX10 cX10_sheet 5 (some .int) p s m args meth c) (hA : ∀ q : Nat, s.heap.size ≤ q → A q) (hK : va_K (eD E) vwCl (eT E) s) (hT : sT E A s s.heap)  :
    ∀ (n : Nat), ∀ (c_t_bits : (Nat → Int32)) (c_t_cells : (Nat → Int64)) (c_t_findings : (Nat → Int32)) (c_t_longs : (Nat → Int32)) (v4 : Int32), f_M_sheet_b83  a1 a2 a3 n c_t_bits c_t_cells c_t_findings c_t_longs v4 = some out → ∀ (H : Heap) (locs : List Loc), va_P (eD E) vwCl (w_M_sheet E h_t h_t_bits h_t_cells h_t_findings h_t_longs x_t_s x_t_kept x_t_before x_t_shown x_t_worths x_t_steps x_t_tape x_t_between c_t_isKept c_t_most c_t_taped c_t_here c_t_fault c_t_value c_t_bits c_t_cells c_t_findings c_t_longs) H → va_D A (w_M_sheet E h_t h_t_bits h_t_cells h_t_findings h_t_longs x_t_s x_t_kept x_t_before x_t_shown x_t_worths x_t_steps x_t_tape x_t_between c_t_isKept c_t_most c_t_taped c_t_here c_t_fault c_t_value c_t_bits c_t_cells c_t_findings c_t_longs) → va_S A s.heap H locs → ∀ (ls : Array Slot), lv_has ls 5 [(0, .ref h_t), (1, .int a1), (4, .int v4)] → W p l e (rm 3) s m args below meth c H locs 0 0 (MQ below (qW (some (.int out.1)) E (w_M_sheet E h_t h_t_bits h_t_cells h_t_findings h_t_longs x_t_s x_t_kept x_t_before x_t_shown x_t_worths x_t_steps x_t_tape x_t_between c_t_isKept c_t_most c_t_taped c_t_here c_t_fault c_t_value out.2.1 out.2.2.1 out.2.2.2.1 out.2.2.2.2) A) args s 0 0 A) (F0 m 83 ls []) := by
  obtain ⟨hx, hb, hr, hml, hown, hw, hlocks⟩ := id C
  intro n
  induction n with
  | zero =>
    intro c_t_bits c_t_cells c_t_findings c_t_longs v4 hF
    exact absurd (show (none : Option (Int32 × (Nat → Int32) × (Nat → Int64) × (Nat → Int32) × (Nat → Int32))) = some out from hF) nofun
  | succ n ih =>
    intro c_t_bits c_t_cells c_t_findings c_t_longs v4 hF H locs hP hD hS ls hl
    rw [f_M_sheet_b83] at hF
    refine lv_iload hx hb dX10_sheet_83 (lv_at hl 2 rfl) ?_
    refine lv_bipush (v := (40 : Int32)) hx hb dX10_sheet_85 (by decide) ?_
    refine lv_icmp_ge (tgt := 109) hx hb dX10_sheet_87 (by decide) (fun q2 => ?_) (fun q2 => ?_)
    · have hF := kp hF q2
      refine lv_aload_n hx hb dX10_sheet_109 rfl (lv_at hl 0 rfl) ?_
      refine va_get (D := eD E) (ci := 8) (C := RX10) (T := TX10) (N := 18) (v := .ref h_t_longs) hx hb hw inX10 hown hK hP 0 rfl rfl 15 (by decide) (hw _ mw_896) (fun _ h9 => h9) rfl dX10_sheet_110 ?_
      refine lv_iload_n hx hb dX10_sheet_113 rfl (lv_at hl 1 rfl) ?_
      obtain ⟨r3, er3, hF⟩ := kb hF
      refine wa_iald hx hb hK hP 4 0 rfl rfl er3 dX10_sheet_114 ?_
      obtain rfl := Option.some.inj hF
      exact W.iret hx hb hr (fun t ht hW => ⟨⟨rfl, by rw [ht]; exact hP, hD⟩, hS.F ht⟩) hS.2.2 dX10_sheet_115
    · have hF := kn hF q2
      refine lv_aload_n hx hb dX10_sheet_90 rfl (lv_at hl 0 rfl) ?_
      refine va_get (D := eD E) (ci := 8) (C := RX10) (T := TX10) (N := 18) (v := .ref h_t_cells) hx hb hw inX10 hown hK hP 0 rfl rfl 16 (by decide) (hw _ mw_897) (fun _ h9 => h9) rfl dX10_sheet_91 ?_
      refine lv_bipush (v := (40 : Int32)) hx hb dX10_sheet_94 (by decide) ?_
      refine lv_iload_n hx hb dX10_sheet_96 rfl (lv_at hl 1 rfl) ?_
      refine lv_imul hx hb dX10_sheet_97 ?_
      refine lv_iload hx hb dX10_sheet_98 (lv_at hl 2 rfl) ?_
      refine lv_iadd hx hb dX10_sheet_100 ?_
      refine lv_lconst (v := (0 : Int64)) hx hb dX10_sheet_101 (by decide) ?_
      obtain ⟨r4, er4, hF⟩ := kb hF
      refine wa_last hx hb hK hP hD hS 2 2 rfl rfl er4 dX10_sheet_102 (fun H locs hP hD hS => ?_)
      have hP : va_P (eD E) vwCl (w_M_sheet E h_t h_t_bits h_t_cells h_t_findings h_t_longs x_t_s x_t_kept x_t_before x_t_shown x_t_worths x_t_steps x_t_tape x_t_between c_t_isKept c_t_most c_t_taped c_t_here c_t_fault c_t_value c_t_bits r4 c_t_findings c_t_longs) H := hP
      have hD : va_D A (w_M_sheet E h_t h_t_bits h_t_cells h_t_findings h_t_longs x_t_s x_t_kept x_t_before x_t_shown x_t_worths x_t_steps x_t_tape x_t_between c_t_isKept c_t_most c_t_taped c_t_here c_t_fault c_t_value c_t_bits r4 c_t_findings c_t_longs) := hD
      refine lv_iinc (v := (v4 + (1))) (lv' := [(4, .int (v4 + (1))), (0, .ref h_t), (1, .int a1)]) hx hb dX10_sheet_103 hl (k := 2) rfl rfl (by decide) rfl (fun ls hl => ?_)
      refine lv_goto (tgt := 83) hx hb dX10_sheet_106 (by decide) ?_
      exact ih c_t_bits r4 c_t_findings c_t_longs (v4 + (1)) hF _ _ hP hD hS _ (lv_sub hl [1, 2, 0] rfl)
set_option maxHeartbeats 4000000 in
set_option maxRecDepth 100000 in
theorem wk_M_sheet_b79 {p : Program} {l : Launch} {e : Env} {s : State} {m : MethodId} {args : Array Value} {below : List Frame} {meth : Method} {c : Code} {A : Nat → Prop} (E : kE) (h_t : Nat) (h_t_bits : Nat) (h_t_cells : Nat) (h_t_findings : Nat) (h_t_longs : Nat) (x_t_s : Nat) (x_t_kept : Nat) (x_t_before : Nat) (x_t_shown : Nat) (x_t_worths : Nat) (x_t_steps : Nat) (x_t_tape : Nat) (x_t_between : Nat) (c_t_isKept : Int32) (c_t_most : Int32) (c_t_taped : Int32) (c_t_here : Int32) (c_t_fault : Int32) (c_t_value : Int32) (a1 : Int32) (a2 : Int32) (a3 : Int32) {out : Int32 × (Nat → Int32) × (Nat → Int64) × (Nat → Int32) × (Nat → Int32)} (C : kC RX10 cX10_sheet 5 (some .int) p s m args meth c) (hA : ∀ q : Nat, s.heap.size ≤ q → A q) (hK : va_K (eD E) vwCl (eT E) s) (hT : sT E A s s.heap)  :
    ∀ (c_t_bits : (Nat → Int32)) (c_t_cells : (Nat → Int64)) (c_t_findings : (Nat → Int32)) (c_t_longs : (Nat → Int32)) (s0 : Int32) (s1 : Int32), f_M_sheet_b79  a1 a2 a3 c_t_bits c_t_cells c_t_findings c_t_longs s0 s1 = some out → ∀ (H : Heap) (locs : List Loc), va_P (eD E) vwCl (w_M_sheet E h_t h_t_bits h_t_cells h_t_findings h_t_longs x_t_s x_t_kept x_t_before x_t_shown x_t_worths x_t_steps x_t_tape x_t_between c_t_isKept c_t_most c_t_taped c_t_here c_t_fault c_t_value c_t_bits c_t_cells c_t_findings c_t_longs) H → va_D A (w_M_sheet E h_t h_t_bits h_t_cells h_t_findings h_t_longs x_t_s x_t_kept x_t_before x_t_shown x_t_worths x_t_steps x_t_tape x_t_between c_t_isKept c_t_most c_t_taped c_t_here c_t_fault c_t_value c_t_bits c_t_cells c_t_findings c_t_longs) → va_S A s.heap H locs → ∀ (ls : Array Slot), lv_has ls 5 [(0, .ref h_t), (1, .int a1)] → W p l e (rm 3) s m args below meth c H locs 0 0 (MQ below (qW (some (.int out.1)) E (w_M_sheet E h_t h_t_bits h_t_cells h_t_findings h_t_longs x_t_s x_t_kept x_t_before x_t_shown x_t_worths x_t_steps x_t_tape x_t_between c_t_isKept c_t_most c_t_taped c_t_here c_t_fault c_t_value out.2.1 out.2.2.1 out.2.2.2.1 out.2.2.2.2) A) args s 0 0 A) (F0 m 79 ls [.int s0, .int s1, .ref h_t_longs]) := by
  obtain ⟨hx, hb, hr, hml, hown, hw, hlocks⟩ := id C
  intro c_t_bits c_t_cells c_t_findings c_t_longs s0 s1 hF H locs hP hD hS ls hl
  rw [f_M_sheet_b79] at hF
  obtain ⟨r5, er5, hF⟩ := kb hF
  refine wa_iast hx hb hK hP hD hS 4 0 rfl rfl er5 dX10_sheet_79 (fun H locs hP hD hS => ?_)
  have hP : va_P (eD E) vwCl (w_M_sheet E h_t h_t_bits h_t_cells h_t_findings h_t_longs x_t_s x_t_kept x_t_before x_t_shown x_t_worths x_t_steps x_t_tape x_t_between c_t_isKept c_t_most c_t_taped c_t_here c_t_fault c_t_value c_t_bits c_t_cells c_t_findings r5) H := hP
  have hD : va_D A (w_M_sheet E h_t h_t_bits h_t_cells h_t_findings h_t_longs x_t_s x_t_kept x_t_before x_t_shown x_t_worths x_t_steps x_t_tape x_t_between c_t_isKept c_t_most c_t_taped c_t_here c_t_fault c_t_value c_t_bits c_t_cells c_t_findings r5) := hD
  refine lv_iconst (v := (0 : Int32)) hx hb dX10_sheet_80 (by decide) ?_
  refine lv_istore (lv' := [(4, .int (0 : Int32)), (0, .ref h_t), (1, .int a1)]) hx hb dX10_sheet_81 hl (by decide) rfl (fun ls hl => ?_)
  exact wk_M_sheet_b83 E h_t h_t_bits h_t_cells h_t_findings h_t_longs x_t_s x_t_kept x_t_before x_t_shown x_t_worths x_t_steps x_t_tape x_t_between c_t_isKept c_t_most c_t_taped c_t_here c_t_fault c_t_value a1 a2 a3 C hA  hK hT  5000 c_t_bits c_t_cells c_t_findings r5 (0 : Int32) hF _ _ hP hD hS _ (lv_sub hl [1, 2, 0] rfl)
set_option maxHeartbeats 4000000 in
set_option maxRecDepth 100000 in
theorem wk_M_sheet_b35 {p : Program} {l : Launch} {e : Env} {s : State} {m : MethodId} {args : Array Value} {below : List Frame} {meth : Method} {c : Code} {A : Nat → Prop} (E : kE) (h_t : Nat) (h_t_bits : Nat) (h_t_cells : Nat) (h_t_findings : Nat) (h_t_longs : Nat) (x_t_s : Nat) (x_t_kept : Nat) (x_t_before : Nat) (x_t_shown : Nat) (x_t_worths : Nat) (x_t_steps : Nat) (x_t_tape : Nat) (x_t_between : Nat) (c_t_isKept : Int32) (c_t_most : Int32) (c_t_taped : Int32) (c_t_here : Int32) (c_t_fault : Int32) (c_t_value : Int32) (a1 : Int32) (a2 : Int32) (a3 : Int32) {out : Int32 × (Nat → Int32) × (Nat → Int64) × (Nat → Int32) × (Nat → Int32)} (C : kC RX10 cX10_sheet 5 (some .int) p s m args meth c) (hA : ∀ q : Nat, s.heap.size ≤ q → A q) (hK : va_K (eD E) vwCl (eT E) s) (hT : sT E A s s.heap)  :
    ∀ (c_t_bits : (Nat → Int32)) (c_t_cells : (Nat → Int64)) (c_t_findings : (Nat → Int32)) (c_t_longs : (Nat → Int32)), f_M_sheet_b35  a1 a2 a3 c_t_bits c_t_cells c_t_findings c_t_longs = some out → ∀ (H : Heap) (locs : List Loc), va_P (eD E) vwCl (w_M_sheet E h_t h_t_bits h_t_cells h_t_findings h_t_longs x_t_s x_t_kept x_t_before x_t_shown x_t_worths x_t_steps x_t_tape x_t_between c_t_isKept c_t_most c_t_taped c_t_here c_t_fault c_t_value c_t_bits c_t_cells c_t_findings c_t_longs) H → va_D A (w_M_sheet E h_t h_t_bits h_t_cells h_t_findings h_t_longs x_t_s x_t_kept x_t_before x_t_shown x_t_worths x_t_steps x_t_tape x_t_between c_t_isKept c_t_most c_t_taped c_t_here c_t_fault c_t_value c_t_bits c_t_cells c_t_findings c_t_longs) → va_S A s.heap H locs → ∀ (ls : Array Slot), lv_has ls 5 [(0, .ref h_t), (1, .int a1), (2, .int a2), (3, .int a3)] → W p l e (rm 3) s m args below meth c H locs 0 0 (MQ below (qW (some (.int out.1)) E (w_M_sheet E h_t h_t_bits h_t_cells h_t_findings h_t_longs x_t_s x_t_kept x_t_before x_t_shown x_t_worths x_t_steps x_t_tape x_t_between c_t_isKept c_t_most c_t_taped c_t_here c_t_fault c_t_value out.2.1 out.2.2.1 out.2.2.2.1 out.2.2.2.2) A) args s 0 0 A) (F0 m 35 ls []) := by
  obtain ⟨hx, hb, hr, hml, hown, hw, hlocks⟩ := id C
  intro c_t_bits c_t_cells c_t_findings c_t_longs hF H locs hP hD hS ls hl
  rw [f_M_sheet_b35] at hF
  refine lv_iload_n hx hb dX10_sheet_35 rfl (lv_at hl 3 rfl) ?_
  refine lv_if_ge (tgt := 46) hx hb dX10_sheet_36 (by decide) (fun q6 => ?_) (fun q6 => ?_)
  · have hF := kp hF q6
    refine lv_iload_n hx hb dX10_sheet_46 rfl (lv_at hl 3 rfl) ?_
    refine lv_bipush (v := (40 : Int32)) hx hb dX10_sheet_47 (by decide) ?_
    refine lv_icmp_le (tgt := 58) hx hb dX10_sheet_49 (by decide) (fun q7 => ?_) (fun q7 => ?_)
    · have hF := kp hF q7
      refine lv_aload_n hx hb dX10_sheet_58 rfl (lv_at hl 0 rfl) ?_
      refine va_get (D := eD E) (ci := 8) (C := RX10) (T := TX10) (N := 18) (v := .ref h_t_bits) hx hb hw inX10 hown hK hP 0 rfl rfl 14 (by decide) (hw _ mw_895) (fun _ h9 => h9) rfl dX10_sheet_59 ?_
      refine lv_iload_n hx hb dX10_sheet_62 rfl (lv_at hl 1 rfl) ?_
      refine lv_iload_n hx hb dX10_sheet_63 rfl (lv_at hl 2 rfl) ?_
      obtain ⟨r8, er8, hF⟩ := kb hF
      refine wa_iast hx hb hK hP hD hS 1 0 rfl rfl er8 dX10_sheet_64 (fun H locs hP hD hS => ?_)
      have hP : va_P (eD E) vwCl (w_M_sheet E h_t h_t_bits h_t_cells h_t_findings h_t_longs x_t_s x_t_kept x_t_before x_t_shown x_t_worths x_t_steps x_t_tape x_t_between c_t_isKept c_t_most c_t_taped c_t_here c_t_fault c_t_value r8 c_t_cells c_t_findings c_t_longs) H := hP
      have hD : va_D A (w_M_sheet E h_t h_t_bits h_t_cells h_t_findings h_t_longs x_t_s x_t_kept x_t_before x_t_shown x_t_worths x_t_steps x_t_tape x_t_between c_t_isKept c_t_most c_t_taped c_t_here c_t_fault c_t_value r8 c_t_cells c_t_findings c_t_longs) := hD
      refine lv_aload_n hx hb dX10_sheet_65 rfl (lv_at hl 0 rfl) ?_
      refine va_get (D := eD E) (ci := 8) (C := RX10) (T := TX10) (N := 18) (v := .ref h_t_longs) hx hb hw inX10 hown hK hP 0 rfl rfl 15 (by decide) (hw _ mw_896) (fun _ h9 => h9) rfl dX10_sheet_66 ?_
      refine lv_iload_n hx hb dX10_sheet_69 rfl (lv_at hl 1 rfl) ?_
      refine lv_iload_n hx hb dX10_sheet_70 rfl (lv_at hl 2 rfl) ?_
      refine lv_if_ne (tgt := 78) hx hb dX10_sheet_71 (by decide) (fun q9 => ?_) (fun q9 => ?_)
      · have hF := kn hF q9
        refine lv_iload_n hx hb dX10_sheet_78 rfl (lv_at hl 3 rfl) ?_
        exact wk_M_sheet_b79 E h_t h_t_bits h_t_cells h_t_findings h_t_longs x_t_s x_t_kept x_t_before x_t_shown x_t_worths x_t_steps x_t_tape x_t_between c_t_isKept c_t_most c_t_taped c_t_here c_t_fault c_t_value a1 a2 a3 C hA  hK hT  r8 c_t_cells c_t_findings c_t_longs a3 a1 hF _ _ hP hD hS _ (lv_sub hl [0, 1] rfl)
      · have hF := kp hF q9
        refine lv_iconst (v := (0 : Int32)) hx hb dX10_sheet_74 (by decide) ?_
        refine lv_goto (tgt := 79) hx hb dX10_sheet_75 (by decide) ?_
        exact wk_M_sheet_b79 E h_t h_t_bits h_t_cells h_t_findings h_t_longs x_t_s x_t_kept x_t_before x_t_shown x_t_worths x_t_steps x_t_tape x_t_between c_t_isKept c_t_most c_t_taped c_t_here c_t_fault c_t_value a1 a2 a3 C hA  hK hT  r8 c_t_cells c_t_findings c_t_longs (0 : Int32) a1 hF _ _ hP hD hS _ (lv_sub hl [0, 1] rfl)
    · have hF := kn hF q7
      refine lv_aload_n hx hb dX10_sheet_52 rfl (lv_at hl 0 rfl) ?_
      refine lv_iconst (v := (0 : Int32)) hx hb dX10_sheet_53 (by decide) ?_
      obtain ⟨r10, er10, hF⟩ := kb hF
      refine kWV (rest := []) (Wr := [(h_t_bits, .inl (eI E, 4, .inl c_t_bits)), (h_t_cells, .inl (eJ E, 160, .inr (.inl c_t_cells))), (h_t_longs, .inl (eI E, 4, .inl c_t_longs))]) (Wn := (w_M_sheet E h_t h_t_bits h_t_cells h_t_findings h_t_longs x_t_s x_t_kept x_t_before x_t_shown x_t_worths x_t_steps x_t_tape x_t_between c_t_isKept c_t_most c_t_taped c_t_here c_t_fault c_t_value c_t_bits c_t_cells r10.2 c_t_longs)) C (k_M_no l E h_t h_t_findings x_t_s x_t_kept x_t_before x_t_shown x_t_worths x_t_steps x_t_tape h_t_bits h_t_longs h_t_cells x_t_between H.size c_t_isKept c_t_most c_t_taped c_t_here c_t_fault c_t_value c_t_findings (0 : Int32) r10 er10) fn_M_no mw_964 ⟨Nat.le_of_ble_eq_true rfl, Nat.le_of_ble_eq_true rfl⟩ hK hT hS hA (va_recv hK hP (ci := 8) (q0 := 0) rfl rfl) hP hD [0, 3] rfl (by decide) [1, 2, 4] rfl (by decide) (by decide) [3, 0, 1, 4, 2] rfl (by decide) rfl rfl hl (Nat.le_of_ble_eq_true rfl) dX10_sheet_54 (fun H locs hP hD hS => ?_)
      refine W.eq (g2 := F0 m 57 ls [.int r10.1]) rfl ?_
      obtain rfl := Option.some.inj hF
      exact W.iret hx hb hr (fun t ht hW => ⟨⟨rfl, by rw [ht]; exact hP, hD⟩, hS.F ht⟩) hS.2.2 dX10_sheet_57
  · have hF := kn hF q6
    refine lv_aload_n hx hb dX10_sheet_39 rfl (lv_at hl 0 rfl) ?_
    refine lv_bipush (v := (6 : Int32)) hx hb dX10_sheet_40 (by decide) ?_
    obtain ⟨r11, er11, hF⟩ := kb hF
    refine kWV (rest := []) (Wr := [(h_t_bits, .inl (eI E, 4, .inl c_t_bits)), (h_t_cells, .inl (eJ E, 160, .inr (.inl c_t_cells))), (h_t_longs, .inl (eI E, 4, .inl c_t_longs))]) (Wn := (w_M_sheet E h_t h_t_bits h_t_cells h_t_findings h_t_longs x_t_s x_t_kept x_t_before x_t_shown x_t_worths x_t_steps x_t_tape x_t_between c_t_isKept c_t_most c_t_taped c_t_here c_t_fault c_t_value c_t_bits c_t_cells r11.2 c_t_longs)) C (k_M_no l E h_t h_t_findings x_t_s x_t_kept x_t_before x_t_shown x_t_worths x_t_steps x_t_tape h_t_bits h_t_longs h_t_cells x_t_between H.size c_t_isKept c_t_most c_t_taped c_t_here c_t_fault c_t_value c_t_findings (6 : Int32) r11 er11) fn_M_no mw_964 ⟨Nat.le_of_ble_eq_true rfl, Nat.le_of_ble_eq_true rfl⟩ hK hT hS hA (va_recv hK hP (ci := 8) (q0 := 0) rfl rfl) hP hD [0, 3] rfl (by decide) [1, 2, 4] rfl (by decide) (by decide) [3, 0, 1, 4, 2] rfl (by decide) rfl rfl hl (Nat.le_of_ble_eq_true rfl) dX10_sheet_42 (fun H locs hP hD hS => ?_)
    refine W.eq (g2 := F0 m 45 ls [.int r11.1]) rfl ?_
    obtain rfl := Option.some.inj hF
    exact W.iret hx hb hr (fun t ht hW => ⟨⟨rfl, by rw [ht]; exact hP, hD⟩, hS.F ht⟩) hS.2.2 dX10_sheet_45
set_option maxHeartbeats 4000000 in
set_option maxRecDepth 100000 in
theorem k_M_sheet (l : Launch) (E : kE) (h_t : Nat) (h_t_bits : Nat) (h_t_cells : Nat) (h_t_findings : Nat) (h_t_longs : Nat) (x_t_s : Nat) (x_t_kept : Nat) (x_t_before : Nat) (x_t_shown : Nat) (x_t_worths : Nat) (x_t_steps : Nat) (x_t_tape : Nat) (x_t_between : Nat) (sz : Nat) (c_t_isKept : Int32) (c_t_most : Int32) (c_t_taped : Int32) (c_t_here : Int32) (c_t_fault : Int32) (c_t_value : Int32) (c_t_bits : (Nat → Int32)) (c_t_cells : (Nat → Int64)) (c_t_findings : (Nat → Int32)) (c_t_longs : (Nat → Int32)) (a1 : Int32) (a2 : Int32) (a3 : Int32) (out : Int32 × (Nat → Int32) × (Nat → Int64) × (Nat → Int32) × (Nat → Int32)) (hF : f_M_sheet c_t_bits c_t_cells c_t_findings c_t_longs a1 a2 a3 = some out) : Met l yX10_sheet (Cond.code yX10_sheet cX10_sheet 5 (some .int) :: wG) (rm 3) (pW E (w_M_sheet E h_t h_t_bits h_t_cells h_t_findings h_t_longs x_t_s x_t_kept x_t_before x_t_shown x_t_worths x_t_steps x_t_tape x_t_between c_t_isKept c_t_most c_t_taped c_t_here c_t_fault c_t_value c_t_bits c_t_cells c_t_findings c_t_longs) sz [.ref h_t, .int a1, .int a2, .int a3]) (qW (some (.int out.1)) E (w_M_sheet E h_t h_t_bits h_t_cells h_t_findings h_t_longs x_t_s x_t_kept x_t_before x_t_shown x_t_worths x_t_steps x_t_tape x_t_between c_t_isKept c_t_most c_t_taped c_t_here c_t_fault c_t_value out.2.1 out.2.2.1 out.2.2.2.1 out.2.2.2.2) (va_A (w_M_sheet E h_t h_t_bits h_t_cells h_t_findings h_t_longs x_t_s x_t_kept x_t_before x_t_shown x_t_worths x_t_steps x_t_tape x_t_between c_t_isKept c_t_most c_t_taped c_t_here c_t_fault c_t_value c_t_bits c_t_cells c_t_findings c_t_longs) sz)) 0 0 (va_A (w_M_sheet E h_t h_t_bits h_t_cells h_t_findings h_t_longs x_t_s x_t_kept x_t_before x_t_shown x_t_worths x_t_steps x_t_tape x_t_between c_t_isKept c_t_most c_t_taped c_t_here c_t_fault c_t_value c_t_bits c_t_cells c_t_findings c_t_longs) sz) := by
  refine met_W (by decide) (Nat.le_of_ble_eq_true rfl) ?_
  intro p e s m args below meth c A ls C hP hD hS hA hK hT hl
  obtain ⟨hx, hb, hr, hml, hown, hw, hlocks⟩ := id C
  have hl : lv_has ls 5 [(0, .ref h_t), (1, .int a1), (2, .int a2), (3, .int a3)] := hl
  rw [f_M_sheet] at hF
  refine lv_iload_n hx hb dX10_sheet_0 rfl (lv_at hl 1 rfl) ?_
  obtain ⟨r12, er12, hF⟩ := kb hF
  refine kRS (rest := []) C (k_M_isSheet l E a1 r12 er12) fn_M_isSheet mw_1275 ⟨Nat.le_of_ble_eq_true rfl, Nat.le_of_ble_eq_true rfl⟩ hK hT hS hP [] rfl rfl rfl hl (Nat.le_of_ble_eq_true rfl) dX10_sheet_1 ?_
  refine lv_if_eq (tgt := 29) hx hb dX10_sheet_4 (by decide) (fun q13 => ?_) (fun q13 => ?_)
  · have hF := kp hF q13
    exact wk_M_sheet_b29 E h_t h_t_bits h_t_cells h_t_findings h_t_longs x_t_s x_t_kept x_t_before x_t_shown x_t_worths x_t_steps x_t_tape x_t_between c_t_isKept c_t_most c_t_taped c_t_here c_t_fault c_t_value a1 a2 a3 C hA  hK hT  c_t_bits c_t_cells c_t_findings c_t_longs hF _ _ hP hD hS _ (lv_sub hl [0] rfl)
  · have hF := kn hF q13
    refine lv_iload_n hx hb dX10_sheet_7 rfl (lv_at hl 2 rfl) ?_
    refine lv_if_eq (tgt := 35) hx hb dX10_sheet_8 (by decide) (fun q14 => ?_) (fun q14 => ?_)
    · have hF := kp hF q14
      exact wk_M_sheet_b35 E h_t h_t_bits h_t_cells h_t_findings h_t_longs x_t_s x_t_kept x_t_before x_t_shown x_t_worths x_t_steps x_t_tape x_t_between c_t_isKept c_t_most c_t_taped c_t_here c_t_fault c_t_value a1 a2 a3 C hA  hK hT  c_t_bits c_t_cells c_t_findings c_t_longs hF _ _ hP hD hS _ (lv_sub hl [0, 1, 2, 3] rfl)
    · have hF := kn hF q14
      refine lv_iload_n hx hb dX10_sheet_11 rfl (lv_at hl 2 rfl) ?_
      refine lv_bipush (v := (8 : Int32)) hx hb dX10_sheet_12 (by decide) ?_
      refine lv_icmp_eq (tgt := 35) hx hb dX10_sheet_14 (by decide) (fun q15 => ?_) (fun q15 => ?_)
      · have hF := kp hF q15
        exact wk_M_sheet_b35 E h_t h_t_bits h_t_cells h_t_findings h_t_longs x_t_s x_t_kept x_t_before x_t_shown x_t_worths x_t_steps x_t_tape x_t_between c_t_isKept c_t_most c_t_taped c_t_here c_t_fault c_t_value a1 a2 a3 C hA  hK hT  c_t_bits c_t_cells c_t_findings c_t_longs hF _ _ hP hD hS _ (lv_sub hl [0, 1, 2, 3] rfl)
      · have hF := kn hF q15
        refine lv_iload_n hx hb dX10_sheet_17 rfl (lv_at hl 2 rfl) ?_
        refine lv_bipush (v := (16 : Int32)) hx hb dX10_sheet_18 (by decide) ?_
        refine lv_icmp_eq (tgt := 35) hx hb dX10_sheet_20 (by decide) (fun q16 => ?_) (fun q16 => ?_)
        · have hF := kp hF q16
          exact wk_M_sheet_b35 E h_t h_t_bits h_t_cells h_t_findings h_t_longs x_t_s x_t_kept x_t_before x_t_shown x_t_worths x_t_steps x_t_tape x_t_between c_t_isKept c_t_most c_t_taped c_t_here c_t_fault c_t_value a1 a2 a3 C hA  hK hT  c_t_bits c_t_cells c_t_findings c_t_longs hF _ _ hP hD hS _ (lv_sub hl [0, 1, 2, 3] rfl)
        · have hF := kn hF q16
          refine lv_iload_n hx hb dX10_sheet_23 rfl (lv_at hl 2 rfl) ?_
          refine lv_bipush (v := (64 : Int32)) hx hb dX10_sheet_24 (by decide) ?_
          refine lv_icmp_eq (tgt := 35) hx hb dX10_sheet_26 (by decide) (fun q17 => ?_) (fun q17 => ?_)
          · have hF := kp hF q17
            exact wk_M_sheet_b35 E h_t h_t_bits h_t_cells h_t_findings h_t_longs x_t_s x_t_kept x_t_before x_t_shown x_t_worths x_t_steps x_t_tape x_t_between c_t_isKept c_t_most c_t_taped c_t_here c_t_fault c_t_value a1 a2 a3 C hA  hK hT  c_t_bits c_t_cells c_t_findings c_t_longs hF _ _ hP hD hS _ (lv_sub hl [0, 1, 2, 3] rfl)
          · have hF := kn hF q17
            exact wk_M_sheet_b29 E h_t h_t_bits h_t_cells h_t_findings h_t_longs x_t_s x_t_kept x_t_before x_t_shown x_t_worths x_t_steps x_t_tape x_t_between c_t_isKept c_t_most c_t_taped c_t_here c_t_fault c_t_value a1 a2 a3 C hA  hK hT  c_t_bits c_t_cells c_t_findings c_t_longs hF _ _ hP hD hS _ (lv_sub hl [0] rfl)
abbrev w_M_writes (E : kE) (h_t : Nat) (h_t_bits : Nat) (h_t_cells : Nat) (x_t_s : Nat) (x_t_kept : Nat) (x_t_before : Nat) (x_t_findings : Nat) (x_t_shown : Nat) (x_t_worths : Nat) (x_t_steps : Nat) (x_t_tape : Nat) (x_t_longs : Nat) (x_t_between : Nat) (c_t_isKept : Int32) (c_t_most : Int32) (c_t_taped : Int32) (c_t_here : Int32) (c_t_fault : Int32) (c_t_value : Int32) (c_t_bits : (Nat → Int32)) (c_t_cells : (Nat → Int64)) : va_W := [(h_t, .inr (8, [.ref x_t_s, .ref x_t_kept, .ref x_t_before, .int c_t_isKept, .ref x_t_findings, .ref x_t_shown, .int c_t_most, .ref x_t_worths, .ref x_t_steps, .ref x_t_tape, .int c_t_taped, .int c_t_here, .int c_t_fault, .int c_t_value, .ref h_t_bits, .ref x_t_longs, .ref h_t_cells, .ref x_t_between])), (h_t_bits, .inl (eI E, 4, .inl c_t_bits)), (h_t_cells, .inl (eJ E, 160, .inr (.inl c_t_cells)))]
set_option maxHeartbeats 4000000 in
set_option maxRecDepth 100000 in
theorem k_M_writes (l : Launch) (E : kE) (h_t : Nat) (h_t_bits : Nat) (h_t_cells : Nat) (x_t_s : Nat) (x_t_kept : Nat) (x_t_before : Nat) (x_t_findings : Nat) (x_t_shown : Nat) (x_t_worths : Nat) (x_t_steps : Nat) (x_t_tape : Nat) (x_t_longs : Nat) (x_t_between : Nat) (sz : Nat) (c_t_isKept : Int32) (c_t_most : Int32) (c_t_taped : Int32) (c_t_here : Int32) (c_t_fault : Int32) (c_t_value : Int32) (c_t_bits : (Nat → Int32)) (c_t_cells : (Nat → Int64)) (a1 : Int32) (a2 : Int32) (a3 : Int64) (out : (Nat → Int64)) (hF : f_M_writes c_t_bits c_t_cells a1 a2 a3 = some out) : Met l yX10_writes (Cond.code yX10_writes cX10_writes 5 none :: wG) (rm 1) (pW E (w_M_writes E h_t h_t_bits h_t_cells x_t_s x_t_kept x_t_before x_t_findings x_t_shown x_t_worths x_t_steps x_t_tape x_t_longs x_t_between c_t_isKept c_t_most c_t_taped c_t_here c_t_fault c_t_value c_t_bits c_t_cells) sz [.ref h_t, .int a1, .int a2, .long a3]) (qW none E (w_M_writes E h_t h_t_bits h_t_cells x_t_s x_t_kept x_t_before x_t_findings x_t_shown x_t_worths x_t_steps x_t_tape x_t_longs x_t_between c_t_isKept c_t_most c_t_taped c_t_here c_t_fault c_t_value c_t_bits out) (va_A (w_M_writes E h_t h_t_bits h_t_cells x_t_s x_t_kept x_t_before x_t_findings x_t_shown x_t_worths x_t_steps x_t_tape x_t_longs x_t_between c_t_isKept c_t_most c_t_taped c_t_here c_t_fault c_t_value c_t_bits c_t_cells) sz)) 0 0 (va_A (w_M_writes E h_t h_t_bits h_t_cells x_t_s x_t_kept x_t_before x_t_findings x_t_shown x_t_worths x_t_steps x_t_tape x_t_longs x_t_between c_t_isKept c_t_most c_t_taped c_t_here c_t_fault c_t_value c_t_bits c_t_cells) sz) := by
  refine met_W (by decide) (Nat.le_of_ble_eq_true rfl) ?_
  intro p e s m args below meth c A ls C hP hD hS hA hK hT hl
  obtain ⟨hx, hb, hr, hml, hown, hw, hlocks⟩ := id C
  have hl : lv_has ls 5 [(0, .ref h_t), (1, .int a1), (2, .int a2), (3, .long a3)] := hl
  rw [f_M_writes] at hF
  refine lv_aload_n hx hb dX10_writes_0 rfl (lv_at hl 0 rfl) ?_
  refine va_get (D := eD E) (ci := 8) (C := RX10) (T := TX10) (N := 18) (v := .ref h_t_cells) hx hb hw inX10 hown hK hP 0 rfl rfl 16 (by decide) (hw _ mw_897) (fun _ h9 => h9) rfl dX10_writes_1 ?_
  refine lv_bipush (v := (40 : Int32)) hx hb dX10_writes_4 (by decide) ?_
  refine lv_iload_n hx hb dX10_writes_6 rfl (lv_at hl 1 rfl) ?_
  refine lv_imul hx hb dX10_writes_7 ?_
  refine lv_iload_n hx hb dX10_writes_8 rfl (lv_at hl 2 rfl) ?_
  refine lv_iadd hx hb dX10_writes_9 ?_
  refine lv_aload_n hx hb dX10_writes_10 rfl (lv_at hl 0 rfl) ?_
  refine va_get (D := eD E) (ci := 8) (C := RX10) (T := TX10) (N := 18) (v := .ref h_t_bits) hx hb hw inX10 hown hK hP 0 rfl rfl 14 (by decide) (hw _ mw_895) (fun _ h9 => h9) rfl dX10_writes_11 ?_
  refine lv_iload_n hx hb dX10_writes_14 rfl (lv_at hl 1 rfl) ?_
  obtain ⟨r1, er1, hF⟩ := kb hF
  refine wa_iald hx hb hK hP 1 0 rfl rfl er1 dX10_writes_15 ?_
  refine lv_bipush (v := (8 : Int32)) hx hb dX10_writes_16 (by decide) ?_
  refine lv_icmp_ne (tgt := 28) hx hb dX10_writes_18 (by decide) (fun q2 => ?_) (fun q2 => ?_)
  · have hF := kn hF q2
    refine lv_aload_n hx hb dX10_writes_28 rfl (lv_at hl 0 rfl) ?_
    refine va_get (D := eD E) (ci := 8) (C := RX10) (T := TX10) (N := 18) (v := .ref h_t_bits) hx hb hw inX10 hown hK hP 0 rfl rfl 14 (by decide) (hw _ mw_895) (fun _ h9 => h9) rfl dX10_writes_29 ?_
    refine lv_iload_n hx hb dX10_writes_32 rfl (lv_at hl 1 rfl) ?_
    obtain ⟨r3, er3, hF⟩ := kb hF
    refine wa_iald hx hb hK hP 1 0 rfl rfl er3 dX10_writes_33 ?_
    refine lv_bipush (v := (16 : Int32)) hx hb dX10_writes_34 (by decide) ?_
    refine lv_icmp_ne (tgt := 46) hx hb dX10_writes_36 (by decide) (fun q4 => ?_) (fun q4 => ?_)
    · have hF := kn hF q4
      refine lv_lload_n hx hb dX10_writes_46 rfl (lv_at hl 3 rfl) ?_
      obtain ⟨r5, er5, hF⟩ := kb hF
      refine wa_last hx hb hK hP hD hS 2 2 rfl rfl er5 dX10_writes_47 (fun H locs hP hD hS => ?_)
      have hP : va_P (eD E) vwCl (w_M_writes E h_t h_t_bits h_t_cells x_t_s x_t_kept x_t_before x_t_findings x_t_shown x_t_worths x_t_steps x_t_tape x_t_longs x_t_between c_t_isKept c_t_most c_t_taped c_t_here c_t_fault c_t_value c_t_bits r5) H := hP
      have hD : va_D A (w_M_writes E h_t h_t_bits h_t_cells x_t_s x_t_kept x_t_before x_t_findings x_t_shown x_t_worths x_t_steps x_t_tape x_t_longs x_t_between c_t_isKept c_t_most c_t_taped c_t_here c_t_fault c_t_value c_t_bits r5) := hD
      obtain rfl := Option.some.inj hF
      exact W.vret hx hb hr (fun t ht hW => ⟨⟨rfl, by rw [ht]; exact hP, hD⟩, hS.F ht⟩) hS.2.2 dX10_writes_48
    · have hF := kp hF q4
      refine lv_lload_n hx hb dX10_writes_39 rfl (lv_at hl 3 rfl) ?_
      refine lv_l2i (v := a3.toInt32) hx hb dX10_writes_40 rfl ?_
      refine lv_i2s (v := a3.toInt32.toInt16.toInt32) hx hb dX10_writes_41 rfl ?_
      refine lv_i2l (v := a3.toInt32.toInt16.toInt32.toInt64) hx hb dX10_writes_42 rfl ?_
      refine lv_goto (tgt := 47) hx hb dX10_writes_43 (by decide) ?_
      obtain ⟨r6, er6, hF⟩ := kb hF
      refine wa_last hx hb hK hP hD hS 2 2 rfl rfl er6 dX10_writes_47 (fun H locs hP hD hS => ?_)
      have hP : va_P (eD E) vwCl (w_M_writes E h_t h_t_bits h_t_cells x_t_s x_t_kept x_t_before x_t_findings x_t_shown x_t_worths x_t_steps x_t_tape x_t_longs x_t_between c_t_isKept c_t_most c_t_taped c_t_here c_t_fault c_t_value c_t_bits r6) H := hP
      have hD : va_D A (w_M_writes E h_t h_t_bits h_t_cells x_t_s x_t_kept x_t_before x_t_findings x_t_shown x_t_worths x_t_steps x_t_tape x_t_longs x_t_between c_t_isKept c_t_most c_t_taped c_t_here c_t_fault c_t_value c_t_bits r6) := hD
      obtain rfl := Option.some.inj hF
      exact W.vret hx hb hr (fun t ht hW => ⟨⟨rfl, by rw [ht]; exact hP, hD⟩, hS.F ht⟩) hS.2.2 dX10_writes_48
  · have hF := kp hF q2
    refine lv_lload_n hx hb dX10_writes_21 rfl (lv_at hl 3 rfl) ?_
    refine lv_l2i (v := a3.toInt32) hx hb dX10_writes_22 rfl ?_
    refine lv_i2b (v := a3.toInt32.toInt8.toInt32) hx hb dX10_writes_23 rfl ?_
    refine lv_i2l (v := a3.toInt32.toInt8.toInt32.toInt64) hx hb dX10_writes_24 rfl ?_
    refine lv_goto (tgt := 47) hx hb dX10_writes_25 (by decide) ?_
    obtain ⟨r7, er7, hF⟩ := kb hF
    refine wa_last hx hb hK hP hD hS 2 2 rfl rfl er7 dX10_writes_47 (fun H locs hP hD hS => ?_)
    have hP : va_P (eD E) vwCl (w_M_writes E h_t h_t_bits h_t_cells x_t_s x_t_kept x_t_before x_t_findings x_t_shown x_t_worths x_t_steps x_t_tape x_t_longs x_t_between c_t_isKept c_t_most c_t_taped c_t_here c_t_fault c_t_value c_t_bits r7) H := hP
    have hD : va_D A (w_M_writes E h_t h_t_bits h_t_cells x_t_s x_t_kept x_t_before x_t_findings x_t_shown x_t_worths x_t_steps x_t_tape x_t_longs x_t_between c_t_isKept c_t_most c_t_taped c_t_here c_t_fault c_t_value c_t_bits r7) := hD
    obtain rfl := Option.some.inj hF
    exact W.vret hx hb hr (fun t ht hW => ⟨⟨rfl, by rw [ht]; exact hP, hD⟩, hS.F ht⟩) hS.2.2 dX10_writes_48
abbrev w_M_write (E : kE) (h_t : Nat) (h_t_bits : Nat) (h_t_cells : Nat) (h_t_findings : Nat) (h_t_longs : Nat) (x_t_s : Nat) (x_t_kept : Nat) (x_t_before : Nat) (x_t_shown : Nat) (x_t_worths : Nat) (x_t_steps : Nat) (x_t_tape : Nat) (x_t_between : Nat) (c_t_isKept : Int32) (c_t_most : Int32) (c_t_taped : Int32) (c_t_here : Int32) (c_t_fault : Int32) (c_t_value : Int32) (c_t_bits : (Nat → Int32)) (c_t_cells : (Nat → Int64)) (c_t_findings : (Nat → Int32)) (c_t_longs : (Nat → Int32)) : va_W := [(h_t, .inr (8, [.ref x_t_s, .ref x_t_kept, .ref x_t_before, .int c_t_isKept, .ref h_t_findings, .ref x_t_shown, .int c_t_most, .ref x_t_worths, .ref x_t_steps, .ref x_t_tape, .int c_t_taped, .int c_t_here, .int c_t_fault, .int c_t_value, .ref h_t_bits, .ref h_t_longs, .ref h_t_cells, .ref x_t_between])), (h_t_bits, .inl (eI E, 4, .inl c_t_bits)), (h_t_cells, .inl (eJ E, 160, .inr (.inl c_t_cells))), (h_t_findings, .inl (eI E, 7, .inl c_t_findings)), (h_t_longs, .inl (eI E, 4, .inl c_t_longs))]
set_option maxHeartbeats 4000000 in
set_option maxRecDepth 100000 in
theorem k_M_write (l : Launch) (E : kE) (h_t : Nat) (h_t_bits : Nat) (h_t_cells : Nat) (h_t_findings : Nat) (h_t_longs : Nat) (x_t_s : Nat) (x_t_kept : Nat) (x_t_before : Nat) (x_t_shown : Nat) (x_t_worths : Nat) (x_t_steps : Nat) (x_t_tape : Nat) (x_t_between : Nat) (sz : Nat) (c_t_isKept : Int32) (c_t_most : Int32) (c_t_taped : Int32) (c_t_here : Int32) (c_t_fault : Int32) (c_t_value : Int32) (c_t_bits : (Nat → Int32)) (c_t_cells : (Nat → Int64)) (c_t_findings : (Nat → Int32)) (c_t_longs : (Nat → Int32)) (a1 : Int32) (a2 : Int32) (a3 : Int64) (out : Int64 × (Nat → Int64) × (Nat → Int32)) (hF : f_M_write c_t_bits c_t_cells c_t_findings c_t_longs a1 a2 a3 = some out) : Met l yX10_write (Cond.code yX10_write cX10_write 7 (some .long) :: wG) (rm 3) (pW E (w_M_write E h_t h_t_bits h_t_cells h_t_findings h_t_longs x_t_s x_t_kept x_t_before x_t_shown x_t_worths x_t_steps x_t_tape x_t_between c_t_isKept c_t_most c_t_taped c_t_here c_t_fault c_t_value c_t_bits c_t_cells c_t_findings c_t_longs) sz [.ref h_t, .int a1, .int a2, .long a3]) (qW (some (.long out.1)) E (w_M_write E h_t h_t_bits h_t_cells h_t_findings h_t_longs x_t_s x_t_kept x_t_before x_t_shown x_t_worths x_t_steps x_t_tape x_t_between c_t_isKept c_t_most c_t_taped c_t_here c_t_fault c_t_value c_t_bits out.2.1 out.2.2 c_t_longs) (va_A (w_M_write E h_t h_t_bits h_t_cells h_t_findings h_t_longs x_t_s x_t_kept x_t_before x_t_shown x_t_worths x_t_steps x_t_tape x_t_between c_t_isKept c_t_most c_t_taped c_t_here c_t_fault c_t_value c_t_bits c_t_cells c_t_findings c_t_longs) sz)) 0 0 (va_A (w_M_write E h_t h_t_bits h_t_cells h_t_findings h_t_longs x_t_s x_t_kept x_t_before x_t_shown x_t_worths x_t_steps x_t_tape x_t_between c_t_isKept c_t_most c_t_taped c_t_here c_t_fault c_t_value c_t_bits c_t_cells c_t_findings c_t_longs) sz) := by
  refine met_W (by decide) (Nat.le_of_ble_eq_true rfl) ?_
  intro p e s m args below meth c A ls C hP hD hS hA hK hT hl
  obtain ⟨hx, hb, hr, hml, hown, hw, hlocks⟩ := id C
  have hl : lv_has ls 7 [(0, .ref h_t), (1, .int a1), (2, .int a2), (3, .long a3)] := hl
  rw [f_M_write] at hF
  refine lv_iload_n hx hb dX10_write_0 rfl (lv_at hl 1 rfl) ?_
  obtain ⟨r1, er1, hF⟩ := kb hF
  refine kRS (rest := []) C (k_M_isSheet l E a1 r1 er1) fn_M_isSheet mw_1275 ⟨Nat.le_of_ble_eq_true rfl, Nat.le_of_ble_eq_true rfl⟩ hK hT hS hP [] rfl rfl rfl hl (Nat.le_of_ble_eq_true rfl) dX10_write_1 ?_
  refine lv_if_ne (tgt := 14) hx hb dX10_write_4 (by decide) (fun q2 => ?_) (fun q2 => ?_)
  · have hF := kn hF q2
    refine lv_aload_n hx hb dX10_write_14 rfl (lv_at hl 0 rfl) ?_
    refine va_get (D := eD E) (ci := 8) (C := RX10) (T := TX10) (N := 18) (v := .ref h_t_bits) hx hb hw inX10 hown hK hP 0 rfl rfl 14 (by decide) (hw _ mw_895) (fun _ h9 => h9) rfl dX10_write_15 ?_
    refine lv_iload_n hx hb dX10_write_18 rfl (lv_at hl 1 rfl) ?_
    obtain ⟨r3, er3, hF⟩ := kb hF
    refine wa_iald hx hb hK hP 1 0 rfl rfl er3 dX10_write_19 ?_
    refine lv_if_ne (tgt := 30) hx hb dX10_write_20 (by decide) (fun q4 => ?_) (fun q4 => ?_)
    · have hF := kn hF q4
      refine lv_iload_n hx hb dX10_write_30 rfl (lv_at hl 2 rfl) ?_
      refine lv_iconst (v := (0 : Int32)) hx hb dX10_write_31 (by decide) ?_
      refine lv_aload_n hx hb dX10_write_32 rfl (lv_at hl 0 rfl) ?_
      refine va_get (D := eD E) (ci := 8) (C := RX10) (T := TX10) (N := 18) (v := .ref h_t_longs) hx hb hw inX10 hown hK hP 0 rfl rfl 15 (by decide) (hw _ mw_896) (fun _ h9 => h9) rfl dX10_write_33 ?_
      refine lv_iload_n hx hb dX10_write_36 rfl (lv_at hl 1 rfl) ?_
      obtain ⟨r5, er5, hF⟩ := kb hF
      refine wa_iald hx hb hK hP 4 0 rfl rfl er5 dX10_write_37 ?_
      refine lv_iconst (v := (1 : Int32)) hx hb dX10_write_38 (by decide) ?_
      refine lv_isub hx hb dX10_write_39 ?_
      obtain ⟨r6, er6, hF⟩ := kb hF
      refine kRS (rest := []) C (k_M_in l E a2 (0 : Int32) (r5 - (1 : Int32)) r6 er6) fn_M_in mw_943 ⟨Nat.le_of_ble_eq_true rfl, Nat.le_of_ble_eq_true rfl⟩ hK hT hS hP [] rfl rfl rfl hl (Nat.le_of_ble_eq_true rfl) dX10_write_40 ?_
      refine lv_if_ne (tgt := 53) hx hb dX10_write_43 (by decide) (fun q7 => ?_) (fun q7 => ?_)
      · have hF := kn hF q7
        refine lv_aload_n hx hb dX10_write_53 rfl (lv_at hl 0 rfl) ?_
        refine va_get (D := eD E) (ci := 8) (C := RX10) (T := TX10) (N := 18) (v := .ref h_t_cells) hx hb hw inX10 hown hK hP 0 rfl rfl 16 (by decide) (hw _ mw_897) (fun _ h9 => h9) rfl dX10_write_54 ?_
        refine lv_bipush (v := (40 : Int32)) hx hb dX10_write_57 (by decide) ?_
        refine lv_iload_n hx hb dX10_write_59 rfl (lv_at hl 1 rfl) ?_
        refine lv_imul hx hb dX10_write_60 ?_
        refine lv_iload_n hx hb dX10_write_61 rfl (lv_at hl 2 rfl) ?_
        refine lv_iadd hx hb dX10_write_62 ?_
        obtain ⟨r8, er8, hF⟩ := kb hF
        refine wa_lald hx hb hK hP 2 2 rfl rfl er8 dX10_write_63 ?_
        refine lv_lstore (lv' := [(5, .long r8), (0, .ref h_t), (1, .int a1), (2, .int a2), (3, .long a3)]) hx hb dX10_write_64 hl (by decide) rfl (fun ls hl => ?_)
        refine lv_aload_n hx hb dX10_write_66 rfl (lv_at hl 1 rfl) ?_
        refine lv_iload_n hx hb dX10_write_67 rfl (lv_at hl 2 rfl) ?_
        refine lv_iload_n hx hb dX10_write_68 rfl (lv_at hl 3 rfl) ?_
        refine lv_lload_n hx hb dX10_write_69 rfl (lv_at hl 4 rfl) ?_
        obtain ⟨r9, er9, hF⟩ := kb hF
        refine kWV (rest := []) (Wr := [(h_t_findings, .inl (eI E, 7, .inl c_t_findings)), (h_t_longs, .inl (eI E, 4, .inl c_t_longs))]) (Wn := (w_M_write E h_t h_t_bits h_t_cells h_t_findings h_t_longs x_t_s x_t_kept x_t_before x_t_shown x_t_worths x_t_steps x_t_tape x_t_between c_t_isKept c_t_most c_t_taped c_t_here c_t_fault c_t_value c_t_bits r9 c_t_findings c_t_longs)) C (k_M_writes l E h_t h_t_bits h_t_cells x_t_s x_t_kept x_t_before h_t_findings x_t_shown x_t_worths x_t_steps x_t_tape h_t_longs x_t_between s.heap.size c_t_isKept c_t_most c_t_taped c_t_here c_t_fault c_t_value c_t_bits c_t_cells a1 a2 a3 r9 er9) fn_M_writes mw_1282 ⟨Nat.le_of_ble_eq_true rfl, Nat.le_of_ble_eq_true rfl⟩ hK hT hS hA (va_recv hK hP (ci := 8) (q0 := 0) rfl rfl) hP hD [0, 1, 2] rfl (by decide) [3, 4] rfl (by decide) (by decide) [2, 3, 4, 0, 1] rfl (by decide) rfl rfl hl (Nat.le_of_ble_eq_true rfl) dX10_write_70 (fun H locs hP hD hS => ?_)
        refine W.eq (g2 := F0 m 73 ls []) rfl ?_
        refine lv_lload hx hb dX10_write_73 (lv_at hl 0 rfl) ?_
        obtain rfl := Option.some.inj hF
        exact W.lret hx hb hr (fun t ht hW => ⟨⟨rfl, by rw [ht]; exact hP, hD⟩, hS.F ht⟩) hS.2.2 dX10_write_75
      · have hF := kp hF q7
        refine lv_aload_n hx hb dX10_write_46 rfl (lv_at hl 0 rfl) ?_
        refine lv_iconst (v := (0 : Int32)) hx hb dX10_write_47 (by decide) ?_
        obtain ⟨r10, er10, hF⟩ := kb hF
        refine kWV (rest := []) (Wr := [(h_t_bits, .inl (eI E, 4, .inl c_t_bits)), (h_t_cells, .inl (eJ E, 160, .inr (.inl c_t_cells))), (h_t_longs, .inl (eI E, 4, .inl c_t_longs))]) (Wn := (w_M_write E h_t h_t_bits h_t_cells h_t_findings h_t_longs x_t_s x_t_kept x_t_before x_t_shown x_t_worths x_t_steps x_t_tape x_t_between c_t_isKept c_t_most c_t_taped c_t_here c_t_fault c_t_value c_t_bits c_t_cells r10.2 c_t_longs)) C (k_M_no l E h_t h_t_findings x_t_s x_t_kept x_t_before x_t_shown x_t_worths x_t_steps x_t_tape h_t_bits h_t_longs h_t_cells x_t_between s.heap.size c_t_isKept c_t_most c_t_taped c_t_here c_t_fault c_t_value c_t_findings (0 : Int32) r10 er10) fn_M_no mw_964 ⟨Nat.le_of_ble_eq_true rfl, Nat.le_of_ble_eq_true rfl⟩ hK hT hS hA (va_recv hK hP (ci := 8) (q0 := 0) rfl rfl) hP hD [0, 3] rfl (by decide) [1, 2, 4] rfl (by decide) (by decide) [3, 0, 1, 4, 2] rfl (by decide) rfl rfl hl (Nat.le_of_ble_eq_true rfl) dX10_write_48 (fun H locs hP hD hS => ?_)
        refine W.eq (g2 := F0 m 51 ls [.int r10.1]) rfl ?_
        refine lv_i2l (v := r10.1.toInt64) hx hb dX10_write_51 rfl ?_
        obtain rfl := Option.some.inj hF
        exact W.lret hx hb hr (fun t ht hW => ⟨⟨rfl, by rw [ht]; exact hP, hD⟩, hS.F ht⟩) hS.2.2 dX10_write_52
    · have hF := kp hF q4
      refine lv_aload_n hx hb dX10_write_23 rfl (lv_at hl 0 rfl) ?_
      refine lv_iconst (v := (5 : Int32)) hx hb dX10_write_24 (by decide) ?_
      obtain ⟨r11, er11, hF⟩ := kb hF
      refine kWV (rest := []) (Wr := [(h_t_bits, .inl (eI E, 4, .inl c_t_bits)), (h_t_cells, .inl (eJ E, 160, .inr (.inl c_t_cells))), (h_t_longs, .inl (eI E, 4, .inl c_t_longs))]) (Wn := (w_M_write E h_t h_t_bits h_t_cells h_t_findings h_t_longs x_t_s x_t_kept x_t_before x_t_shown x_t_worths x_t_steps x_t_tape x_t_between c_t_isKept c_t_most c_t_taped c_t_here c_t_fault c_t_value c_t_bits c_t_cells r11.2 c_t_longs)) C (k_M_no l E h_t h_t_findings x_t_s x_t_kept x_t_before x_t_shown x_t_worths x_t_steps x_t_tape h_t_bits h_t_longs h_t_cells x_t_between s.heap.size c_t_isKept c_t_most c_t_taped c_t_here c_t_fault c_t_value c_t_findings (5 : Int32) r11 er11) fn_M_no mw_964 ⟨Nat.le_of_ble_eq_true rfl, Nat.le_of_ble_eq_true rfl⟩ hK hT hS hA (va_recv hK hP (ci := 8) (q0 := 0) rfl rfl) hP hD [0, 3] rfl (by decide) [1, 2, 4] rfl (by decide) (by decide) [3, 0, 1, 4, 2] rfl (by decide) rfl rfl hl (Nat.le_of_ble_eq_true rfl) dX10_write_25 (fun H locs hP hD hS => ?_)
      refine W.eq (g2 := F0 m 28 ls [.int r11.1]) rfl ?_
      refine lv_i2l (v := r11.1.toInt64) hx hb dX10_write_28 rfl ?_
      obtain rfl := Option.some.inj hF
      exact W.lret hx hb hr (fun t ht hW => ⟨⟨rfl, by rw [ht]; exact hP, hD⟩, hS.F ht⟩) hS.2.2 dX10_write_29
  · have hF := kp hF q2
    refine lv_aload_n hx hb dX10_write_7 rfl (lv_at hl 0 rfl) ?_
    refine lv_iconst (v := (0 : Int32)) hx hb dX10_write_8 (by decide) ?_
    obtain ⟨r12, er12, hF⟩ := kb hF
    refine kWV (rest := []) (Wr := [(h_t_bits, .inl (eI E, 4, .inl c_t_bits)), (h_t_cells, .inl (eJ E, 160, .inr (.inl c_t_cells))), (h_t_longs, .inl (eI E, 4, .inl c_t_longs))]) (Wn := (w_M_write E h_t h_t_bits h_t_cells h_t_findings h_t_longs x_t_s x_t_kept x_t_before x_t_shown x_t_worths x_t_steps x_t_tape x_t_between c_t_isKept c_t_most c_t_taped c_t_here c_t_fault c_t_value c_t_bits c_t_cells r12.2 c_t_longs)) C (k_M_no l E h_t h_t_findings x_t_s x_t_kept x_t_before x_t_shown x_t_worths x_t_steps x_t_tape h_t_bits h_t_longs h_t_cells x_t_between s.heap.size c_t_isKept c_t_most c_t_taped c_t_here c_t_fault c_t_value c_t_findings (0 : Int32) r12 er12) fn_M_no mw_964 ⟨Nat.le_of_ble_eq_true rfl, Nat.le_of_ble_eq_true rfl⟩ hK hT hS hA (va_recv hK hP (ci := 8) (q0 := 0) rfl rfl) hP hD [0, 3] rfl (by decide) [1, 2, 4] rfl (by decide) (by decide) [3, 0, 1, 4, 2] rfl (by decide) rfl rfl hl (Nat.le_of_ble_eq_true rfl) dX10_write_9 (fun H locs hP hD hS => ?_)
    refine W.eq (g2 := F0 m 12 ls [.int r12.1]) rfl ?_
    refine lv_i2l (v := r12.1.toInt64) hx hb dX10_write_12 rfl ?_
    obtain rfl := Option.some.inj hF
    exact W.lret hx hb hr (fun t ht hW => ⟨⟨rfl, by rw [ht]; exact hP, hD⟩, hS.F ht⟩) hS.2.2 dX10_write_13
abbrev w_M_copy (E : kE) (h_t : Nat) (h_t_between : Nat) (h_t_bits : Nat) (h_t_cells : Nat) (h_t_findings : Nat) (h_t_longs : Nat) (x_t_s : Nat) (x_t_kept : Nat) (x_t_before : Nat) (x_t_shown : Nat) (x_t_worths : Nat) (x_t_steps : Nat) (x_t_tape : Nat) (c_t_isKept : Int32) (c_t_most : Int32) (c_t_taped : Int32) (c_t_here : Int32) (c_t_fault : Int32) (c_t_value : Int32) (c_t_between : (Nat → Int64)) (c_t_bits : (Nat → Int32)) (c_t_cells : (Nat → Int64)) (c_t_findings : (Nat → Int32)) (c_t_longs : (Nat → Int32)) : va_W := [(h_t, .inr (8, [.ref x_t_s, .ref x_t_kept, .ref x_t_before, .int c_t_isKept, .ref h_t_findings, .ref x_t_shown, .int c_t_most, .ref x_t_worths, .ref x_t_steps, .ref x_t_tape, .int c_t_taped, .int c_t_here, .int c_t_fault, .int c_t_value, .ref h_t_bits, .ref h_t_longs, .ref h_t_cells, .ref h_t_between])), (h_t_between, .inl (eJ E, 40, .inr (.inl c_t_between))), (h_t_bits, .inl (eI E, 4, .inl c_t_bits)), (h_t_cells, .inl (eJ E, 160, .inr (.inl c_t_cells))), (h_t_findings, .inl (eI E, 7, .inl c_t_findings)), (h_t_longs, .inl (eI E, 4, .inl c_t_longs))]
set_option maxHeartbeats 4000000 in
set_option maxRecDepth 100000 in
theorem wk_M_copy_b14 {p : Program} {l : Launch} {e : Env} {s : State} {m : MethodId} {args : Array Value} {below : List Frame} {meth : Method} {c : Code} {A : Nat → Prop} (E : kE) (h_t : Nat) (h_t_between : Nat) (h_t_bits : Nat) (h_t_cells : Nat) (h_t_findings : Nat) (h_t_longs : Nat) (x_t_s : Nat) (x_t_kept : Nat) (x_t_before : Nat) (x_t_shown : Nat) (x_t_worths : Nat) (x_t_steps : Nat) (x_t_tape : Nat) (c_t_isKept : Int32) (c_t_most : Int32) (c_t_taped : Int32) (c_t_here : Int32) (c_t_fault : Int32) (c_t_value : Int32) (c_t_bits : (Nat → Int32)) (c_t_longs : (Nat → Int32)) (a1 : Int32) (a2 : Int32) (a3 : Int32) (a4 : Int32) (a5 : Int32) {out : Int32 × (Nat → Int64) × (Nat → Int64) × (Nat → Int32)} (C : kC RX10 cX10_copy 7 (some .int) p s m args meth c) (hA : ∀ q : Nat, s.heap.size ≤ q → A q) (hK : va_K (eD E) vwCl (eT E) s) (hT : sT E A s s.heap)  :
    ∀ (c_t_between : (Nat → Int64)) (c_t_cells : (Nat → Int64)) (c_t_findings : (Nat → Int32)), f_M_copy_b14  c_t_bits c_t_longs a1 a2 a3 a4 a5 c_t_between c_t_cells c_t_findings = some out → ∀ (H : Heap) (locs : List Loc), va_P (eD E) vwCl (w_M_copy E h_t h_t_between h_t_bits h_t_cells h_t_findings h_t_longs x_t_s x_t_kept x_t_before x_t_shown x_t_worths x_t_steps x_t_tape c_t_isKept c_t_most c_t_taped c_t_here c_t_fault c_t_value c_t_between c_t_bits c_t_cells c_t_findings c_t_longs) H → va_D A (w_M_copy E h_t h_t_between h_t_bits h_t_cells h_t_findings h_t_longs x_t_s x_t_kept x_t_before x_t_shown x_t_worths x_t_steps x_t_tape c_t_isKept c_t_most c_t_taped c_t_here c_t_fault c_t_value c_t_between c_t_bits c_t_cells c_t_findings c_t_longs) → va_S A s.heap H locs → ∀ (ls : Array Slot), lv_has ls 7 [(0, .ref h_t)] → W p l e (rm 3) s m args below meth c H locs 0 0 (MQ below (qW (some (.int out.1)) E (w_M_copy E h_t h_t_between h_t_bits h_t_cells h_t_findings h_t_longs x_t_s x_t_kept x_t_before x_t_shown x_t_worths x_t_steps x_t_tape c_t_isKept c_t_most c_t_taped c_t_here c_t_fault c_t_value out.2.1 c_t_bits out.2.2.1 out.2.2.2 c_t_longs) A) args s 0 0 A) (F0 m 14 ls []) := by
  obtain ⟨hx, hb, hr, hml, hown, hw, hlocks⟩ := id C
  intro c_t_between c_t_cells c_t_findings hF H locs hP hD hS ls hl
  rw [f_M_copy_b14] at hF
  refine lv_aload_n hx hb dX10_copy_14 rfl (lv_at hl 0 rfl) ?_
  refine lv_iconst (v := (0 : Int32)) hx hb dX10_copy_15 (by decide) ?_
  obtain ⟨r1, er1, hF⟩ := kb hF
  refine kWV (rest := []) (Wr := [(h_t_between, .inl (eJ E, 40, .inr (.inl c_t_between))), (h_t_bits, .inl (eI E, 4, .inl c_t_bits)), (h_t_cells, .inl (eJ E, 160, .inr (.inl c_t_cells))), (h_t_longs, .inl (eI E, 4, .inl c_t_longs))]) (Wn := (w_M_copy E h_t h_t_between h_t_bits h_t_cells h_t_findings h_t_longs x_t_s x_t_kept x_t_before x_t_shown x_t_worths x_t_steps x_t_tape c_t_isKept c_t_most c_t_taped c_t_here c_t_fault c_t_value c_t_between c_t_bits c_t_cells r1.2 c_t_longs)) C (k_M_no l E h_t h_t_findings x_t_s x_t_kept x_t_before x_t_shown x_t_worths x_t_steps x_t_tape h_t_bits h_t_longs h_t_cells h_t_between H.size c_t_isKept c_t_most c_t_taped c_t_here c_t_fault c_t_value c_t_findings (0 : Int32) r1 er1) fn_M_no mw_964 ⟨Nat.le_of_ble_eq_true rfl, Nat.le_of_ble_eq_true rfl⟩ hK hT hS hA (va_recv hK hP (ci := 8) (q0 := 0) rfl rfl) hP hD [0, 4] rfl (by decide) [1, 2, 3, 5] rfl (by decide) (by decide) [4, 0, 1, 2, 5, 3] rfl (by decide) rfl rfl hl (Nat.le_of_ble_eq_true rfl) dX10_copy_16 (fun H locs hP hD hS => ?_)
  refine W.eq (g2 := F0 m 19 ls [.int r1.1]) rfl ?_
  obtain rfl := Option.some.inj hF
  exact W.iret hx hb hr (fun t ht hW => ⟨⟨rfl, by rw [ht]; exact hP, hD⟩, hS.F ht⟩) hS.2.2 dX10_copy_19
set_option maxHeartbeats 4000000 in
set_option maxRecDepth 100000 in
theorem wk_M_copy_b38 {p : Program} {l : Launch} {e : Env} {s : State} {m : MethodId} {args : Array Value} {below : List Frame} {meth : Method} {c : Code} {A : Nat → Prop} (E : kE) (h_t : Nat) (h_t_between : Nat) (h_t_bits : Nat) (h_t_cells : Nat) (h_t_findings : Nat) (h_t_longs : Nat) (x_t_s : Nat) (x_t_kept : Nat) (x_t_before : Nat) (x_t_shown : Nat) (x_t_worths : Nat) (x_t_steps : Nat) (x_t_tape : Nat) (c_t_isKept : Int32) (c_t_most : Int32) (c_t_taped : Int32) (c_t_here : Int32) (c_t_fault : Int32) (c_t_value : Int32) (c_t_bits : (Nat → Int32)) (c_t_longs : (Nat → Int32)) (a1 : Int32) (a2 : Int32) (a3 : Int32) (a4 : Int32) (a5 : Int32) {out : Int32 × (Nat → Int64) × (Nat → Int64) × (Nat → Int32)} (C : kC RX10 cX10_copy 7 (some .int) p s m args meth c) (hA : ∀ q : Nat, s.heap.size ≤ q → A q) (hK : va_K (eD E) vwCl (eT E) s) (hT : sT E A s s.heap)  :
    ∀ (c_t_between : (Nat → Int64)) (c_t_cells : (Nat → Int64)) (c_t_findings : (Nat → Int32)), f_M_copy_b38  c_t_bits c_t_longs a1 a2 a3 a4 a5 c_t_between c_t_cells c_t_findings = some out → ∀ (H : Heap) (locs : List Loc), va_P (eD E) vwCl (w_M_copy E h_t h_t_between h_t_bits h_t_cells h_t_findings h_t_longs x_t_s x_t_kept x_t_before x_t_shown x_t_worths x_t_steps x_t_tape c_t_isKept c_t_most c_t_taped c_t_here c_t_fault c_t_value c_t_between c_t_bits c_t_cells c_t_findings c_t_longs) H → va_D A (w_M_copy E h_t h_t_between h_t_bits h_t_cells h_t_findings h_t_longs x_t_s x_t_kept x_t_before x_t_shown x_t_worths x_t_steps x_t_tape c_t_isKept c_t_most c_t_taped c_t_here c_t_fault c_t_value c_t_between c_t_bits c_t_cells c_t_findings c_t_longs) → va_S A s.heap H locs → ∀ (ls : Array Slot), lv_has ls 7 [(0, .ref h_t)] → W p l e (rm 3) s m args below meth c H locs 0 0 (MQ below (qW (some (.int out.1)) E (w_M_copy E h_t h_t_between h_t_bits h_t_cells h_t_findings h_t_longs x_t_s x_t_kept x_t_before x_t_shown x_t_worths x_t_steps x_t_tape c_t_isKept c_t_most c_t_taped c_t_here c_t_fault c_t_value out.2.1 c_t_bits out.2.2.1 out.2.2.2 c_t_longs) A) args s 0 0 A) (F0 m 38 ls []) := by
  obtain ⟨hx, hb, hr, hml, hown, hw, hlocks⟩ := id C
  intro c_t_between c_t_cells c_t_findings hF H locs hP hD hS ls hl
  rw [f_M_copy_b38] at hF
  refine lv_aload_n hx hb dX10_copy_38 rfl (lv_at hl 0 rfl) ?_
  refine lv_iconst (v := (5 : Int32)) hx hb dX10_copy_39 (by decide) ?_
  obtain ⟨r2, er2, hF⟩ := kb hF
  refine kWV (rest := []) (Wr := [(h_t_between, .inl (eJ E, 40, .inr (.inl c_t_between))), (h_t_bits, .inl (eI E, 4, .inl c_t_bits)), (h_t_cells, .inl (eJ E, 160, .inr (.inl c_t_cells))), (h_t_longs, .inl (eI E, 4, .inl c_t_longs))]) (Wn := (w_M_copy E h_t h_t_between h_t_bits h_t_cells h_t_findings h_t_longs x_t_s x_t_kept x_t_before x_t_shown x_t_worths x_t_steps x_t_tape c_t_isKept c_t_most c_t_taped c_t_here c_t_fault c_t_value c_t_between c_t_bits c_t_cells r2.2 c_t_longs)) C (k_M_no l E h_t h_t_findings x_t_s x_t_kept x_t_before x_t_shown x_t_worths x_t_steps x_t_tape h_t_bits h_t_longs h_t_cells h_t_between H.size c_t_isKept c_t_most c_t_taped c_t_here c_t_fault c_t_value c_t_findings (5 : Int32) r2 er2) fn_M_no mw_964 ⟨Nat.le_of_ble_eq_true rfl, Nat.le_of_ble_eq_true rfl⟩ hK hT hS hA (va_recv hK hP (ci := 8) (q0 := 0) rfl rfl) hP hD [0, 4] rfl (by decide) [1, 2, 3, 5] rfl (by decide) (by decide) [4, 0, 1, 2, 5, 3] rfl (by decide) rfl rfl hl (Nat.le_of_ble_eq_true rfl) dX10_copy_40 (fun H locs hP hD hS => ?_)
  refine W.eq (g2 := F0 m 43 ls [.int r2.1]) rfl ?_
  obtain rfl := Option.some.inj hF
  exact W.iret hx hb hr (fun t ht hW => ⟨⟨rfl, by rw [ht]; exact hP, hD⟩, hS.F ht⟩) hS.2.2 dX10_copy_43
set_option maxHeartbeats 4000000 in
set_option maxRecDepth 100000 in
theorem wk_M_copy_b106 {p : Program} {l : Launch} {e : Env} {s : State} {m : MethodId} {args : Array Value} {below : List Frame} {meth : Method} {c : Code} {A : Nat → Prop} (E : kE) (h_t : Nat) (h_t_between : Nat) (h_t_bits : Nat) (h_t_cells : Nat) (h_t_findings : Nat) (h_t_longs : Nat) (x_t_s : Nat) (x_t_kept : Nat) (x_t_before : Nat) (x_t_shown : Nat) (x_t_worths : Nat) (x_t_steps : Nat) (x_t_tape : Nat) (c_t_isKept : Int32) (c_t_most : Int32) (c_t_taped : Int32) (c_t_here : Int32) (c_t_fault : Int32) (c_t_value : Int32) (c_t_bits : (Nat → Int32)) (c_t_longs : (Nat → Int32)) (a1 : Int32) (a2 : Int32) (a3 : Int32) (a4 : Int32) (a5 : Int32) {out : Int32 × (Nat → Int64) × (Nat → Int64) × (Nat → Int32)} (C : kC RX10 cX10_copy 7 (some .int) p s m args meth c) (hA : ∀ q : Nat, s.heap.size ≤ q → A q) (hK : va_K (eD E) vwCl (eT E) s) (hT : sT E A s s.heap)  :
    ∀ (c_t_between : (Nat → Int64)) (c_t_cells : (Nat → Int64)) (c_t_findings : (Nat → Int32)), f_M_copy_b106  c_t_bits c_t_longs a1 a2 a3 a4 a5 c_t_between c_t_cells c_t_findings = some out → ∀ (H : Heap) (locs : List Loc), va_P (eD E) vwCl (w_M_copy E h_t h_t_between h_t_bits h_t_cells h_t_findings h_t_longs x_t_s x_t_kept x_t_before x_t_shown x_t_worths x_t_steps x_t_tape c_t_isKept c_t_most c_t_taped c_t_here c_t_fault c_t_value c_t_between c_t_bits c_t_cells c_t_findings c_t_longs) H → va_D A (w_M_copy E h_t h_t_between h_t_bits h_t_cells h_t_findings h_t_longs x_t_s x_t_kept x_t_before x_t_shown x_t_worths x_t_steps x_t_tape c_t_isKept c_t_most c_t_taped c_t_here c_t_fault c_t_value c_t_between c_t_bits c_t_cells c_t_findings c_t_longs) → va_S A s.heap H locs → ∀ (ls : Array Slot), lv_has ls 7 [(0, .ref h_t)] → W p l e (rm 3) s m args below meth c H locs 0 0 (MQ below (qW (some (.int out.1)) E (w_M_copy E h_t h_t_between h_t_bits h_t_cells h_t_findings h_t_longs x_t_s x_t_kept x_t_before x_t_shown x_t_worths x_t_steps x_t_tape c_t_isKept c_t_most c_t_taped c_t_here c_t_fault c_t_value out.2.1 c_t_bits out.2.2.1 out.2.2.2 c_t_longs) A) args s 0 0 A) (F0 m 106 ls []) := by
  obtain ⟨hx, hb, hr, hml, hown, hw, hlocks⟩ := id C
  intro c_t_between c_t_cells c_t_findings hF H locs hP hD hS ls hl
  rw [f_M_copy_b106] at hF
  refine lv_aload_n hx hb dX10_copy_106 rfl (lv_at hl 0 rfl) ?_
  refine lv_iconst (v := (0 : Int32)) hx hb dX10_copy_107 (by decide) ?_
  obtain ⟨r3, er3, hF⟩ := kb hF
  refine kWV (rest := []) (Wr := [(h_t_between, .inl (eJ E, 40, .inr (.inl c_t_between))), (h_t_bits, .inl (eI E, 4, .inl c_t_bits)), (h_t_cells, .inl (eJ E, 160, .inr (.inl c_t_cells))), (h_t_longs, .inl (eI E, 4, .inl c_t_longs))]) (Wn := (w_M_copy E h_t h_t_between h_t_bits h_t_cells h_t_findings h_t_longs x_t_s x_t_kept x_t_before x_t_shown x_t_worths x_t_steps x_t_tape c_t_isKept c_t_most c_t_taped c_t_here c_t_fault c_t_value c_t_between c_t_bits c_t_cells r3.2 c_t_longs)) C (k_M_no l E h_t h_t_findings x_t_s x_t_kept x_t_before x_t_shown x_t_worths x_t_steps x_t_tape h_t_bits h_t_longs h_t_cells h_t_between H.size c_t_isKept c_t_most c_t_taped c_t_here c_t_fault c_t_value c_t_findings (0 : Int32) r3 er3) fn_M_no mw_964 ⟨Nat.le_of_ble_eq_true rfl, Nat.le_of_ble_eq_true rfl⟩ hK hT hS hA (va_recv hK hP (ci := 8) (q0 := 0) rfl rfl) hP hD [0, 4] rfl (by decide) [1, 2, 3, 5] rfl (by decide) (by decide) [4, 0, 1, 2, 5, 3] rfl (by decide) rfl rfl hl (Nat.le_of_ble_eq_true rfl) dX10_copy_108 (fun H locs hP hD hS => ?_)
  refine W.eq (g2 := F0 m 111 ls [.int r3.1]) rfl ?_
  obtain rfl := Option.some.inj hF
  exact W.iret hx hb hr (fun t ht hW => ⟨⟨rfl, by rw [ht]; exact hP, hD⟩, hS.F ht⟩) hS.2.2 dX10_copy_111
set_option maxHeartbeats 4000000 in
set_option maxRecDepth 100000 in
theorem wk_M_copy_b152 {p : Program} {l : Launch} {e : Env} {s : State} {m : MethodId} {args : Array Value} {below : List Frame} {meth : Method} {c : Code} {A : Nat → Prop} (E : kE) (h_t : Nat) (h_t_between : Nat) (h_t_bits : Nat) (h_t_cells : Nat) (h_t_findings : Nat) (h_t_longs : Nat) (x_t_s : Nat) (x_t_kept : Nat) (x_t_before : Nat) (x_t_shown : Nat) (x_t_worths : Nat) (x_t_steps : Nat) (x_t_tape : Nat) (c_t_isKept : Int32) (c_t_most : Int32) (c_t_taped : Int32) (c_t_here : Int32) (c_t_fault : Int32) (c_t_value : Int32) (c_t_bits : (Nat → Int32)) (c_t_longs : (Nat → Int32)) (a1 : Int32) (a2 : Int32) (a3 : Int32) (a4 : Int32) (a5 : Int32) {out : Int32 × (Nat → Int64) × (Nat → Int64) × (Nat → Int32)} (C : kC RX10 cX10_copy 7 (some .int) p s m args meth c) (hA : ∀ q : Nat, s.heap.size ≤ q → A q) (hK : va_K (eD E) vwCl (eT E) s) (hT : sT E A s s.heap)  :
    ∀ (n : Nat), ∀ (c_t_between : (Nat → Int64)) (c_t_cells : (Nat → Int64)) (c_t_findings : (Nat → Int32)) (v6 : Int32), f_M_copy_b152  c_t_bits c_t_longs a1 a2 a3 a4 a5 n c_t_between c_t_cells c_t_findings v6 = some out → ∀ (H : Heap) (locs : List Loc), va_P (eD E) vwCl (w_M_copy E h_t h_t_between h_t_bits h_t_cells h_t_findings h_t_longs x_t_s x_t_kept x_t_before x_t_shown x_t_worths x_t_steps x_t_tape c_t_isKept c_t_most c_t_taped c_t_here c_t_fault c_t_value c_t_between c_t_bits c_t_cells c_t_findings c_t_longs) H → va_D A (w_M_copy E h_t h_t_between h_t_bits h_t_cells h_t_findings h_t_longs x_t_s x_t_kept x_t_before x_t_shown x_t_worths x_t_steps x_t_tape c_t_isKept c_t_most c_t_taped c_t_here c_t_fault c_t_value c_t_between c_t_bits c_t_cells c_t_findings c_t_longs) → va_S A s.heap H locs → ∀ (ls : Array Slot), lv_has ls 7 [(0, .ref h_t), (3, .int a3), (4, .int a4), (5, .int a5), (6, .int v6)] → W p l e (rm 3) s m args below meth c H locs 0 0 (MQ below (qW (some (.int out.1)) E (w_M_copy E h_t h_t_between h_t_bits h_t_cells h_t_findings h_t_longs x_t_s x_t_kept x_t_before x_t_shown x_t_worths x_t_steps x_t_tape c_t_isKept c_t_most c_t_taped c_t_here c_t_fault c_t_value out.2.1 c_t_bits out.2.2.1 out.2.2.2 c_t_longs) A) args s 0 0 A) (F0 m 152 ls []) := by
  obtain ⟨hx, hb, hr, hml, hown, hw, hlocks⟩ := id C
  intro n
  induction n with
  | zero =>
    intro c_t_between c_t_cells c_t_findings v6 hF
    exact absurd (show (none : Option (Int32 × (Nat → Int64) × (Nat → Int64) × (Nat → Int32))) = some out from hF) nofun
  | succ n ih =>
    intro c_t_between c_t_cells c_t_findings v6 hF H locs hP hD hS ls hl
    rw [f_M_copy_b152] at hF
    refine lv_iload hx hb dX10_copy_152 (lv_at hl 4 rfl) ?_
    refine lv_iload hx hb dX10_copy_154 (lv_at hl 3 rfl) ?_
    refine lv_icmp_ge (tgt := 187) hx hb dX10_copy_156 (by decide) (fun q4 => ?_) (fun q4 => ?_)
    · have hF := kp hF q4
      refine lv_iload hx hb dX10_copy_187 (lv_at hl 3 rfl) ?_
      obtain rfl := Option.some.inj hF
      exact W.iret hx hb hr (fun t ht hW => ⟨⟨rfl, by rw [ht]; exact hP, hD⟩, hS.F ht⟩) hS.2.2 dX10_copy_189
    · have hF := kn hF q4
      refine lv_aload_n hx hb dX10_copy_159 rfl (lv_at hl 0 rfl) ?_
      refine va_get (D := eD E) (ci := 8) (C := RX10) (T := TX10) (N := 18) (v := .ref h_t_cells) hx hb hw inX10 hown hK hP 0 rfl rfl 16 (by decide) (hw _ mw_897) (fun _ h9 => h9) rfl dX10_copy_160 ?_
      refine lv_bipush (v := (40 : Int32)) hx hb dX10_copy_163 (by decide) ?_
      refine lv_iload_n hx hb dX10_copy_165 rfl (lv_at hl 1 rfl) ?_
      refine lv_imul hx hb dX10_copy_166 ?_
      refine lv_iload hx hb dX10_copy_167 (lv_at hl 2 rfl) ?_
      refine lv_iadd hx hb dX10_copy_169 ?_
      refine lv_iload hx hb dX10_copy_170 (lv_at hl 4 rfl) ?_
      refine lv_iadd hx hb dX10_copy_172 ?_
      refine lv_aload_n hx hb dX10_copy_173 rfl (lv_at hl 0 rfl) ?_
      refine va_get (D := eD E) (ci := 8) (C := RX10) (T := TX10) (N := 18) (v := .ref h_t_between) hx hb hw inX10 hown hK hP 0 rfl rfl 17 (by decide) (hw _ mw_898) (fun _ h9 => h9) rfl dX10_copy_174 ?_
      refine lv_iload hx hb dX10_copy_177 (lv_at hl 4 rfl) ?_
      obtain ⟨r5, er5, hF⟩ := kb hF
      refine wa_lald hx hb hK hP 1 2 rfl rfl er5 dX10_copy_179 ?_
      obtain ⟨r6, er6, hF⟩ := kb hF
      refine wa_last hx hb hK hP hD hS 3 2 rfl rfl er6 dX10_copy_180 (fun H locs hP hD hS => ?_)
      have hP : va_P (eD E) vwCl (w_M_copy E h_t h_t_between h_t_bits h_t_cells h_t_findings h_t_longs x_t_s x_t_kept x_t_before x_t_shown x_t_worths x_t_steps x_t_tape c_t_isKept c_t_most c_t_taped c_t_here c_t_fault c_t_value c_t_between c_t_bits r6 c_t_findings c_t_longs) H := hP
      have hD : va_D A (w_M_copy E h_t h_t_between h_t_bits h_t_cells h_t_findings h_t_longs x_t_s x_t_kept x_t_before x_t_shown x_t_worths x_t_steps x_t_tape c_t_isKept c_t_most c_t_taped c_t_here c_t_fault c_t_value c_t_between c_t_bits r6 c_t_findings c_t_longs) := hD
      refine lv_iinc (v := (v6 + (1))) (lv' := [(6, .int (v6 + (1))), (0, .ref h_t), (3, .int a3), (4, .int a4), (5, .int a5)]) hx hb dX10_copy_181 hl (k := 4) rfl rfl (by decide) rfl (fun ls hl => ?_)
      refine lv_goto (tgt := 152) hx hb dX10_copy_184 (by decide) ?_
      exact ih c_t_between r6 c_t_findings (v6 + (1)) hF _ _ hP hD hS _ (lv_sub hl [1, 2, 3, 4, 0] rfl)
set_option maxHeartbeats 4000000 in
set_option maxRecDepth 100000 in
theorem wk_M_copy_b115 {p : Program} {l : Launch} {e : Env} {s : State} {m : MethodId} {args : Array Value} {below : List Frame} {meth : Method} {c : Code} {A : Nat → Prop} (E : kE) (h_t : Nat) (h_t_between : Nat) (h_t_bits : Nat) (h_t_cells : Nat) (h_t_findings : Nat) (h_t_longs : Nat) (x_t_s : Nat) (x_t_kept : Nat) (x_t_before : Nat) (x_t_shown : Nat) (x_t_worths : Nat) (x_t_steps : Nat) (x_t_tape : Nat) (c_t_isKept : Int32) (c_t_most : Int32) (c_t_taped : Int32) (c_t_here : Int32) (c_t_fault : Int32) (c_t_value : Int32) (c_t_bits : (Nat → Int32)) (c_t_longs : (Nat → Int32)) (a1 : Int32) (a2 : Int32) (a3 : Int32) (a4 : Int32) (a5 : Int32) {out : Int32 × (Nat → Int64) × (Nat → Int64) × (Nat → Int32)} (C : kC RX10 cX10_copy 7 (some .int) p s m args meth c) (hA : ∀ q : Nat, s.heap.size ≤ q → A q) (hK : va_K (eD E) vwCl (eT E) s) (hT : sT E A s s.heap)  :
    ∀ (n : Nat), ∀ (c_t_between : (Nat → Int64)) (c_t_cells : (Nat → Int64)) (c_t_findings : (Nat → Int32)) (v6 : Int32), f_M_copy_b115  c_t_bits c_t_longs a1 a2 a3 a4 a5 n c_t_between c_t_cells c_t_findings v6 = some out → ∀ (H : Heap) (locs : List Loc), va_P (eD E) vwCl (w_M_copy E h_t h_t_between h_t_bits h_t_cells h_t_findings h_t_longs x_t_s x_t_kept x_t_before x_t_shown x_t_worths x_t_steps x_t_tape c_t_isKept c_t_most c_t_taped c_t_here c_t_fault c_t_value c_t_between c_t_bits c_t_cells c_t_findings c_t_longs) H → va_D A (w_M_copy E h_t h_t_between h_t_bits h_t_cells h_t_findings h_t_longs x_t_s x_t_kept x_t_before x_t_shown x_t_worths x_t_steps x_t_tape c_t_isKept c_t_most c_t_taped c_t_here c_t_fault c_t_value c_t_between c_t_bits c_t_cells c_t_findings c_t_longs) → va_S A s.heap H locs → ∀ (ls : Array Slot), lv_has ls 7 [(0, .ref h_t), (1, .int a1), (2, .int a2), (3, .int a3), (4, .int a4), (5, .int a5), (6, .int v6)] → W p l e (rm 3) s m args below meth c H locs 0 0 (MQ below (qW (some (.int out.1)) E (w_M_copy E h_t h_t_between h_t_bits h_t_cells h_t_findings h_t_longs x_t_s x_t_kept x_t_before x_t_shown x_t_worths x_t_steps x_t_tape c_t_isKept c_t_most c_t_taped c_t_here c_t_fault c_t_value out.2.1 c_t_bits out.2.2.1 out.2.2.2 c_t_longs) A) args s 0 0 A) (F0 m 115 ls []) := by
  obtain ⟨hx, hb, hr, hml, hown, hw, hlocks⟩ := id C
  intro n
  induction n with
  | zero =>
    intro c_t_between c_t_cells c_t_findings v6 hF
    exact absurd (show (none : Option (Int32 × (Nat → Int64) × (Nat → Int64) × (Nat → Int32))) = some out from hF) nofun
  | succ n ih =>
    intro c_t_between c_t_cells c_t_findings v6 hF H locs hP hD hS ls hl
    rw [f_M_copy_b115] at hF
    refine lv_iload hx hb dX10_copy_115 (lv_at hl 6 rfl) ?_
    refine lv_iload hx hb dX10_copy_117 (lv_at hl 5 rfl) ?_
    refine lv_icmp_ge (tgt := 149) hx hb dX10_copy_119 (by decide) (fun q7 => ?_) (fun q7 => ?_)
    · have hF := kp hF q7
      refine lv_iconst (v := (0 : Int32)) hx hb dX10_copy_149 (by decide) ?_
      refine lv_istore (lv' := [(6, .int (0 : Int32)), (0, .ref h_t), (1, .int a1), (2, .int a2), (3, .int a3), (4, .int a4), (5, .int a5)]) hx hb dX10_copy_150 hl (by decide) rfl (fun ls hl => ?_)
      exact wk_M_copy_b152 E h_t h_t_between h_t_bits h_t_cells h_t_findings h_t_longs x_t_s x_t_kept x_t_before x_t_shown x_t_worths x_t_steps x_t_tape c_t_isKept c_t_most c_t_taped c_t_here c_t_fault c_t_value c_t_bits c_t_longs a1 a2 a3 a4 a5 C hA  hK hT  5000 c_t_between c_t_cells c_t_findings (0 : Int32) hF _ _ hP hD hS _ (lv_sub hl [1, 4, 5, 6, 0] rfl)
    · have hF := kn hF q7
      refine lv_aload_n hx hb dX10_copy_122 rfl (lv_at hl 0 rfl) ?_
      refine va_get (D := eD E) (ci := 8) (C := RX10) (T := TX10) (N := 18) (v := .ref h_t_between) hx hb hw inX10 hown hK hP 0 rfl rfl 17 (by decide) (hw _ mw_898) (fun _ h9 => h9) rfl dX10_copy_123 ?_
      refine lv_iload hx hb dX10_copy_126 (lv_at hl 6 rfl) ?_
      refine lv_aload_n hx hb dX10_copy_128 rfl (lv_at hl 0 rfl) ?_
      refine va_get (D := eD E) (ci := 8) (C := RX10) (T := TX10) (N := 18) (v := .ref h_t_cells) hx hb hw inX10 hown hK hP 0 rfl rfl 16 (by decide) (hw _ mw_897) (fun _ h9 => h9) rfl dX10_copy_129 ?_
      refine lv_bipush (v := (40 : Int32)) hx hb dX10_copy_132 (by decide) ?_
      refine lv_iload_n hx hb dX10_copy_134 rfl (lv_at hl 1 rfl) ?_
      refine lv_imul hx hb dX10_copy_135 ?_
      refine lv_iload_n hx hb dX10_copy_136 rfl (lv_at hl 2 rfl) ?_
      refine lv_iadd hx hb dX10_copy_137 ?_
      refine lv_iload hx hb dX10_copy_138 (lv_at hl 6 rfl) ?_
      refine lv_iadd hx hb dX10_copy_140 ?_
      obtain ⟨r8, er8, hF⟩ := kb hF
      refine wa_lald hx hb hK hP 3 2 rfl rfl er8 dX10_copy_141 ?_
      obtain ⟨r9, er9, hF⟩ := kb hF
      refine wa_last hx hb hK hP hD hS 1 2 rfl rfl er9 dX10_copy_142 (fun H locs hP hD hS => ?_)
      have hP : va_P (eD E) vwCl (w_M_copy E h_t h_t_between h_t_bits h_t_cells h_t_findings h_t_longs x_t_s x_t_kept x_t_before x_t_shown x_t_worths x_t_steps x_t_tape c_t_isKept c_t_most c_t_taped c_t_here c_t_fault c_t_value r9 c_t_bits c_t_cells c_t_findings c_t_longs) H := hP
      have hD : va_D A (w_M_copy E h_t h_t_between h_t_bits h_t_cells h_t_findings h_t_longs x_t_s x_t_kept x_t_before x_t_shown x_t_worths x_t_steps x_t_tape c_t_isKept c_t_most c_t_taped c_t_here c_t_fault c_t_value r9 c_t_bits c_t_cells c_t_findings c_t_longs) := hD
      refine lv_iinc (v := (v6 + (1))) (lv' := [(6, .int (v6 + (1))), (0, .ref h_t), (1, .int a1), (2, .int a2), (3, .int a3), (4, .int a4), (5, .int a5)]) hx hb dX10_copy_143 hl (k := 6) rfl rfl (by decide) rfl (fun ls hl => ?_)
      refine lv_goto (tgt := 115) hx hb dX10_copy_146 (by decide) ?_
      exact ih r9 c_t_cells c_t_findings (v6 + (1)) hF _ _ hP hD hS _ (lv_sub hl [1, 2, 3, 4, 5, 6, 0] rfl)
set_option maxHeartbeats 4000000 in
set_option maxRecDepth 100000 in
theorem k_M_copy (l : Launch) (E : kE) (h_t : Nat) (h_t_between : Nat) (h_t_bits : Nat) (h_t_cells : Nat) (h_t_findings : Nat) (h_t_longs : Nat) (x_t_s : Nat) (x_t_kept : Nat) (x_t_before : Nat) (x_t_shown : Nat) (x_t_worths : Nat) (x_t_steps : Nat) (x_t_tape : Nat) (sz : Nat) (c_t_isKept : Int32) (c_t_most : Int32) (c_t_taped : Int32) (c_t_here : Int32) (c_t_fault : Int32) (c_t_value : Int32) (c_t_between : (Nat → Int64)) (c_t_bits : (Nat → Int32)) (c_t_cells : (Nat → Int64)) (c_t_findings : (Nat → Int32)) (c_t_longs : (Nat → Int32)) (a1 : Int32) (a2 : Int32) (a3 : Int32) (a4 : Int32) (a5 : Int32) (out : Int32 × (Nat → Int64) × (Nat → Int64) × (Nat → Int32)) (hF : f_M_copy c_t_between c_t_bits c_t_cells c_t_findings c_t_longs a1 a2 a3 a4 a5 = some out) : Met l yX10_copy (Cond.code yX10_copy cX10_copy 7 (some .int) :: wG) (rm 3) (pW E (w_M_copy E h_t h_t_between h_t_bits h_t_cells h_t_findings h_t_longs x_t_s x_t_kept x_t_before x_t_shown x_t_worths x_t_steps x_t_tape c_t_isKept c_t_most c_t_taped c_t_here c_t_fault c_t_value c_t_between c_t_bits c_t_cells c_t_findings c_t_longs) sz [.ref h_t, .int a1, .int a2, .int a3, .int a4, .int a5]) (qW (some (.int out.1)) E (w_M_copy E h_t h_t_between h_t_bits h_t_cells h_t_findings h_t_longs x_t_s x_t_kept x_t_before x_t_shown x_t_worths x_t_steps x_t_tape c_t_isKept c_t_most c_t_taped c_t_here c_t_fault c_t_value out.2.1 c_t_bits out.2.2.1 out.2.2.2 c_t_longs) (va_A (w_M_copy E h_t h_t_between h_t_bits h_t_cells h_t_findings h_t_longs x_t_s x_t_kept x_t_before x_t_shown x_t_worths x_t_steps x_t_tape c_t_isKept c_t_most c_t_taped c_t_here c_t_fault c_t_value c_t_between c_t_bits c_t_cells c_t_findings c_t_longs) sz)) 0 0 (va_A (w_M_copy E h_t h_t_between h_t_bits h_t_cells h_t_findings h_t_longs x_t_s x_t_kept x_t_before x_t_shown x_t_worths x_t_steps x_t_tape c_t_isKept c_t_most c_t_taped c_t_here c_t_fault c_t_value c_t_between c_t_bits c_t_cells c_t_findings c_t_longs) sz) := by
  refine met_W (by decide) (Nat.le_of_ble_eq_true rfl) ?_
  intro p e s m args below meth c A ls C hP hD hS hA hK hT hl
  obtain ⟨hx, hb, hr, hml, hown, hw, hlocks⟩ := id C
  have hl : lv_has ls 7 [(0, .ref h_t), (1, .int a1), (2, .int a2), (3, .int a3), (4, .int a4), (5, .int a5)] := hl
  rw [f_M_copy] at hF
  refine lv_iload_n hx hb dX10_copy_0 rfl (lv_at hl 1 rfl) ?_
  obtain ⟨r10, er10, hF⟩ := kb hF
  refine kRS (rest := []) C (k_M_isSheet l E a1 r10 er10) fn_M_isSheet mw_1275 ⟨Nat.le_of_ble_eq_true rfl, Nat.le_of_ble_eq_true rfl⟩ hK hT hS hP [] rfl rfl rfl hl (Nat.le_of_ble_eq_true rfl) dX10_copy_1 ?_
  refine lv_if_eq (tgt := 14) hx hb dX10_copy_4 (by decide) (fun q11 => ?_) (fun q11 => ?_)
  · have hF := kp hF q11
    exact wk_M_copy_b14 E h_t h_t_between h_t_bits h_t_cells h_t_findings h_t_longs x_t_s x_t_kept x_t_before x_t_shown x_t_worths x_t_steps x_t_tape c_t_isKept c_t_most c_t_taped c_t_here c_t_fault c_t_value c_t_bits c_t_longs a1 a2 a3 a4 a5 C hA  hK hT  c_t_between c_t_cells c_t_findings hF _ _ hP hD hS _ (lv_sub hl [0] rfl)
  · have hF := kn hF q11
    refine lv_iload_n hx hb dX10_copy_7 rfl (lv_at hl 3 rfl) ?_
    obtain ⟨r12, er12, hF⟩ := kb hF
    refine kRS (rest := []) C (k_M_isSheet l E a3 r12 er12) fn_M_isSheet mw_1275 ⟨Nat.le_of_ble_eq_true rfl, Nat.le_of_ble_eq_true rfl⟩ hK hT hS hP [] rfl rfl rfl hl (Nat.le_of_ble_eq_true rfl) dX10_copy_8 ?_
    refine lv_if_ne (tgt := 20) hx hb dX10_copy_11 (by decide) (fun q13 => ?_) (fun q13 => ?_)
    · have hF := kn hF q13
      refine lv_aload_n hx hb dX10_copy_20 rfl (lv_at hl 0 rfl) ?_
      refine va_get (D := eD E) (ci := 8) (C := RX10) (T := TX10) (N := 18) (v := .ref h_t_bits) hx hb hw inX10 hown hK hP 0 rfl rfl 14 (by decide) (hw _ mw_895) (fun _ h9 => h9) rfl dX10_copy_21 ?_
      refine lv_iload_n hx hb dX10_copy_24 rfl (lv_at hl 1 rfl) ?_
      obtain ⟨r14, er14, hF⟩ := kb hF
      refine wa_iald hx hb hK hP 2 0 rfl rfl er14 dX10_copy_25 ?_
      refine lv_if_eq (tgt := 38) hx hb dX10_copy_26 (by decide) (fun q15 => ?_) (fun q15 => ?_)
      · have hF := kp hF q15
        exact wk_M_copy_b38 E h_t h_t_between h_t_bits h_t_cells h_t_findings h_t_longs x_t_s x_t_kept x_t_before x_t_shown x_t_worths x_t_steps x_t_tape c_t_isKept c_t_most c_t_taped c_t_here c_t_fault c_t_value c_t_bits c_t_longs a1 a2 a3 a4 a5 C hA  hK hT  c_t_between c_t_cells c_t_findings hF _ _ hP hD hS _ (lv_sub hl [0] rfl)
      · have hF := kn hF q15
        refine lv_aload_n hx hb dX10_copy_29 rfl (lv_at hl 0 rfl) ?_
        refine va_get (D := eD E) (ci := 8) (C := RX10) (T := TX10) (N := 18) (v := .ref h_t_bits) hx hb hw inX10 hown hK hP 0 rfl rfl 14 (by decide) (hw _ mw_895) (fun _ h9 => h9) rfl dX10_copy_30 ?_
        refine lv_iload_n hx hb dX10_copy_33 rfl (lv_at hl 3 rfl) ?_
        obtain ⟨r16, er16, hF⟩ := kb hF
        refine wa_iald hx hb hK hP 2 0 rfl rfl er16 dX10_copy_34 ?_
        refine lv_if_ne (tgt := 44) hx hb dX10_copy_35 (by decide) (fun q17 => ?_) (fun q17 => ?_)
        · have hF := kn hF q17
          refine lv_aload_n hx hb dX10_copy_44 rfl (lv_at hl 0 rfl) ?_
          refine va_get (D := eD E) (ci := 8) (C := RX10) (T := TX10) (N := 18) (v := .ref h_t_bits) hx hb hw inX10 hown hK hP 0 rfl rfl 14 (by decide) (hw _ mw_895) (fun _ h9 => h9) rfl dX10_copy_45 ?_
          refine lv_iload_n hx hb dX10_copy_48 rfl (lv_at hl 1 rfl) ?_
          obtain ⟨r18, er18, hF⟩ := kb hF
          refine wa_iald hx hb hK hP 2 0 rfl rfl er18 dX10_copy_49 ?_
          refine lv_aload_n hx hb dX10_copy_50 rfl (lv_at hl 0 rfl) ?_
          refine va_get (D := eD E) (ci := 8) (C := RX10) (T := TX10) (N := 18) (v := .ref h_t_bits) hx hb hw inX10 hown hK hP 0 rfl rfl 14 (by decide) (hw _ mw_895) (fun _ h9 => h9) rfl dX10_copy_51 ?_
          refine lv_iload_n hx hb dX10_copy_54 rfl (lv_at hl 3 rfl) ?_
          obtain ⟨r19, er19, hF⟩ := kb hF
          refine wa_iald hx hb hK hP 2 0 rfl rfl er19 dX10_copy_55 ?_
          refine lv_icmp_eq (tgt := 65) hx hb dX10_copy_56 (by decide) (fun q20 => ?_) (fun q20 => ?_)
          · have hF := kp hF q20
            refine lv_iload hx hb dX10_copy_65 (lv_at hl 5 rfl) ?_
            refine lv_if_lt (tgt := 106) hx hb dX10_copy_67 (by decide) (fun q21 => ?_) (fun q21 => ?_)
            · have hF := kp hF q21
              exact wk_M_copy_b106 E h_t h_t_between h_t_bits h_t_cells h_t_findings h_t_longs x_t_s x_t_kept x_t_before x_t_shown x_t_worths x_t_steps x_t_tape c_t_isKept c_t_most c_t_taped c_t_here c_t_fault c_t_value c_t_bits c_t_longs a1 a2 a3 a4 a5 C hA  hK hT  c_t_between c_t_cells c_t_findings hF _ _ hP hD hS _ (lv_sub hl [0] rfl)
            · have hF := kn hF q21
              refine lv_iload_n hx hb dX10_copy_70 rfl (lv_at hl 2 rfl) ?_
              refine lv_if_lt (tgt := 106) hx hb dX10_copy_71 (by decide) (fun q22 => ?_) (fun q22 => ?_)
              · have hF := kp hF q22
                exact wk_M_copy_b106 E h_t h_t_between h_t_bits h_t_cells h_t_findings h_t_longs x_t_s x_t_kept x_t_before x_t_shown x_t_worths x_t_steps x_t_tape c_t_isKept c_t_most c_t_taped c_t_here c_t_fault c_t_value c_t_bits c_t_longs a1 a2 a3 a4 a5 C hA  hK hT  c_t_between c_t_cells c_t_findings hF _ _ hP hD hS _ (lv_sub hl [0] rfl)
              · have hF := kn hF q22
                refine lv_iload hx hb dX10_copy_74 (lv_at hl 4 rfl) ?_
                refine lv_if_lt (tgt := 106) hx hb dX10_copy_76 (by decide) (fun q23 => ?_) (fun q23 => ?_)
                · have hF := kp hF q23
                  exact wk_M_copy_b106 E h_t h_t_between h_t_bits h_t_cells h_t_findings h_t_longs x_t_s x_t_kept x_t_before x_t_shown x_t_worths x_t_steps x_t_tape c_t_isKept c_t_most c_t_taped c_t_here c_t_fault c_t_value c_t_bits c_t_longs a1 a2 a3 a4 a5 C hA  hK hT  c_t_between c_t_cells c_t_findings hF _ _ hP hD hS _ (lv_sub hl [0] rfl)
                · have hF := kn hF q23
                  refine lv_iload_n hx hb dX10_copy_79 rfl (lv_at hl 2 rfl) ?_
                  refine lv_aload_n hx hb dX10_copy_80 rfl (lv_at hl 0 rfl) ?_
                  refine va_get (D := eD E) (ci := 8) (C := RX10) (T := TX10) (N := 18) (v := .ref h_t_longs) hx hb hw inX10 hown hK hP 0 rfl rfl 15 (by decide) (hw _ mw_896) (fun _ h9 => h9) rfl dX10_copy_81 ?_
                  refine lv_iload_n hx hb dX10_copy_84 rfl (lv_at hl 1 rfl) ?_
                  obtain ⟨r24, er24, hF⟩ := kb hF
                  refine wa_iald hx hb hK hP 5 0 rfl rfl er24 dX10_copy_85 ?_
                  refine lv_iload hx hb dX10_copy_86 (lv_at hl 5 rfl) ?_
                  refine lv_isub hx hb dX10_copy_88 ?_
                  refine lv_icmp_gt (tgt := 106) hx hb dX10_copy_89 (by decide) (fun q25 => ?_) (fun q25 => ?_)
                  · have hF := kp hF q25
                    exact wk_M_copy_b106 E h_t h_t_between h_t_bits h_t_cells h_t_findings h_t_longs x_t_s x_t_kept x_t_before x_t_shown x_t_worths x_t_steps x_t_tape c_t_isKept c_t_most c_t_taped c_t_here c_t_fault c_t_value c_t_bits c_t_longs a1 a2 a3 a4 a5 C hA  hK hT  c_t_between c_t_cells c_t_findings hF _ _ hP hD hS _ (lv_sub hl [0] rfl)
                  · have hF := kn hF q25
                    refine lv_iload hx hb dX10_copy_92 (lv_at hl 4 rfl) ?_
                    refine lv_aload_n hx hb dX10_copy_94 rfl (lv_at hl 0 rfl) ?_
                    refine va_get (D := eD E) (ci := 8) (C := RX10) (T := TX10) (N := 18) (v := .ref h_t_longs) hx hb hw inX10 hown hK hP 0 rfl rfl 15 (by decide) (hw _ mw_896) (fun _ h9 => h9) rfl dX10_copy_95 ?_
                    refine lv_iload_n hx hb dX10_copy_98 rfl (lv_at hl 3 rfl) ?_
                    obtain ⟨r26, er26, hF⟩ := kb hF
                    refine wa_iald hx hb hK hP 5 0 rfl rfl er26 dX10_copy_99 ?_
                    refine lv_iload hx hb dX10_copy_100 (lv_at hl 5 rfl) ?_
                    refine lv_isub hx hb dX10_copy_102 ?_
                    refine lv_icmp_le (tgt := 112) hx hb dX10_copy_103 (by decide) (fun q27 => ?_) (fun q27 => ?_)
                    · have hF := kp hF q27
                      refine lv_iconst (v := (0 : Int32)) hx hb dX10_copy_112 (by decide) ?_
                      refine lv_istore (lv' := [(6, .int (0 : Int32)), (0, .ref h_t), (1, .int a1), (2, .int a2), (3, .int a3), (4, .int a4), (5, .int a5)]) hx hb dX10_copy_113 hl (by decide) rfl (fun ls hl => ?_)
                      exact wk_M_copy_b115 E h_t h_t_between h_t_bits h_t_cells h_t_findings h_t_longs x_t_s x_t_kept x_t_before x_t_shown x_t_worths x_t_steps x_t_tape c_t_isKept c_t_most c_t_taped c_t_here c_t_fault c_t_value c_t_bits c_t_longs a1 a2 a3 a4 a5 C hA  hK hT  5000 c_t_between c_t_cells c_t_findings (0 : Int32) hF _ _ hP hD hS _ (lv_sub hl [1, 2, 3, 4, 5, 6, 0] rfl)
                    · have hF := kn hF q27
                      exact wk_M_copy_b106 E h_t h_t_between h_t_bits h_t_cells h_t_findings h_t_longs x_t_s x_t_kept x_t_before x_t_shown x_t_worths x_t_steps x_t_tape c_t_isKept c_t_most c_t_taped c_t_here c_t_fault c_t_value c_t_bits c_t_longs a1 a2 a3 a4 a5 C hA  hK hT  c_t_between c_t_cells c_t_findings hF _ _ hP hD hS _ (lv_sub hl [0] rfl)
          · have hF := kn hF q20
            refine lv_aload_n hx hb dX10_copy_59 rfl (lv_at hl 0 rfl) ?_
            refine lv_iconst (v := (2 : Int32)) hx hb dX10_copy_60 (by decide) ?_
            obtain ⟨r28, er28, hF⟩ := kb hF
            refine kWV (rest := []) (Wr := [(h_t_between, .inl (eJ E, 40, .inr (.inl c_t_between))), (h_t_bits, .inl (eI E, 4, .inl c_t_bits)), (h_t_cells, .inl (eJ E, 160, .inr (.inl c_t_cells))), (h_t_longs, .inl (eI E, 4, .inl c_t_longs))]) (Wn := (w_M_copy E h_t h_t_between h_t_bits h_t_cells h_t_findings h_t_longs x_t_s x_t_kept x_t_before x_t_shown x_t_worths x_t_steps x_t_tape c_t_isKept c_t_most c_t_taped c_t_here c_t_fault c_t_value c_t_between c_t_bits c_t_cells r28.2 c_t_longs)) C (k_M_no l E h_t h_t_findings x_t_s x_t_kept x_t_before x_t_shown x_t_worths x_t_steps x_t_tape h_t_bits h_t_longs h_t_cells h_t_between s.heap.size c_t_isKept c_t_most c_t_taped c_t_here c_t_fault c_t_value c_t_findings (2 : Int32) r28 er28) fn_M_no mw_964 ⟨Nat.le_of_ble_eq_true rfl, Nat.le_of_ble_eq_true rfl⟩ hK hT hS hA (va_recv hK hP (ci := 8) (q0 := 0) rfl rfl) hP hD [0, 4] rfl (by decide) [1, 2, 3, 5] rfl (by decide) (by decide) [4, 0, 1, 2, 5, 3] rfl (by decide) rfl rfl hl (Nat.le_of_ble_eq_true rfl) dX10_copy_61 (fun H locs hP hD hS => ?_)
            refine W.eq (g2 := F0 m 64 ls [.int r28.1]) rfl ?_
            obtain rfl := Option.some.inj hF
            exact W.iret hx hb hr (fun t ht hW => ⟨⟨rfl, by rw [ht]; exact hP, hD⟩, hS.F ht⟩) hS.2.2 dX10_copy_64
        · have hF := kp hF q17
          exact wk_M_copy_b38 E h_t h_t_between h_t_bits h_t_cells h_t_findings h_t_longs x_t_s x_t_kept x_t_before x_t_shown x_t_worths x_t_steps x_t_tape c_t_isKept c_t_most c_t_taped c_t_here c_t_fault c_t_value c_t_bits c_t_longs a1 a2 a3 a4 a5 C hA  hK hT  c_t_between c_t_cells c_t_findings hF _ _ hP hD hS _ (lv_sub hl [0] rfl)
    · have hF := kp hF q13
      exact wk_M_copy_b14 E h_t h_t_between h_t_bits h_t_cells h_t_findings h_t_longs x_t_s x_t_kept x_t_before x_t_shown x_t_worths x_t_steps x_t_tape c_t_isKept c_t_most c_t_taped c_t_here c_t_fault c_t_value c_t_bits c_t_longs a1 a2 a3 a4 a5 C hA  hK hT  c_t_between c_t_cells c_t_findings hF _ _ hP hD hS _ (lv_sub hl [0] rfl)
abbrev w_M_lays (E : kE) (h_t : Nat) (h_t_bits : Nat) (h_t_cells : Nat) (h_t_findings : Nat) (h_t_longs : Nat) (h_t_s : Nat) (x_t_kept : Nat) (x_t_before : Nat) (x_t_shown : Nat) (x_t_worths : Nat) (x_t_steps : Nat) (x_t_tape : Nat) (x_t_between : Nat) (c_t_isKept : Int32) (c_t_most : Int32) (c_t_taped : Int32) (c_t_here : Int32) (c_t_fault : Int32) (c_t_value : Int32) (c_t_bits : (Nat → Int32)) (c_t_cells : (Nat → Int64)) (c_t_findings : (Nat → Int32)) (c_t_longs : (Nat → Int32)) (c_t_s : (Nat → Int32)) : va_W := [(h_t, .inr (8, [.ref h_t_s, .ref x_t_kept, .ref x_t_before, .int c_t_isKept, .ref h_t_findings, .ref x_t_shown, .int c_t_most, .ref x_t_worths, .ref x_t_steps, .ref x_t_tape, .int c_t_taped, .int c_t_here, .int c_t_fault, .int c_t_value, .ref h_t_bits, .ref h_t_longs, .ref h_t_cells, .ref x_t_between])), (h_t_bits, .inl (eI E, 4, .inl c_t_bits)), (h_t_cells, .inl (eJ E, 160, .inr (.inl c_t_cells))), (h_t_findings, .inl (eI E, 7, .inl c_t_findings)), (h_t_longs, .inl (eI E, 4, .inl c_t_longs)), (h_t_s, .inl (eI E, 65, .inl c_t_s))]
set_option maxHeartbeats 4000000 in
set_option maxRecDepth 100000 in
theorem wk_M_lays_b32 {p : Program} {l : Launch} {e : Env} {s : State} {m : MethodId} {args : Array Value} {below : List Frame} {meth : Method} {c : Code} {A : Nat → Prop} (E : kE) (h_t : Nat) (h_t_bits : Nat) (h_t_cells : Nat) (h_t_findings : Nat) (h_t_longs : Nat) (h_t_s : Nat) (x_t_kept : Nat) (x_t_before : Nat) (x_t_shown : Nat) (x_t_worths : Nat) (x_t_steps : Nat) (x_t_tape : Nat) (x_t_between : Nat) (c_t_isKept : Int32) (c_t_most : Int32) (c_t_taped : Int32) (c_t_here : Int32) (c_t_fault : Int32) (c_t_value : Int32) (c_t_bits : (Nat → Int32)) (c_t_cells : (Nat → Int64)) (c_t_longs : (Nat → Int32)) (a1 : Int32) {out : Int32 × (Nat → Int32) × (Nat → Int32)} (C : kC RX10 cX10_lays 6 (some .int) p s m args meth c) (hA : ∀ q : Nat, s.heap.size ≤ q → A q) (hK : va_K (eD E) vwCl (eT E) s) (hT : sT E A s s.heap)  :
    ∀ (n : Nat), ∀ (c_t_findings : (Nat → Int32)) (c_t_s : (Nat → Int32)) (v2 : Int32) (v3 : Int32), f_M_lays_b32  c_t_bits c_t_cells c_t_longs a1 n c_t_findings c_t_s v2 v3 = some out → ∀ (H : Heap) (locs : List Loc), va_P (eD E) vwCl (w_M_lays E h_t h_t_bits h_t_cells h_t_findings h_t_longs h_t_s x_t_kept x_t_before x_t_shown x_t_worths x_t_steps x_t_tape x_t_between c_t_isKept c_t_most c_t_taped c_t_here c_t_fault c_t_value c_t_bits c_t_cells c_t_findings c_t_longs c_t_s) H → va_D A (w_M_lays E h_t h_t_bits h_t_cells h_t_findings h_t_longs h_t_s x_t_kept x_t_before x_t_shown x_t_worths x_t_steps x_t_tape x_t_between c_t_isKept c_t_most c_t_taped c_t_here c_t_fault c_t_value c_t_bits c_t_cells c_t_findings c_t_longs c_t_s) → va_S A s.heap H locs → ∀ (ls : Array Slot), lv_has ls 6 [(0, .ref h_t), (1, .int a1), (2, .int v2), (3, .int v3)] → W p l e (rm 3) s m args below meth c H locs 0 0 (MQ below (qW (some (.int out.1)) E (w_M_lays E h_t h_t_bits h_t_cells h_t_findings h_t_longs h_t_s x_t_kept x_t_before x_t_shown x_t_worths x_t_steps x_t_tape x_t_between c_t_isKept c_t_most c_t_taped c_t_here c_t_fault c_t_value c_t_bits c_t_cells out.2.1 c_t_longs out.2.2) A) args s 0 0 A) (F0 m 32 ls []) := by
  obtain ⟨hx, hb, hr, hml, hown, hw, hlocks⟩ := id C
  intro n
  induction n with
  | zero =>
    intro c_t_findings c_t_s v2 v3 hF
    exact absurd (show (none : Option (Int32 × (Nat → Int32) × (Nat → Int32))) = some out from hF) nofun
  | succ n ih =>
    intro c_t_findings c_t_s v2 v3 hF H locs hP hD hS ls hl
    rw [f_M_lays_b32] at hF
    refine lv_iload_n hx hb dX10_lays_32 rfl (lv_at hl 3 rfl) ?_
    refine lv_aload_n hx hb dX10_lays_33 rfl (lv_at hl 0 rfl) ?_
    refine va_get (D := eD E) (ci := 8) (C := RX10) (T := TX10) (N := 18) (v := .ref h_t_longs) hx hb hw inX10 hown hK hP 0 rfl rfl 15 (by decide) (hw _ mw_896) (fun _ h9 => h9) rfl dX10_lays_34 ?_
    refine lv_iload_n hx hb dX10_lays_37 rfl (lv_at hl 1 rfl) ?_
    obtain ⟨r1, er1, hF⟩ := kb hF
    refine wa_iald hx hb hK hP 4 0 rfl rfl er1 dX10_lays_38 ?_
    refine lv_icmp_ge (tgt := 97) hx hb dX10_lays_39 (by decide) (fun q2 => ?_) (fun q2 => ?_)
    · have hF := kp hF q2
      refine lv_iload_n hx hb dX10_lays_97 rfl (lv_at hl 2 rfl) ?_
      obtain rfl := Option.some.inj hF
      exact W.iret hx hb hr (fun t ht hW => ⟨⟨rfl, by rw [ht]; exact hP, hD⟩, hS.F ht⟩) hS.2.2 dX10_lays_98
    · have hF := kn hF q2
      refine lv_iload_n hx hb dX10_lays_42 rfl (lv_at hl 3 rfl) ?_
      refine lv_bipush (v := (26 : Int32)) hx hb dX10_lays_43 (by decide) ?_
      refine lv_icmp_ge (tgt := 97) hx hb dX10_lays_45 (by decide) (fun q3 => ?_) (fun q3 => ?_)
      · have hF := kp hF q3
        refine lv_iload_n hx hb dX10_lays_97 rfl (lv_at hl 2 rfl) ?_
        obtain rfl := Option.some.inj hF
        exact W.iret hx hb hr (fun t ht hW => ⟨⟨rfl, by rw [ht]; exact hP, hD⟩, hS.F ht⟩) hS.2.2 dX10_lays_98
      · have hF := kn hF q3
        refine lv_aload_n hx hb dX10_lays_48 rfl (lv_at hl 0 rfl) ?_
        refine va_get (D := eD E) (ci := 8) (C := RX10) (T := TX10) (N := 18) (v := .ref h_t_cells) hx hb hw inX10 hown hK hP 0 rfl rfl 16 (by decide) (hw _ mw_897) (fun _ h9 => h9) rfl dX10_lays_49 ?_
        refine lv_bipush (v := (40 : Int32)) hx hb dX10_lays_52 (by decide) ?_
        refine lv_iload_n hx hb dX10_lays_54 rfl (lv_at hl 1 rfl) ?_
        refine lv_imul hx hb dX10_lays_55 ?_
        refine lv_iload_n hx hb dX10_lays_56 rfl (lv_at hl 3 rfl) ?_
        refine lv_iadd hx hb dX10_lays_57 ?_
        obtain ⟨r4, er4, hF⟩ := kb hF
        refine wa_lald hx hb hK hP 2 2 rfl rfl er4 dX10_lays_58 ?_
        refine lv_lstore (lv' := [(4, .long r4), (0, .ref h_t), (1, .int a1), (2, .int v2), (3, .int v3)]) hx hb dX10_lays_59 hl (by decide) rfl (fun ls hl => ?_)
        refine lv_lload hx hb dX10_lays_61 (lv_at hl 0 rfl) ?_
        refine lv_lconst (v := (0 : Int64)) hx hb dX10_lays_63 (by decide) ?_
        refine W.lcmp hx hb dX10_lays_64 ?_
        refine lv_if_lt (tgt := 91) hx hb dX10_lays_65 (by decide) (fun q5 => ?_) (fun q5 => ?_)
        · have hF := kp hF q5
          refine lv_iinc (v := (v3 + (1))) (lv' := [(3, .int (v3 + (1))), (4, .long r4), (0, .ref h_t), (1, .int a1), (2, .int v2)]) hx hb dX10_lays_91 hl (k := 4) rfl rfl (by decide) rfl (fun ls hl => ?_)
          refine lv_goto (tgt := 32) hx hb dX10_lays_94 (by decide) ?_
          exact ih c_t_findings c_t_s v2 (v3 + (1)) hF _ _ hP hD hS _ (lv_sub hl [2, 3, 4, 0] rfl)
        · have hF := kn hF q5
          refine lv_lload hx hb dX10_lays_68 (lv_at hl 0 rfl) ?_
          refine lv_ldc2 (v := (4096 : Int64)) hx hb hown (hw _ mw_1294) dX10_lays_70 ?_
          refine W.lcmp hx hb dX10_lays_73 ?_
          refine lv_if_ge (tgt := 91) hx hb dX10_lays_74 (by decide) (fun q6 => ?_) (fun q6 => ?_)
          · have hF := kp hF q6
            refine lv_iinc (v := (v3 + (1))) (lv' := [(3, .int (v3 + (1))), (4, .long r4), (0, .ref h_t), (1, .int a1), (2, .int v2)]) hx hb dX10_lays_91 hl (k := 4) rfl rfl (by decide) rfl (fun ls hl => ?_)
            refine lv_goto (tgt := 32) hx hb dX10_lays_94 (by decide) ?_
            exact ih c_t_findings c_t_s v2 (v3 + (1)) hF _ _ hP hD hS _ (lv_sub hl [2, 3, 4, 0] rfl)
          · have hF := kn hF q6
            refine lv_aload_n hx hb dX10_lays_77 rfl (lv_at hl 1 rfl) ?_
            refine va_get (D := eD E) (ci := 8) (C := RX10) (T := TX10) (N := 18) (v := .ref h_t_s) hx hb hw inX10 hown hK hP 0 rfl rfl 0 (by decide) (hw _ mw_881) (fun _ h9 => h9) rfl dX10_lays_78 ?_
            refine lv_iconst (v := (3 : Int32)) hx hb dX10_lays_81 (by decide) ?_
            refine lv_iload_n hx hb dX10_lays_82 rfl (lv_at hl 4 rfl) ?_
            refine lv_iadd hx hb dX10_lays_83 ?_
            refine lv_lload hx hb dX10_lays_84 (lv_at hl 0 rfl) ?_
            refine lv_l2i (v := r4.toInt32) hx hb dX10_lays_86 rfl ?_
            obtain ⟨r7, er7, hF⟩ := kb hF
            refine wa_iast hx hb hK hP hD hS 5 0 rfl rfl er7 dX10_lays_87 (fun H locs hP hD hS => ?_)
            have hP : va_P (eD E) vwCl (w_M_lays E h_t h_t_bits h_t_cells h_t_findings h_t_longs h_t_s x_t_kept x_t_before x_t_shown x_t_worths x_t_steps x_t_tape x_t_between c_t_isKept c_t_most c_t_taped c_t_here c_t_fault c_t_value c_t_bits c_t_cells c_t_findings c_t_longs r7) H := hP
            have hD : va_D A (w_M_lays E h_t h_t_bits h_t_cells h_t_findings h_t_longs h_t_s x_t_kept x_t_before x_t_shown x_t_worths x_t_steps x_t_tape x_t_between c_t_isKept c_t_most c_t_taped c_t_here c_t_fault c_t_value c_t_bits c_t_cells c_t_findings c_t_longs r7) := hD
            refine lv_iinc (v := (v2 + (1))) (lv' := [(2, .int (v2 + (1))), (4, .long r4), (0, .ref h_t), (1, .int a1), (3, .int v3)]) hx hb dX10_lays_88 hl (k := 3) rfl rfl (by decide) rfl (fun ls hl => ?_)
            refine lv_iinc (v := (v3 + (1))) (lv' := [(3, .int (v3 + (1))), (2, .int (v2 + (1))), (4, .long r4), (0, .ref h_t), (1, .int a1)]) hx hb dX10_lays_91 hl (k := 4) rfl rfl (by decide) rfl (fun ls hl => ?_)
            refine lv_goto (tgt := 32) hx hb dX10_lays_94 (by decide) ?_
            exact ih c_t_findings r7 (v2 + (1)) (v3 + (1)) hF _ _ hP hD hS _ (lv_sub hl [3, 4, 1, 0] rfl)
set_option maxHeartbeats 4000000 in
set_option maxRecDepth 100000 in
theorem k_M_lays (l : Launch) (E : kE) (h_t : Nat) (h_t_bits : Nat) (h_t_cells : Nat) (h_t_findings : Nat) (h_t_longs : Nat) (h_t_s : Nat) (x_t_kept : Nat) (x_t_before : Nat) (x_t_shown : Nat) (x_t_worths : Nat) (x_t_steps : Nat) (x_t_tape : Nat) (x_t_between : Nat) (sz : Nat) (c_t_isKept : Int32) (c_t_most : Int32) (c_t_taped : Int32) (c_t_here : Int32) (c_t_fault : Int32) (c_t_value : Int32) (c_t_bits : (Nat → Int32)) (c_t_cells : (Nat → Int64)) (c_t_findings : (Nat → Int32)) (c_t_longs : (Nat → Int32)) (c_t_s : (Nat → Int32)) (a1 : Int32) (out : Int32 × (Nat → Int32) × (Nat → Int32)) (hF : f_M_lays c_t_bits c_t_cells c_t_findings c_t_longs c_t_s a1 = some out) : Met l yX10_lays (Cond.code yX10_lays cX10_lays 6 (some .int) :: wG) (rm 3) (pW E (w_M_lays E h_t h_t_bits h_t_cells h_t_findings h_t_longs h_t_s x_t_kept x_t_before x_t_shown x_t_worths x_t_steps x_t_tape x_t_between c_t_isKept c_t_most c_t_taped c_t_here c_t_fault c_t_value c_t_bits c_t_cells c_t_findings c_t_longs c_t_s) sz [.ref h_t, .int a1]) (qW (some (.int out.1)) E (w_M_lays E h_t h_t_bits h_t_cells h_t_findings h_t_longs h_t_s x_t_kept x_t_before x_t_shown x_t_worths x_t_steps x_t_tape x_t_between c_t_isKept c_t_most c_t_taped c_t_here c_t_fault c_t_value c_t_bits c_t_cells out.2.1 c_t_longs out.2.2) (va_A (w_M_lays E h_t h_t_bits h_t_cells h_t_findings h_t_longs h_t_s x_t_kept x_t_before x_t_shown x_t_worths x_t_steps x_t_tape x_t_between c_t_isKept c_t_most c_t_taped c_t_here c_t_fault c_t_value c_t_bits c_t_cells c_t_findings c_t_longs c_t_s) sz)) 0 0 (va_A (w_M_lays E h_t h_t_bits h_t_cells h_t_findings h_t_longs h_t_s x_t_kept x_t_before x_t_shown x_t_worths x_t_steps x_t_tape x_t_between c_t_isKept c_t_most c_t_taped c_t_here c_t_fault c_t_value c_t_bits c_t_cells c_t_findings c_t_longs c_t_s) sz) := by
  refine met_W (by decide) (Nat.le_of_ble_eq_true rfl) ?_
  intro p e s m args below meth c A ls C hP hD hS hA hK hT hl
  obtain ⟨hx, hb, hr, hml, hown, hw, hlocks⟩ := id C
  have hl : lv_has ls 6 [(0, .ref h_t), (1, .int a1)] := hl
  rw [f_M_lays] at hF
  refine lv_iload_n hx hb dX10_lays_0 rfl (lv_at hl 1 rfl) ?_
  obtain ⟨r8, er8, hF⟩ := kb hF
  refine kRS (rest := []) C (k_M_isSheet l E a1 r8 er8) fn_M_isSheet mw_1275 ⟨Nat.le_of_ble_eq_true rfl, Nat.le_of_ble_eq_true rfl⟩ hK hT hS hP [] rfl rfl rfl hl (Nat.le_of_ble_eq_true rfl) dX10_lays_1 ?_
  refine lv_if_ne (tgt := 13) hx hb dX10_lays_4 (by decide) (fun q9 => ?_) (fun q9 => ?_)
  · have hF := kn hF q9
    refine lv_aload_n hx hb dX10_lays_13 rfl (lv_at hl 0 rfl) ?_
    refine va_get (D := eD E) (ci := 8) (C := RX10) (T := TX10) (N := 18) (v := .ref h_t_bits) hx hb hw inX10 hown hK hP 0 rfl rfl 14 (by decide) (hw _ mw_895) (fun _ h9 => h9) rfl dX10_lays_14 ?_
    refine lv_iload_n hx hb dX10_lays_17 rfl (lv_at hl 1 rfl) ?_
    obtain ⟨r10, er10, hF⟩ := kb hF
    refine wa_iald hx hb hK hP 1 0 rfl rfl er10 dX10_lays_18 ?_
    refine lv_if_ne (tgt := 28) hx hb dX10_lays_19 (by decide) (fun q11 => ?_) (fun q11 => ?_)
    · have hF := kn hF q11
      refine lv_iconst (v := (0 : Int32)) hx hb dX10_lays_28 (by decide) ?_
      refine lv_istore_n (lv' := [(2, .int (0 : Int32)), (0, .ref h_t), (1, .int a1)]) hx hb dX10_lays_29 rfl hl (by decide) rfl (fun ls hl => ?_)
      refine lv_iconst (v := (0 : Int32)) hx hb dX10_lays_30 (by decide) ?_
      refine lv_istore_n (lv' := [(3, .int (0 : Int32)), (2, .int (0 : Int32)), (0, .ref h_t), (1, .int a1)]) hx hb dX10_lays_31 rfl hl (by decide) rfl (fun ls hl => ?_)
      exact wk_M_lays_b32 E h_t h_t_bits h_t_cells h_t_findings h_t_longs h_t_s x_t_kept x_t_before x_t_shown x_t_worths x_t_steps x_t_tape x_t_between c_t_isKept c_t_most c_t_taped c_t_here c_t_fault c_t_value c_t_bits c_t_cells c_t_longs a1 C hA  hK hT  5000 c_t_findings c_t_s (0 : Int32) (0 : Int32) hF _ _ hP hD hS _ (lv_sub hl [2, 3, 1, 0] rfl)
    · have hF := kp hF q11
      refine lv_aload_n hx hb dX10_lays_22 rfl (lv_at hl 0 rfl) ?_
      refine lv_iconst (v := (5 : Int32)) hx hb dX10_lays_23 (by decide) ?_
      obtain ⟨r12, er12, hF⟩ := kb hF
      refine kWV (rest := []) (Wr := [(h_t_bits, .inl (eI E, 4, .inl c_t_bits)), (h_t_cells, .inl (eJ E, 160, .inr (.inl c_t_cells))), (h_t_longs, .inl (eI E, 4, .inl c_t_longs)), (h_t_s, .inl (eI E, 65, .inl c_t_s))]) (Wn := (w_M_lays E h_t h_t_bits h_t_cells h_t_findings h_t_longs h_t_s x_t_kept x_t_before x_t_shown x_t_worths x_t_steps x_t_tape x_t_between c_t_isKept c_t_most c_t_taped c_t_here c_t_fault c_t_value c_t_bits c_t_cells r12.2 c_t_longs c_t_s)) C (k_M_no l E h_t h_t_findings h_t_s x_t_kept x_t_before x_t_shown x_t_worths x_t_steps x_t_tape h_t_bits h_t_longs h_t_cells x_t_between s.heap.size c_t_isKept c_t_most c_t_taped c_t_here c_t_fault c_t_value c_t_findings (5 : Int32) r12 er12) fn_M_no mw_964 ⟨Nat.le_of_ble_eq_true rfl, Nat.le_of_ble_eq_true rfl⟩ hK hT hS hA (va_recv hK hP (ci := 8) (q0 := 0) rfl rfl) hP hD [0, 3] rfl (by decide) [1, 2, 4, 5] rfl (by decide) (by decide) [4, 0, 1, 5, 2, 3] rfl (by decide) rfl rfl hl (Nat.le_of_ble_eq_true rfl) dX10_lays_24 (fun H locs hP hD hS => ?_)
      refine W.eq (g2 := F0 m 27 ls [.int r12.1]) rfl ?_
      obtain rfl := Option.some.inj hF
      exact W.iret hx hb hr (fun t ht hW => ⟨⟨rfl, by rw [ht]; exact hP, hD⟩, hS.F ht⟩) hS.2.2 dX10_lays_27
  · have hF := kp hF q9
    refine lv_aload_n hx hb dX10_lays_7 rfl (lv_at hl 0 rfl) ?_
    refine lv_iconst (v := (0 : Int32)) hx hb dX10_lays_8 (by decide) ?_
    obtain ⟨r13, er13, hF⟩ := kb hF
    refine kWV (rest := []) (Wr := [(h_t_bits, .inl (eI E, 4, .inl c_t_bits)), (h_t_cells, .inl (eJ E, 160, .inr (.inl c_t_cells))), (h_t_longs, .inl (eI E, 4, .inl c_t_longs)), (h_t_s, .inl (eI E, 65, .inl c_t_s))]) (Wn := (w_M_lays E h_t h_t_bits h_t_cells h_t_findings h_t_longs h_t_s x_t_kept x_t_before x_t_shown x_t_worths x_t_steps x_t_tape x_t_between c_t_isKept c_t_most c_t_taped c_t_here c_t_fault c_t_value c_t_bits c_t_cells r13.2 c_t_longs c_t_s)) C (k_M_no l E h_t h_t_findings h_t_s x_t_kept x_t_before x_t_shown x_t_worths x_t_steps x_t_tape h_t_bits h_t_longs h_t_cells x_t_between s.heap.size c_t_isKept c_t_most c_t_taped c_t_here c_t_fault c_t_value c_t_findings (0 : Int32) r13 er13) fn_M_no mw_964 ⟨Nat.le_of_ble_eq_true rfl, Nat.le_of_ble_eq_true rfl⟩ hK hT hS hA (va_recv hK hP (ci := 8) (q0 := 0) rfl rfl) hP hD [0, 3] rfl (by decide) [1, 2, 4, 5] rfl (by decide) (by decide) [4, 0, 1, 5, 2, 3] rfl (by decide) rfl rfl hl (Nat.le_of_ble_eq_true rfl) dX10_lays_9 (fun H locs hP hD hS => ?_)
    refine W.eq (g2 := F0 m 12 ls [.int r13.1]) rfl ?_
    obtain rfl := Option.some.inj hF
    exact W.iret hx hb hr (fun t ht hW => ⟨⟨rfl, by rw [ht]; exact hP, hD⟩, hS.F ht⟩) hS.2.2 dX10_lays_12
abbrev w_M_show (E : kE) (h_t : Nat) (h_t_bits : Nat) (h_t_cells : Nat) (h_t_findings : Nat) (h_t_longs : Nat) (h_t_s : Nat) (x_t_kept : Nat) (x_t_before : Nat) (x_t_shown : Nat) (x_t_worths : Nat) (x_t_steps : Nat) (x_t_tape : Nat) (x_t_between : Nat) (c_t_isKept : Int32) (c_t_most : Int32) (c_t_taped : Int32) (c_t_here : Int32) (c_t_fault : Int32) (c_t_value : Int32) (c_t_bits : (Nat → Int32)) (c_t_cells : (Nat → Int64)) (c_t_findings : (Nat → Int32)) (c_t_longs : (Nat → Int32)) (c_t_s : (Nat → Int32)) : va_W := [(h_t, .inr (8, [.ref h_t_s, .ref x_t_kept, .ref x_t_before, .int c_t_isKept, .ref h_t_findings, .ref x_t_shown, .int c_t_most, .ref x_t_worths, .ref x_t_steps, .ref x_t_tape, .int c_t_taped, .int c_t_here, .int c_t_fault, .int c_t_value, .ref h_t_bits, .ref h_t_longs, .ref h_t_cells, .ref x_t_between])), (h_t_bits, .inl (eI E, 4, .inl c_t_bits)), (h_t_cells, .inl (eJ E, 160, .inr (.inl c_t_cells))), (h_t_findings, .inl (eI E, 7, .inl c_t_findings)), (h_t_longs, .inl (eI E, 4, .inl c_t_longs)), (h_t_s, .inl (eI E, 65, .inl c_t_s))]
set_option maxHeartbeats 4000000 in
set_option maxRecDepth 100000 in
theorem wk_M_show_b61 {p : Program} {l : Launch} {e : Env} {s : State} {m : MethodId} {args : Array Value} {below : List Frame} {meth : Method} {c : Code} {A : Nat → Prop} (E : kE) (h_t : Nat) (h_t_bits : Nat) (h_t_cells : Nat) (h_t_findings : Nat) (h_t_longs : Nat) (h_t_s : Nat) (x_t_kept : Nat) (x_t_before : Nat) (x_t_shown : Nat) (x_t_worths : Nat) (x_t_steps : Nat) (x_t_tape : Nat) (x_t_between : Nat) (c_t_isKept : Int32) (c_t_most : Int32) (c_t_taped : Int32) (c_t_here : Int32) (c_t_fault : Int32) (c_t_value : Int32) (c_t_bits : (Nat → Int32)) (c_t_longs : (Nat → Int32)) (c_t_s : (Nat → Int32)) (a1 : Int32) {out : Int32 × (Nat → Int64) × (Nat → Int32)} (C : kC RX10 cX10_show 4 (some .int) p s m args meth c) (hA : ∀ q : Nat, s.heap.size ≤ q → A q) (hK : va_K (eD E) vwCl (eT E) s) (hT : sT E A s s.heap)  :
    ∀ (n : Nat), ∀ (c_t_cells : (Nat → Int64)) (c_t_findings : (Nat → Int32)) (v2 : Int32) (v3 : Int32), f_M_show_b61  c_t_bits c_t_longs c_t_s a1 n c_t_cells c_t_findings v2 v3 = some out → ∀ (H : Heap) (locs : List Loc), va_P (eD E) vwCl (w_M_show E h_t h_t_bits h_t_cells h_t_findings h_t_longs h_t_s x_t_kept x_t_before x_t_shown x_t_worths x_t_steps x_t_tape x_t_between c_t_isKept c_t_most c_t_taped c_t_here c_t_fault c_t_value c_t_bits c_t_cells c_t_findings c_t_longs c_t_s) H → va_D A (w_M_show E h_t h_t_bits h_t_cells h_t_findings h_t_longs h_t_s x_t_kept x_t_before x_t_shown x_t_worths x_t_steps x_t_tape x_t_between c_t_isKept c_t_most c_t_taped c_t_here c_t_fault c_t_value c_t_bits c_t_cells c_t_findings c_t_longs c_t_s) → va_S A s.heap H locs → ∀ (ls : Array Slot), lv_has ls 4 [(0, .ref h_t), (1, .int a1), (2, .int v2), (3, .int v3)] → W p l e (rm 4) s m args below meth c H locs 0 0 (MQ below (qW (some (.int out.1)) E (w_M_show E h_t h_t_bits h_t_cells h_t_findings h_t_longs h_t_s x_t_kept x_t_before x_t_shown x_t_worths x_t_steps x_t_tape x_t_between c_t_isKept c_t_most c_t_taped c_t_here c_t_fault c_t_value c_t_bits out.2.1 out.2.2 c_t_longs c_t_s) A) args s 0 0 A) (F0 m 61 ls []) := by
  obtain ⟨hx, hb, hr, hml, hown, hw, hlocks⟩ := id C
  intro n
  induction n with
  | zero =>
    intro c_t_cells c_t_findings v2 v3 hF
    exact absurd (show (none : Option (Int32 × (Nat → Int64) × (Nat → Int32))) = some out from hF) nofun
  | succ n ih =>
    intro c_t_cells c_t_findings v2 v3 hF H locs hP hD hS ls hl
    rw [f_M_show_b61] at hF
    refine lv_iload_n hx hb dX10_show_61 rfl (lv_at hl 3 rfl) ?_
    refine lv_iload_n hx hb dX10_show_62 rfl (lv_at hl 2 rfl) ?_
    refine lv_icmp_ge (tgt := 88) hx hb dX10_show_63 (by decide) (fun q1 => ?_) (fun q1 => ?_)
    · have hF := kp hF q1
      refine lv_iload_n hx hb dX10_show_88 rfl (lv_at hl 2 rfl) ?_
      obtain rfl := Option.some.inj hF
      exact W.iret hx hb hr (fun t ht hW => ⟨⟨rfl, by rw [ht]; exact hP, hD⟩, hS.F ht⟩) hS.2.2 dX10_show_89
    · have hF := kn hF q1
      refine lv_aload_n hx hb dX10_show_66 rfl (lv_at hl 0 rfl) ?_
      refine lv_iload_n hx hb dX10_show_67 rfl (lv_at hl 1 rfl) ?_
      refine lv_iload_n hx hb dX10_show_68 rfl (lv_at hl 3 rfl) ?_
      refine lv_aload_n hx hb dX10_show_69 rfl (lv_at hl 0 rfl) ?_
      refine lv_aload_n hx hb dX10_show_70 rfl (lv_at hl 0 rfl) ?_
      refine lv_iload_n hx hb dX10_show_71 rfl (lv_at hl 3 rfl) ?_
      obtain ⟨r2, er2, hF⟩ := kb hF
      refine kRV (rest := [.ref h_t, .int v3, .int a1, .ref h_t]) C (k_M_shows l E h_t h_t_s x_t_kept x_t_before h_t_findings x_t_shown x_t_worths x_t_steps x_t_tape h_t_bits h_t_longs h_t_cells x_t_between c_t_isKept c_t_most c_t_taped c_t_here c_t_fault c_t_value c_t_s v3 r2 er2) fn_M_shows mw_1103 ⟨Nat.le_of_ble_eq_true rfl, Nat.le_of_ble_eq_true rfl⟩ hK hT hS (va_recv hK hP (ci := 8) (q0 := 0) rfl rfl) hP [0, 5] rfl rfl rfl hl (Nat.le_of_ble_eq_true rfl) dX10_show_72 ?_
      obtain ⟨r3, er3, hF⟩ := kb hF
      refine kRV (rest := [.int v3, .int a1, .ref h_t]) C (k_M_readAs l E h_t h_t_s x_t_kept x_t_before h_t_findings x_t_shown x_t_worths x_t_steps x_t_tape h_t_bits h_t_longs h_t_cells x_t_between c_t_isKept c_t_most c_t_taped c_t_here c_t_fault c_t_value c_t_s r2 r3 er3) fn_M_readAs mw_1049 ⟨Nat.le_of_ble_eq_true rfl, Nat.le_of_ble_eq_true rfl⟩ hK hT hS (va_recv hK hP (ci := 8) (q0 := 0) rfl rfl) hP [0, 5] rfl rfl rfl hl (Nat.le_of_ble_eq_true rfl) dX10_show_75 ?_
      refine lv_i2l (v := r3.toInt64) hx hb dX10_show_78 rfl ?_
      obtain ⟨r4, er4, hF⟩ := kb hF
      refine kWV (rest := []) (Wr := [(h_t_findings, .inl (eI E, 7, .inl c_t_findings)), (h_t_longs, .inl (eI E, 4, .inl c_t_longs)), (h_t_s, .inl (eI E, 65, .inl c_t_s))]) (Wn := (w_M_show E h_t h_t_bits h_t_cells h_t_findings h_t_longs h_t_s x_t_kept x_t_before x_t_shown x_t_worths x_t_steps x_t_tape x_t_between c_t_isKept c_t_most c_t_taped c_t_here c_t_fault c_t_value c_t_bits r4 c_t_findings c_t_longs c_t_s)) C (k_M_writes l E h_t h_t_bits h_t_cells h_t_s x_t_kept x_t_before h_t_findings x_t_shown x_t_worths x_t_steps x_t_tape h_t_longs x_t_between H.size c_t_isKept c_t_most c_t_taped c_t_here c_t_fault c_t_value c_t_bits c_t_cells a1 v3 r3.toInt64 r4 er4) fn_M_writes mw_1282 ⟨Nat.le_of_ble_eq_true rfl, Nat.le_of_ble_eq_true rfl⟩ hK hT hS hA (va_recv hK hP (ci := 8) (q0 := 0) rfl rfl) hP hD [0, 1, 2] rfl (by decide) [3, 4, 5] rfl (by decide) (by decide) [3, 4, 5, 0, 1, 2] rfl (by decide) rfl rfl hl (Nat.le_of_ble_eq_true rfl) dX10_show_79 (fun H locs hP hD hS => ?_)
      refine W.eq (g2 := F0 m 82 ls []) rfl ?_
      refine lv_iinc (v := (v3 + (1))) (lv' := [(3, .int (v3 + (1))), (0, .ref h_t), (1, .int a1), (2, .int v2)]) hx hb dX10_show_82 hl (k := 3) rfl rfl (by decide) rfl (fun ls hl => ?_)
      refine lv_goto (tgt := 61) hx hb dX10_show_85 (by decide) ?_
      exact ih r4 c_t_findings v2 (v3 + (1)) hF _ _ hP hD hS _ (lv_sub hl [1, 2, 3, 0] rfl)
set_option maxHeartbeats 4000000 in
set_option maxRecDepth 100000 in
theorem wk_M_show_b58 {p : Program} {l : Launch} {e : Env} {s : State} {m : MethodId} {args : Array Value} {below : List Frame} {meth : Method} {c : Code} {A : Nat → Prop} (E : kE) (h_t : Nat) (h_t_bits : Nat) (h_t_cells : Nat) (h_t_findings : Nat) (h_t_longs : Nat) (h_t_s : Nat) (x_t_kept : Nat) (x_t_before : Nat) (x_t_shown : Nat) (x_t_worths : Nat) (x_t_steps : Nat) (x_t_tape : Nat) (x_t_between : Nat) (c_t_isKept : Int32) (c_t_most : Int32) (c_t_taped : Int32) (c_t_here : Int32) (c_t_fault : Int32) (c_t_value : Int32) (c_t_bits : (Nat → Int32)) (c_t_longs : (Nat → Int32)) (c_t_s : (Nat → Int32)) (a1 : Int32) {out : Int32 × (Nat → Int64) × (Nat → Int32)} (C : kC RX10 cX10_show 4 (some .int) p s m args meth c) (hA : ∀ q : Nat, s.heap.size ≤ q → A q) (hK : va_K (eD E) vwCl (eT E) s) (hT : sT E A s s.heap)  :
    ∀ (c_t_cells : (Nat → Int64)) (c_t_findings : (Nat → Int32)) (s0 : Int32), f_M_show_b58  c_t_bits c_t_longs c_t_s a1 c_t_cells c_t_findings s0 = some out → ∀ (H : Heap) (locs : List Loc), va_P (eD E) vwCl (w_M_show E h_t h_t_bits h_t_cells h_t_findings h_t_longs h_t_s x_t_kept x_t_before x_t_shown x_t_worths x_t_steps x_t_tape x_t_between c_t_isKept c_t_most c_t_taped c_t_here c_t_fault c_t_value c_t_bits c_t_cells c_t_findings c_t_longs c_t_s) H → va_D A (w_M_show E h_t h_t_bits h_t_cells h_t_findings h_t_longs h_t_s x_t_kept x_t_before x_t_shown x_t_worths x_t_steps x_t_tape x_t_between c_t_isKept c_t_most c_t_taped c_t_here c_t_fault c_t_value c_t_bits c_t_cells c_t_findings c_t_longs c_t_s) → va_S A s.heap H locs → ∀ (ls : Array Slot), lv_has ls 4 [(0, .ref h_t), (1, .int a1)] → W p l e (rm 4) s m args below meth c H locs 0 0 (MQ below (qW (some (.int out.1)) E (w_M_show E h_t h_t_bits h_t_cells h_t_findings h_t_longs h_t_s x_t_kept x_t_before x_t_shown x_t_worths x_t_steps x_t_tape x_t_between c_t_isKept c_t_most c_t_taped c_t_here c_t_fault c_t_value c_t_bits out.2.1 out.2.2 c_t_longs c_t_s) A) args s 0 0 A) (F0 m 58 ls [.int s0]) := by
  obtain ⟨hx, hb, hr, hml, hown, hw, hlocks⟩ := id C
  intro c_t_cells c_t_findings s0 hF H locs hP hD hS ls hl
  rw [f_M_show_b58] at hF
  refine lv_istore_n (lv' := [(2, .int s0), (0, .ref h_t), (1, .int a1)]) hx hb dX10_show_58 rfl hl (by decide) rfl (fun ls hl => ?_)
  refine lv_iconst (v := (0 : Int32)) hx hb dX10_show_59 (by decide) ?_
  refine lv_istore_n (lv' := [(3, .int (0 : Int32)), (2, .int s0), (0, .ref h_t), (1, .int a1)]) hx hb dX10_show_60 rfl hl (by decide) rfl (fun ls hl => ?_)
  exact wk_M_show_b61 E h_t h_t_bits h_t_cells h_t_findings h_t_longs h_t_s x_t_kept x_t_before x_t_shown x_t_worths x_t_steps x_t_tape x_t_between c_t_isKept c_t_most c_t_taped c_t_here c_t_fault c_t_value c_t_bits c_t_longs c_t_s a1 C hA  hK hT  5000 c_t_cells c_t_findings s0 (0 : Int32) hF _ _ hP hD hS _ (lv_sub hl [2, 3, 1, 0] rfl)
set_option maxHeartbeats 4000000 in
set_option maxRecDepth 100000 in
theorem k_M_show (l : Launch) (E : kE) (h_t : Nat) (h_t_bits : Nat) (h_t_cells : Nat) (h_t_findings : Nat) (h_t_longs : Nat) (h_t_s : Nat) (x_t_kept : Nat) (x_t_before : Nat) (x_t_shown : Nat) (x_t_worths : Nat) (x_t_steps : Nat) (x_t_tape : Nat) (x_t_between : Nat) (sz : Nat) (c_t_isKept : Int32) (c_t_most : Int32) (c_t_taped : Int32) (c_t_here : Int32) (c_t_fault : Int32) (c_t_value : Int32) (c_t_bits : (Nat → Int32)) (c_t_cells : (Nat → Int64)) (c_t_findings : (Nat → Int32)) (c_t_longs : (Nat → Int32)) (c_t_s : (Nat → Int32)) (a1 : Int32) (out : Int32 × (Nat → Int64) × (Nat → Int32)) (hF : f_M_show c_t_bits c_t_cells c_t_findings c_t_longs c_t_s a1 = some out) : Met l yX10_show (Cond.code yX10_show cX10_show 4 (some .int) :: wG) (rm 4) (pW E (w_M_show E h_t h_t_bits h_t_cells h_t_findings h_t_longs h_t_s x_t_kept x_t_before x_t_shown x_t_worths x_t_steps x_t_tape x_t_between c_t_isKept c_t_most c_t_taped c_t_here c_t_fault c_t_value c_t_bits c_t_cells c_t_findings c_t_longs c_t_s) sz [.ref h_t, .int a1]) (qW (some (.int out.1)) E (w_M_show E h_t h_t_bits h_t_cells h_t_findings h_t_longs h_t_s x_t_kept x_t_before x_t_shown x_t_worths x_t_steps x_t_tape x_t_between c_t_isKept c_t_most c_t_taped c_t_here c_t_fault c_t_value c_t_bits out.2.1 out.2.2 c_t_longs c_t_s) (va_A (w_M_show E h_t h_t_bits h_t_cells h_t_findings h_t_longs h_t_s x_t_kept x_t_before x_t_shown x_t_worths x_t_steps x_t_tape x_t_between c_t_isKept c_t_most c_t_taped c_t_here c_t_fault c_t_value c_t_bits c_t_cells c_t_findings c_t_longs c_t_s) sz)) 0 0 (va_A (w_M_show E h_t h_t_bits h_t_cells h_t_findings h_t_longs h_t_s x_t_kept x_t_before x_t_shown x_t_worths x_t_steps x_t_tape x_t_between c_t_isKept c_t_most c_t_taped c_t_here c_t_fault c_t_value c_t_bits c_t_cells c_t_findings c_t_longs c_t_s) sz) := by
  refine met_W (by decide) (Nat.le_of_ble_eq_true rfl) ?_
  intro p e s m args below meth c A ls C hP hD hS hA hK hT hl
  obtain ⟨hx, hb, hr, hml, hown, hw, hlocks⟩ := id C
  have hl : lv_has ls 4 [(0, .ref h_t), (1, .int a1)] := hl
  rw [f_M_show] at hF
  refine lv_iload_n hx hb dX10_show_0 rfl (lv_at hl 1 rfl) ?_
  obtain ⟨r5, er5, hF⟩ := kb hF
  refine kRS (rest := []) C (k_M_isSheet l E a1 r5 er5) fn_M_isSheet mw_1275 ⟨Nat.le_of_ble_eq_true rfl, Nat.le_of_ble_eq_true rfl⟩ hK hT hS hP [] rfl rfl rfl hl (Nat.le_of_ble_eq_true rfl) dX10_show_1 ?_
  refine lv_if_ne (tgt := 13) hx hb dX10_show_4 (by decide) (fun q6 => ?_) (fun q6 => ?_)
  · have hF := kn hF q6
    refine lv_aload_n hx hb dX10_show_13 rfl (lv_at hl 0 rfl) ?_
    refine va_get (D := eD E) (ci := 8) (C := RX10) (T := TX10) (N := 18) (v := .ref h_t_bits) hx hb hw inX10 hown hK hP 0 rfl rfl 14 (by decide) (hw _ mw_895) (fun _ h9 => h9) rfl dX10_show_14 ?_
    refine lv_iload_n hx hb dX10_show_17 rfl (lv_at hl 1 rfl) ?_
    obtain ⟨r7, er7, hF⟩ := kb hF
    refine wa_iald hx hb hK hP 1 0 rfl rfl er7 dX10_show_18 ?_
    refine lv_if_ne (tgt := 28) hx hb dX10_show_19 (by decide) (fun q8 => ?_) (fun q8 => ?_)
    · have hF := kn hF q8
      refine lv_aload_n hx hb dX10_show_28 rfl (lv_at hl 0 rfl) ?_
      refine va_get (D := eD E) (ci := 8) (C := RX10) (T := TX10) (N := 18) (v := .ref h_t_longs) hx hb hw inX10 hown hK hP 0 rfl rfl 15 (by decide) (hw _ mw_896) (fun _ h9 => h9) rfl dX10_show_29 ?_
      refine lv_iload_n hx hb dX10_show_32 rfl (lv_at hl 1 rfl) ?_
      obtain ⟨r9, er9, hF⟩ := kb hF
      refine wa_iald hx hb hK hP 4 0 rfl rfl er9 dX10_show_33 ?_
      refine lv_aload_n hx hb dX10_show_34 rfl (lv_at hl 0 rfl) ?_
      refine va_get (D := eD E) (ci := 8) (C := RX10) (T := TX10) (N := 18) (v := .ref h_t_s) hx hb hw inX10 hown hK hP 0 rfl rfl 0 (by decide) (hw _ mw_881) (fun _ h9 => h9) rfl dX10_show_35 ?_
      refine lv_iconst (v := (2 : Int32)) hx hb dX10_show_38 (by decide) ?_
      obtain ⟨r10, er10, hF⟩ := kb hF
      refine wa_iald hx hb hK hP 5 0 rfl rfl er10 dX10_show_39 ?_
      refine lv_icmp_ge (tgt := 52) hx hb dX10_show_40 (by decide) (fun q11 => ?_) (fun q11 => ?_)
      · have hF := kp hF q11
        refine lv_aload_n hx hb dX10_show_52 rfl (lv_at hl 0 rfl) ?_
        refine va_get (D := eD E) (ci := 8) (C := RX10) (T := TX10) (N := 18) (v := .ref h_t_s) hx hb hw inX10 hown hK hP 0 rfl rfl 0 (by decide) (hw _ mw_881) (fun _ h9 => h9) rfl dX10_show_53 ?_
        refine lv_iconst (v := (2 : Int32)) hx hb dX10_show_56 (by decide) ?_
        obtain ⟨r12, er12, hF⟩ := kb hF
        refine wa_iald hx hb hK hP 5 0 rfl rfl er12 dX10_show_57 ?_
        exact wk_M_show_b58 E h_t h_t_bits h_t_cells h_t_findings h_t_longs h_t_s x_t_kept x_t_before x_t_shown x_t_worths x_t_steps x_t_tape x_t_between c_t_isKept c_t_most c_t_taped c_t_here c_t_fault c_t_value c_t_bits c_t_longs c_t_s a1 C hA  hK hT  c_t_cells c_t_findings r12 hF _ _ hP hD hS _ (lv_sub hl [0, 1] rfl)
      · have hF := kn hF q11
        refine lv_aload_n hx hb dX10_show_43 rfl (lv_at hl 0 rfl) ?_
        refine va_get (D := eD E) (ci := 8) (C := RX10) (T := TX10) (N := 18) (v := .ref h_t_longs) hx hb hw inX10 hown hK hP 0 rfl rfl 15 (by decide) (hw _ mw_896) (fun _ h9 => h9) rfl dX10_show_44 ?_
        refine lv_iload_n hx hb dX10_show_47 rfl (lv_at hl 1 rfl) ?_
        obtain ⟨r13, er13, hF⟩ := kb hF
        refine wa_iald hx hb hK hP 4 0 rfl rfl er13 dX10_show_48 ?_
        refine lv_goto (tgt := 58) hx hb dX10_show_49 (by decide) ?_
        exact wk_M_show_b58 E h_t h_t_bits h_t_cells h_t_findings h_t_longs h_t_s x_t_kept x_t_before x_t_shown x_t_worths x_t_steps x_t_tape x_t_between c_t_isKept c_t_most c_t_taped c_t_here c_t_fault c_t_value c_t_bits c_t_longs c_t_s a1 C hA  hK hT  c_t_cells c_t_findings r13 hF _ _ hP hD hS _ (lv_sub hl [0, 1] rfl)
    · have hF := kp hF q8
      refine lv_aload_n hx hb dX10_show_22 rfl (lv_at hl 0 rfl) ?_
      refine lv_iconst (v := (5 : Int32)) hx hb dX10_show_23 (by decide) ?_
      obtain ⟨r14, er14, hF⟩ := kb hF
      refine kWV (rest := []) (Wr := [(h_t_bits, .inl (eI E, 4, .inl c_t_bits)), (h_t_cells, .inl (eJ E, 160, .inr (.inl c_t_cells))), (h_t_longs, .inl (eI E, 4, .inl c_t_longs)), (h_t_s, .inl (eI E, 65, .inl c_t_s))]) (Wn := (w_M_show E h_t h_t_bits h_t_cells h_t_findings h_t_longs h_t_s x_t_kept x_t_before x_t_shown x_t_worths x_t_steps x_t_tape x_t_between c_t_isKept c_t_most c_t_taped c_t_here c_t_fault c_t_value c_t_bits c_t_cells r14.2 c_t_longs c_t_s)) C (k_M_no l E h_t h_t_findings h_t_s x_t_kept x_t_before x_t_shown x_t_worths x_t_steps x_t_tape h_t_bits h_t_longs h_t_cells x_t_between s.heap.size c_t_isKept c_t_most c_t_taped c_t_here c_t_fault c_t_value c_t_findings (5 : Int32) r14 er14) fn_M_no mw_964 ⟨Nat.le_of_ble_eq_true rfl, Nat.le_of_ble_eq_true rfl⟩ hK hT hS hA (va_recv hK hP (ci := 8) (q0 := 0) rfl rfl) hP hD [0, 3] rfl (by decide) [1, 2, 4, 5] rfl (by decide) (by decide) [4, 0, 1, 5, 2, 3] rfl (by decide) rfl rfl hl (Nat.le_of_ble_eq_true rfl) dX10_show_24 (fun H locs hP hD hS => ?_)
      refine W.eq (g2 := F0 m 27 ls [.int r14.1]) rfl ?_
      obtain rfl := Option.some.inj hF
      exact W.iret hx hb hr (fun t ht hW => ⟨⟨rfl, by rw [ht]; exact hP, hD⟩, hS.F ht⟩) hS.2.2 dX10_show_27
  · have hF := kp hF q6
    refine lv_aload_n hx hb dX10_show_7 rfl (lv_at hl 0 rfl) ?_
    refine lv_iconst (v := (0 : Int32)) hx hb dX10_show_8 (by decide) ?_
    obtain ⟨r15, er15, hF⟩ := kb hF
    refine kWV (rest := []) (Wr := [(h_t_bits, .inl (eI E, 4, .inl c_t_bits)), (h_t_cells, .inl (eJ E, 160, .inr (.inl c_t_cells))), (h_t_longs, .inl (eI E, 4, .inl c_t_longs)), (h_t_s, .inl (eI E, 65, .inl c_t_s))]) (Wn := (w_M_show E h_t h_t_bits h_t_cells h_t_findings h_t_longs h_t_s x_t_kept x_t_before x_t_shown x_t_worths x_t_steps x_t_tape x_t_between c_t_isKept c_t_most c_t_taped c_t_here c_t_fault c_t_value c_t_bits c_t_cells r15.2 c_t_longs c_t_s)) C (k_M_no l E h_t h_t_findings h_t_s x_t_kept x_t_before x_t_shown x_t_worths x_t_steps x_t_tape h_t_bits h_t_longs h_t_cells x_t_between s.heap.size c_t_isKept c_t_most c_t_taped c_t_here c_t_fault c_t_value c_t_findings (0 : Int32) r15 er15) fn_M_no mw_964 ⟨Nat.le_of_ble_eq_true rfl, Nat.le_of_ble_eq_true rfl⟩ hK hT hS hA (va_recv hK hP (ci := 8) (q0 := 0) rfl rfl) hP hD [0, 3] rfl (by decide) [1, 2, 4, 5] rfl (by decide) (by decide) [4, 0, 1, 5, 2, 3] rfl (by decide) rfl rfl hl (Nat.le_of_ble_eq_true rfl) dX10_show_9 (fun H locs hP hD hS => ?_)
    refine W.eq (g2 := F0 m 12 ls [.int r15.1]) rfl ?_
    obtain rfl := Option.some.inj hF
    exact W.iret hx hb hr (fun t ht hW => ⟨⟨rfl, by rw [ht]; exact hP, hD⟩, hS.F ht⟩) hS.2.2 dX10_show_12
