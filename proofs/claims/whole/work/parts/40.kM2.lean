abbrev w_M_sign (E : kE) (h_t : Nat) (h_t_findings : Nat) (h_t_s : Nat) (x_t_kept : Nat) (x_t_before : Nat) (x_t_shown : Nat) (x_t_worths : Nat) (x_t_steps : Nat) (x_t_tape : Nat) (x_t_bits : Nat) (x_t_longs : Nat) (x_t_cells : Nat) (x_t_between : Nat) (c_t_isKept : Int32) (c_t_most : Int32) (c_t_taped : Int32) (c_t_here : Int32) (c_t_fault : Int32) (c_t_value : Int32) (c_t_findings : (Nat → Int32)) (c_t_s : (Nat → Int32)) : va_W := [(h_t, .inr (8, [.ref h_t_s, .ref x_t_kept, .ref x_t_before, .int c_t_isKept, .ref h_t_findings, .ref x_t_shown, .int c_t_most, .ref x_t_worths, .ref x_t_steps, .ref x_t_tape, .int c_t_taped, .int c_t_here, .int c_t_fault, .int c_t_value, .ref x_t_bits, .ref x_t_longs, .ref x_t_cells, .ref x_t_between])), (h_t_findings, .inl (eI E, 7, .inl c_t_findings)), (h_t_s, .inl (eI E, 65, .inl c_t_s))]
set_option maxHeartbeats 4000000 in
set_option maxRecDepth 100000 in
theorem wk_M_sign_b25 {p : Program} {l : Launch} {e : Env} {s : State} {m : MethodId} {args : Array Value} {below : List Frame} {meth : Method} {c : Code} {A : Nat → Prop} (E : kE) (h_t : Nat) (h_t_findings : Nat) (h_t_s : Nat) (x_t_kept : Nat) (x_t_before : Nat) (x_t_shown : Nat) (x_t_worths : Nat) (x_t_steps : Nat) (x_t_tape : Nat) (x_t_bits : Nat) (x_t_longs : Nat) (x_t_cells : Nat) (x_t_between : Nat) (c_t_isKept : Int32) (c_t_most : Int32) (c_t_taped : Int32) (c_t_here : Int32) (c_t_fault : Int32) (c_t_value : Int32) (a1 : Int32) (a2 : Int32) {out : Int32 × (Nat → Int32) × (Nat → Int32)} (C : kC RX10 cX10_sign 3 (some .int) p s m args meth c) (hA : ∀ q : Nat, s.heap.size ≤ q → A q) (hK : va_K (eD E) vwCl (eT E) s) (hT : sT E A s s.heap)  :
    ∀ (c_t_findings : (Nat → Int32)) (c_t_s : (Nat → Int32)), f_M_sign_b25  a1 a2 c_t_findings c_t_s = some out → ∀ (H : Heap) (locs : List Loc), va_P (eD E) vwCl (w_M_sign E h_t h_t_findings h_t_s x_t_kept x_t_before x_t_shown x_t_worths x_t_steps x_t_tape x_t_bits x_t_longs x_t_cells x_t_between c_t_isKept c_t_most c_t_taped c_t_here c_t_fault c_t_value c_t_findings c_t_s) H → va_D A (w_M_sign E h_t h_t_findings h_t_s x_t_kept x_t_before x_t_shown x_t_worths x_t_steps x_t_tape x_t_bits x_t_longs x_t_cells x_t_between c_t_isKept c_t_most c_t_taped c_t_here c_t_fault c_t_value c_t_findings c_t_s) → va_S A s.heap H locs → ∀ (ls : Array Slot), lv_has ls 3 [(0, .ref h_t)] → W p l e (rm 3) s m args below meth c H locs 0 0 (MQ below (qW (some (.int out.1)) E (w_M_sign E h_t h_t_findings h_t_s x_t_kept x_t_before x_t_shown x_t_worths x_t_steps x_t_tape x_t_bits x_t_longs x_t_cells x_t_between c_t_isKept c_t_most c_t_taped c_t_here c_t_fault c_t_value out.2.1 out.2.2) A) args s 0 0 A) (F0 m 25 ls []) := by
  obtain ⟨hx, hb, hr, hml, hown, hw, hlocks⟩ := id C
  intro c_t_findings c_t_s hF H locs hP hD hS ls hl
  rw [f_M_sign_b25] at hF
  refine lv_aload_n hx hb dX10_sign_25 rfl (lv_at hl 0 rfl) ?_
  refine lv_iconst (v := (0 : Int32)) hx hb dX10_sign_26 (by decide) ?_
  obtain ⟨r1, er1, hF⟩ := kb hF
  refine kWV (rest := []) (Wr := [(h_t_s, .inl (eI E, 65, .inl c_t_s))]) (Wn := (w_M_sign E h_t h_t_findings h_t_s x_t_kept x_t_before x_t_shown x_t_worths x_t_steps x_t_tape x_t_bits x_t_longs x_t_cells x_t_between c_t_isKept c_t_most c_t_taped c_t_here c_t_fault c_t_value r1.2 c_t_s)) C (k_M_no l E h_t h_t_findings h_t_s x_t_kept x_t_before x_t_shown x_t_worths x_t_steps x_t_tape x_t_bits x_t_longs x_t_cells x_t_between H.size c_t_isKept c_t_most c_t_taped c_t_here c_t_fault c_t_value c_t_findings (0 : Int32) r1 er1) fn_M_no mw_964 ⟨Nat.le_of_ble_eq_true rfl, Nat.le_of_ble_eq_true rfl⟩ hK hT hS hA (va_recv hK hP (ci := 8) (q0 := 0) rfl rfl) hP hD [0, 1] rfl (by decide) [2] rfl (by decide) (by decide) [1, 2, 0] rfl (by decide) rfl rfl hl (Nat.le_of_ble_eq_true rfl) dX10_sign_27 (fun H locs hP hD hS => ?_)
  refine W.eq (g2 := F0 m 30 ls [.int r1.1]) rfl ?_
  obtain rfl := Option.some.inj hF
  exact W.iret hx hb hr (fun t ht hW => ⟨⟨rfl, by rw [ht]; exact hP, hD⟩, hS.F ht⟩) hS.2.2 dX10_sign_30
set_option maxHeartbeats 4000000 in
set_option maxRecDepth 100000 in
theorem k_M_sign (l : Launch) (E : kE) (h_t : Nat) (h_t_findings : Nat) (h_t_s : Nat) (x_t_kept : Nat) (x_t_before : Nat) (x_t_shown : Nat) (x_t_worths : Nat) (x_t_steps : Nat) (x_t_tape : Nat) (x_t_bits : Nat) (x_t_longs : Nat) (x_t_cells : Nat) (x_t_between : Nat) (sz : Nat) (c_t_isKept : Int32) (c_t_most : Int32) (c_t_taped : Int32) (c_t_here : Int32) (c_t_fault : Int32) (c_t_value : Int32) (c_t_findings : (Nat → Int32)) (c_t_s : (Nat → Int32)) (a1 : Int32) (a2 : Int32) (out : Int32 × (Nat → Int32) × (Nat → Int32)) (hF : f_M_sign c_t_findings c_t_s a1 a2 = some out) : Met l yX10_sign (Cond.code yX10_sign cX10_sign 3 (some .int) :: wG) (rm 3) (pW E (w_M_sign E h_t h_t_findings h_t_s x_t_kept x_t_before x_t_shown x_t_worths x_t_steps x_t_tape x_t_bits x_t_longs x_t_cells x_t_between c_t_isKept c_t_most c_t_taped c_t_here c_t_fault c_t_value c_t_findings c_t_s) sz [.ref h_t, .int a1, .int a2]) (qW (some (.int out.1)) E (w_M_sign E h_t h_t_findings h_t_s x_t_kept x_t_before x_t_shown x_t_worths x_t_steps x_t_tape x_t_bits x_t_longs x_t_cells x_t_between c_t_isKept c_t_most c_t_taped c_t_here c_t_fault c_t_value out.2.1 out.2.2) (va_A (w_M_sign E h_t h_t_findings h_t_s x_t_kept x_t_before x_t_shown x_t_worths x_t_steps x_t_tape x_t_bits x_t_longs x_t_cells x_t_between c_t_isKept c_t_most c_t_taped c_t_here c_t_fault c_t_value c_t_findings c_t_s) sz)) 0 0 (va_A (w_M_sign E h_t h_t_findings h_t_s x_t_kept x_t_before x_t_shown x_t_worths x_t_steps x_t_tape x_t_bits x_t_longs x_t_cells x_t_between c_t_isKept c_t_most c_t_taped c_t_here c_t_fault c_t_value c_t_findings c_t_s) sz) := by
  refine met_W (by decide) (Nat.le_of_ble_eq_true rfl) ?_
  intro p e s m args below meth c A ls C hP hD hS hA hK hT hl
  obtain ⟨hx, hb, hr, hml, hown, hw, hlocks⟩ := id C
  have hl : lv_has ls 3 [(0, .ref h_t), (1, .int a1), (2, .int a2)] := hl
  rw [f_M_sign] at hF
  refine lv_iload_n hx hb dX10_sign_0 rfl (lv_at hl 1 rfl) ?_
  obtain ⟨r2, er2, hF⟩ := kb hF
  refine kRS (rest := []) C (k_M_isSign l E a1 r2 er2) fn_M_isSign mw_1034 ⟨Nat.le_of_ble_eq_true rfl, Nat.le_of_ble_eq_true rfl⟩ hK hT hS hP [] rfl rfl rfl hl (Nat.le_of_ble_eq_true rfl) dX10_sign_1 ?_
  refine lv_if_eq (tgt := 25) hx hb dX10_sign_4 (by decide) (fun q3 => ?_) (fun q3 => ?_)
  · have hF := kp hF q3
    exact wk_M_sign_b25 E h_t h_t_findings h_t_s x_t_kept x_t_before x_t_shown x_t_worths x_t_steps x_t_tape x_t_bits x_t_longs x_t_cells x_t_between c_t_isKept c_t_most c_t_taped c_t_here c_t_fault c_t_value a1 a2 C hA  hK hT  c_t_findings c_t_s hF _ _ hP hD hS _ (lv_sub hl [0] rfl)
  · have hF := kn hF q3
    refine lv_iload_n hx hb dX10_sign_7 rfl (lv_at hl 2 rfl) ?_
    obtain ⟨r4, er4, hF⟩ := kb hF
    refine kRS (rest := []) C (k_M_isForm l E a2 r4 er4) fn_M_isForm mw_940 ⟨Nat.le_of_ble_eq_true rfl, Nat.le_of_ble_eq_true rfl⟩ hK hT hS hP [] rfl rfl rfl hl (Nat.le_of_ble_eq_true rfl) dX10_sign_8 ?_
    refine lv_if_eq (tgt := 25) hx hb dX10_sign_11 (by decide) (fun q5 => ?_) (fun q5 => ?_)
    · have hF := kp hF q5
      exact wk_M_sign_b25 E h_t h_t_findings h_t_s x_t_kept x_t_before x_t_shown x_t_worths x_t_steps x_t_tape x_t_bits x_t_longs x_t_cells x_t_between c_t_isKept c_t_most c_t_taped c_t_here c_t_fault c_t_value a1 a2 C hA  hK hT  c_t_findings c_t_s hF _ _ hP hD hS _ (lv_sub hl [0] rfl)
    · have hF := kn hF q5
      refine lv_aload_n hx hb dX10_sign_14 rfl (lv_at hl 0 rfl) ?_
      refine lv_iconst (v := (3 : Int32)) hx hb dX10_sign_15 (by decide) ?_
      refine lv_iload_n hx hb dX10_sign_16 rfl (lv_at hl 1 rfl) ?_
      refine lv_iadd hx hb dX10_sign_17 ?_
      refine lv_iload_n hx hb dX10_sign_18 rfl (lv_at hl 2 rfl) ?_
      obtain ⟨r6, er6, hF⟩ := kb hF
      refine kWV (rest := []) (Wr := [(h_t_findings, .inl (eI E, 7, .inl c_t_findings))]) (Wn := (w_M_sign E h_t h_t_findings h_t_s x_t_kept x_t_before x_t_shown x_t_worths x_t_steps x_t_tape x_t_bits x_t_longs x_t_cells x_t_between c_t_isKept c_t_most c_t_taped c_t_here c_t_fault c_t_value c_t_findings r6.2)) C (k_M_puts l E h_t h_t_s x_t_kept x_t_before h_t_findings x_t_shown x_t_worths x_t_steps x_t_tape x_t_bits x_t_longs x_t_cells x_t_between s.heap.size c_t_isKept c_t_most c_t_taped c_t_here c_t_fault c_t_value c_t_s ((3 : Int32) + a1) a2 r6 er6) fn_M_puts mw_1037 ⟨Nat.le_of_ble_eq_true rfl, Nat.le_of_ble_eq_true rfl⟩ hK hT hS hA (va_recv hK hP (ci := 8) (q0 := 0) rfl rfl) hP hD [0, 2] rfl (by decide) [1] rfl (by decide) (by decide) [1, 0, 2] rfl (by decide) rfl rfl hl (Nat.le_of_ble_eq_true rfl) dX10_sign_19 (fun H locs hP hD hS => ?_)
      refine W.eq (g2 := F0 m 22 ls [.int r6.1]) rfl ?_
      refine lv_goto (tgt := 30) hx hb dX10_sign_22 (by decide) ?_
      obtain rfl := Option.some.inj hF
      exact W.iret hx hb hr (fun t ht hW => ⟨⟨rfl, by rw [ht]; exact hP, hD⟩, hS.F ht⟩) hS.2.2 dX10_sign_30
abbrev w_M_form (E : kE) (h_t : Nat) (h_t_findings : Nat) (h_t_s : Nat) (x_t_kept : Nat) (x_t_before : Nat) (x_t_shown : Nat) (x_t_worths : Nat) (x_t_steps : Nat) (x_t_tape : Nat) (x_t_bits : Nat) (x_t_longs : Nat) (x_t_cells : Nat) (x_t_between : Nat) (c_t_isKept : Int32) (c_t_most : Int32) (c_t_taped : Int32) (c_t_here : Int32) (c_t_fault : Int32) (c_t_value : Int32) (c_t_findings : (Nat → Int32)) (c_t_s : (Nat → Int32)) : va_W := [(h_t, .inr (8, [.ref h_t_s, .ref x_t_kept, .ref x_t_before, .int c_t_isKept, .ref h_t_findings, .ref x_t_shown, .int c_t_most, .ref x_t_worths, .ref x_t_steps, .ref x_t_tape, .int c_t_taped, .int c_t_here, .int c_t_fault, .int c_t_value, .ref x_t_bits, .ref x_t_longs, .ref x_t_cells, .ref x_t_between])), (h_t_findings, .inl (eI E, 7, .inl c_t_findings)), (h_t_s, .inl (eI E, 65, .inl c_t_s))]
set_option maxHeartbeats 4000000 in
set_option maxRecDepth 100000 in
theorem k_M_form (l : Launch) (E : kE) (h_t : Nat) (h_t_findings : Nat) (h_t_s : Nat) (x_t_kept : Nat) (x_t_before : Nat) (x_t_shown : Nat) (x_t_worths : Nat) (x_t_steps : Nat) (x_t_tape : Nat) (x_t_bits : Nat) (x_t_longs : Nat) (x_t_cells : Nat) (x_t_between : Nat) (sz : Nat) (c_t_isKept : Int32) (c_t_most : Int32) (c_t_taped : Int32) (c_t_here : Int32) (c_t_fault : Int32) (c_t_value : Int32) (c_t_findings : (Nat → Int32)) (c_t_s : (Nat → Int32)) (a1 : Int32) (out : Int32 × (Nat → Int32)) (hF : f_M_form c_t_findings c_t_s a1 = some out) : Met l yX10_form (Cond.code yX10_form cX10_form 2 (some .int) :: wG) (rm 3) (pW E (w_M_form E h_t h_t_findings h_t_s x_t_kept x_t_before x_t_shown x_t_worths x_t_steps x_t_tape x_t_bits x_t_longs x_t_cells x_t_between c_t_isKept c_t_most c_t_taped c_t_here c_t_fault c_t_value c_t_findings c_t_s) sz [.ref h_t, .int a1]) (qW (some (.int out.1)) E (w_M_form E h_t h_t_findings h_t_s x_t_kept x_t_before x_t_shown x_t_worths x_t_steps x_t_tape x_t_bits x_t_longs x_t_cells x_t_between c_t_isKept c_t_most c_t_taped c_t_here c_t_fault c_t_value out.2 c_t_s) (va_A (w_M_form E h_t h_t_findings h_t_s x_t_kept x_t_before x_t_shown x_t_worths x_t_steps x_t_tape x_t_bits x_t_longs x_t_cells x_t_between c_t_isKept c_t_most c_t_taped c_t_here c_t_fault c_t_value c_t_findings c_t_s) sz)) 0 0 (va_A (w_M_form E h_t h_t_findings h_t_s x_t_kept x_t_before x_t_shown x_t_worths x_t_steps x_t_tape x_t_bits x_t_longs x_t_cells x_t_between c_t_isKept c_t_most c_t_taped c_t_here c_t_fault c_t_value c_t_findings c_t_s) sz) := by
  refine met_W (by decide) (Nat.le_of_ble_eq_true rfl) ?_
  intro p e s m args below meth c A ls C hP hD hS hA hK hT hl
  obtain ⟨hx, hb, hr, hml, hown, hw, hlocks⟩ := id C
  have hl : lv_has ls 2 [(0, .ref h_t), (1, .int a1)] := hl
  rw [f_M_form] at hF
  refine lv_iload_n hx hb dX10_form_0 rfl (lv_at hl 1 rfl) ?_
  obtain ⟨r1, er1, hF⟩ := kb hF
  refine kRS (rest := []) C (k_M_isSign l E a1 r1 er1) fn_M_isSign mw_1034 ⟨Nat.le_of_ble_eq_true rfl, Nat.le_of_ble_eq_true rfl⟩ hK hT hS hP [] rfl rfl rfl hl (Nat.le_of_ble_eq_true rfl) dX10_form_1 ?_
  refine lv_if_eq (tgt := 18) hx hb dX10_form_4 (by decide) (fun q2 => ?_) (fun q2 => ?_)
  · have hF := kp hF q2
    refine lv_aload_n hx hb dX10_form_18 rfl (lv_at hl 0 rfl) ?_
    refine lv_iconst (v := (0 : Int32)) hx hb dX10_form_19 (by decide) ?_
    obtain ⟨r3, er3, hF⟩ := kb hF
    refine kWV (rest := []) (Wr := [(h_t_s, .inl (eI E, 65, .inl c_t_s))]) (Wn := (w_M_form E h_t h_t_findings h_t_s x_t_kept x_t_before x_t_shown x_t_worths x_t_steps x_t_tape x_t_bits x_t_longs x_t_cells x_t_between c_t_isKept c_t_most c_t_taped c_t_here c_t_fault c_t_value r3.2 c_t_s)) C (k_M_no l E h_t h_t_findings h_t_s x_t_kept x_t_before x_t_shown x_t_worths x_t_steps x_t_tape x_t_bits x_t_longs x_t_cells x_t_between s.heap.size c_t_isKept c_t_most c_t_taped c_t_here c_t_fault c_t_value c_t_findings (0 : Int32) r3 er3) fn_M_no mw_964 ⟨Nat.le_of_ble_eq_true rfl, Nat.le_of_ble_eq_true rfl⟩ hK hT hS hA (va_recv hK hP (ci := 8) (q0 := 0) rfl rfl) hP hD [0, 1] rfl (by decide) [2] rfl (by decide) (by decide) [1, 2, 0] rfl (by decide) rfl rfl hl (Nat.le_of_ble_eq_true rfl) dX10_form_20 (fun H locs hP hD hS => ?_)
    refine W.eq (g2 := F0 m 23 ls [.int r3.1]) rfl ?_
    obtain rfl := Option.some.inj hF
    exact W.iret hx hb hr (fun t ht hW => ⟨⟨rfl, by rw [ht]; exact hP, hD⟩, hS.F ht⟩) hS.2.2 dX10_form_23
  · have hF := kn hF q2
    refine lv_aload_n hx hb dX10_form_7 rfl (lv_at hl 0 rfl) ?_
    refine va_get (D := eD E) (ci := 8) (C := RX10) (T := TX10) (N := 18) (v := .ref h_t_s) hx hb hw inX10 hown hK hP 0 rfl rfl 0 (by decide) (hw _ mw_881) (fun _ h9 => h9) rfl dX10_form_8 ?_
    refine lv_iconst (v := (3 : Int32)) hx hb dX10_form_11 (by decide) ?_
    refine lv_iload_n hx hb dX10_form_12 rfl (lv_at hl 1 rfl) ?_
    refine lv_iadd hx hb dX10_form_13 ?_
    obtain ⟨r4, er4, hF⟩ := kb hF
    refine wa_iald hx hb hK hP 2 0 rfl rfl er4 dX10_form_14 ?_
    refine lv_goto (tgt := 23) hx hb dX10_form_15 (by decide) ?_
    obtain rfl := Option.some.inj hF
    exact W.iret hx hb hr (fun t ht hW => ⟨⟨rfl, by rw [ht]; exact hP, hD⟩, hS.F ht⟩) hS.2.2 dX10_form_23
abbrev w_M_apartFrom (E : kE) (h_t : Nat) (h_t_s : Nat) (x_t_kept : Nat) (x_t_before : Nat) (x_t_findings : Nat) (x_t_shown : Nat) (x_t_worths : Nat) (x_t_steps : Nat) (x_t_tape : Nat) (x_t_bits : Nat) (x_t_longs : Nat) (x_t_cells : Nat) (x_t_between : Nat) (c_t_isKept : Int32) (c_t_most : Int32) (c_t_taped : Int32) (c_t_here : Int32) (c_t_fault : Int32) (c_t_value : Int32) (c_t_s : (Nat → Int32)) : va_W := [(h_t, .inr (8, [.ref h_t_s, .ref x_t_kept, .ref x_t_before, .int c_t_isKept, .ref x_t_findings, .ref x_t_shown, .int c_t_most, .ref x_t_worths, .ref x_t_steps, .ref x_t_tape, .int c_t_taped, .int c_t_here, .int c_t_fault, .int c_t_value, .ref x_t_bits, .ref x_t_longs, .ref x_t_cells, .ref x_t_between])), (h_t_s, .inl (eI E, 65, .inl c_t_s))]
set_option maxHeartbeats 4000000 in
set_option maxRecDepth 100000 in
theorem k_M_apartFrom (l : Launch) (E : kE) (h_t : Nat) (h_t_s : Nat) (x_t_kept : Nat) (x_t_before : Nat) (x_t_findings : Nat) (x_t_shown : Nat) (x_t_worths : Nat) (x_t_steps : Nat) (x_t_tape : Nat) (x_t_bits : Nat) (x_t_longs : Nat) (x_t_cells : Nat) (x_t_between : Nat) (c_t_isKept : Int32) (c_t_most : Int32) (c_t_taped : Int32) (c_t_here : Int32) (c_t_fault : Int32) (c_t_value : Int32) (c_t_s : (Nat → Int32)) (a1 : Int32) (a2 : Int32) (out : Int32) (hF : f_M_apartFrom c_t_s a1 a2 = some out) : Met l yX10_apartFrom (Cond.code yX10_apartFrom cX10_apartFrom 3 (some .int) :: wG) (rm 2) (pR E (w_M_apartFrom E h_t h_t_s x_t_kept x_t_before x_t_findings x_t_shown x_t_worths x_t_steps x_t_tape x_t_bits x_t_longs x_t_cells x_t_between c_t_isKept c_t_most c_t_taped c_t_here c_t_fault c_t_value c_t_s) [.ref h_t, .int a1, .int a2]) (qR (.int out)) 0 0 (fun _ => False) := by
  refine met_R (by decide) (Nat.le_of_ble_eq_true rfl) ?_
  intro p e s m args below meth c ls C hP hK hT hl
  obtain ⟨hx, hb, hr, hml, hown, hw, hlocks⟩ := id C
  have hS : va_S (fun _ => False) s.heap s.heap [] := va_S.rf
  have hl : lv_has ls 3 [(0, .ref h_t), (1, .int a1), (2, .int a2)] := hl
  rw [f_M_apartFrom] at hF
  refine lv_iload_n hx hb dX10_apartFrom_0 rfl (lv_at hl 1 rfl) ?_
  refine lv_aload_n hx hb dX10_apartFrom_1 rfl (lv_at hl 0 rfl) ?_
  refine va_get (D := eD E) (ci := 8) (C := RX10) (T := TX10) (N := 18) (v := .ref h_t_s) hx hb hw inX10 hown hK hP 0 rfl rfl 0 (by decide) (hw _ mw_881) (fun _ h9 => h9) rfl dX10_apartFrom_2 ?_
  refine lv_iconst (v := (3 : Int32)) hx hb dX10_apartFrom_5 (by decide) ?_
  refine lv_iload_n hx hb dX10_apartFrom_6 rfl (lv_at hl 2 rfl) ?_
  refine lv_iadd hx hb dX10_apartFrom_7 ?_
  obtain ⟨r1, er1, hF⟩ := kb hF
  refine wa_iald hx hb hK hP 1 0 rfl rfl er1 dX10_apartFrom_8 ?_
  refine lv_ixor hx hb dX10_apartFrom_9 ?_
  obtain ⟨r2, er2, hF⟩ := kb hF
  refine kRS (rest := []) C (k_M_ones l E (a1 ^^^ r1) r2 er2) fn_M_ones mw_989 ⟨Nat.le_of_ble_eq_true rfl, Nat.le_of_ble_eq_true rfl⟩ hK hT hS hP [] rfl rfl rfl hl (Nat.le_of_ble_eq_true rfl) dX10_apartFrom_10 ?_
  obtain rfl := Option.some.inj hF
  exact W.iret hx hb hr (fun t ht hW => ⟨rfl, ht⟩) nofun dX10_apartFrom_13
abbrev w_M_readAs (E : kE) (h_t : Nat) (h_t_s : Nat) (x_t_kept : Nat) (x_t_before : Nat) (x_t_findings : Nat) (x_t_shown : Nat) (x_t_worths : Nat) (x_t_steps : Nat) (x_t_tape : Nat) (x_t_bits : Nat) (x_t_longs : Nat) (x_t_cells : Nat) (x_t_between : Nat) (c_t_isKept : Int32) (c_t_most : Int32) (c_t_taped : Int32) (c_t_here : Int32) (c_t_fault : Int32) (c_t_value : Int32) (c_t_s : (Nat → Int32)) : va_W := [(h_t, .inr (8, [.ref h_t_s, .ref x_t_kept, .ref x_t_before, .int c_t_isKept, .ref x_t_findings, .ref x_t_shown, .int c_t_most, .ref x_t_worths, .ref x_t_steps, .ref x_t_tape, .int c_t_taped, .int c_t_here, .int c_t_fault, .int c_t_value, .ref x_t_bits, .ref x_t_longs, .ref x_t_cells, .ref x_t_between])), (h_t_s, .inl (eI E, 65, .inl c_t_s))]
set_option maxHeartbeats 4000000 in
set_option maxRecDepth 100000 in
theorem wk_M_readAs_b39 {p : Program} {l : Launch} {e : Env} {s : State} {m : MethodId} {args : Array Value} {below : List Frame} {meth : Method} {c : Code} (E : kE) (h_t : Nat) (h_t_s : Nat) (x_t_kept : Nat) (x_t_before : Nat) (x_t_findings : Nat) (x_t_shown : Nat) (x_t_worths : Nat) (x_t_steps : Nat) (x_t_tape : Nat) (x_t_bits : Nat) (x_t_longs : Nat) (x_t_cells : Nat) (x_t_between : Nat) (c_t_isKept : Int32) (c_t_most : Int32) (c_t_taped : Int32) (c_t_here : Int32) (c_t_fault : Int32) (c_t_value : Int32) (c_t_s : (Nat → Int32)) (a1 : Int32) {out : Int32} (C : kC RX10 cX10_readAs 4 (some .int) p s m args meth c) (hP : va_P (eD E) vwCl (w_M_readAs E h_t h_t_s x_t_kept x_t_before x_t_findings x_t_shown x_t_worths x_t_steps x_t_tape x_t_bits x_t_longs x_t_cells x_t_between c_t_isKept c_t_most c_t_taped c_t_here c_t_fault c_t_value c_t_s) s.heap) (hK : va_K (eD E) vwCl (eT E) s) (hT : sT E (fun _ => False) s s.heap) (k5 : Int32 → Int32 → Option (Int32)) (hk5 : ∀ (v2 : Int32) (v3 : Int32), k5 v2 v3 = some out → ∀ (ls : Array Slot), lv_has ls 4 [(0, .ref h_t), (1, .int a1), (2, .int v2), (3, .int v3)] → W p l e (rm 3) s m args below meth c s.heap [] 0 0 (MQ below (qR (.int out)) args s 0 0 (fun _ => False)) (F0 m 5 ls [])) :
    ∀ (v3 : Int32), f_M_readAs_b39 k5 c_t_s a1 v3 = some out → ∀ (ls : Array Slot), lv_has ls 4 [(0, .ref h_t), (1, .int a1), (3, .int v3)] → W p l e (rm 3) s m args below meth c s.heap [] 0 0 (MQ below (qR (.int out)) args s 0 0 (fun _ => False)) (F0 m 39 ls []) := by
  obtain ⟨hx, hb, hr, hml, hown, hw, hlocks⟩ := id C
  have hS : va_S (fun _ => False) s.heap s.heap [] := va_S.rf
  intro v3 hF ls hl
  rw [f_M_readAs_b39] at hF
  refine lv_iload_n hx hb dX10_readAs_39 rfl (lv_at hl 2 rfl) ?_
  refine lv_istore_n (lv' := [(2, .int v3), (0, .ref h_t), (1, .int a1), (3, .int v3)]) hx hb dX10_readAs_40 rfl hl (by decide) rfl (fun ls hl => ?_)
  refine lv_iinc (v := (v3 + (-1))) (lv' := [(3, .int (v3 + (-1))), (2, .int v3), (0, .ref h_t), (1, .int a1)]) hx hb dX10_readAs_41 hl (k := 3) rfl rfl (by decide) rfl (fun ls hl => ?_)
  refine lv_goto (tgt := 5) hx hb dX10_readAs_44 (by decide) ?_
  exact hk5 v3 (v3 + (-1)) hF _ (lv_sub hl [2, 3, 1, 0] rfl)
set_option maxHeartbeats 4000000 in
set_option maxRecDepth 100000 in
theorem wk_M_readAs_b5 {p : Program} {l : Launch} {e : Env} {s : State} {m : MethodId} {args : Array Value} {below : List Frame} {meth : Method} {c : Code} (E : kE) (h_t : Nat) (h_t_s : Nat) (x_t_kept : Nat) (x_t_before : Nat) (x_t_findings : Nat) (x_t_shown : Nat) (x_t_worths : Nat) (x_t_steps : Nat) (x_t_tape : Nat) (x_t_bits : Nat) (x_t_longs : Nat) (x_t_cells : Nat) (x_t_between : Nat) (c_t_isKept : Int32) (c_t_most : Int32) (c_t_taped : Int32) (c_t_here : Int32) (c_t_fault : Int32) (c_t_value : Int32) (c_t_s : (Nat → Int32)) (a1 : Int32) {out : Int32} (C : kC RX10 cX10_readAs 4 (some .int) p s m args meth c) (hP : va_P (eD E) vwCl (w_M_readAs E h_t h_t_s x_t_kept x_t_before x_t_findings x_t_shown x_t_worths x_t_steps x_t_tape x_t_bits x_t_longs x_t_cells x_t_between c_t_isKept c_t_most c_t_taped c_t_here c_t_fault c_t_value c_t_s) s.heap) (hK : va_K (eD E) vwCl (eT E) s) (hT : sT E (fun _ => False) s s.heap)  :
    ∀ (n : Nat), ∀ (v2 : Int32) (v3 : Int32), f_M_readAs_b5  c_t_s a1 n v2 v3 = some out → ∀ (ls : Array Slot), lv_has ls 4 [(0, .ref h_t), (1, .int a1), (2, .int v2), (3, .int v3)] → W p l e (rm 3) s m args below meth c s.heap [] 0 0 (MQ below (qR (.int out)) args s 0 0 (fun _ => False)) (F0 m 5 ls []) := by
  obtain ⟨hx, hb, hr, hml, hown, hw, hlocks⟩ := id C
  have hS : va_S (fun _ => False) s.heap s.heap [] := va_S.rf
  intro n
  induction n with
  | zero =>
    intro v2 v3 hF
    exact absurd (show (none : Option (Int32)) = some out from hF) nofun
  | succ n ih =>
    intro v2 v3 hF ls hl
    rw [f_M_readAs_b5] at hF
    refine lv_iload_n hx hb dX10_readAs_5 rfl (lv_at hl 3 rfl) ?_
    refine lv_if_lt (tgt := 47) hx hb dX10_readAs_6 (by decide) (fun q1 => ?_) (fun q1 => ?_)
    · have hF := kp hF q1
      refine lv_iload_n hx hb dX10_readAs_47 rfl (lv_at hl 2 rfl) ?_
      obtain rfl := Option.some.inj hF
      exact W.iret hx hb hr (fun t ht hW => ⟨rfl, ht⟩) nofun dX10_readAs_48
    · have hF := kn hF q1
      refine lv_aload_n hx hb dX10_readAs_9 rfl (lv_at hl 0 rfl) ?_
      refine va_get (D := eD E) (ci := 8) (C := RX10) (T := TX10) (N := 18) (v := .ref h_t_s) hx hb hw inX10 hown hK hP 0 rfl rfl 0 (by decide) (hw _ mw_881) (fun _ h9 => h9) rfl dX10_readAs_10 ?_
      refine lv_iconst (v := (3 : Int32)) hx hb dX10_readAs_13 (by decide) ?_
      refine lv_iload_n hx hb dX10_readAs_14 rfl (lv_at hl 3 rfl) ?_
      refine lv_iadd hx hb dX10_readAs_15 ?_
      obtain ⟨r2, er2, hF⟩ := kb hF
      refine wa_iald hx hb hK hP 1 0 rfl rfl er2 dX10_readAs_16 ?_
      refine lv_if_eq (tgt := 41) hx hb dX10_readAs_17 (by decide) (fun q3 => ?_) (fun q3 => ?_)
      · have hF := kp hF q3
        refine lv_iinc (v := (v3 + (-1))) (lv' := [(3, .int (v3 + (-1))), (0, .ref h_t), (1, .int a1), (2, .int v2)]) hx hb dX10_readAs_41 hl (k := 3) rfl rfl (by decide) rfl (fun ls hl => ?_)
        refine lv_goto (tgt := 5) hx hb dX10_readAs_44 (by decide) ?_
        exact ih v2 (v3 + (-1)) hF _ (lv_sub hl [1, 2, 3, 0] rfl)
      · have hF := kn hF q3
        refine lv_iload_n hx hb dX10_readAs_20 rfl (lv_at hl 2 rfl) ?_
        refine lv_if_lt (tgt := 39) hx hb dX10_readAs_21 (by decide) (fun q4 => ?_) (fun q4 => ?_)
        · have hF := kp hF q4
          exact wk_M_readAs_b39 E h_t h_t_s x_t_kept x_t_before x_t_findings x_t_shown x_t_worths x_t_steps x_t_tape x_t_bits x_t_longs x_t_cells x_t_between c_t_isKept c_t_most c_t_taped c_t_here c_t_fault c_t_value c_t_s a1 C hP  hK hT (f_M_readAs_b5  c_t_s a1 n) ih v3 hF _ (lv_sub hl [0, 1, 3] rfl)
        · have hF := kn hF q4
          refine lv_aload_n hx hb dX10_readAs_24 rfl (lv_at hl 0 rfl) ?_
          refine lv_iload_n hx hb dX10_readAs_25 rfl (lv_at hl 1 rfl) ?_
          refine lv_iload_n hx hb dX10_readAs_26 rfl (lv_at hl 3 rfl) ?_
          obtain ⟨r5, er5, hF⟩ := kb hF
          refine kRV (rest := []) C (k_M_apartFrom l E h_t h_t_s x_t_kept x_t_before x_t_findings x_t_shown x_t_worths x_t_steps x_t_tape x_t_bits x_t_longs x_t_cells x_t_between c_t_isKept c_t_most c_t_taped c_t_here c_t_fault c_t_value c_t_s a1 v3 r5 er5) fn_M_apartFrom mw_1053 ⟨Nat.le_of_ble_eq_true rfl, Nat.le_of_ble_eq_true rfl⟩ hK hT hS (va_recv hK hP (ci := 8) (q0 := 0) rfl rfl) hP [0, 1] rfl rfl rfl hl (Nat.le_of_ble_eq_true rfl) dX10_readAs_27 ?_
          refine lv_aload_n hx hb dX10_readAs_30 rfl (lv_at hl 0 rfl) ?_
          refine lv_iload_n hx hb dX10_readAs_31 rfl (lv_at hl 1 rfl) ?_
          refine lv_iload_n hx hb dX10_readAs_32 rfl (lv_at hl 2 rfl) ?_
          obtain ⟨r6, er6, hF⟩ := kb hF
          refine kRV (rest := [.int r5]) C (k_M_apartFrom l E h_t h_t_s x_t_kept x_t_before x_t_findings x_t_shown x_t_worths x_t_steps x_t_tape x_t_bits x_t_longs x_t_cells x_t_between c_t_isKept c_t_most c_t_taped c_t_here c_t_fault c_t_value c_t_s a1 v2 r6 er6) fn_M_apartFrom mw_1053 ⟨Nat.le_of_ble_eq_true rfl, Nat.le_of_ble_eq_true rfl⟩ hK hT hS (va_recv hK hP (ci := 8) (q0 := 0) rfl rfl) hP [0, 1] rfl rfl rfl hl (Nat.le_of_ble_eq_true rfl) dX10_readAs_33 ?_
          refine lv_icmp_gt (tgt := 41) hx hb dX10_readAs_36 (by decide) (fun q7 => ?_) (fun q7 => ?_)
          · have hF := kp hF q7
            refine lv_iinc (v := (v3 + (-1))) (lv' := [(3, .int (v3 + (-1))), (0, .ref h_t), (1, .int a1), (2, .int v2)]) hx hb dX10_readAs_41 hl (k := 3) rfl rfl (by decide) rfl (fun ls hl => ?_)
            refine lv_goto (tgt := 5) hx hb dX10_readAs_44 (by decide) ?_
            exact ih v2 (v3 + (-1)) hF _ (lv_sub hl [1, 2, 3, 0] rfl)
          · have hF := kn hF q7
            exact wk_M_readAs_b39 E h_t h_t_s x_t_kept x_t_before x_t_findings x_t_shown x_t_worths x_t_steps x_t_tape x_t_bits x_t_longs x_t_cells x_t_between c_t_isKept c_t_most c_t_taped c_t_here c_t_fault c_t_value c_t_s a1 C hP  hK hT (f_M_readAs_b5  c_t_s a1 n) ih v3 hF _ (lv_sub hl [0, 1, 3] rfl)
set_option maxHeartbeats 4000000 in
set_option maxRecDepth 100000 in
theorem k_M_readAs (l : Launch) (E : kE) (h_t : Nat) (h_t_s : Nat) (x_t_kept : Nat) (x_t_before : Nat) (x_t_findings : Nat) (x_t_shown : Nat) (x_t_worths : Nat) (x_t_steps : Nat) (x_t_tape : Nat) (x_t_bits : Nat) (x_t_longs : Nat) (x_t_cells : Nat) (x_t_between : Nat) (c_t_isKept : Int32) (c_t_most : Int32) (c_t_taped : Int32) (c_t_here : Int32) (c_t_fault : Int32) (c_t_value : Int32) (c_t_s : (Nat → Int32)) (a1 : Int32) (out : Int32) (hF : f_M_readAs c_t_s a1 = some out) : Met l yX10_readAs (Cond.code yX10_readAs cX10_readAs 4 (some .int) :: wG) (rm 3) (pR E (w_M_readAs E h_t h_t_s x_t_kept x_t_before x_t_findings x_t_shown x_t_worths x_t_steps x_t_tape x_t_bits x_t_longs x_t_cells x_t_between c_t_isKept c_t_most c_t_taped c_t_here c_t_fault c_t_value c_t_s) [.ref h_t, .int a1]) (qR (.int out)) 0 0 (fun _ => False) := by
  refine met_R (by decide) (Nat.le_of_ble_eq_true rfl) ?_
  intro p e s m args below meth c ls C hP hK hT hl
  obtain ⟨hx, hb, hr, hml, hown, hw, hlocks⟩ := id C
  have hS : va_S (fun _ => False) s.heap s.heap [] := va_S.rf
  have hl : lv_has ls 4 [(0, .ref h_t), (1, .int a1)] := hl
  rw [f_M_readAs] at hF
  refine lv_iconst (v := (-1 : Int32)) hx hb dX10_readAs_0 (by decide) ?_
  refine lv_istore_n (lv' := [(2, .int (-1 : Int32)), (0, .ref h_t), (1, .int a1)]) hx hb dX10_readAs_1 rfl hl (by decide) rfl (fun ls hl => ?_)
  refine lv_bipush (v := (25 : Int32)) hx hb dX10_readAs_2 (by decide) ?_
  refine lv_istore_n (lv' := [(3, .int (25 : Int32)), (2, .int (-1 : Int32)), (0, .ref h_t), (1, .int a1)]) hx hb dX10_readAs_4 rfl hl (by decide) rfl (fun ls hl => ?_)
  exact wk_M_readAs_b5 E h_t h_t_s x_t_kept x_t_before x_t_findings x_t_shown x_t_worths x_t_steps x_t_tape x_t_bits x_t_longs x_t_cells x_t_between c_t_isKept c_t_most c_t_taped c_t_here c_t_fault c_t_value c_t_s a1 C hP  hK hT  5000 (-1 : Int32) (25 : Int32) hF _ (lv_sub hl [2, 3, 1, 0] rfl)
abbrev w_M_read (E : kE) (h_t : Nat) (h_t_findings : Nat) (h_t_s : Nat) (x_t_kept : Nat) (x_t_before : Nat) (x_t_shown : Nat) (x_t_worths : Nat) (x_t_steps : Nat) (x_t_tape : Nat) (x_t_bits : Nat) (x_t_longs : Nat) (x_t_cells : Nat) (x_t_between : Nat) (c_t_isKept : Int32) (c_t_most : Int32) (c_t_taped : Int32) (c_t_here : Int32) (c_t_fault : Int32) (c_t_value : Int32) (c_t_findings : (Nat → Int32)) (c_t_s : (Nat → Int32)) : va_W := [(h_t, .inr (8, [.ref h_t_s, .ref x_t_kept, .ref x_t_before, .int c_t_isKept, .ref h_t_findings, .ref x_t_shown, .int c_t_most, .ref x_t_worths, .ref x_t_steps, .ref x_t_tape, .int c_t_taped, .int c_t_here, .int c_t_fault, .int c_t_value, .ref x_t_bits, .ref x_t_longs, .ref x_t_cells, .ref x_t_between])), (h_t_findings, .inl (eI E, 7, .inl c_t_findings)), (h_t_s, .inl (eI E, 65, .inl c_t_s))]
set_option maxHeartbeats 4000000 in
set_option maxRecDepth 100000 in
theorem k_M_read (l : Launch) (E : kE) (h_t : Nat) (h_t_findings : Nat) (h_t_s : Nat) (x_t_kept : Nat) (x_t_before : Nat) (x_t_shown : Nat) (x_t_worths : Nat) (x_t_steps : Nat) (x_t_tape : Nat) (x_t_bits : Nat) (x_t_longs : Nat) (x_t_cells : Nat) (x_t_between : Nat) (sz : Nat) (c_t_isKept : Int32) (c_t_most : Int32) (c_t_taped : Int32) (c_t_here : Int32) (c_t_fault : Int32) (c_t_value : Int32) (c_t_findings : (Nat → Int32)) (c_t_s : (Nat → Int32)) (a1 : Int32) (out : Int32 × (Nat → Int32)) (hF : f_M_read c_t_findings c_t_s a1 = some out) : Met l yX10_read (Cond.code yX10_read cX10_read 3 (some .int) :: wG) (rm 4) (pW E (w_M_read E h_t h_t_findings h_t_s x_t_kept x_t_before x_t_shown x_t_worths x_t_steps x_t_tape x_t_bits x_t_longs x_t_cells x_t_between c_t_isKept c_t_most c_t_taped c_t_here c_t_fault c_t_value c_t_findings c_t_s) sz [.ref h_t, .int a1]) (qW (some (.int out.1)) E (w_M_read E h_t h_t_findings h_t_s x_t_kept x_t_before x_t_shown x_t_worths x_t_steps x_t_tape x_t_bits x_t_longs x_t_cells x_t_between c_t_isKept c_t_most c_t_taped c_t_here c_t_fault c_t_value out.2 c_t_s) (va_A (w_M_read E h_t h_t_findings h_t_s x_t_kept x_t_before x_t_shown x_t_worths x_t_steps x_t_tape x_t_bits x_t_longs x_t_cells x_t_between c_t_isKept c_t_most c_t_taped c_t_here c_t_fault c_t_value c_t_findings c_t_s) sz)) 0 0 (va_A (w_M_read E h_t h_t_findings h_t_s x_t_kept x_t_before x_t_shown x_t_worths x_t_steps x_t_tape x_t_bits x_t_longs x_t_cells x_t_between c_t_isKept c_t_most c_t_taped c_t_here c_t_fault c_t_value c_t_findings c_t_s) sz) := by
  refine met_W (by decide) (Nat.le_of_ble_eq_true rfl) ?_
  intro p e s m args below meth c A ls C hP hD hS hA hK hT hl
  obtain ⟨hx, hb, hr, hml, hown, hw, hlocks⟩ := id C
  have hl : lv_has ls 3 [(0, .ref h_t), (1, .int a1)] := hl
  rw [f_M_read] at hF
  refine lv_iload_n hx hb dX10_read_0 rfl (lv_at hl 1 rfl) ?_
  obtain ⟨r1, er1, hF⟩ := kb hF
  refine kRS (rest := []) C (k_M_isForm l E a1 r1 er1) fn_M_isForm mw_940 ⟨Nat.le_of_ble_eq_true rfl, Nat.le_of_ble_eq_true rfl⟩ hK hT hS hP [] rfl rfl rfl hl (Nat.le_of_ble_eq_true rfl) dX10_read_1 ?_
  refine lv_if_ne (tgt := 13) hx hb dX10_read_4 (by decide) (fun q2 => ?_) (fun q2 => ?_)
  · have hF := kn hF q2
    refine lv_aload_n hx hb dX10_read_13 rfl (lv_at hl 0 rfl) ?_
    refine lv_iload_n hx hb dX10_read_14 rfl (lv_at hl 1 rfl) ?_
    obtain ⟨r3, er3, hF⟩ := kb hF
    refine kRV (rest := []) C (k_M_readAs l E h_t h_t_s x_t_kept x_t_before h_t_findings x_t_shown x_t_worths x_t_steps x_t_tape x_t_bits x_t_longs x_t_cells x_t_between c_t_isKept c_t_most c_t_taped c_t_here c_t_fault c_t_value c_t_s a1 r3 er3) fn_M_readAs mw_1049 ⟨Nat.le_of_ble_eq_true rfl, Nat.le_of_ble_eq_true rfl⟩ hK hT hS (va_recv hK hP (ci := 8) (q0 := 0) rfl rfl) hP [0, 2] rfl rfl rfl hl (Nat.le_of_ble_eq_true rfl) dX10_read_15 ?_
    refine lv_istore_n (lv' := [(2, .int r3), (0, .ref h_t), (1, .int a1)]) hx hb dX10_read_18 rfl hl (by decide) rfl (fun ls hl => ?_)
    refine lv_iload_n hx hb dX10_read_19 rfl (lv_at hl 0 rfl) ?_
    refine lv_if_ge (tgt := 31) hx hb dX10_read_20 (by decide) (fun q4 => ?_) (fun q4 => ?_)
    · have hF := kp hF q4
      refine lv_iload_n hx hb dX10_read_31 rfl (lv_at hl 0 rfl) ?_
      obtain rfl := Option.some.inj hF
      exact W.iret hx hb hr (fun t ht hW => ⟨⟨rfl, by rw [ht]; exact hP, hD⟩, hS.F ht⟩) hS.2.2 dX10_read_32
    · have hF := kn hF q4
      refine lv_aload_n hx hb dX10_read_23 rfl (lv_at hl 1 rfl) ?_
      refine lv_iconst (v := (3 : Int32)) hx hb dX10_read_24 (by decide) ?_
      obtain ⟨r5, er5, hF⟩ := kb hF
      refine kWV (rest := []) (Wr := [(h_t_s, .inl (eI E, 65, .inl c_t_s))]) (Wn := (w_M_read E h_t h_t_findings h_t_s x_t_kept x_t_before x_t_shown x_t_worths x_t_steps x_t_tape x_t_bits x_t_longs x_t_cells x_t_between c_t_isKept c_t_most c_t_taped c_t_here c_t_fault c_t_value r5.2 c_t_s)) C (k_M_no l E h_t h_t_findings h_t_s x_t_kept x_t_before x_t_shown x_t_worths x_t_steps x_t_tape x_t_bits x_t_longs x_t_cells x_t_between s.heap.size c_t_isKept c_t_most c_t_taped c_t_here c_t_fault c_t_value c_t_findings (3 : Int32) r5 er5) fn_M_no mw_964 ⟨Nat.le_of_ble_eq_true rfl, Nat.le_of_ble_eq_true rfl⟩ hK hT hS hA (va_recv hK hP (ci := 8) (q0 := 0) rfl rfl) hP hD [0, 1] rfl (by decide) [2] rfl (by decide) (by decide) [1, 2, 0] rfl (by decide) rfl rfl hl (Nat.le_of_ble_eq_true rfl) dX10_read_25 (fun H locs hP hD hS => ?_)
      refine W.eq (g2 := F0 m 28 ls [.int r5.1]) rfl ?_
      refine lv_goto (tgt := 32) hx hb dX10_read_28 (by decide) ?_
      obtain rfl := Option.some.inj hF
      exact W.iret hx hb hr (fun t ht hW => ⟨⟨rfl, by rw [ht]; exact hP, hD⟩, hS.F ht⟩) hS.2.2 dX10_read_32
  · have hF := kp hF q2
    refine lv_aload_n hx hb dX10_read_7 rfl (lv_at hl 0 rfl) ?_
    refine lv_iconst (v := (0 : Int32)) hx hb dX10_read_8 (by decide) ?_
    obtain ⟨r6, er6, hF⟩ := kb hF
    refine kWV (rest := []) (Wr := [(h_t_s, .inl (eI E, 65, .inl c_t_s))]) (Wn := (w_M_read E h_t h_t_findings h_t_s x_t_kept x_t_before x_t_shown x_t_worths x_t_steps x_t_tape x_t_bits x_t_longs x_t_cells x_t_between c_t_isKept c_t_most c_t_taped c_t_here c_t_fault c_t_value r6.2 c_t_s)) C (k_M_no l E h_t h_t_findings h_t_s x_t_kept x_t_before x_t_shown x_t_worths x_t_steps x_t_tape x_t_bits x_t_longs x_t_cells x_t_between s.heap.size c_t_isKept c_t_most c_t_taped c_t_here c_t_fault c_t_value c_t_findings (0 : Int32) r6 er6) fn_M_no mw_964 ⟨Nat.le_of_ble_eq_true rfl, Nat.le_of_ble_eq_true rfl⟩ hK hT hS hA (va_recv hK hP (ci := 8) (q0 := 0) rfl rfl) hP hD [0, 1] rfl (by decide) [2] rfl (by decide) (by decide) [1, 2, 0] rfl (by decide) rfl rfl hl (Nat.le_of_ble_eq_true rfl) dX10_read_9 (fun H locs hP hD hS => ?_)
    refine W.eq (g2 := F0 m 12 ls [.int r6.1]) rfl ?_
    obtain rfl := Option.some.inj hF
    exact W.iret hx hb hr (fun t ht hW => ⟨⟨rfl, by rw [ht]; exact hP, hD⟩, hS.F ht⟩) hS.2.2 dX10_read_12
abbrev w_M_doubts (E : kE) (h_t : Nat) (h_t_findings : Nat) (h_t_s : Nat) (x_t_kept : Nat) (x_t_before : Nat) (x_t_shown : Nat) (x_t_worths : Nat) (x_t_steps : Nat) (x_t_tape : Nat) (x_t_bits : Nat) (x_t_longs : Nat) (x_t_cells : Nat) (x_t_between : Nat) (c_t_isKept : Int32) (c_t_most : Int32) (c_t_taped : Int32) (c_t_here : Int32) (c_t_fault : Int32) (c_t_value : Int32) (c_t_findings : (Nat → Int32)) (c_t_s : (Nat → Int32)) : va_W := [(h_t, .inr (8, [.ref h_t_s, .ref x_t_kept, .ref x_t_before, .int c_t_isKept, .ref h_t_findings, .ref x_t_shown, .int c_t_most, .ref x_t_worths, .ref x_t_steps, .ref x_t_tape, .int c_t_taped, .int c_t_here, .int c_t_fault, .int c_t_value, .ref x_t_bits, .ref x_t_longs, .ref x_t_cells, .ref x_t_between])), (h_t_findings, .inl (eI E, 7, .inl c_t_findings)), (h_t_s, .inl (eI E, 65, .inl c_t_s))]
set_option maxHeartbeats 4000000 in
set_option maxRecDepth 100000 in
theorem wk_M_doubts_b75 {p : Program} {l : Launch} {e : Env} {s : State} {m : MethodId} {args : Array Value} {below : List Frame} {meth : Method} {c : Code} {A : Nat → Prop} (E : kE) (h_t : Nat) (h_t_findings : Nat) (h_t_s : Nat) (x_t_kept : Nat) (x_t_before : Nat) (x_t_shown : Nat) (x_t_worths : Nat) (x_t_steps : Nat) (x_t_tape : Nat) (x_t_bits : Nat) (x_t_longs : Nat) (x_t_cells : Nat) (x_t_between : Nat) (c_t_isKept : Int32) (c_t_most : Int32) (c_t_taped : Int32) (c_t_here : Int32) (c_t_fault : Int32) (c_t_value : Int32) (c_t_s : (Nat → Int32)) (a1 : Int32) {out : Int32 × (Nat → Int32)} (C : kC RX10 cX10_doubts 5 (some .int) p s m args meth c) (hA : ∀ q : Nat, s.heap.size ≤ q → A q) (hK : va_K (eD E) vwCl (eT E) s) (hT : sT E A s s.heap) (k34 : (Nat → Int32) → Int32 → Int32 → Int32 → Option (Int32 × (Nat → Int32))) (hk34 : ∀ (c_t_findings : (Nat → Int32)) (v2 : Int32) (v3 : Int32) (v4 : Int32), k34 c_t_findings v2 v3 v4 = some out → ∀ (H : Heap) (locs : List Loc), va_P (eD E) vwCl (w_M_doubts E h_t h_t_findings h_t_s x_t_kept x_t_before x_t_shown x_t_worths x_t_steps x_t_tape x_t_bits x_t_longs x_t_cells x_t_between c_t_isKept c_t_most c_t_taped c_t_here c_t_fault c_t_value c_t_findings c_t_s) H → va_D A (w_M_doubts E h_t h_t_findings h_t_s x_t_kept x_t_before x_t_shown x_t_worths x_t_steps x_t_tape x_t_bits x_t_longs x_t_cells x_t_between c_t_isKept c_t_most c_t_taped c_t_here c_t_fault c_t_value c_t_findings c_t_s) → va_S A s.heap H locs → ∀ (ls : Array Slot), lv_has ls 5 [(0, .ref h_t), (1, .int a1), (2, .int v2), (3, .int v3), (4, .int v4)] → W p l e (rm 4) s m args below meth c H locs 0 0 (MQ below (qW (some (.int out.1)) E (w_M_doubts E h_t h_t_findings h_t_s x_t_kept x_t_before x_t_shown x_t_worths x_t_steps x_t_tape x_t_bits x_t_longs x_t_cells x_t_between c_t_isKept c_t_most c_t_taped c_t_here c_t_fault c_t_value out.2 c_t_s) A) args s 0 0 A) (F0 m 34 ls [])) :
    ∀ (c_t_findings : (Nat → Int32)) (v2 : Int32) (v4 : Int32) (s0 : Int32) (s1 : Int32), f_M_doubts_b75 k34 c_t_s a1 c_t_findings v2 v4 s0 s1 = some out → ∀ (H : Heap) (locs : List Loc), va_P (eD E) vwCl (w_M_doubts E h_t h_t_findings h_t_s x_t_kept x_t_before x_t_shown x_t_worths x_t_steps x_t_tape x_t_bits x_t_longs x_t_cells x_t_between c_t_isKept c_t_most c_t_taped c_t_here c_t_fault c_t_value c_t_findings c_t_s) H → va_D A (w_M_doubts E h_t h_t_findings h_t_s x_t_kept x_t_before x_t_shown x_t_worths x_t_steps x_t_tape x_t_bits x_t_longs x_t_cells x_t_between c_t_isKept c_t_most c_t_taped c_t_here c_t_fault c_t_value c_t_findings c_t_s) → va_S A s.heap H locs → ∀ (ls : Array Slot), lv_has ls 5 [(0, .ref h_t), (1, .int a1), (2, .int v2), (4, .int v4)] → W p l e (rm 4) s m args below meth c H locs 0 0 (MQ below (qW (some (.int out.1)) E (w_M_doubts E h_t h_t_findings h_t_s x_t_kept x_t_before x_t_shown x_t_worths x_t_steps x_t_tape x_t_bits x_t_longs x_t_cells x_t_between c_t_isKept c_t_most c_t_taped c_t_here c_t_fault c_t_value out.2 c_t_s) A) args s 0 0 A) (F0 m 75 ls [.int s0, .int s1]) := by
  obtain ⟨hx, hb, hr, hml, hown, hw, hlocks⟩ := id C
  intro c_t_findings v2 v4 s0 s1 hF H locs hP hD hS ls hl
  rw [f_M_doubts_b75] at hF
  refine lv_iadd hx hb dX10_doubts_75 ?_
  refine lv_istore_n (lv' := [(3, .int (s1 + s0)), (0, .ref h_t), (1, .int a1), (2, .int v2), (4, .int v4)]) hx hb dX10_doubts_76 rfl hl (by decide) rfl (fun ls hl => ?_)
  refine lv_iinc (v := (v4 + (1))) (lv' := [(4, .int (v4 + (1))), (3, .int (s1 + s0)), (0, .ref h_t), (1, .int a1), (2, .int v2)]) hx hb dX10_doubts_77 hl (k := 4) rfl rfl (by decide) rfl (fun ls hl => ?_)
  refine lv_goto (tgt := 34) hx hb dX10_doubts_80 (by decide) ?_
  exact hk34 c_t_findings v2 (s1 + s0) (v4 + (1)) hF _ _ hP hD hS _ (lv_sub hl [2, 3, 4, 1, 0] rfl)
set_option maxHeartbeats 4000000 in
set_option maxRecDepth 100000 in
theorem wk_M_doubts_b34 {p : Program} {l : Launch} {e : Env} {s : State} {m : MethodId} {args : Array Value} {below : List Frame} {meth : Method} {c : Code} {A : Nat → Prop} (E : kE) (h_t : Nat) (h_t_findings : Nat) (h_t_s : Nat) (x_t_kept : Nat) (x_t_before : Nat) (x_t_shown : Nat) (x_t_worths : Nat) (x_t_steps : Nat) (x_t_tape : Nat) (x_t_bits : Nat) (x_t_longs : Nat) (x_t_cells : Nat) (x_t_between : Nat) (c_t_isKept : Int32) (c_t_most : Int32) (c_t_taped : Int32) (c_t_here : Int32) (c_t_fault : Int32) (c_t_value : Int32) (c_t_s : (Nat → Int32)) (a1 : Int32) {out : Int32 × (Nat → Int32)} (C : kC RX10 cX10_doubts 5 (some .int) p s m args meth c) (hA : ∀ q : Nat, s.heap.size ≤ q → A q) (hK : va_K (eD E) vwCl (eT E) s) (hT : sT E A s s.heap)  :
    ∀ (n : Nat), ∀ (c_t_findings : (Nat → Int32)) (v2 : Int32) (v3 : Int32) (v4 : Int32), f_M_doubts_b34  c_t_s a1 n c_t_findings v2 v3 v4 = some out → ∀ (H : Heap) (locs : List Loc), va_P (eD E) vwCl (w_M_doubts E h_t h_t_findings h_t_s x_t_kept x_t_before x_t_shown x_t_worths x_t_steps x_t_tape x_t_bits x_t_longs x_t_cells x_t_between c_t_isKept c_t_most c_t_taped c_t_here c_t_fault c_t_value c_t_findings c_t_s) H → va_D A (w_M_doubts E h_t h_t_findings h_t_s x_t_kept x_t_before x_t_shown x_t_worths x_t_steps x_t_tape x_t_bits x_t_longs x_t_cells x_t_between c_t_isKept c_t_most c_t_taped c_t_here c_t_fault c_t_value c_t_findings c_t_s) → va_S A s.heap H locs → ∀ (ls : Array Slot), lv_has ls 5 [(0, .ref h_t), (1, .int a1), (2, .int v2), (3, .int v3), (4, .int v4)] → W p l e (rm 4) s m args below meth c H locs 0 0 (MQ below (qW (some (.int out.1)) E (w_M_doubts E h_t h_t_findings h_t_s x_t_kept x_t_before x_t_shown x_t_worths x_t_steps x_t_tape x_t_bits x_t_longs x_t_cells x_t_between c_t_isKept c_t_most c_t_taped c_t_here c_t_fault c_t_value out.2 c_t_s) A) args s 0 0 A) (F0 m 34 ls []) := by
  obtain ⟨hx, hb, hr, hml, hown, hw, hlocks⟩ := id C
  intro n
  induction n with
  | zero =>
    intro c_t_findings v2 v3 v4 hF
    exact absurd (show (none : Option (Int32 × (Nat → Int32))) = some out from hF) nofun
  | succ n ih =>
    intro c_t_findings v2 v3 v4 hF H locs hP hD hS ls hl
    rw [f_M_doubts_b34] at hF
    refine lv_iload hx hb dX10_doubts_34 (lv_at hl 4 rfl) ?_
    refine lv_bipush (v := (26 : Int32)) hx hb dX10_doubts_36 (by decide) ?_
    refine lv_icmp_ge (tgt := 83) hx hb dX10_doubts_38 (by decide) (fun q1 => ?_) (fun q1 => ?_)
    · have hF := kp hF q1
      refine lv_iload_n hx hb dX10_doubts_83 rfl (lv_at hl 3 rfl) ?_
      obtain rfl := Option.some.inj hF
      exact W.iret hx hb hr (fun t ht hW => ⟨⟨rfl, by rw [ht]; exact hP, hD⟩, hS.F ht⟩) hS.2.2 dX10_doubts_84
    · have hF := kn hF q1
      refine lv_iload_n hx hb dX10_doubts_41 rfl (lv_at hl 3 rfl) ?_
      refine lv_aload_n hx hb dX10_doubts_42 rfl (lv_at hl 0 rfl) ?_
      refine va_get (D := eD E) (ci := 8) (C := RX10) (T := TX10) (N := 18) (v := .ref h_t_s) hx hb hw inX10 hown hK hP 0 rfl rfl 0 (by decide) (hw _ mw_881) (fun _ h9 => h9) rfl dX10_doubts_43 ?_
      refine lv_iconst (v := (3 : Int32)) hx hb dX10_doubts_46 (by decide) ?_
      refine lv_iload hx hb dX10_doubts_47 (lv_at hl 4 rfl) ?_
      refine lv_iadd hx hb dX10_doubts_49 ?_
      obtain ⟨r2, er2, hF⟩ := kb hF
      refine wa_iald hx hb hK hP 2 0 rfl rfl er2 dX10_doubts_50 ?_
      refine lv_if_eq (tgt := 74) hx hb dX10_doubts_51 (by decide) (fun q3 => ?_) (fun q3 => ?_)
      · have hF := kp hF q3
        refine lv_iconst (v := (0 : Int32)) hx hb dX10_doubts_74 (by decide) ?_
        exact wk_M_doubts_b75 E h_t h_t_findings h_t_s x_t_kept x_t_before x_t_shown x_t_worths x_t_steps x_t_tape x_t_bits x_t_longs x_t_cells x_t_between c_t_isKept c_t_most c_t_taped c_t_here c_t_fault c_t_value c_t_s a1 C hA  hK hT (f_M_doubts_b34  c_t_s a1 n) ih c_t_findings v2 v4 (0 : Int32) v3 hF _ _ hP hD hS _ (lv_sub hl [0, 1, 2, 4] rfl)
      · have hF := kn hF q3
        refine lv_aload_n hx hb dX10_doubts_54 rfl (lv_at hl 0 rfl) ?_
        refine lv_iload_n hx hb dX10_doubts_55 rfl (lv_at hl 1 rfl) ?_
        refine lv_iload hx hb dX10_doubts_56 (lv_at hl 4 rfl) ?_
        obtain ⟨r4, er4, hF⟩ := kb hF
        refine kRV (rest := [.int v3]) C (k_M_apartFrom l E h_t h_t_s x_t_kept x_t_before h_t_findings x_t_shown x_t_worths x_t_steps x_t_tape x_t_bits x_t_longs x_t_cells x_t_between c_t_isKept c_t_most c_t_taped c_t_here c_t_fault c_t_value c_t_s a1 v4 r4 er4) fn_M_apartFrom mw_1053 ⟨Nat.le_of_ble_eq_true rfl, Nat.le_of_ble_eq_true rfl⟩ hK hT hS (va_recv hK hP (ci := 8) (q0 := 0) rfl rfl) hP [0, 2] rfl rfl rfl hl (Nat.le_of_ble_eq_true rfl) dX10_doubts_58 ?_
        refine lv_aload_n hx hb dX10_doubts_61 rfl (lv_at hl 0 rfl) ?_
        refine lv_iload_n hx hb dX10_doubts_62 rfl (lv_at hl 1 rfl) ?_
        refine lv_iload_n hx hb dX10_doubts_63 rfl (lv_at hl 2 rfl) ?_
        obtain ⟨r5, er5, hF⟩ := kb hF
        refine kRV (rest := [.int r4, .int v3]) C (k_M_apartFrom l E h_t h_t_s x_t_kept x_t_before h_t_findings x_t_shown x_t_worths x_t_steps x_t_tape x_t_bits x_t_longs x_t_cells x_t_between c_t_isKept c_t_most c_t_taped c_t_here c_t_fault c_t_value c_t_s a1 v2 r5 er5) fn_M_apartFrom mw_1053 ⟨Nat.le_of_ble_eq_true rfl, Nat.le_of_ble_eq_true rfl⟩ hK hT hS (va_recv hK hP (ci := 8) (q0 := 0) rfl rfl) hP [0, 2] rfl rfl rfl hl (Nat.le_of_ble_eq_true rfl) dX10_doubts_64 ?_
        refine lv_icmp_ne (tgt := 74) hx hb dX10_doubts_67 (by decide) (fun q6 => ?_) (fun q6 => ?_)
        · have hF := kn hF q6
          refine lv_iconst (v := (0 : Int32)) hx hb dX10_doubts_74 (by decide) ?_
          exact wk_M_doubts_b75 E h_t h_t_findings h_t_s x_t_kept x_t_before x_t_shown x_t_worths x_t_steps x_t_tape x_t_bits x_t_longs x_t_cells x_t_between c_t_isKept c_t_most c_t_taped c_t_here c_t_fault c_t_value c_t_s a1 C hA  hK hT (f_M_doubts_b34  c_t_s a1 n) ih c_t_findings v2 v4 (0 : Int32) v3 hF _ _ hP hD hS _ (lv_sub hl [0, 1, 2, 4] rfl)
        · have hF := kp hF q6
          refine lv_iconst (v := (1 : Int32)) hx hb dX10_doubts_70 (by decide) ?_
          refine lv_goto (tgt := 75) hx hb dX10_doubts_71 (by decide) ?_
          exact wk_M_doubts_b75 E h_t h_t_findings h_t_s x_t_kept x_t_before x_t_shown x_t_worths x_t_steps x_t_tape x_t_bits x_t_longs x_t_cells x_t_between c_t_isKept c_t_most c_t_taped c_t_here c_t_fault c_t_value c_t_s a1 C hA  hK hT (f_M_doubts_b34  c_t_s a1 n) ih c_t_findings v2 v4 (1 : Int32) v3 hF _ _ hP hD hS _ (lv_sub hl [0, 1, 2, 4] rfl)
set_option maxHeartbeats 4000000 in
set_option maxRecDepth 100000 in
theorem k_M_doubts (l : Launch) (E : kE) (h_t : Nat) (h_t_findings : Nat) (h_t_s : Nat) (x_t_kept : Nat) (x_t_before : Nat) (x_t_shown : Nat) (x_t_worths : Nat) (x_t_steps : Nat) (x_t_tape : Nat) (x_t_bits : Nat) (x_t_longs : Nat) (x_t_cells : Nat) (x_t_between : Nat) (sz : Nat) (c_t_isKept : Int32) (c_t_most : Int32) (c_t_taped : Int32) (c_t_here : Int32) (c_t_fault : Int32) (c_t_value : Int32) (c_t_findings : (Nat → Int32)) (c_t_s : (Nat → Int32)) (a1 : Int32) (out : Int32 × (Nat → Int32)) (hF : f_M_doubts c_t_findings c_t_s a1 = some out) : Met l yX10_doubts (Cond.code yX10_doubts cX10_doubts 5 (some .int) :: wG) (rm 4) (pW E (w_M_doubts E h_t h_t_findings h_t_s x_t_kept x_t_before x_t_shown x_t_worths x_t_steps x_t_tape x_t_bits x_t_longs x_t_cells x_t_between c_t_isKept c_t_most c_t_taped c_t_here c_t_fault c_t_value c_t_findings c_t_s) sz [.ref h_t, .int a1]) (qW (some (.int out.1)) E (w_M_doubts E h_t h_t_findings h_t_s x_t_kept x_t_before x_t_shown x_t_worths x_t_steps x_t_tape x_t_bits x_t_longs x_t_cells x_t_between c_t_isKept c_t_most c_t_taped c_t_here c_t_fault c_t_value out.2 c_t_s) (va_A (w_M_doubts E h_t h_t_findings h_t_s x_t_kept x_t_before x_t_shown x_t_worths x_t_steps x_t_tape x_t_bits x_t_longs x_t_cells x_t_between c_t_isKept c_t_most c_t_taped c_t_here c_t_fault c_t_value c_t_findings c_t_s) sz)) 0 0 (va_A (w_M_doubts E h_t h_t_findings h_t_s x_t_kept x_t_before x_t_shown x_t_worths x_t_steps x_t_tape x_t_bits x_t_longs x_t_cells x_t_between c_t_isKept c_t_most c_t_taped c_t_here c_t_fault c_t_value c_t_findings c_t_s) sz) := by
  refine met_W (by decide) (Nat.le_of_ble_eq_true rfl) ?_
  intro p e s m args below meth c A ls C hP hD hS hA hK hT hl
  obtain ⟨hx, hb, hr, hml, hown, hw, hlocks⟩ := id C
  have hl : lv_has ls 5 [(0, .ref h_t), (1, .int a1)] := hl
  rw [f_M_doubts] at hF
  refine lv_iload_n hx hb dX10_doubts_0 rfl (lv_at hl 1 rfl) ?_
  obtain ⟨r7, er7, hF⟩ := kb hF
  refine kRS (rest := []) C (k_M_isForm l E a1 r7 er7) fn_M_isForm mw_940 ⟨Nat.le_of_ble_eq_true rfl, Nat.le_of_ble_eq_true rfl⟩ hK hT hS hP [] rfl rfl rfl hl (Nat.le_of_ble_eq_true rfl) dX10_doubts_1 ?_
  refine lv_if_ne (tgt := 13) hx hb dX10_doubts_4 (by decide) (fun q8 => ?_) (fun q8 => ?_)
  · have hF := kn hF q8
    refine lv_aload_n hx hb dX10_doubts_13 rfl (lv_at hl 0 rfl) ?_
    refine lv_iload_n hx hb dX10_doubts_14 rfl (lv_at hl 1 rfl) ?_
    obtain ⟨r9, er9, hF⟩ := kb hF
    refine kRV (rest := []) C (k_M_readAs l E h_t h_t_s x_t_kept x_t_before h_t_findings x_t_shown x_t_worths x_t_steps x_t_tape x_t_bits x_t_longs x_t_cells x_t_between c_t_isKept c_t_most c_t_taped c_t_here c_t_fault c_t_value c_t_s a1 r9 er9) fn_M_readAs mw_1049 ⟨Nat.le_of_ble_eq_true rfl, Nat.le_of_ble_eq_true rfl⟩ hK hT hS (va_recv hK hP (ci := 8) (q0 := 0) rfl rfl) hP [0, 2] rfl rfl rfl hl (Nat.le_of_ble_eq_true rfl) dX10_doubts_15 ?_
    refine lv_istore_n (lv' := [(2, .int r9), (0, .ref h_t), (1, .int a1)]) hx hb dX10_doubts_18 rfl hl (by decide) rfl (fun ls hl => ?_)
    refine lv_iload_n hx hb dX10_doubts_19 rfl (lv_at hl 0 rfl) ?_
    refine lv_if_ge (tgt := 29) hx hb dX10_doubts_20 (by decide) (fun q10 => ?_) (fun q10 => ?_)
    · have hF := kp hF q10
      refine lv_iconst (v := (0 : Int32)) hx hb dX10_doubts_29 (by decide) ?_
      refine lv_istore_n (lv' := [(3, .int (0 : Int32)), (2, .int r9), (0, .ref h_t), (1, .int a1)]) hx hb dX10_doubts_30 rfl hl (by decide) rfl (fun ls hl => ?_)
      refine lv_iconst (v := (0 : Int32)) hx hb dX10_doubts_31 (by decide) ?_
      refine lv_istore (lv' := [(4, .int (0 : Int32)), (3, .int (0 : Int32)), (2, .int r9), (0, .ref h_t), (1, .int a1)]) hx hb dX10_doubts_32 hl (by decide) rfl (fun ls hl => ?_)
      exact wk_M_doubts_b34 E h_t h_t_findings h_t_s x_t_kept x_t_before x_t_shown x_t_worths x_t_steps x_t_tape x_t_bits x_t_longs x_t_cells x_t_between c_t_isKept c_t_most c_t_taped c_t_here c_t_fault c_t_value c_t_s a1 C hA  hK hT  5000 c_t_findings r9 (0 : Int32) (0 : Int32) hF _ _ hP hD hS _ (lv_sub hl [3, 4, 2, 1, 0] rfl)
    · have hF := kn hF q10
      refine lv_aload_n hx hb dX10_doubts_23 rfl (lv_at hl 1 rfl) ?_
      refine lv_iconst (v := (3 : Int32)) hx hb dX10_doubts_24 (by decide) ?_
      obtain ⟨r11, er11, hF⟩ := kb hF
      refine kWV (rest := []) (Wr := [(h_t_s, .inl (eI E, 65, .inl c_t_s))]) (Wn := (w_M_doubts E h_t h_t_findings h_t_s x_t_kept x_t_before x_t_shown x_t_worths x_t_steps x_t_tape x_t_bits x_t_longs x_t_cells x_t_between c_t_isKept c_t_most c_t_taped c_t_here c_t_fault c_t_value r11.2 c_t_s)) C (k_M_no l E h_t h_t_findings h_t_s x_t_kept x_t_before x_t_shown x_t_worths x_t_steps x_t_tape x_t_bits x_t_longs x_t_cells x_t_between s.heap.size c_t_isKept c_t_most c_t_taped c_t_here c_t_fault c_t_value c_t_findings (3 : Int32) r11 er11) fn_M_no mw_964 ⟨Nat.le_of_ble_eq_true rfl, Nat.le_of_ble_eq_true rfl⟩ hK hT hS hA (va_recv hK hP (ci := 8) (q0 := 0) rfl rfl) hP hD [0, 1] rfl (by decide) [2] rfl (by decide) (by decide) [1, 2, 0] rfl (by decide) rfl rfl hl (Nat.le_of_ble_eq_true rfl) dX10_doubts_25 (fun H locs hP hD hS => ?_)
      refine W.eq (g2 := F0 m 28 ls [.int r11.1]) rfl ?_
      obtain rfl := Option.some.inj hF
      exact W.iret hx hb hr (fun t ht hW => ⟨⟨rfl, by rw [ht]; exact hP, hD⟩, hS.F ht⟩) hS.2.2 dX10_doubts_28
  · have hF := kp hF q8
    refine lv_aload_n hx hb dX10_doubts_7 rfl (lv_at hl 0 rfl) ?_
    refine lv_iconst (v := (0 : Int32)) hx hb dX10_doubts_8 (by decide) ?_
    obtain ⟨r12, er12, hF⟩ := kb hF
    refine kWV (rest := []) (Wr := [(h_t_s, .inl (eI E, 65, .inl c_t_s))]) (Wn := (w_M_doubts E h_t h_t_findings h_t_s x_t_kept x_t_before x_t_shown x_t_worths x_t_steps x_t_tape x_t_bits x_t_longs x_t_cells x_t_between c_t_isKept c_t_most c_t_taped c_t_here c_t_fault c_t_value r12.2 c_t_s)) C (k_M_no l E h_t h_t_findings h_t_s x_t_kept x_t_before x_t_shown x_t_worths x_t_steps x_t_tape x_t_bits x_t_longs x_t_cells x_t_between s.heap.size c_t_isKept c_t_most c_t_taped c_t_here c_t_fault c_t_value c_t_findings (0 : Int32) r12 er12) fn_M_no mw_964 ⟨Nat.le_of_ble_eq_true rfl, Nat.le_of_ble_eq_true rfl⟩ hK hT hS hA (va_recv hK hP (ci := 8) (q0 := 0) rfl rfl) hP hD [0, 1] rfl (by decide) [2] rfl (by decide) (by decide) [1, 2, 0] rfl (by decide) rfl rfl hl (Nat.le_of_ble_eq_true rfl) dX10_doubts_9 (fun H locs hP hD hS => ?_)
    refine W.eq (g2 := F0 m 12 ls [.int r12.1]) rfl ?_
    obtain rfl := Option.some.inj hF
    exact W.iret hx hb hr (fun t ht hW => ⟨⟨rfl, by rw [ht]; exact hP, hD⟩, hS.F ht⟩) hS.2.2 dX10_doubts_12
abbrev w_M_apart (E : kE) (h_t : Nat) (h_t_findings : Nat) (h_t_s : Nat) (x_t_kept : Nat) (x_t_before : Nat) (x_t_shown : Nat) (x_t_worths : Nat) (x_t_steps : Nat) (x_t_tape : Nat) (x_t_bits : Nat) (x_t_longs : Nat) (x_t_cells : Nat) (x_t_between : Nat) (c_t_isKept : Int32) (c_t_most : Int32) (c_t_taped : Int32) (c_t_here : Int32) (c_t_fault : Int32) (c_t_value : Int32) (c_t_findings : (Nat → Int32)) (c_t_s : (Nat → Int32)) : va_W := [(h_t, .inr (8, [.ref h_t_s, .ref x_t_kept, .ref x_t_before, .int c_t_isKept, .ref h_t_findings, .ref x_t_shown, .int c_t_most, .ref x_t_worths, .ref x_t_steps, .ref x_t_tape, .int c_t_taped, .int c_t_here, .int c_t_fault, .int c_t_value, .ref x_t_bits, .ref x_t_longs, .ref x_t_cells, .ref x_t_between])), (h_t_findings, .inl (eI E, 7, .inl c_t_findings)), (h_t_s, .inl (eI E, 65, .inl c_t_s))]
set_option maxHeartbeats 4000000 in
set_option maxRecDepth 100000 in
theorem wk_M_apart_b13 {p : Program} {l : Launch} {e : Env} {s : State} {m : MethodId} {args : Array Value} {below : List Frame} {meth : Method} {c : Code} {A : Nat → Prop} (E : kE) (h_t : Nat) (h_t_findings : Nat) (h_t_s : Nat) (x_t_kept : Nat) (x_t_before : Nat) (x_t_shown : Nat) (x_t_worths : Nat) (x_t_steps : Nat) (x_t_tape : Nat) (x_t_bits : Nat) (x_t_longs : Nat) (x_t_cells : Nat) (x_t_between : Nat) (c_t_isKept : Int32) (c_t_most : Int32) (c_t_taped : Int32) (c_t_here : Int32) (c_t_fault : Int32) (c_t_value : Int32) (c_t_s : (Nat → Int32))  {out : Int32 × (Nat → Int32)} (C : kC RX10 cX10_apart 4 (some .int) p s m args meth c) (hA : ∀ q : Nat, s.heap.size ≤ q → A q) (hK : va_K (eD E) vwCl (eT E) s) (hT : sT E A s s.heap) (k5 : (Nat → Int32) → Int32 → Int32 → Option (Int32 × (Nat → Int32))) (hk5 : ∀ (c_t_findings : (Nat → Int32)) (v1 : Int32) (v2 : Int32), k5 c_t_findings v1 v2 = some out → ∀ (H : Heap) (locs : List Loc), va_P (eD E) vwCl (w_M_apart E h_t h_t_findings h_t_s x_t_kept x_t_before x_t_shown x_t_worths x_t_steps x_t_tape x_t_bits x_t_longs x_t_cells x_t_between c_t_isKept c_t_most c_t_taped c_t_here c_t_fault c_t_value c_t_findings c_t_s) H → va_D A (w_M_apart E h_t h_t_findings h_t_s x_t_kept x_t_before x_t_shown x_t_worths x_t_steps x_t_tape x_t_bits x_t_longs x_t_cells x_t_between c_t_isKept c_t_most c_t_taped c_t_here c_t_fault c_t_value c_t_findings c_t_s) → va_S A s.heap H locs → ∀ (ls : Array Slot), lv_has ls 4 [(0, .ref h_t), (1, .int v1), (2, .int v2)] → W p l e (rm 3) s m args below meth c H locs 0 0 (MQ below (qW (some (.int out.1)) E (w_M_apart E h_t h_t_findings h_t_s x_t_kept x_t_before x_t_shown x_t_worths x_t_steps x_t_tape x_t_bits x_t_longs x_t_cells x_t_between c_t_isKept c_t_most c_t_taped c_t_here c_t_fault c_t_value out.2 c_t_s) A) args s 0 0 A) (F0 m 5 ls [])) :
    ∀ (n : Nat), ∀ (c_t_findings : (Nat → Int32)) (v1 : Int32) (v2 : Int32) (v3 : Int32), f_M_apart_b13 k5 c_t_s n c_t_findings v1 v2 v3 = some out → ∀ (H : Heap) (locs : List Loc), va_P (eD E) vwCl (w_M_apart E h_t h_t_findings h_t_s x_t_kept x_t_before x_t_shown x_t_worths x_t_steps x_t_tape x_t_bits x_t_longs x_t_cells x_t_between c_t_isKept c_t_most c_t_taped c_t_here c_t_fault c_t_value c_t_findings c_t_s) H → va_D A (w_M_apart E h_t h_t_findings h_t_s x_t_kept x_t_before x_t_shown x_t_worths x_t_steps x_t_tape x_t_bits x_t_longs x_t_cells x_t_between c_t_isKept c_t_most c_t_taped c_t_here c_t_fault c_t_value c_t_findings c_t_s) → va_S A s.heap H locs → ∀ (ls : Array Slot), lv_has ls 4 [(0, .ref h_t), (1, .int v1), (2, .int v2), (3, .int v3)] → W p l e (rm 3) s m args below meth c H locs 0 0 (MQ below (qW (some (.int out.1)) E (w_M_apart E h_t h_t_findings h_t_s x_t_kept x_t_before x_t_shown x_t_worths x_t_steps x_t_tape x_t_bits x_t_longs x_t_cells x_t_between c_t_isKept c_t_most c_t_taped c_t_here c_t_fault c_t_value out.2 c_t_s) A) args s 0 0 A) (F0 m 13 ls []) := by
  obtain ⟨hx, hb, hr, hml, hown, hw, hlocks⟩ := id C
  intro n
  induction n with
  | zero =>
    intro c_t_findings v1 v2 v3 hF
    exact absurd (show (none : Option (Int32 × (Nat → Int32))) = some out from hF) nofun
  | succ n ih =>
    intro c_t_findings v1 v2 v3 hF H locs hP hD hS ls hl
    rw [f_M_apart_b13] at hF
    refine lv_iload_n hx hb dX10_apart_13 rfl (lv_at hl 3 rfl) ?_
    refine lv_iload_n hx hb dX10_apart_14 rfl (lv_at hl 2 rfl) ?_
    refine lv_icmp_ge (tgt := 77) hx hb dX10_apart_15 (by decide) (fun q1 => ?_) (fun q1 => ?_)
    · have hF := kp hF q1
      refine lv_iinc (v := (v2 + (1))) (lv' := [(2, .int (v2 + (1))), (0, .ref h_t), (1, .int v1), (3, .int v3)]) hx hb dX10_apart_77 hl (k := 2) rfl rfl (by decide) rfl (fun ls hl => ?_)
      refine lv_goto (tgt := 5) hx hb dX10_apart_80 (by decide) ?_
      exact hk5 c_t_findings v1 (v2 + (1)) hF _ _ hP hD hS _ (lv_sub hl [1, 2, 0] rfl)
    · have hF := kn hF q1
      refine lv_aload_n hx hb dX10_apart_18 rfl (lv_at hl 0 rfl) ?_
      refine va_get (D := eD E) (ci := 8) (C := RX10) (T := TX10) (N := 18) (v := .ref h_t_s) hx hb hw inX10 hown hK hP 0 rfl rfl 0 (by decide) (hw _ mw_881) (fun _ h9 => h9) rfl dX10_apart_19 ?_
      refine lv_iconst (v := (3 : Int32)) hx hb dX10_apart_22 (by decide) ?_
      refine lv_iload_n hx hb dX10_apart_23 rfl (lv_at hl 2 rfl) ?_
      refine lv_iadd hx hb dX10_apart_24 ?_
      obtain ⟨r2, er2, hF⟩ := kb hF
      refine wa_iald hx hb hK hP 2 0 rfl rfl er2 dX10_apart_25 ?_
      refine lv_if_eq (tgt := 71) hx hb dX10_apart_26 (by decide) (fun q3 => ?_) (fun q3 => ?_)
      · have hF := kp hF q3
        refine lv_iinc (v := (v3 + (1))) (lv' := [(3, .int (v3 + (1))), (0, .ref h_t), (1, .int v1), (2, .int v2)]) hx hb dX10_apart_71 hl (k := 3) rfl rfl (by decide) rfl (fun ls hl => ?_)
        refine lv_goto (tgt := 13) hx hb dX10_apart_74 (by decide) ?_
        exact ih c_t_findings v1 v2 (v3 + (1)) hF _ _ hP hD hS _ (lv_sub hl [1, 2, 3, 0] rfl)
      · have hF := kn hF q3
        refine lv_aload_n hx hb dX10_apart_29 rfl (lv_at hl 0 rfl) ?_
        refine va_get (D := eD E) (ci := 8) (C := RX10) (T := TX10) (N := 18) (v := .ref h_t_s) hx hb hw inX10 hown hK hP 0 rfl rfl 0 (by decide) (hw _ mw_881) (fun _ h9 => h9) rfl dX10_apart_30 ?_
        refine lv_iconst (v := (3 : Int32)) hx hb dX10_apart_33 (by decide) ?_
        refine lv_iload_n hx hb dX10_apart_34 rfl (lv_at hl 3 rfl) ?_
        refine lv_iadd hx hb dX10_apart_35 ?_
        obtain ⟨r4, er4, hF⟩ := kb hF
        refine wa_iald hx hb hK hP 2 0 rfl rfl er4 dX10_apart_36 ?_
        refine lv_if_eq (tgt := 71) hx hb dX10_apart_37 (by decide) (fun q5 => ?_) (fun q5 => ?_)
        · have hF := kp hF q5
          refine lv_iinc (v := (v3 + (1))) (lv' := [(3, .int (v3 + (1))), (0, .ref h_t), (1, .int v1), (2, .int v2)]) hx hb dX10_apart_71 hl (k := 3) rfl rfl (by decide) rfl (fun ls hl => ?_)
          refine lv_goto (tgt := 13) hx hb dX10_apart_74 (by decide) ?_
          exact ih c_t_findings v1 v2 (v3 + (1)) hF _ _ hP hD hS _ (lv_sub hl [1, 2, 3, 0] rfl)
        · have hF := kn hF q5
          refine lv_aload_n hx hb dX10_apart_40 rfl (lv_at hl 0 rfl) ?_
          refine lv_aload_n hx hb dX10_apart_41 rfl (lv_at hl 0 rfl) ?_
          refine va_get (D := eD E) (ci := 8) (C := RX10) (T := TX10) (N := 18) (v := .ref h_t_s) hx hb hw inX10 hown hK hP 0 rfl rfl 0 (by decide) (hw _ mw_881) (fun _ h9 => h9) rfl dX10_apart_42 ?_
          refine lv_iconst (v := (3 : Int32)) hx hb dX10_apart_45 (by decide) ?_
          refine lv_iload_n hx hb dX10_apart_46 rfl (lv_at hl 2 rfl) ?_
          refine lv_iadd hx hb dX10_apart_47 ?_
          obtain ⟨r6, er6, hF⟩ := kb hF
          refine wa_iald hx hb hK hP 2 0 rfl rfl er6 dX10_apart_48 ?_
          refine lv_iload_n hx hb dX10_apart_49 rfl (lv_at hl 3 rfl) ?_
          obtain ⟨r7, er7, hF⟩ := kb hF
          refine kRV (rest := []) C (k_M_apartFrom l E h_t h_t_s x_t_kept x_t_before h_t_findings x_t_shown x_t_worths x_t_steps x_t_tape x_t_bits x_t_longs x_t_cells x_t_between c_t_isKept c_t_most c_t_taped c_t_here c_t_fault c_t_value c_t_s r6 v3 r7 er7) fn_M_apartFrom mw_1053 ⟨Nat.le_of_ble_eq_true rfl, Nat.le_of_ble_eq_true rfl⟩ hK hT hS (va_recv hK hP (ci := 8) (q0 := 0) rfl rfl) hP [0, 2] rfl rfl rfl hl (Nat.le_of_ble_eq_true rfl) dX10_apart_50 ?_
          refine lv_iload_n hx hb dX10_apart_53 rfl (lv_at hl 1 rfl) ?_
          refine lv_icmp_ge (tgt := 71) hx hb dX10_apart_54 (by decide) (fun q8 => ?_) (fun q8 => ?_)
          · have hF := kp hF q8
            refine lv_iinc (v := (v3 + (1))) (lv' := [(3, .int (v3 + (1))), (0, .ref h_t), (1, .int v1), (2, .int v2)]) hx hb dX10_apart_71 hl (k := 3) rfl rfl (by decide) rfl (fun ls hl => ?_)
            refine lv_goto (tgt := 13) hx hb dX10_apart_74 (by decide) ?_
            exact ih c_t_findings v1 v2 (v3 + (1)) hF _ _ hP hD hS _ (lv_sub hl [1, 2, 3, 0] rfl)
          · have hF := kn hF q8
            refine lv_aload_n hx hb dX10_apart_57 rfl (lv_at hl 0 rfl) ?_
            refine lv_aload_n hx hb dX10_apart_58 rfl (lv_at hl 0 rfl) ?_
            refine va_get (D := eD E) (ci := 8) (C := RX10) (T := TX10) (N := 18) (v := .ref h_t_s) hx hb hw inX10 hown hK hP 0 rfl rfl 0 (by decide) (hw _ mw_881) (fun _ h9 => h9) rfl dX10_apart_59 ?_
            refine lv_iconst (v := (3 : Int32)) hx hb dX10_apart_62 (by decide) ?_
            refine lv_iload_n hx hb dX10_apart_63 rfl (lv_at hl 2 rfl) ?_
            refine lv_iadd hx hb dX10_apart_64 ?_
            obtain ⟨r9, er9, hF⟩ := kb hF
            refine wa_iald hx hb hK hP 2 0 rfl rfl er9 dX10_apart_65 ?_
            refine lv_iload_n hx hb dX10_apart_66 rfl (lv_at hl 3 rfl) ?_
            obtain ⟨r10, er10, hF⟩ := kb hF
            refine kRV (rest := []) C (k_M_apartFrom l E h_t h_t_s x_t_kept x_t_before h_t_findings x_t_shown x_t_worths x_t_steps x_t_tape x_t_bits x_t_longs x_t_cells x_t_between c_t_isKept c_t_most c_t_taped c_t_here c_t_fault c_t_value c_t_s r9 v3 r10 er10) fn_M_apartFrom mw_1053 ⟨Nat.le_of_ble_eq_true rfl, Nat.le_of_ble_eq_true rfl⟩ hK hT hS (va_recv hK hP (ci := 8) (q0 := 0) rfl rfl) hP [0, 2] rfl rfl rfl hl (Nat.le_of_ble_eq_true rfl) dX10_apart_67 ?_
            refine lv_istore_n (lv' := [(1, .int r10), (0, .ref h_t), (2, .int v2), (3, .int v3)]) hx hb dX10_apart_70 rfl hl (by decide) rfl (fun ls hl => ?_)
            refine lv_iinc (v := (v3 + (1))) (lv' := [(3, .int (v3 + (1))), (1, .int r10), (0, .ref h_t), (2, .int v2)]) hx hb dX10_apart_71 hl (k := 3) rfl rfl (by decide) rfl (fun ls hl => ?_)
            refine lv_goto (tgt := 13) hx hb dX10_apart_74 (by decide) ?_
            exact ih c_t_findings r10 v2 (v3 + (1)) hF _ _ hP hD hS _ (lv_sub hl [2, 1, 3, 0] rfl)
set_option maxHeartbeats 4000000 in
set_option maxRecDepth 100000 in
theorem wk_M_apart_b5 {p : Program} {l : Launch} {e : Env} {s : State} {m : MethodId} {args : Array Value} {below : List Frame} {meth : Method} {c : Code} {A : Nat → Prop} (E : kE) (h_t : Nat) (h_t_findings : Nat) (h_t_s : Nat) (x_t_kept : Nat) (x_t_before : Nat) (x_t_shown : Nat) (x_t_worths : Nat) (x_t_steps : Nat) (x_t_tape : Nat) (x_t_bits : Nat) (x_t_longs : Nat) (x_t_cells : Nat) (x_t_between : Nat) (c_t_isKept : Int32) (c_t_most : Int32) (c_t_taped : Int32) (c_t_here : Int32) (c_t_fault : Int32) (c_t_value : Int32) (c_t_s : (Nat → Int32))  {out : Int32 × (Nat → Int32)} (C : kC RX10 cX10_apart 4 (some .int) p s m args meth c) (hA : ∀ q : Nat, s.heap.size ≤ q → A q) (hK : va_K (eD E) vwCl (eT E) s) (hT : sT E A s s.heap)  :
    ∀ (n : Nat), ∀ (c_t_findings : (Nat → Int32)) (v1 : Int32) (v2 : Int32), f_M_apart_b5  c_t_s n c_t_findings v1 v2 = some out → ∀ (H : Heap) (locs : List Loc), va_P (eD E) vwCl (w_M_apart E h_t h_t_findings h_t_s x_t_kept x_t_before x_t_shown x_t_worths x_t_steps x_t_tape x_t_bits x_t_longs x_t_cells x_t_between c_t_isKept c_t_most c_t_taped c_t_here c_t_fault c_t_value c_t_findings c_t_s) H → va_D A (w_M_apart E h_t h_t_findings h_t_s x_t_kept x_t_before x_t_shown x_t_worths x_t_steps x_t_tape x_t_bits x_t_longs x_t_cells x_t_between c_t_isKept c_t_most c_t_taped c_t_here c_t_fault c_t_value c_t_findings c_t_s) → va_S A s.heap H locs → ∀ (ls : Array Slot), lv_has ls 4 [(0, .ref h_t), (1, .int v1), (2, .int v2)] → W p l e (rm 3) s m args below meth c H locs 0 0 (MQ below (qW (some (.int out.1)) E (w_M_apart E h_t h_t_findings h_t_s x_t_kept x_t_before x_t_shown x_t_worths x_t_steps x_t_tape x_t_bits x_t_longs x_t_cells x_t_between c_t_isKept c_t_most c_t_taped c_t_here c_t_fault c_t_value out.2 c_t_s) A) args s 0 0 A) (F0 m 5 ls []) := by
  obtain ⟨hx, hb, hr, hml, hown, hw, hlocks⟩ := id C
  intro n
  induction n with
  | zero =>
    intro c_t_findings v1 v2 hF
    exact absurd (show (none : Option (Int32 × (Nat → Int32))) = some out from hF) nofun
  | succ n ih =>
    intro c_t_findings v1 v2 hF H locs hP hD hS ls hl
    rw [f_M_apart_b5] at hF
    refine lv_iload_n hx hb dX10_apart_5 rfl (lv_at hl 2 rfl) ?_
    refine lv_bipush (v := (26 : Int32)) hx hb dX10_apart_6 (by decide) ?_
    refine lv_icmp_ge (tgt := 83) hx hb dX10_apart_8 (by decide) (fun q11 => ?_) (fun q11 => ?_)
    · have hF := kp hF q11
      refine lv_iload_n hx hb dX10_apart_83 rfl (lv_at hl 1 rfl) ?_
      refine lv_bipush (v := (12 : Int32)) hx hb dX10_apart_84 (by decide) ?_
      refine lv_icmp_le (tgt := 97) hx hb dX10_apart_86 (by decide) (fun q12 => ?_) (fun q12 => ?_)
      · have hF := kp hF q12
        refine lv_iload_n hx hb dX10_apart_97 rfl (lv_at hl 1 rfl) ?_
        obtain rfl := Option.some.inj hF
        exact W.iret hx hb hr (fun t ht hW => ⟨⟨rfl, by rw [ht]; exact hP, hD⟩, hS.F ht⟩) hS.2.2 dX10_apart_98
      · have hF := kn hF q12
        refine lv_aload_n hx hb dX10_apart_89 rfl (lv_at hl 0 rfl) ?_
        refine lv_iconst (v := (3 : Int32)) hx hb dX10_apart_90 (by decide) ?_
        obtain ⟨r13, er13, hF⟩ := kb hF
        refine kWV (rest := []) (Wr := [(h_t_s, .inl (eI E, 65, .inl c_t_s))]) (Wn := (w_M_apart E h_t h_t_findings h_t_s x_t_kept x_t_before x_t_shown x_t_worths x_t_steps x_t_tape x_t_bits x_t_longs x_t_cells x_t_between c_t_isKept c_t_most c_t_taped c_t_here c_t_fault c_t_value r13.2 c_t_s)) C (k_M_no l E h_t h_t_findings h_t_s x_t_kept x_t_before x_t_shown x_t_worths x_t_steps x_t_tape x_t_bits x_t_longs x_t_cells x_t_between H.size c_t_isKept c_t_most c_t_taped c_t_here c_t_fault c_t_value c_t_findings (3 : Int32) r13 er13) fn_M_no mw_964 ⟨Nat.le_of_ble_eq_true rfl, Nat.le_of_ble_eq_true rfl⟩ hK hT hS hA (va_recv hK hP (ci := 8) (q0 := 0) rfl rfl) hP hD [0, 1] rfl (by decide) [2] rfl (by decide) (by decide) [1, 2, 0] rfl (by decide) rfl rfl hl (Nat.le_of_ble_eq_true rfl) dX10_apart_91 (fun H locs hP hD hS => ?_)
        refine W.eq (g2 := F0 m 94 ls [.int r13.1]) rfl ?_
        refine lv_goto (tgt := 98) hx hb dX10_apart_94 (by decide) ?_
        obtain rfl := Option.some.inj hF
        exact W.iret hx hb hr (fun t ht hW => ⟨⟨rfl, by rw [ht]; exact hP, hD⟩, hS.F ht⟩) hS.2.2 dX10_apart_98
    · have hF := kn hF q11
      refine lv_iconst (v := (0 : Int32)) hx hb dX10_apart_11 (by decide) ?_
      refine lv_istore_n (lv' := [(3, .int (0 : Int32)), (0, .ref h_t), (1, .int v1), (2, .int v2)]) hx hb dX10_apart_12 rfl hl (by decide) rfl (fun ls hl => ?_)
      exact wk_M_apart_b13 E h_t h_t_findings h_t_s x_t_kept x_t_before x_t_shown x_t_worths x_t_steps x_t_tape x_t_bits x_t_longs x_t_cells x_t_between c_t_isKept c_t_most c_t_taped c_t_here c_t_fault c_t_value c_t_s  C hA  hK hT (f_M_apart_b5  c_t_s n) ih 5000 c_t_findings v1 v2 (0 : Int32) hF _ _ hP hD hS _ (lv_sub hl [1, 2, 3, 0] rfl)
set_option maxHeartbeats 4000000 in
set_option maxRecDepth 100000 in
theorem k_M_apart (l : Launch) (E : kE) (h_t : Nat) (h_t_findings : Nat) (h_t_s : Nat) (x_t_kept : Nat) (x_t_before : Nat) (x_t_shown : Nat) (x_t_worths : Nat) (x_t_steps : Nat) (x_t_tape : Nat) (x_t_bits : Nat) (x_t_longs : Nat) (x_t_cells : Nat) (x_t_between : Nat) (sz : Nat) (c_t_isKept : Int32) (c_t_most : Int32) (c_t_taped : Int32) (c_t_here : Int32) (c_t_fault : Int32) (c_t_value : Int32) (c_t_findings : (Nat → Int32)) (c_t_s : (Nat → Int32))  (out : Int32 × (Nat → Int32)) (hF : f_M_apart c_t_findings c_t_s  = some out) : Met l yX10_apart (Cond.code yX10_apart cX10_apart 4 (some .int) :: wG) (rm 3) (pW E (w_M_apart E h_t h_t_findings h_t_s x_t_kept x_t_before x_t_shown x_t_worths x_t_steps x_t_tape x_t_bits x_t_longs x_t_cells x_t_between c_t_isKept c_t_most c_t_taped c_t_here c_t_fault c_t_value c_t_findings c_t_s) sz [.ref h_t]) (qW (some (.int out.1)) E (w_M_apart E h_t h_t_findings h_t_s x_t_kept x_t_before x_t_shown x_t_worths x_t_steps x_t_tape x_t_bits x_t_longs x_t_cells x_t_between c_t_isKept c_t_most c_t_taped c_t_here c_t_fault c_t_value out.2 c_t_s) (va_A (w_M_apart E h_t h_t_findings h_t_s x_t_kept x_t_before x_t_shown x_t_worths x_t_steps x_t_tape x_t_bits x_t_longs x_t_cells x_t_between c_t_isKept c_t_most c_t_taped c_t_here c_t_fault c_t_value c_t_findings c_t_s) sz)) 0 0 (va_A (w_M_apart E h_t h_t_findings h_t_s x_t_kept x_t_before x_t_shown x_t_worths x_t_steps x_t_tape x_t_bits x_t_longs x_t_cells x_t_between c_t_isKept c_t_most c_t_taped c_t_here c_t_fault c_t_value c_t_findings c_t_s) sz) := by
  refine met_W (by decide) (Nat.le_of_ble_eq_true rfl) ?_
  intro p e s m args below meth c A ls C hP hD hS hA hK hT hl
  obtain ⟨hx, hb, hr, hml, hown, hw, hlocks⟩ := id C
  have hl : lv_has ls 4 [(0, .ref h_t)] := hl
  rw [f_M_apart] at hF
  refine lv_bipush (v := (13 : Int32)) hx hb dX10_apart_0 (by decide) ?_
  refine lv_istore_n (lv' := [(1, .int (13 : Int32)), (0, .ref h_t)]) hx hb dX10_apart_2 rfl hl (by decide) rfl (fun ls hl => ?_)
  refine lv_iconst (v := (0 : Int32)) hx hb dX10_apart_3 (by decide) ?_
  refine lv_istore_n (lv' := [(2, .int (0 : Int32)), (1, .int (13 : Int32)), (0, .ref h_t)]) hx hb dX10_apart_4 rfl hl (by decide) rfl (fun ls hl => ?_)
  exact wk_M_apart_b5 E h_t h_t_findings h_t_s x_t_kept x_t_before x_t_shown x_t_worths x_t_steps x_t_tape x_t_bits x_t_longs x_t_cells x_t_between c_t_isKept c_t_most c_t_taped c_t_here c_t_fault c_t_value c_t_s  C hA  hK hT  5000 c_t_findings (13 : Int32) (0 : Int32) hF _ _ hP hD hS _ (lv_sub hl [2, 1, 0] rfl)
abbrev w_M_stay (E : kE) (h_t : Nat) (h_t_s : Nat) (x_t_kept : Nat) (x_t_before : Nat) (x_t_findings : Nat) (x_t_shown : Nat) (x_t_worths : Nat) (x_t_steps : Nat) (x_t_tape : Nat) (x_t_bits : Nat) (x_t_longs : Nat) (x_t_cells : Nat) (x_t_between : Nat) (c_t_isKept : Int32) (c_t_most : Int32) (c_t_taped : Int32) (c_t_here : Int32) (c_t_fault : Int32) (c_t_value : Int32) (c_t_s : (Nat → Int32)) : va_W := [(h_t, .inr (8, [.ref h_t_s, .ref x_t_kept, .ref x_t_before, .int c_t_isKept, .ref x_t_findings, .ref x_t_shown, .int c_t_most, .ref x_t_worths, .ref x_t_steps, .ref x_t_tape, .int c_t_taped, .int c_t_here, .int c_t_fault, .int c_t_value, .ref x_t_bits, .ref x_t_longs, .ref x_t_cells, .ref x_t_between])), (h_t_s, .inl (eI E, 65, .inl c_t_s))]
set_option maxHeartbeats 4000000 in
set_option maxRecDepth 100000 in
theorem wk_M_stay_b54 {p : Program} {l : Launch} {e : Env} {s : State} {m : MethodId} {args : Array Value} {below : List Frame} {meth : Method} {c : Code} (E : kE) (h_t : Nat) (h_t_s : Nat) (x_t_kept : Nat) (x_t_before : Nat) (x_t_findings : Nat) (x_t_shown : Nat) (x_t_worths : Nat) (x_t_steps : Nat) (x_t_tape : Nat) (x_t_bits : Nat) (x_t_longs : Nat) (x_t_cells : Nat) (x_t_between : Nat) (c_t_isKept : Int32) (c_t_most : Int32) (c_t_taped : Int32) (c_t_here : Int32) (c_t_fault : Int32) (c_t_value : Int32) (c_t_s : (Nat → Int32))  {out : Int32} (C : kC RX10 cX10_stay 3 (some .int) p s m args meth c) (hP : va_P (eD E) vwCl (w_M_stay E h_t h_t_s x_t_kept x_t_before x_t_findings x_t_shown x_t_worths x_t_steps x_t_tape x_t_bits x_t_longs x_t_cells x_t_between c_t_isKept c_t_most c_t_taped c_t_here c_t_fault c_t_value c_t_s) s.heap) (hK : va_K (eD E) vwCl (eT E) s) (hT : sT E (fun _ => False) s s.heap) (k4 : Int32 → Int32 → Option (Int32)) (hk4 : ∀ (v1 : Int32) (v2 : Int32), k4 v1 v2 = some out → ∀ (ls : Array Slot), lv_has ls 3 [(0, .ref h_t), (1, .int v1), (2, .int v2)] → W p l e (rm 4) s m args below meth c s.heap [] 0 0 (MQ below (qR (.int out)) args s 0 0 (fun _ => False)) (F0 m 4 ls [])) :
    ∀ (v2 : Int32) (s0 : Int32) (s1 : Int32), f_M_stay_b54 k4 c_t_s v2 s0 s1 = some out → ∀ (ls : Array Slot), lv_has ls 3 [(0, .ref h_t), (2, .int v2)] → W p l e (rm 4) s m args below meth c s.heap [] 0 0 (MQ below (qR (.int out)) args s 0 0 (fun _ => False)) (F0 m 54 ls [.int s0, .int s1]) := by
  obtain ⟨hx, hb, hr, hml, hown, hw, hlocks⟩ := id C
  have hS : va_S (fun _ => False) s.heap s.heap [] := va_S.rf
  intro v2 s0 s1 hF ls hl
  rw [f_M_stay_b54] at hF
  refine lv_ior hx hb dX10_stay_54 ?_
  refine lv_istore_n (lv' := [(1, .int (s1 ||| s0)), (0, .ref h_t), (2, .int v2)]) hx hb dX10_stay_55 rfl hl (by decide) rfl (fun ls hl => ?_)
  refine lv_iinc (v := (v2 + (1))) (lv' := [(2, .int (v2 + (1))), (1, .int (s1 ||| s0)), (0, .ref h_t)]) hx hb dX10_stay_56 hl (k := 2) rfl rfl (by decide) rfl (fun ls hl => ?_)
  refine lv_goto (tgt := 4) hx hb dX10_stay_59 (by decide) ?_
  exact hk4 (s1 ||| s0) (v2 + (1)) hF _ (lv_sub hl [2, 1, 0] rfl)
set_option maxHeartbeats 4000000 in
set_option maxRecDepth 100000 in
theorem wk_M_stay_b4 {p : Program} {l : Launch} {e : Env} {s : State} {m : MethodId} {args : Array Value} {below : List Frame} {meth : Method} {c : Code} (E : kE) (h_t : Nat) (h_t_s : Nat) (x_t_kept : Nat) (x_t_before : Nat) (x_t_findings : Nat) (x_t_shown : Nat) (x_t_worths : Nat) (x_t_steps : Nat) (x_t_tape : Nat) (x_t_bits : Nat) (x_t_longs : Nat) (x_t_cells : Nat) (x_t_between : Nat) (c_t_isKept : Int32) (c_t_most : Int32) (c_t_taped : Int32) (c_t_here : Int32) (c_t_fault : Int32) (c_t_value : Int32) (c_t_s : (Nat → Int32))  {out : Int32} (C : kC RX10 cX10_stay 3 (some .int) p s m args meth c) (hP : va_P (eD E) vwCl (w_M_stay E h_t h_t_s x_t_kept x_t_before x_t_findings x_t_shown x_t_worths x_t_steps x_t_tape x_t_bits x_t_longs x_t_cells x_t_between c_t_isKept c_t_most c_t_taped c_t_here c_t_fault c_t_value c_t_s) s.heap) (hK : va_K (eD E) vwCl (eT E) s) (hT : sT E (fun _ => False) s s.heap)  :
    ∀ (n : Nat), ∀ (v1 : Int32) (v2 : Int32), f_M_stay_b4  c_t_s n v1 v2 = some out → ∀ (ls : Array Slot), lv_has ls 3 [(0, .ref h_t), (1, .int v1), (2, .int v2)] → W p l e (rm 4) s m args below meth c s.heap [] 0 0 (MQ below (qR (.int out)) args s 0 0 (fun _ => False)) (F0 m 4 ls []) := by
  obtain ⟨hx, hb, hr, hml, hown, hw, hlocks⟩ := id C
  have hS : va_S (fun _ => False) s.heap s.heap [] := va_S.rf
  intro n
  induction n with
  | zero =>
    intro v1 v2 hF
    exact absurd (show (none : Option (Int32)) = some out from hF) nofun
  | succ n ih =>
    intro v1 v2 hF ls hl
    rw [f_M_stay_b4] at hF
    refine lv_iload_n hx hb dX10_stay_4 rfl (lv_at hl 2 rfl) ?_
    refine lv_bipush (v := (26 : Int32)) hx hb dX10_stay_5 (by decide) ?_
    refine lv_icmp_ge (tgt := 62) hx hb dX10_stay_7 (by decide) (fun q1 => ?_) (fun q1 => ?_)
    · have hF := kp hF q1
      refine lv_iload_n hx hb dX10_stay_62 rfl (lv_at hl 1 rfl) ?_
      obtain rfl := Option.some.inj hF
      exact W.iret hx hb hr (fun t ht hW => ⟨rfl, ht⟩) nofun dX10_stay_63
    · have hF := kn hF q1
      refine lv_iload_n hx hb dX10_stay_10 rfl (lv_at hl 1 rfl) ?_
      refine lv_aload_n hx hb dX10_stay_11 rfl (lv_at hl 0 rfl) ?_
      refine va_get (D := eD E) (ci := 8) (C := RX10) (T := TX10) (N := 18) (v := .ref h_t_s) hx hb hw inX10 hown hK hP 0 rfl rfl 0 (by decide) (hw _ mw_881) (fun _ h9 => h9) rfl dX10_stay_12 ?_
      refine lv_iconst (v := (3 : Int32)) hx hb dX10_stay_15 (by decide) ?_
      refine lv_iload_n hx hb dX10_stay_16 rfl (lv_at hl 2 rfl) ?_
      refine lv_iadd hx hb dX10_stay_17 ?_
      obtain ⟨r2, er2, hF⟩ := kb hF
      refine wa_iald hx hb hK hP 1 0 rfl rfl er2 dX10_stay_18 ?_
      refine lv_if_eq (tgt := 53) hx hb dX10_stay_19 (by decide) (fun q3 => ?_) (fun q3 => ?_)
      · have hF := kp hF q3
        refine lv_iconst (v := (0 : Int32)) hx hb dX10_stay_53 (by decide) ?_
        exact wk_M_stay_b54 E h_t h_t_s x_t_kept x_t_before x_t_findings x_t_shown x_t_worths x_t_steps x_t_tape x_t_bits x_t_longs x_t_cells x_t_between c_t_isKept c_t_most c_t_taped c_t_here c_t_fault c_t_value c_t_s  C hP  hK hT (f_M_stay_b4  c_t_s n) ih v2 (0 : Int32) v1 hF _ (lv_sub hl [0, 2] rfl)
      · have hF := kn hF q3
        refine lv_aload_n hx hb dX10_stay_22 rfl (lv_at hl 0 rfl) ?_
        refine lv_aload_n hx hb dX10_stay_23 rfl (lv_at hl 0 rfl) ?_
        refine va_get (D := eD E) (ci := 8) (C := RX10) (T := TX10) (N := 18) (v := .ref h_t_s) hx hb hw inX10 hown hK hP 0 rfl rfl 0 (by decide) (hw _ mw_881) (fun _ h9 => h9) rfl dX10_stay_24 ?_
        refine lv_iconst (v := (3 : Int32)) hx hb dX10_stay_27 (by decide) ?_
        refine lv_iload_n hx hb dX10_stay_28 rfl (lv_at hl 2 rfl) ?_
        refine lv_iadd hx hb dX10_stay_29 ?_
        obtain ⟨r4, er4, hF⟩ := kb hF
        refine wa_iald hx hb hK hP 1 0 rfl rfl er4 dX10_stay_30 ?_
        refine lv_aload_n hx hb dX10_stay_31 rfl (lv_at hl 0 rfl) ?_
        refine va_get (D := eD E) (ci := 8) (C := RX10) (T := TX10) (N := 18) (v := .ref h_t_s) hx hb hw inX10 hown hK hP 0 rfl rfl 0 (by decide) (hw _ mw_881) (fun _ h9 => h9) rfl dX10_stay_32 ?_
        refine lv_iconst (v := (1 : Int32)) hx hb dX10_stay_35 (by decide) ?_
        obtain ⟨r5, er5, hF⟩ := kb hF
        refine wa_iald hx hb hK hP 1 0 rfl rfl er5 dX10_stay_36 ?_
        refine lv_iconst (v := (-1 : Int32)) hx hb dX10_stay_37 (by decide) ?_
        refine lv_ixor hx hb dX10_stay_38 ?_
        refine lv_iand hx hb dX10_stay_39 ?_
        obtain ⟨r6, er6, hF⟩ := kb hF
        refine kRV (rest := [.int v1]) C (k_M_readAs l E h_t h_t_s x_t_kept x_t_before x_t_findings x_t_shown x_t_worths x_t_steps x_t_tape x_t_bits x_t_longs x_t_cells x_t_between c_t_isKept c_t_most c_t_taped c_t_here c_t_fault c_t_value c_t_s (r4 &&& (r5 ^^^ (-1 : Int32))) r6 er6) fn_M_readAs mw_1049 ⟨Nat.le_of_ble_eq_true rfl, Nat.le_of_ble_eq_true rfl⟩ hK hT hS (va_recv hK hP (ci := 8) (q0 := 0) rfl rfl) hP [0, 1] rfl rfl rfl hl (Nat.le_of_ble_eq_true rfl) dX10_stay_40 ?_
        refine lv_iload_n hx hb dX10_stay_43 rfl (lv_at hl 2 rfl) ?_
        refine lv_icmp_ne (tgt := 53) hx hb dX10_stay_44 (by decide) (fun q7 => ?_) (fun q7 => ?_)
        · have hF := kn hF q7
          refine lv_iconst (v := (0 : Int32)) hx hb dX10_stay_53 (by decide) ?_
          exact wk_M_stay_b54 E h_t h_t_s x_t_kept x_t_before x_t_findings x_t_shown x_t_worths x_t_steps x_t_tape x_t_bits x_t_longs x_t_cells x_t_between c_t_isKept c_t_most c_t_taped c_t_here c_t_fault c_t_value c_t_s  C hP  hK hT (f_M_stay_b4  c_t_s n) ih v2 (0 : Int32) v1 hF _ (lv_sub hl [0, 2] rfl)
        · have hF := kp hF q7
          refine lv_iconst (v := (1 : Int32)) hx hb dX10_stay_47 (by decide) ?_
          refine lv_iload_n hx hb dX10_stay_48 rfl (lv_at hl 2 rfl) ?_
          refine lv_ishl hx hb dX10_stay_49 ?_
          refine lv_goto (tgt := 54) hx hb dX10_stay_50 (by decide) ?_
          exact wk_M_stay_b54 E h_t h_t_s x_t_kept x_t_before x_t_findings x_t_shown x_t_worths x_t_steps x_t_tape x_t_bits x_t_longs x_t_cells x_t_between c_t_isKept c_t_most c_t_taped c_t_here c_t_fault c_t_value c_t_s  C hP  hK hT (f_M_stay_b4  c_t_s n) ih v2 ((1 : Int32) <<< (v2 &&& 31)) v1 hF _ (lv_sub hl [0, 2] rfl)
set_option maxHeartbeats 4000000 in
set_option maxRecDepth 100000 in
theorem k_M_stay (l : Launch) (E : kE) (h_t : Nat) (h_t_s : Nat) (x_t_kept : Nat) (x_t_before : Nat) (x_t_findings : Nat) (x_t_shown : Nat) (x_t_worths : Nat) (x_t_steps : Nat) (x_t_tape : Nat) (x_t_bits : Nat) (x_t_longs : Nat) (x_t_cells : Nat) (x_t_between : Nat) (c_t_isKept : Int32) (c_t_most : Int32) (c_t_taped : Int32) (c_t_here : Int32) (c_t_fault : Int32) (c_t_value : Int32) (c_t_s : (Nat → Int32))  (out : Int32) (hF : f_M_stay c_t_s  = some out) : Met l yX10_stay (Cond.code yX10_stay cX10_stay 3 (some .int) :: wG) (rm 4) (pR E (w_M_stay E h_t h_t_s x_t_kept x_t_before x_t_findings x_t_shown x_t_worths x_t_steps x_t_tape x_t_bits x_t_longs x_t_cells x_t_between c_t_isKept c_t_most c_t_taped c_t_here c_t_fault c_t_value c_t_s) [.ref h_t]) (qR (.int out)) 0 0 (fun _ => False) := by
  refine met_R (by decide) (Nat.le_of_ble_eq_true rfl) ?_
  intro p e s m args below meth c ls C hP hK hT hl
  obtain ⟨hx, hb, hr, hml, hown, hw, hlocks⟩ := id C
  have hS : va_S (fun _ => False) s.heap s.heap [] := va_S.rf
  have hl : lv_has ls 3 [(0, .ref h_t)] := hl
  rw [f_M_stay] at hF
  refine lv_iconst (v := (0 : Int32)) hx hb dX10_stay_0 (by decide) ?_
  refine lv_istore_n (lv' := [(1, .int (0 : Int32)), (0, .ref h_t)]) hx hb dX10_stay_1 rfl hl (by decide) rfl (fun ls hl => ?_)
  refine lv_iconst (v := (0 : Int32)) hx hb dX10_stay_2 (by decide) ?_
  refine lv_istore_n (lv' := [(2, .int (0 : Int32)), (1, .int (0 : Int32)), (0, .ref h_t)]) hx hb dX10_stay_3 rfl hl (by decide) rfl (fun ls hl => ?_)
  exact wk_M_stay_b4 E h_t h_t_s x_t_kept x_t_before x_t_findings x_t_shown x_t_worths x_t_steps x_t_tape x_t_bits x_t_longs x_t_cells x_t_between c_t_isKept c_t_most c_t_taped c_t_here c_t_fault c_t_value c_t_s  C hP  hK hT  5000 (0 : Int32) (0 : Int32) hF _ (lv_sub hl [2, 1, 0] rfl)
abbrev w_M_forge (E : kE) (h_t : Nat) (h_t_findings : Nat) (h_t_s : Nat) (x_t_kept : Nat) (x_t_before : Nat) (x_t_shown : Nat) (x_t_worths : Nat) (x_t_steps : Nat) (x_t_tape : Nat) (x_t_bits : Nat) (x_t_longs : Nat) (x_t_cells : Nat) (x_t_between : Nat) (c_t_isKept : Int32) (c_t_most : Int32) (c_t_taped : Int32) (c_t_here : Int32) (c_t_fault : Int32) (c_t_value : Int32) (c_t_findings : (Nat → Int32)) (c_t_s : (Nat → Int32)) : va_W := [(h_t, .inr (8, [.ref h_t_s, .ref x_t_kept, .ref x_t_before, .int c_t_isKept, .ref h_t_findings, .ref x_t_shown, .int c_t_most, .ref x_t_worths, .ref x_t_steps, .ref x_t_tape, .int c_t_taped, .int c_t_here, .int c_t_fault, .int c_t_value, .ref x_t_bits, .ref x_t_longs, .ref x_t_cells, .ref x_t_between])), (h_t_findings, .inl (eI E, 7, .inl c_t_findings)), (h_t_s, .inl (eI E, 65, .inl c_t_s))]
set_option maxHeartbeats 4000000 in
set_option maxRecDepth 100000 in
theorem wk_M_forge_b19 {p : Program} {l : Launch} {e : Env} {s : State} {m : MethodId} {args : Array Value} {below : List Frame} {meth : Method} {c : Code} {A : Nat → Prop} (E : kE) (h_t : Nat) (h_t_findings : Nat) (h_t_s : Nat) (x_t_kept : Nat) (x_t_before : Nat) (x_t_shown : Nat) (x_t_worths : Nat) (x_t_steps : Nat) (x_t_tape : Nat) (x_t_bits : Nat) (x_t_longs : Nat) (x_t_cells : Nat) (x_t_between : Nat) (c_t_isKept : Int32) (c_t_most : Int32) (c_t_taped : Int32) (c_t_here : Int32) (c_t_fault : Int32) (c_t_value : Int32) (c_t_s : (Nat → Int32)) (a1 : Int32) (a2 : Int32) {out : Int32 × (Nat → Int32)} (C : kC RX10 cX10_forge 5 (some .int) p s m args meth c) (hA : ∀ q : Nat, s.heap.size ≤ q → A q) (hK : va_K (eD E) vwCl (eT E) s) (hT : sT E A s s.heap)  :
    ∀ (c_t_findings : (Nat → Int32)), f_M_forge_b19  c_t_s a1 a2 c_t_findings = some out → ∀ (H : Heap) (locs : List Loc), va_P (eD E) vwCl (w_M_forge E h_t h_t_findings h_t_s x_t_kept x_t_before x_t_shown x_t_worths x_t_steps x_t_tape x_t_bits x_t_longs x_t_cells x_t_between c_t_isKept c_t_most c_t_taped c_t_here c_t_fault c_t_value c_t_findings c_t_s) H → va_D A (w_M_forge E h_t h_t_findings h_t_s x_t_kept x_t_before x_t_shown x_t_worths x_t_steps x_t_tape x_t_bits x_t_longs x_t_cells x_t_between c_t_isKept c_t_most c_t_taped c_t_here c_t_fault c_t_value c_t_findings c_t_s) → va_S A s.heap H locs → ∀ (ls : Array Slot), lv_has ls 5 [(0, .ref h_t)] → W p l e (rm 4) s m args below meth c H locs 0 0 (MQ below (qW (some (.int out.1)) E (w_M_forge E h_t h_t_findings h_t_s x_t_kept x_t_before x_t_shown x_t_worths x_t_steps x_t_tape x_t_bits x_t_longs x_t_cells x_t_between c_t_isKept c_t_most c_t_taped c_t_here c_t_fault c_t_value out.2 c_t_s) A) args s 0 0 A) (F0 m 19 ls []) := by
  obtain ⟨hx, hb, hr, hml, hown, hw, hlocks⟩ := id C
  intro c_t_findings hF H locs hP hD hS ls hl
  rw [f_M_forge_b19] at hF
  refine lv_aload_n hx hb dX10_forge_19 rfl (lv_at hl 0 rfl) ?_
  refine lv_iconst (v := (0 : Int32)) hx hb dX10_forge_20 (by decide) ?_
  obtain ⟨r1, er1, hF⟩ := kb hF
  refine kWV (rest := []) (Wr := [(h_t_s, .inl (eI E, 65, .inl c_t_s))]) (Wn := (w_M_forge E h_t h_t_findings h_t_s x_t_kept x_t_before x_t_shown x_t_worths x_t_steps x_t_tape x_t_bits x_t_longs x_t_cells x_t_between c_t_isKept c_t_most c_t_taped c_t_here c_t_fault c_t_value r1.2 c_t_s)) C (k_M_no l E h_t h_t_findings h_t_s x_t_kept x_t_before x_t_shown x_t_worths x_t_steps x_t_tape x_t_bits x_t_longs x_t_cells x_t_between H.size c_t_isKept c_t_most c_t_taped c_t_here c_t_fault c_t_value c_t_findings (0 : Int32) r1 er1) fn_M_no mw_964 ⟨Nat.le_of_ble_eq_true rfl, Nat.le_of_ble_eq_true rfl⟩ hK hT hS hA (va_recv hK hP (ci := 8) (q0 := 0) rfl rfl) hP hD [0, 1] rfl (by decide) [2] rfl (by decide) (by decide) [1, 2, 0] rfl (by decide) rfl rfl hl (Nat.le_of_ble_eq_true rfl) dX10_forge_21 (fun H locs hP hD hS => ?_)
  refine W.eq (g2 := F0 m 24 ls [.int r1.1]) rfl ?_
  obtain rfl := Option.some.inj hF
  exact W.iret hx hb hr (fun t ht hW => ⟨⟨rfl, by rw [ht]; exact hP, hD⟩, hS.F ht⟩) hS.2.2 dX10_forge_24
set_option maxHeartbeats 4000000 in
set_option maxRecDepth 100000 in
theorem wk_M_forge_b47 {p : Program} {l : Launch} {e : Env} {s : State} {m : MethodId} {args : Array Value} {below : List Frame} {meth : Method} {c : Code} {A : Nat → Prop} (E : kE) (h_t : Nat) (h_t_findings : Nat) (h_t_s : Nat) (x_t_kept : Nat) (x_t_before : Nat) (x_t_shown : Nat) (x_t_worths : Nat) (x_t_steps : Nat) (x_t_tape : Nat) (x_t_bits : Nat) (x_t_longs : Nat) (x_t_cells : Nat) (x_t_between : Nat) (c_t_isKept : Int32) (c_t_most : Int32) (c_t_taped : Int32) (c_t_here : Int32) (c_t_fault : Int32) (c_t_value : Int32) (c_t_s : (Nat → Int32)) (a1 : Int32) (a2 : Int32) {out : Int32 × (Nat → Int32)} (C : kC RX10 cX10_forge 5 (some .int) p s m args meth c) (hA : ∀ q : Nat, s.heap.size ≤ q → A q) (hK : va_K (eD E) vwCl (eT E) s) (hT : sT E A s s.heap)  :
    ∀ (c_t_findings : (Nat → Int32)), f_M_forge_b47  c_t_s a1 a2 c_t_findings = some out → ∀ (H : Heap) (locs : List Loc), va_P (eD E) vwCl (w_M_forge E h_t h_t_findings h_t_s x_t_kept x_t_before x_t_shown x_t_worths x_t_steps x_t_tape x_t_bits x_t_longs x_t_cells x_t_between c_t_isKept c_t_most c_t_taped c_t_here c_t_fault c_t_value c_t_findings c_t_s) H → va_D A (w_M_forge E h_t h_t_findings h_t_s x_t_kept x_t_before x_t_shown x_t_worths x_t_steps x_t_tape x_t_bits x_t_longs x_t_cells x_t_between c_t_isKept c_t_most c_t_taped c_t_here c_t_fault c_t_value c_t_findings c_t_s) → va_S A s.heap H locs → ∀ (ls : Array Slot), lv_has ls 5 [(0, .ref h_t)] → W p l e (rm 4) s m args below meth c H locs 0 0 (MQ below (qW (some (.int out.1)) E (w_M_forge E h_t h_t_findings h_t_s x_t_kept x_t_before x_t_shown x_t_worths x_t_steps x_t_tape x_t_bits x_t_longs x_t_cells x_t_between c_t_isKept c_t_most c_t_taped c_t_here c_t_fault c_t_value out.2 c_t_s) A) args s 0 0 A) (F0 m 47 ls []) := by
  obtain ⟨hx, hb, hr, hml, hown, hw, hlocks⟩ := id C
  intro c_t_findings hF H locs hP hD hS ls hl
  rw [f_M_forge_b47] at hF
  refine lv_aload_n hx hb dX10_forge_47 rfl (lv_at hl 0 rfl) ?_
  refine lv_iconst (v := (4 : Int32)) hx hb dX10_forge_48 (by decide) ?_
  obtain ⟨r2, er2, hF⟩ := kb hF
  refine kWV (rest := []) (Wr := [(h_t_s, .inl (eI E, 65, .inl c_t_s))]) (Wn := (w_M_forge E h_t h_t_findings h_t_s x_t_kept x_t_before x_t_shown x_t_worths x_t_steps x_t_tape x_t_bits x_t_longs x_t_cells x_t_between c_t_isKept c_t_most c_t_taped c_t_here c_t_fault c_t_value r2.2 c_t_s)) C (k_M_no l E h_t h_t_findings h_t_s x_t_kept x_t_before x_t_shown x_t_worths x_t_steps x_t_tape x_t_bits x_t_longs x_t_cells x_t_between H.size c_t_isKept c_t_most c_t_taped c_t_here c_t_fault c_t_value c_t_findings (4 : Int32) r2 er2) fn_M_no mw_964 ⟨Nat.le_of_ble_eq_true rfl, Nat.le_of_ble_eq_true rfl⟩ hK hT hS hA (va_recv hK hP (ci := 8) (q0 := 0) rfl rfl) hP hD [0, 1] rfl (by decide) [2] rfl (by decide) (by decide) [1, 2, 0] rfl (by decide) rfl rfl hl (Nat.le_of_ble_eq_true rfl) dX10_forge_49 (fun H locs hP hD hS => ?_)
  refine W.eq (g2 := F0 m 52 ls [.int r2.1]) rfl ?_
  obtain rfl := Option.some.inj hF
  exact W.iret hx hb hr (fun t ht hW => ⟨⟨rfl, by rw [ht]; exact hP, hD⟩, hS.F ht⟩) hS.2.2 dX10_forge_52
set_option maxHeartbeats 4000000 in
set_option maxRecDepth 100000 in
theorem wk_M_forge_b59 {p : Program} {l : Launch} {e : Env} {s : State} {m : MethodId} {args : Array Value} {below : List Frame} {meth : Method} {c : Code} {A : Nat → Prop} (E : kE) (h_t : Nat) (h_t_findings : Nat) (h_t_s : Nat) (x_t_kept : Nat) (x_t_before : Nat) (x_t_shown : Nat) (x_t_worths : Nat) (x_t_steps : Nat) (x_t_tape : Nat) (x_t_bits : Nat) (x_t_longs : Nat) (x_t_cells : Nat) (x_t_between : Nat) (c_t_isKept : Int32) (c_t_most : Int32) (c_t_taped : Int32) (c_t_here : Int32) (c_t_fault : Int32) (c_t_value : Int32) (c_t_s : (Nat → Int32)) (a1 : Int32) (a2 : Int32) {out : Int32 × (Nat → Int32)} (C : kC RX10 cX10_forge 5 (some .int) p s m args meth c) (hA : ∀ q : Nat, s.heap.size ≤ q → A q) (hK : va_K (eD E) vwCl (eT E) s) (hT : sT E A s s.heap)  :
    ∀ (n : Nat), ∀ (c_t_findings : (Nat → Int32)) (v3 : Int32) (v4 : Int32), f_M_forge_b59  c_t_s a1 a2 n c_t_findings v3 v4 = some out → ∀ (H : Heap) (locs : List Loc), va_P (eD E) vwCl (w_M_forge E h_t h_t_findings h_t_s x_t_kept x_t_before x_t_shown x_t_worths x_t_steps x_t_tape x_t_bits x_t_longs x_t_cells x_t_between c_t_isKept c_t_most c_t_taped c_t_here c_t_fault c_t_value c_t_findings c_t_s) H → va_D A (w_M_forge E h_t h_t_findings h_t_s x_t_kept x_t_before x_t_shown x_t_worths x_t_steps x_t_tape x_t_bits x_t_longs x_t_cells x_t_between c_t_isKept c_t_most c_t_taped c_t_here c_t_fault c_t_value c_t_findings c_t_s) → va_S A s.heap H locs → ∀ (ls : Array Slot), lv_has ls 5 [(0, .ref h_t), (1, .int a1), (2, .int a2), (3, .int v3), (4, .int v4)] → W p l e (rm 4) s m args below meth c H locs 0 0 (MQ below (qW (some (.int out.1)) E (w_M_forge E h_t h_t_findings h_t_s x_t_kept x_t_before x_t_shown x_t_worths x_t_steps x_t_tape x_t_bits x_t_longs x_t_cells x_t_between c_t_isKept c_t_most c_t_taped c_t_here c_t_fault c_t_value out.2 c_t_s) A) args s 0 0 A) (F0 m 59 ls []) := by
  obtain ⟨hx, hb, hr, hml, hown, hw, hlocks⟩ := id C
  intro n
  induction n with
  | zero =>
    intro c_t_findings v3 v4 hF
    exact absurd (show (none : Option (Int32 × (Nat → Int32))) = some out from hF) nofun
  | succ n ih =>
    intro c_t_findings v3 v4 hF H locs hP hD hS ls hl
    rw [f_M_forge_b59] at hF
    refine lv_iload hx hb dX10_forge_59 (lv_at hl 4 rfl) ?_
    refine lv_sipush (v := (4096 : Int32)) hx hb dX10_forge_61 (by decide) ?_
    refine lv_icmp_ge (tgt := 102) hx hb dX10_forge_64 (by decide) (fun q3 => ?_) (fun q3 => ?_)
    · have hF := kp hF q3
      refine lv_iload_n hx hb dX10_forge_102 rfl (lv_at hl 3 rfl) ?_
      refine lv_bipush (v := (12 : Int32)) hx hb dX10_forge_103 (by decide) ?_
      refine lv_icmp_le (tgt := 116) hx hb dX10_forge_105 (by decide) (fun q4 => ?_) (fun q4 => ?_)
      · have hF := kp hF q4
        refine lv_iload_n hx hb dX10_forge_116 rfl (lv_at hl 3 rfl) ?_
        obtain rfl := Option.some.inj hF
        exact W.iret hx hb hr (fun t ht hW => ⟨⟨rfl, by rw [ht]; exact hP, hD⟩, hS.F ht⟩) hS.2.2 dX10_forge_117
      · have hF := kn hF q4
        refine lv_aload_n hx hb dX10_forge_108 rfl (lv_at hl 0 rfl) ?_
        refine lv_iconst (v := (3 : Int32)) hx hb dX10_forge_109 (by decide) ?_
        obtain ⟨r5, er5, hF⟩ := kb hF
        refine kWV (rest := []) (Wr := [(h_t_s, .inl (eI E, 65, .inl c_t_s))]) (Wn := (w_M_forge E h_t h_t_findings h_t_s x_t_kept x_t_before x_t_shown x_t_worths x_t_steps x_t_tape x_t_bits x_t_longs x_t_cells x_t_between c_t_isKept c_t_most c_t_taped c_t_here c_t_fault c_t_value r5.2 c_t_s)) C (k_M_no l E h_t h_t_findings h_t_s x_t_kept x_t_before x_t_shown x_t_worths x_t_steps x_t_tape x_t_bits x_t_longs x_t_cells x_t_between H.size c_t_isKept c_t_most c_t_taped c_t_here c_t_fault c_t_value c_t_findings (3 : Int32) r5 er5) fn_M_no mw_964 ⟨Nat.le_of_ble_eq_true rfl, Nat.le_of_ble_eq_true rfl⟩ hK hT hS hA (va_recv hK hP (ci := 8) (q0 := 0) rfl rfl) hP hD [0, 1] rfl (by decide) [2] rfl (by decide) (by decide) [1, 2, 0] rfl (by decide) rfl rfl hl (Nat.le_of_ble_eq_true rfl) dX10_forge_110 (fun H locs hP hD hS => ?_)
        refine W.eq (g2 := F0 m 113 ls [.int r5.1]) rfl ?_
        refine lv_goto (tgt := 117) hx hb dX10_forge_113 (by decide) ?_
        obtain rfl := Option.some.inj hF
        exact W.iret hx hb hr (fun t ht hW => ⟨⟨rfl, by rw [ht]; exact hP, hD⟩, hS.F ht⟩) hS.2.2 dX10_forge_117
    · have hF := kn hF q3
      refine lv_aload_n hx hb dX10_forge_67 rfl (lv_at hl 0 rfl) ?_
      refine lv_iload hx hb dX10_forge_68 (lv_at hl 4 rfl) ?_
      refine lv_iload_n hx hb dX10_forge_70 rfl (lv_at hl 1 rfl) ?_
      obtain ⟨r6, er6, hF⟩ := kb hF
      refine kRV (rest := []) C (k_M_apartFrom l E h_t h_t_s x_t_kept x_t_before h_t_findings x_t_shown x_t_worths x_t_steps x_t_tape x_t_bits x_t_longs x_t_cells x_t_between c_t_isKept c_t_most c_t_taped c_t_here c_t_fault c_t_value c_t_s v4 a1 r6 er6) fn_M_apartFrom mw_1053 ⟨Nat.le_of_ble_eq_true rfl, Nat.le_of_ble_eq_true rfl⟩ hK hT hS (va_recv hK hP (ci := 8) (q0 := 0) rfl rfl) hP [0, 2] rfl rfl rfl hl (Nat.le_of_ble_eq_true rfl) dX10_forge_71 ?_
      refine lv_iload_n hx hb dX10_forge_74 rfl (lv_at hl 3 rfl) ?_
      refine lv_icmp_ge (tgt := 96) hx hb dX10_forge_75 (by decide) (fun q7 => ?_) (fun q7 => ?_)
      · have hF := kp hF q7
        refine lv_iinc (v := (v4 + (1))) (lv' := [(4, .int (v4 + (1))), (0, .ref h_t), (1, .int a1), (2, .int a2), (3, .int v3)]) hx hb dX10_forge_96 hl (k := 4) rfl rfl (by decide) rfl (fun ls hl => ?_)
        refine lv_goto (tgt := 59) hx hb dX10_forge_99 (by decide) ?_
        exact ih c_t_findings v3 (v4 + (1)) hF _ _ hP hD hS _ (lv_sub hl [1, 2, 3, 4, 0] rfl)
      · have hF := kn hF q7
        refine lv_aload_n hx hb dX10_forge_78 rfl (lv_at hl 0 rfl) ?_
        refine lv_iload hx hb dX10_forge_79 (lv_at hl 4 rfl) ?_
        obtain ⟨r8, er8, hF⟩ := kb hF
        refine kRV (rest := []) C (k_M_readAs l E h_t h_t_s x_t_kept x_t_before h_t_findings x_t_shown x_t_worths x_t_steps x_t_tape x_t_bits x_t_longs x_t_cells x_t_between c_t_isKept c_t_most c_t_taped c_t_here c_t_fault c_t_value c_t_s v4 r8 er8) fn_M_readAs mw_1049 ⟨Nat.le_of_ble_eq_true rfl, Nat.le_of_ble_eq_true rfl⟩ hK hT hS (va_recv hK hP (ci := 8) (q0 := 0) rfl rfl) hP [0, 2] rfl rfl rfl hl (Nat.le_of_ble_eq_true rfl) dX10_forge_81 ?_
        refine lv_iload_n hx hb dX10_forge_84 rfl (lv_at hl 2 rfl) ?_
        refine lv_icmp_ne (tgt := 96) hx hb dX10_forge_85 (by decide) (fun q9 => ?_) (fun q9 => ?_)
        · have hF := kn hF q9
          refine lv_iinc (v := (v4 + (1))) (lv' := [(4, .int (v4 + (1))), (0, .ref h_t), (1, .int a1), (2, .int a2), (3, .int v3)]) hx hb dX10_forge_96 hl (k := 4) rfl rfl (by decide) rfl (fun ls hl => ?_)
          refine lv_goto (tgt := 59) hx hb dX10_forge_99 (by decide) ?_
          exact ih c_t_findings v3 (v4 + (1)) hF _ _ hP hD hS _ (lv_sub hl [1, 2, 3, 4, 0] rfl)
        · have hF := kp hF q9
          refine lv_aload_n hx hb dX10_forge_88 rfl (lv_at hl 0 rfl) ?_
          refine lv_iload hx hb dX10_forge_89 (lv_at hl 4 rfl) ?_
          refine lv_iload_n hx hb dX10_forge_91 rfl (lv_at hl 1 rfl) ?_
          obtain ⟨r10, er10, hF⟩ := kb hF
          refine kRV (rest := []) C (k_M_apartFrom l E h_t h_t_s x_t_kept x_t_before h_t_findings x_t_shown x_t_worths x_t_steps x_t_tape x_t_bits x_t_longs x_t_cells x_t_between c_t_isKept c_t_most c_t_taped c_t_here c_t_fault c_t_value c_t_s v4 a1 r10 er10) fn_M_apartFrom mw_1053 ⟨Nat.le_of_ble_eq_true rfl, Nat.le_of_ble_eq_true rfl⟩ hK hT hS (va_recv hK hP (ci := 8) (q0 := 0) rfl rfl) hP [0, 2] rfl rfl rfl hl (Nat.le_of_ble_eq_true rfl) dX10_forge_92 ?_
          refine lv_istore_n (lv' := [(3, .int r10), (0, .ref h_t), (1, .int a1), (2, .int a2), (4, .int v4)]) hx hb dX10_forge_95 rfl hl (by decide) rfl (fun ls hl => ?_)
          refine lv_iinc (v := (v4 + (1))) (lv' := [(4, .int (v4 + (1))), (3, .int r10), (0, .ref h_t), (1, .int a1), (2, .int a2)]) hx hb dX10_forge_96 hl (k := 4) rfl rfl (by decide) rfl (fun ls hl => ?_)
          refine lv_goto (tgt := 59) hx hb dX10_forge_99 (by decide) ?_
          exact ih c_t_findings r10 (v4 + (1)) hF _ _ hP hD hS _ (lv_sub hl [2, 3, 4, 1, 0] rfl)
set_option maxHeartbeats 4000000 in
set_option maxRecDepth 100000 in
theorem k_M_forge (l : Launch) (E : kE) (h_t : Nat) (h_t_findings : Nat) (h_t_s : Nat) (x_t_kept : Nat) (x_t_before : Nat) (x_t_shown : Nat) (x_t_worths : Nat) (x_t_steps : Nat) (x_t_tape : Nat) (x_t_bits : Nat) (x_t_longs : Nat) (x_t_cells : Nat) (x_t_between : Nat) (sz : Nat) (c_t_isKept : Int32) (c_t_most : Int32) (c_t_taped : Int32) (c_t_here : Int32) (c_t_fault : Int32) (c_t_value : Int32) (c_t_findings : (Nat → Int32)) (c_t_s : (Nat → Int32)) (a1 : Int32) (a2 : Int32) (out : Int32 × (Nat → Int32)) (hF : f_M_forge c_t_findings c_t_s a1 a2 = some out) : Met l yX10_forge (Cond.code yX10_forge cX10_forge 5 (some .int) :: wG) (rm 4) (pW E (w_M_forge E h_t h_t_findings h_t_s x_t_kept x_t_before x_t_shown x_t_worths x_t_steps x_t_tape x_t_bits x_t_longs x_t_cells x_t_between c_t_isKept c_t_most c_t_taped c_t_here c_t_fault c_t_value c_t_findings c_t_s) sz [.ref h_t, .int a1, .int a2]) (qW (some (.int out.1)) E (w_M_forge E h_t h_t_findings h_t_s x_t_kept x_t_before x_t_shown x_t_worths x_t_steps x_t_tape x_t_bits x_t_longs x_t_cells x_t_between c_t_isKept c_t_most c_t_taped c_t_here c_t_fault c_t_value out.2 c_t_s) (va_A (w_M_forge E h_t h_t_findings h_t_s x_t_kept x_t_before x_t_shown x_t_worths x_t_steps x_t_tape x_t_bits x_t_longs x_t_cells x_t_between c_t_isKept c_t_most c_t_taped c_t_here c_t_fault c_t_value c_t_findings c_t_s) sz)) 0 0 (va_A (w_M_forge E h_t h_t_findings h_t_s x_t_kept x_t_before x_t_shown x_t_worths x_t_steps x_t_tape x_t_bits x_t_longs x_t_cells x_t_between c_t_isKept c_t_most c_t_taped c_t_here c_t_fault c_t_value c_t_findings c_t_s) sz) := by
  refine met_W (by decide) (Nat.le_of_ble_eq_true rfl) ?_
  intro p e s m args below meth c A ls C hP hD hS hA hK hT hl
  obtain ⟨hx, hb, hr, hml, hown, hw, hlocks⟩ := id C
  have hl : lv_has ls 5 [(0, .ref h_t), (1, .int a1), (2, .int a2)] := hl
  rw [f_M_forge] at hF
  refine lv_iload_n hx hb dX10_forge_0 rfl (lv_at hl 1 rfl) ?_
  obtain ⟨r11, er11, hF⟩ := kb hF
  refine kRS (rest := []) C (k_M_isSign l E a1 r11 er11) fn_M_isSign mw_1034 ⟨Nat.le_of_ble_eq_true rfl, Nat.le_of_ble_eq_true rfl⟩ hK hT hS hP [] rfl rfl rfl hl (Nat.le_of_ble_eq_true rfl) dX10_forge_1 ?_
  refine lv_if_eq (tgt := 19) hx hb dX10_forge_4 (by decide) (fun q12 => ?_) (fun q12 => ?_)
  · have hF := kp hF q12
    exact wk_M_forge_b19 E h_t h_t_findings h_t_s x_t_kept x_t_before x_t_shown x_t_worths x_t_steps x_t_tape x_t_bits x_t_longs x_t_cells x_t_between c_t_isKept c_t_most c_t_taped c_t_here c_t_fault c_t_value c_t_s a1 a2 C hA  hK hT  c_t_findings hF _ _ hP hD hS _ (lv_sub hl [0] rfl)
  · have hF := kn hF q12
    refine lv_iload_n hx hb dX10_forge_7 rfl (lv_at hl 2 rfl) ?_
    obtain ⟨r13, er13, hF⟩ := kb hF
    refine kRS (rest := []) C (k_M_isSign l E a2 r13 er13) fn_M_isSign mw_1034 ⟨Nat.le_of_ble_eq_true rfl, Nat.le_of_ble_eq_true rfl⟩ hK hT hS hP [] rfl rfl rfl hl (Nat.le_of_ble_eq_true rfl) dX10_forge_8 ?_
    refine lv_if_eq (tgt := 19) hx hb dX10_forge_11 (by decide) (fun q14 => ?_) (fun q14 => ?_)
    · have hF := kp hF q14
      exact wk_M_forge_b19 E h_t h_t_findings h_t_s x_t_kept x_t_before x_t_shown x_t_worths x_t_steps x_t_tape x_t_bits x_t_longs x_t_cells x_t_between c_t_isKept c_t_most c_t_taped c_t_here c_t_fault c_t_value c_t_s a1 a2 C hA  hK hT  c_t_findings hF _ _ hP hD hS _ (lv_sub hl [0] rfl)
    · have hF := kn hF q14
      refine lv_iload_n hx hb dX10_forge_14 rfl (lv_at hl 1 rfl) ?_
      refine lv_iload_n hx hb dX10_forge_15 rfl (lv_at hl 2 rfl) ?_
      refine lv_icmp_ne (tgt := 25) hx hb dX10_forge_16 (by decide) (fun q15 => ?_) (fun q15 => ?_)
      · have hF := kn hF q15
        refine lv_aload_n hx hb dX10_forge_25 rfl (lv_at hl 0 rfl) ?_
        refine va_get (D := eD E) (ci := 8) (C := RX10) (T := TX10) (N := 18) (v := .ref h_t_s) hx hb hw inX10 hown hK hP 0 rfl rfl 0 (by decide) (hw _ mw_881) (fun _ h9 => h9) rfl dX10_forge_26 ?_
        refine lv_iconst (v := (3 : Int32)) hx hb dX10_forge_29 (by decide) ?_
        refine lv_iload_n hx hb dX10_forge_30 rfl (lv_at hl 1 rfl) ?_
        refine lv_iadd hx hb dX10_forge_31 ?_
        obtain ⟨r16, er16, hF⟩ := kb hF
        refine wa_iald hx hb hK hP 2 0 rfl rfl er16 dX10_forge_32 ?_
        refine lv_if_eq (tgt := 47) hx hb dX10_forge_33 (by decide) (fun q17 => ?_) (fun q17 => ?_)
        · have hF := kp hF q17
          exact wk_M_forge_b47 E h_t h_t_findings h_t_s x_t_kept x_t_before x_t_shown x_t_worths x_t_steps x_t_tape x_t_bits x_t_longs x_t_cells x_t_between c_t_isKept c_t_most c_t_taped c_t_here c_t_fault c_t_value c_t_s a1 a2 C hA  hK hT  c_t_findings hF _ _ hP hD hS _ (lv_sub hl [0] rfl)
        · have hF := kn hF q17
          refine lv_aload_n hx hb dX10_forge_36 rfl (lv_at hl 0 rfl) ?_
          refine va_get (D := eD E) (ci := 8) (C := RX10) (T := TX10) (N := 18) (v := .ref h_t_s) hx hb hw inX10 hown hK hP 0 rfl rfl 0 (by decide) (hw _ mw_881) (fun _ h9 => h9) rfl dX10_forge_37 ?_
          refine lv_iconst (v := (3 : Int32)) hx hb dX10_forge_40 (by decide) ?_
          refine lv_iload_n hx hb dX10_forge_41 rfl (lv_at hl 2 rfl) ?_
          refine lv_iadd hx hb dX10_forge_42 ?_
          obtain ⟨r18, er18, hF⟩ := kb hF
          refine wa_iald hx hb hK hP 2 0 rfl rfl er18 dX10_forge_43 ?_
          refine lv_if_ne (tgt := 53) hx hb dX10_forge_44 (by decide) (fun q19 => ?_) (fun q19 => ?_)
          · have hF := kn hF q19
            refine lv_bipush (v := (13 : Int32)) hx hb dX10_forge_53 (by decide) ?_
            refine lv_istore_n (lv' := [(3, .int (13 : Int32)), (0, .ref h_t), (1, .int a1), (2, .int a2)]) hx hb dX10_forge_55 rfl hl (by decide) rfl (fun ls hl => ?_)
            refine lv_iconst (v := (0 : Int32)) hx hb dX10_forge_56 (by decide) ?_
            refine lv_istore (lv' := [(4, .int (0 : Int32)), (3, .int (13 : Int32)), (0, .ref h_t), (1, .int a1), (2, .int a2)]) hx hb dX10_forge_57 hl (by decide) rfl (fun ls hl => ?_)
            exact wk_M_forge_b59 E h_t h_t_findings h_t_s x_t_kept x_t_before x_t_shown x_t_worths x_t_steps x_t_tape x_t_bits x_t_longs x_t_cells x_t_between c_t_isKept c_t_most c_t_taped c_t_here c_t_fault c_t_value c_t_s a1 a2 C hA  hK hT  5000 c_t_findings (13 : Int32) (0 : Int32) hF _ _ hP hD hS _ (lv_sub hl [2, 3, 4, 1, 0] rfl)
          · have hF := kp hF q19
            exact wk_M_forge_b47 E h_t h_t_findings h_t_s x_t_kept x_t_before x_t_shown x_t_worths x_t_steps x_t_tape x_t_bits x_t_longs x_t_cells x_t_between c_t_isKept c_t_most c_t_taped c_t_here c_t_fault c_t_value c_t_s a1 a2 C hA  hK hT  c_t_findings hF _ _ hP hD hS _ (lv_sub hl [0] rfl)
      · have hF := kp hF q15
        exact wk_M_forge_b19 E h_t h_t_findings h_t_s x_t_kept x_t_before x_t_shown x_t_worths x_t_steps x_t_tape x_t_bits x_t_longs x_t_cells x_t_between c_t_isKept c_t_most c_t_taped c_t_here c_t_fault c_t_value c_t_s a1 a2 C hA  hK hT  c_t_findings hF _ _ hP hD hS _ (lv_sub hl [0] rfl)
abbrev w_M_adds (E : kE) (h_t : Nat) (h_t_s : Nat) (x_t_kept : Nat) (x_t_before : Nat) (x_t_findings : Nat) (x_t_shown : Nat) (x_t_worths : Nat) (x_t_steps : Nat) (x_t_tape : Nat) (x_t_bits : Nat) (x_t_longs : Nat) (x_t_cells : Nat) (x_t_between : Nat) (c_t_isKept : Int32) (c_t_most : Int32) (c_t_taped : Int32) (c_t_here : Int32) (c_t_fault : Int32) (c_t_value : Int32) (c_t_s : (Nat → Int32)) : va_W := [(h_t, .inr (8, [.ref h_t_s, .ref x_t_kept, .ref x_t_before, .int c_t_isKept, .ref x_t_findings, .ref x_t_shown, .int c_t_most, .ref x_t_worths, .ref x_t_steps, .ref x_t_tape, .int c_t_taped, .int c_t_here, .int c_t_fault, .int c_t_value, .ref x_t_bits, .ref x_t_longs, .ref x_t_cells, .ref x_t_between])), (h_t_s, .inl (eI E, 65, .inl c_t_s))]
set_option maxHeartbeats 4000000 in
set_option maxRecDepth 100000 in
theorem k_M_adds (l : Launch) (E : kE) (h_t : Nat) (h_t_s : Nat) (x_t_kept : Nat) (x_t_before : Nat) (x_t_findings : Nat) (x_t_shown : Nat) (x_t_worths : Nat) (x_t_steps : Nat) (x_t_tape : Nat) (x_t_bits : Nat) (x_t_longs : Nat) (x_t_cells : Nat) (x_t_between : Nat) (sz : Nat) (c_t_isKept : Int32) (c_t_most : Int32) (c_t_taped : Int32) (c_t_here : Int32) (c_t_fault : Int32) (c_t_value : Int32) (c_t_s : (Nat → Int32)) (a1 : Int32) (a2 : Int32) (a3 : Int32) (out : (Nat → Int32)) (hF : f_M_adds c_t_s a1 a2 a3 = some out) : Met l yX10_adds (Cond.code yX10_adds cX10_adds 5 none :: wG) (rm 2) (pW E (w_M_adds E h_t h_t_s x_t_kept x_t_before x_t_findings x_t_shown x_t_worths x_t_steps x_t_tape x_t_bits x_t_longs x_t_cells x_t_between c_t_isKept c_t_most c_t_taped c_t_here c_t_fault c_t_value c_t_s) sz [.ref h_t, .int a1, .int a2, .int a3]) (qW none E (w_M_adds E h_t h_t_s x_t_kept x_t_before x_t_findings x_t_shown x_t_worths x_t_steps x_t_tape x_t_bits x_t_longs x_t_cells x_t_between c_t_isKept c_t_most c_t_taped c_t_here c_t_fault c_t_value out) (va_A (w_M_adds E h_t h_t_s x_t_kept x_t_before x_t_findings x_t_shown x_t_worths x_t_steps x_t_tape x_t_bits x_t_longs x_t_cells x_t_between c_t_isKept c_t_most c_t_taped c_t_here c_t_fault c_t_value c_t_s) sz)) 0 0 (va_A (w_M_adds E h_t h_t_s x_t_kept x_t_before x_t_findings x_t_shown x_t_worths x_t_steps x_t_tape x_t_bits x_t_longs x_t_cells x_t_between c_t_isKept c_t_most c_t_taped c_t_here c_t_fault c_t_value c_t_s) sz) := by
  refine met_W (by decide) (Nat.le_of_ble_eq_true rfl) ?_
  intro p e s m args below meth c A ls C hP hD hS hA hK hT hl
  obtain ⟨hx, hb, hr, hml, hown, hw, hlocks⟩ := id C
  have hl : lv_has ls 5 [(0, .ref h_t), (1, .int a1), (2, .int a2), (3, .int a3)] := hl
  rw [f_M_adds] at hF
  refine lv_aload_n hx hb dX10_adds_0 rfl (lv_at hl 0 rfl) ?_
  refine va_get (D := eD E) (ci := 8) (C := RX10) (T := TX10) (N := 18) (v := .ref h_t_s) hx hb hw inX10 hown hK hP 0 rfl rfl 0 (by decide) (hw _ mw_881) (fun _ h9 => h9) rfl dX10_adds_1 ?_
  refine lv_iconst (v := (2 : Int32)) hx hb dX10_adds_4 (by decide) ?_
  obtain ⟨r1, er1, hF⟩ := kb hF
  refine wa_iald hx hb hK hP 1 0 rfl rfl er1 dX10_adds_5 ?_
  refine lv_istore (lv' := [(4, .int r1), (0, .ref h_t), (1, .int a1), (2, .int a2), (3, .int a3)]) hx hb dX10_adds_6 hl (by decide) rfl (fun ls hl => ?_)
  refine lv_aload_n hx hb dX10_adds_8 rfl (lv_at hl 1 rfl) ?_
  refine va_get (D := eD E) (ci := 8) (C := RX10) (T := TX10) (N := 18) (v := .ref h_t_s) hx hb hw inX10 hown hK hP 0 rfl rfl 0 (by decide) (hw _ mw_881) (fun _ h9 => h9) rfl dX10_adds_9 ?_
  refine lv_aload_n hx hb dX10_adds_12 rfl (lv_at hl 1 rfl) ?_
  refine lv_iload hx hb dX10_adds_13 (lv_at hl 0 rfl) ?_
  refine lv_iconst (v := (0 : Int32)) hx hb dX10_adds_15 (by decide) ?_
  obtain ⟨r2, er2, hF⟩ := kb hF
  refine kRV (rest := [.ref h_t_s]) C (k_M_at l E h_t h_t_s x_t_kept x_t_before x_t_findings x_t_shown x_t_worths x_t_steps x_t_tape x_t_bits x_t_longs x_t_cells x_t_between c_t_isKept c_t_most c_t_taped c_t_here c_t_fault c_t_value r1 (0 : Int32) r2 er2) fn_M_at mw_1084 ⟨Nat.le_of_ble_eq_true rfl, Nat.le_of_ble_eq_true rfl⟩ hK hT hS (va_recv hK hP (ci := 8) (q0 := 0) rfl rfl) hP [0] rfl rfl rfl hl (Nat.le_of_ble_eq_true rfl) dX10_adds_16 ?_
  refine lv_iload_n hx hb dX10_adds_19 rfl (lv_at hl 2 rfl) ?_
  obtain ⟨r3, er3, hF⟩ := kb hF
  refine wa_iast hx hb hK hP hD hS 1 0 rfl rfl er3 dX10_adds_20 (fun H locs hP hD hS => ?_)
  have hP : va_P (eD E) vwCl (w_M_adds E h_t h_t_s x_t_kept x_t_before x_t_findings x_t_shown x_t_worths x_t_steps x_t_tape x_t_bits x_t_longs x_t_cells x_t_between c_t_isKept c_t_most c_t_taped c_t_here c_t_fault c_t_value r3) H := hP
  have hD : va_D A (w_M_adds E h_t h_t_s x_t_kept x_t_before x_t_findings x_t_shown x_t_worths x_t_steps x_t_tape x_t_bits x_t_longs x_t_cells x_t_between c_t_isKept c_t_most c_t_taped c_t_here c_t_fault c_t_value r3) := hD
  refine lv_aload_n hx hb dX10_adds_21 rfl (lv_at hl 1 rfl) ?_
  refine va_get (D := eD E) (ci := 8) (C := RX10) (T := TX10) (N := 18) (v := .ref h_t_s) hx hb hw inX10 hown hK hP 0 rfl rfl 0 (by decide) (hw _ mw_881) (fun _ h9 => h9) rfl dX10_adds_22 ?_
  refine lv_aload_n hx hb dX10_adds_25 rfl (lv_at hl 1 rfl) ?_
  refine lv_iload hx hb dX10_adds_26 (lv_at hl 0 rfl) ?_
  refine lv_iconst (v := (1 : Int32)) hx hb dX10_adds_28 (by decide) ?_
  obtain ⟨r4, er4, hF⟩ := kb hF
  refine kRV (rest := [.ref h_t_s]) C (k_M_at l E h_t h_t_s x_t_kept x_t_before x_t_findings x_t_shown x_t_worths x_t_steps x_t_tape x_t_bits x_t_longs x_t_cells x_t_between c_t_isKept c_t_most c_t_taped c_t_here c_t_fault c_t_value r1 (1 : Int32) r4 er4) fn_M_at mw_1084 ⟨Nat.le_of_ble_eq_true rfl, Nat.le_of_ble_eq_true rfl⟩ hK hT hS (va_recv hK hP (ci := 8) (q0 := 0) rfl rfl) hP [0] rfl rfl rfl hl (Nat.le_of_ble_eq_true rfl) dX10_adds_29 ?_
  refine lv_iload_n hx hb dX10_adds_32 rfl (lv_at hl 3 rfl) ?_
  obtain ⟨r5, er5, hF⟩ := kb hF
  refine wa_iast hx hb hK hP hD hS 1 0 rfl rfl er5 dX10_adds_33 (fun H locs hP hD hS => ?_)
  have hP : va_P (eD E) vwCl (w_M_adds E h_t h_t_s x_t_kept x_t_before x_t_findings x_t_shown x_t_worths x_t_steps x_t_tape x_t_bits x_t_longs x_t_cells x_t_between c_t_isKept c_t_most c_t_taped c_t_here c_t_fault c_t_value r5) H := hP
  have hD : va_D A (w_M_adds E h_t h_t_s x_t_kept x_t_before x_t_findings x_t_shown x_t_worths x_t_steps x_t_tape x_t_bits x_t_longs x_t_cells x_t_between c_t_isKept c_t_most c_t_taped c_t_here c_t_fault c_t_value r5) := hD
  refine lv_aload_n hx hb dX10_adds_34 rfl (lv_at hl 1 rfl) ?_
  refine va_get (D := eD E) (ci := 8) (C := RX10) (T := TX10) (N := 18) (v := .ref h_t_s) hx hb hw inX10 hown hK hP 0 rfl rfl 0 (by decide) (hw _ mw_881) (fun _ h9 => h9) rfl dX10_adds_35 ?_
  refine lv_aload_n hx hb dX10_adds_38 rfl (lv_at hl 1 rfl) ?_
  refine lv_iload hx hb dX10_adds_39 (lv_at hl 0 rfl) ?_
  refine lv_iconst (v := (2 : Int32)) hx hb dX10_adds_41 (by decide) ?_
  obtain ⟨r6, er6, hF⟩ := kb hF
  refine kRV (rest := [.ref h_t_s]) C (k_M_at l E h_t h_t_s x_t_kept x_t_before x_t_findings x_t_shown x_t_worths x_t_steps x_t_tape x_t_bits x_t_longs x_t_cells x_t_between c_t_isKept c_t_most c_t_taped c_t_here c_t_fault c_t_value r1 (2 : Int32) r6 er6) fn_M_at mw_1084 ⟨Nat.le_of_ble_eq_true rfl, Nat.le_of_ble_eq_true rfl⟩ hK hT hS (va_recv hK hP (ci := 8) (q0 := 0) rfl rfl) hP [0] rfl rfl rfl hl (Nat.le_of_ble_eq_true rfl) dX10_adds_42 ?_
  refine lv_iload_n hx hb dX10_adds_45 rfl (lv_at hl 4 rfl) ?_
  obtain ⟨r7, er7, hF⟩ := kb hF
  refine wa_iast hx hb hK hP hD hS 1 0 rfl rfl er7 dX10_adds_46 (fun H locs hP hD hS => ?_)
  have hP : va_P (eD E) vwCl (w_M_adds E h_t h_t_s x_t_kept x_t_before x_t_findings x_t_shown x_t_worths x_t_steps x_t_tape x_t_bits x_t_longs x_t_cells x_t_between c_t_isKept c_t_most c_t_taped c_t_here c_t_fault c_t_value r7) H := hP
  have hD : va_D A (w_M_adds E h_t h_t_s x_t_kept x_t_before x_t_findings x_t_shown x_t_worths x_t_steps x_t_tape x_t_bits x_t_longs x_t_cells x_t_between c_t_isKept c_t_most c_t_taped c_t_here c_t_fault c_t_value r7) := hD
  refine lv_aload_n hx hb dX10_adds_47 rfl (lv_at hl 1 rfl) ?_
  refine va_get (D := eD E) (ci := 8) (C := RX10) (T := TX10) (N := 18) (v := .ref h_t_s) hx hb hw inX10 hown hK hP 0 rfl rfl 0 (by decide) (hw _ mw_881) (fun _ h9 => h9) rfl dX10_adds_48 ?_
  refine lv_iconst (v := (2 : Int32)) hx hb dX10_adds_51 (by decide) ?_
  refine lv_dup2_11 hx hb dX10_adds_52 rfl rfl ?_
  obtain ⟨r8, er8, hF⟩ := kb hF
  refine wa_iald hx hb hK hP 1 0 rfl rfl er8 dX10_adds_53 ?_
  refine lv_iconst (v := (1 : Int32)) hx hb dX10_adds_54 (by decide) ?_
  refine lv_iadd hx hb dX10_adds_55 ?_
  obtain ⟨r9, er9, hF⟩ := kb hF
  refine wa_iast hx hb hK hP hD hS 1 0 rfl rfl er9 dX10_adds_56 (fun H locs hP hD hS => ?_)
  have hP : va_P (eD E) vwCl (w_M_adds E h_t h_t_s x_t_kept x_t_before x_t_findings x_t_shown x_t_worths x_t_steps x_t_tape x_t_bits x_t_longs x_t_cells x_t_between c_t_isKept c_t_most c_t_taped c_t_here c_t_fault c_t_value r9) H := hP
  have hD : va_D A (w_M_adds E h_t h_t_s x_t_kept x_t_before x_t_findings x_t_shown x_t_worths x_t_steps x_t_tape x_t_bits x_t_longs x_t_cells x_t_between c_t_isKept c_t_most c_t_taped c_t_here c_t_fault c_t_value r9) := hD
  obtain rfl := Option.some.inj hF
  exact W.vret hx hb hr (fun t ht hW => ⟨⟨rfl, by rw [ht]; exact hP, hD⟩, hS.F ht⟩) hS.2.2 dX10_adds_57
abbrev w_M_letter (E : kE) (h_t : Nat) (h_t_findings : Nat) (h_t_s : Nat) (x_t_kept : Nat) (x_t_before : Nat) (x_t_shown : Nat) (x_t_worths : Nat) (x_t_steps : Nat) (x_t_tape : Nat) (x_t_bits : Nat) (x_t_longs : Nat) (x_t_cells : Nat) (x_t_between : Nat) (c_t_isKept : Int32) (c_t_most : Int32) (c_t_taped : Int32) (c_t_here : Int32) (c_t_fault : Int32) (c_t_value : Int32) (c_t_findings : (Nat → Int32)) (c_t_s : (Nat → Int32)) : va_W := [(h_t, .inr (8, [.ref h_t_s, .ref x_t_kept, .ref x_t_before, .int c_t_isKept, .ref h_t_findings, .ref x_t_shown, .int c_t_most, .ref x_t_worths, .ref x_t_steps, .ref x_t_tape, .int c_t_taped, .int c_t_here, .int c_t_fault, .int c_t_value, .ref x_t_bits, .ref x_t_longs, .ref x_t_cells, .ref x_t_between])), (h_t_findings, .inl (eI E, 7, .inl c_t_findings)), (h_t_s, .inl (eI E, 65, .inl c_t_s))]
set_option maxHeartbeats 4000000 in
set_option maxRecDepth 100000 in
theorem wk_M_letter_b14 {p : Program} {l : Launch} {e : Env} {s : State} {m : MethodId} {args : Array Value} {below : List Frame} {meth : Method} {c : Code} {A : Nat → Prop} (E : kE) (h_t : Nat) (h_t_findings : Nat) (h_t_s : Nat) (x_t_kept : Nat) (x_t_before : Nat) (x_t_shown : Nat) (x_t_worths : Nat) (x_t_steps : Nat) (x_t_tape : Nat) (x_t_bits : Nat) (x_t_longs : Nat) (x_t_cells : Nat) (x_t_between : Nat) (c_t_isKept : Int32) (c_t_most : Int32) (c_t_taped : Int32) (c_t_here : Int32) (c_t_fault : Int32) (c_t_value : Int32) (a1 : Int32) (a2 : Int32) {out : Int32 × (Nat → Int32) × (Nat → Int32)} (C : kC RX10 cX10_letter 3 (some .int) p s m args meth c) (hA : ∀ q : Nat, s.heap.size ≤ q → A q) (hK : va_K (eD E) vwCl (eT E) s) (hT : sT E A s s.heap)  :
    ∀ (c_t_findings : (Nat → Int32)) (c_t_s : (Nat → Int32)), f_M_letter_b14  a1 a2 c_t_findings c_t_s = some out → ∀ (H : Heap) (locs : List Loc), va_P (eD E) vwCl (w_M_letter E h_t h_t_findings h_t_s x_t_kept x_t_before x_t_shown x_t_worths x_t_steps x_t_tape x_t_bits x_t_longs x_t_cells x_t_between c_t_isKept c_t_most c_t_taped c_t_here c_t_fault c_t_value c_t_findings c_t_s) H → va_D A (w_M_letter E h_t h_t_findings h_t_s x_t_kept x_t_before x_t_shown x_t_worths x_t_steps x_t_tape x_t_bits x_t_longs x_t_cells x_t_between c_t_isKept c_t_most c_t_taped c_t_here c_t_fault c_t_value c_t_findings c_t_s) → va_S A s.heap H locs → ∀ (ls : Array Slot), lv_has ls 3 [(0, .ref h_t)] → W p l e (rm 3) s m args below meth c H locs 0 0 (MQ below (qW (some (.int out.1)) E (w_M_letter E h_t h_t_findings h_t_s x_t_kept x_t_before x_t_shown x_t_worths x_t_steps x_t_tape x_t_bits x_t_longs x_t_cells x_t_between c_t_isKept c_t_most c_t_taped c_t_here c_t_fault c_t_value out.2.1 out.2.2) A) args s 0 0 A) (F0 m 14 ls []) := by
  obtain ⟨hx, hb, hr, hml, hown, hw, hlocks⟩ := id C
  intro c_t_findings c_t_s hF H locs hP hD hS ls hl
  rw [f_M_letter_b14] at hF
  refine lv_aload_n hx hb dX10_letter_14 rfl (lv_at hl 0 rfl) ?_
  refine lv_iconst (v := (0 : Int32)) hx hb dX10_letter_15 (by decide) ?_
  obtain ⟨r1, er1, hF⟩ := kb hF
  refine kWV (rest := []) (Wr := [(h_t_s, .inl (eI E, 65, .inl c_t_s))]) (Wn := (w_M_letter E h_t h_t_findings h_t_s x_t_kept x_t_before x_t_shown x_t_worths x_t_steps x_t_tape x_t_bits x_t_longs x_t_cells x_t_between c_t_isKept c_t_most c_t_taped c_t_here c_t_fault c_t_value r1.2 c_t_s)) C (k_M_no l E h_t h_t_findings h_t_s x_t_kept x_t_before x_t_shown x_t_worths x_t_steps x_t_tape x_t_bits x_t_longs x_t_cells x_t_between H.size c_t_isKept c_t_most c_t_taped c_t_here c_t_fault c_t_value c_t_findings (0 : Int32) r1 er1) fn_M_no mw_964 ⟨Nat.le_of_ble_eq_true rfl, Nat.le_of_ble_eq_true rfl⟩ hK hT hS hA (va_recv hK hP (ci := 8) (q0 := 0) rfl rfl) hP hD [0, 1] rfl (by decide) [2] rfl (by decide) (by decide) [1, 2, 0] rfl (by decide) rfl rfl hl (Nat.le_of_ble_eq_true rfl) dX10_letter_16 (fun H locs hP hD hS => ?_)
  refine W.eq (g2 := F0 m 19 ls [.int r1.1]) rfl ?_
  obtain rfl := Option.some.inj hF
  exact W.iret hx hb hr (fun t ht hW => ⟨⟨rfl, by rw [ht]; exact hP, hD⟩, hS.F ht⟩) hS.2.2 dX10_letter_19
set_option maxHeartbeats 4000000 in
set_option maxRecDepth 100000 in
theorem k_M_letter (l : Launch) (E : kE) (h_t : Nat) (h_t_findings : Nat) (h_t_s : Nat) (x_t_kept : Nat) (x_t_before : Nat) (x_t_shown : Nat) (x_t_worths : Nat) (x_t_steps : Nat) (x_t_tape : Nat) (x_t_bits : Nat) (x_t_longs : Nat) (x_t_cells : Nat) (x_t_between : Nat) (sz : Nat) (c_t_isKept : Int32) (c_t_most : Int32) (c_t_taped : Int32) (c_t_here : Int32) (c_t_fault : Int32) (c_t_value : Int32) (c_t_findings : (Nat → Int32)) (c_t_s : (Nat → Int32)) (a1 : Int32) (a2 : Int32) (out : Int32 × (Nat → Int32) × (Nat → Int32)) (hF : f_M_letter c_t_findings c_t_s a1 a2 = some out) : Met l yX10_letter (Cond.code yX10_letter cX10_letter 3 (some .int) :: wG) (rm 3) (pW E (w_M_letter E h_t h_t_findings h_t_s x_t_kept x_t_before x_t_shown x_t_worths x_t_steps x_t_tape x_t_bits x_t_longs x_t_cells x_t_between c_t_isKept c_t_most c_t_taped c_t_here c_t_fault c_t_value c_t_findings c_t_s) sz [.ref h_t, .int a1, .int a2]) (qW (some (.int out.1)) E (w_M_letter E h_t h_t_findings h_t_s x_t_kept x_t_before x_t_shown x_t_worths x_t_steps x_t_tape x_t_bits x_t_longs x_t_cells x_t_between c_t_isKept c_t_most c_t_taped c_t_here c_t_fault c_t_value out.2.1 out.2.2) (va_A (w_M_letter E h_t h_t_findings h_t_s x_t_kept x_t_before x_t_shown x_t_worths x_t_steps x_t_tape x_t_bits x_t_longs x_t_cells x_t_between c_t_isKept c_t_most c_t_taped c_t_here c_t_fault c_t_value c_t_findings c_t_s) sz)) 0 0 (va_A (w_M_letter E h_t h_t_findings h_t_s x_t_kept x_t_before x_t_shown x_t_worths x_t_steps x_t_tape x_t_bits x_t_longs x_t_cells x_t_between c_t_isKept c_t_most c_t_taped c_t_here c_t_fault c_t_value c_t_findings c_t_s) sz) := by
  refine met_W (by decide) (Nat.le_of_ble_eq_true rfl) ?_
  intro p e s m args below meth c A ls C hP hD hS hA hK hT hl
  obtain ⟨hx, hb, hr, hml, hown, hw, hlocks⟩ := id C
  have hl : lv_has ls 3 [(0, .ref h_t), (1, .int a1), (2, .int a2)] := hl
  rw [f_M_letter] at hF
  refine lv_iload_n hx hb dX10_letter_0 rfl (lv_at hl 1 rfl) ?_
  obtain ⟨r2, er2, hF⟩ := kb hF
  refine kRS (rest := []) C (k_M_isKind l E a1 r2 er2) fn_M_isKind mw_1077 ⟨Nat.le_of_ble_eq_true rfl, Nat.le_of_ble_eq_true rfl⟩ hK hT hS hP [] rfl rfl rfl hl (Nat.le_of_ble_eq_true rfl) dX10_letter_1 ?_
  refine lv_if_eq (tgt := 14) hx hb dX10_letter_4 (by decide) (fun q3 => ?_) (fun q3 => ?_)
  · have hF := kp hF q3
    exact wk_M_letter_b14 E h_t h_t_findings h_t_s x_t_kept x_t_before x_t_shown x_t_worths x_t_steps x_t_tape x_t_bits x_t_longs x_t_cells x_t_between c_t_isKept c_t_most c_t_taped c_t_here c_t_fault c_t_value a1 a2 C hA  hK hT  c_t_findings c_t_s hF _ _ hP hD hS _ (lv_sub hl [0] rfl)
  · have hF := kn hF q3
    refine lv_iload_n hx hb dX10_letter_7 rfl (lv_at hl 2 rfl) ?_
    obtain ⟨r4, er4, hF⟩ := kb hF
    refine kRS (rest := []) C (k_M_isForm l E a2 r4 er4) fn_M_isForm mw_940 ⟨Nat.le_of_ble_eq_true rfl, Nat.le_of_ble_eq_true rfl⟩ hK hT hS hP [] rfl rfl rfl hl (Nat.le_of_ble_eq_true rfl) dX10_letter_8 ?_
    refine lv_if_ne (tgt := 20) hx hb dX10_letter_11 (by decide) (fun q5 => ?_) (fun q5 => ?_)
    · have hF := kn hF q5
      refine lv_aload_n hx hb dX10_letter_20 rfl (lv_at hl 0 rfl) ?_
      refine va_get (D := eD E) (ci := 8) (C := RX10) (T := TX10) (N := 18) (v := .ref h_t_s) hx hb hw inX10 hown hK hP 0 rfl rfl 0 (by decide) (hw _ mw_881) (fun _ h9 => h9) rfl dX10_letter_21 ?_
      refine lv_iconst (v := (2 : Int32)) hx hb dX10_letter_24 (by decide) ?_
      obtain ⟨r6, er6, hF⟩ := kb hF
      refine wa_iald hx hb hK hP 2 0 rfl rfl er6 dX10_letter_25 ?_
      refine lv_bipush (v := (12 : Int32)) hx hb dX10_letter_26 (by decide) ?_
      refine lv_icmp_ne (tgt := 37) hx hb dX10_letter_28 (by decide) (fun q7 => ?_) (fun q7 => ?_)
      · have hF := kn hF q7
        refine lv_aload_n hx hb dX10_letter_37 rfl (lv_at hl 0 rfl) ?_
        refine lv_iload_n hx hb dX10_letter_38 rfl (lv_at hl 1 rfl) ?_
        refine lv_iload_n hx hb dX10_letter_39 rfl (lv_at hl 2 rfl) ?_
        refine lv_bipush (v := (6 : Int32)) hx hb dX10_letter_40 (by decide) ?_
        obtain ⟨r8, er8, hF⟩ := kb hF
        refine kWV (rest := []) (Wr := [(h_t_findings, .inl (eI E, 7, .inl c_t_findings))]) (Wn := (w_M_letter E h_t h_t_findings h_t_s x_t_kept x_t_before x_t_shown x_t_worths x_t_steps x_t_tape x_t_bits x_t_longs x_t_cells x_t_between c_t_isKept c_t_most c_t_taped c_t_here c_t_fault c_t_value c_t_findings r8)) C (k_M_adds l E h_t h_t_s x_t_kept x_t_before h_t_findings x_t_shown x_t_worths x_t_steps x_t_tape x_t_bits x_t_longs x_t_cells x_t_between s.heap.size c_t_isKept c_t_most c_t_taped c_t_here c_t_fault c_t_value c_t_s a1 a2 (6 : Int32) r8 er8) fn_M_adds mw_1080 ⟨Nat.le_of_ble_eq_true rfl, Nat.le_of_ble_eq_true rfl⟩ hK hT hS hA (va_recv hK hP (ci := 8) (q0 := 0) rfl rfl) hP hD [0, 2] rfl (by decide) [1] rfl (by decide) (by decide) [1, 0, 2] rfl (by decide) rfl rfl hl (Nat.le_of_ble_eq_true rfl) dX10_letter_42 (fun H locs hP hD hS => ?_)
        refine W.eq (g2 := F0 m 45 ls []) rfl ?_
        refine lv_aload_n hx hb dX10_letter_45 rfl (lv_at hl 0 rfl) ?_
        refine va_get (D := eD E) (ci := 8) (C := RX10) (T := TX10) (N := 18) (v := .ref h_t_s) hx hb hw inX10 hown hK hP 0 rfl rfl 0 (by decide) (hw _ mw_881) (fun _ h9 => h9) rfl dX10_letter_46 ?_
        refine lv_iconst (v := (2 : Int32)) hx hb dX10_letter_49 (by decide) ?_
        obtain ⟨r9, er9, hF⟩ := kb hF
        refine wa_iald hx hb hK hP 2 0 rfl rfl er9 dX10_letter_50 ?_
        refine lv_iconst (v := (1 : Int32)) hx hb dX10_letter_51 (by decide) ?_
        refine lv_isub hx hb dX10_letter_52 ?_
        obtain rfl := Option.some.inj hF
        exact W.iret hx hb hr (fun t ht hW => ⟨⟨rfl, by rw [ht]; exact hP, hD⟩, hS.F ht⟩) hS.2.2 dX10_letter_53
      · have hF := kp hF q7
        refine lv_aload_n hx hb dX10_letter_31 rfl (lv_at hl 0 rfl) ?_
        refine lv_iconst (v := (1 : Int32)) hx hb dX10_letter_32 (by decide) ?_
        obtain ⟨r10, er10, hF⟩ := kb hF
        refine kWV (rest := []) (Wr := [(h_t_s, .inl (eI E, 65, .inl c_t_s))]) (Wn := (w_M_letter E h_t h_t_findings h_t_s x_t_kept x_t_before x_t_shown x_t_worths x_t_steps x_t_tape x_t_bits x_t_longs x_t_cells x_t_between c_t_isKept c_t_most c_t_taped c_t_here c_t_fault c_t_value r10.2 c_t_s)) C (k_M_no l E h_t h_t_findings h_t_s x_t_kept x_t_before x_t_shown x_t_worths x_t_steps x_t_tape x_t_bits x_t_longs x_t_cells x_t_between s.heap.size c_t_isKept c_t_most c_t_taped c_t_here c_t_fault c_t_value c_t_findings (1 : Int32) r10 er10) fn_M_no mw_964 ⟨Nat.le_of_ble_eq_true rfl, Nat.le_of_ble_eq_true rfl⟩ hK hT hS hA (va_recv hK hP (ci := 8) (q0 := 0) rfl rfl) hP hD [0, 1] rfl (by decide) [2] rfl (by decide) (by decide) [1, 2, 0] rfl (by decide) rfl rfl hl (Nat.le_of_ble_eq_true rfl) dX10_letter_33 (fun H locs hP hD hS => ?_)
        refine W.eq (g2 := F0 m 36 ls [.int r10.1]) rfl ?_
        obtain rfl := Option.some.inj hF
        exact W.iret hx hb hr (fun t ht hW => ⟨⟨rfl, by rw [ht]; exact hP, hD⟩, hS.F ht⟩) hS.2.2 dX10_letter_36
    · have hF := kp hF q5
      exact wk_M_letter_b14 E h_t h_t_findings h_t_s x_t_kept x_t_before x_t_shown x_t_worths x_t_steps x_t_tape x_t_bits x_t_longs x_t_cells x_t_between c_t_isKept c_t_most c_t_taped c_t_here c_t_fault c_t_value a1 a2 C hA  hK hT  c_t_findings c_t_s hF _ _ hP hD hS _ (lv_sub hl [0] rfl)
abbrev w_M_lastsBy (E : kE)    : va_W := []
set_option maxHeartbeats 4000000 in
set_option maxRecDepth 100000 in
theorem k_M_lastsBy (l : Launch) (E : kE)    (a0 : Int32) (a1 : Int32) (out : Int32) (hF : f_M_lastsBy  a0 a1 = some out) : Met l yX10_lastsBy (Cond.code yX10_lastsBy cX10_lastsBy 2 (some .int) :: wG) (rm 1) (pR E (w_M_lastsBy E ) [.int a0, .int a1]) (qR (.int out)) 0 0 (fun _ => False) := by
  refine met_R (by decide) (Nat.le_of_ble_eq_true rfl) ?_
  intro p e s m args below meth c ls C hP hK hT hl
  obtain ⟨hx, hb, hr, hml, hown, hw, hlocks⟩ := id C
  have hS : va_S (fun _ => False) s.heap s.heap [] := va_S.rf
  have hl : lv_has ls 2 [(0, .int a0), (1, .int a1)] := hl
  rw [f_M_lastsBy] at hF
  refine lv_iload_n hx hb dX10_lastsBy_0 rfl (lv_at hl 0 rfl) ?_
  by_cases q1_1 : a0 = (1 : Int32)
  · have hF := kp hF q1_1
    refine lv_tableIn (tgt := 36) (off := 35) hx hb dX10_lastsBy_1 (sw_in (lo := 1) (hi := 5) q1_1 (by decide)).1 (sw_in (lo := 1) (hi := 5) q1_1 (by decide)).2 (sw_at q1_1 rfl) (by decide) ?_
    refine lv_iconst (v := (2 : Int32)) hx hb dX10_lastsBy_36 (by decide) ?_
    refine lv_iload_n hx hb dX10_lastsBy_37 rfl (lv_at hl 1 rfl) ?_
    refine lv_imul hx hb dX10_lastsBy_38 ?_
    obtain rfl := Option.some.inj hF
    exact W.iret hx hb hr (fun t ht hW => ⟨rfl, ht⟩) nofun dX10_lastsBy_39
  have hF := kn hF q1_1
  by_cases q1_2 : a0 = (2 : Int32)
  · have hF := kp hF q1_2
    refine lv_tableIn (tgt := 40) (off := 39) hx hb dX10_lastsBy_1 (sw_in (lo := 1) (hi := 5) q1_2 (by decide)).1 (sw_in (lo := 1) (hi := 5) q1_2 (by decide)).2 (sw_at q1_2 rfl) (by decide) ?_
    refine lv_iload_n hx hb dX10_lastsBy_40 rfl (lv_at hl 1 rfl) ?_
    refine lv_iconst (v := (2 : Int32)) hx hb dX10_lastsBy_41 (by decide) ?_
    refine lv_idiv hx hb dX10_lastsBy_42 (by decide) ?_
    obtain rfl := Option.some.inj hF
    exact W.iret hx hb hr (fun t ht hW => ⟨rfl, ht⟩) nofun dX10_lastsBy_43
  have hF := kn hF q1_2
  by_cases q1_3 : a0 = (3 : Int32)
  · have hF := kp hF q1_3
    refine lv_tableIn (tgt := 50) (off := 49) hx hb dX10_lastsBy_1 (sw_in (lo := 1) (hi := 5) q1_3 (by decide)).1 (sw_in (lo := 1) (hi := 5) q1_3 (by decide)).2 (sw_at q1_3 rfl) (by decide) ?_
    refine lv_iload_n hx hb dX10_lastsBy_50 rfl (lv_at hl 1 rfl) ?_
    obtain rfl := Option.some.inj hF
    exact W.iret hx hb hr (fun t ht hW => ⟨rfl, ht⟩) nofun dX10_lastsBy_51
  have hF := kn hF q1_3
  by_cases q1_4 : a0 = (4 : Int32)
  · have hF := kp hF q1_4
    refine lv_tableIn (tgt := 36) (off := 35) hx hb dX10_lastsBy_1 (sw_in (lo := 1) (hi := 5) q1_4 (by decide)).1 (sw_in (lo := 1) (hi := 5) q1_4 (by decide)).2 (sw_at q1_4 rfl) (by decide) ?_
    refine lv_iconst (v := (2 : Int32)) hx hb dX10_lastsBy_36 (by decide) ?_
    refine lv_iload_n hx hb dX10_lastsBy_37 rfl (lv_at hl 1 rfl) ?_
    refine lv_imul hx hb dX10_lastsBy_38 ?_
    obtain rfl := Option.some.inj hF
    exact W.iret hx hb hr (fun t ht hW => ⟨rfl, ht⟩) nofun dX10_lastsBy_39
  have hF := kn hF q1_4
  by_cases q1_5 : a0 = (5 : Int32)
  · have hF := kp hF q1_5
    refine lv_tableIn (tgt := 44) (off := 43) hx hb dX10_lastsBy_1 (sw_in (lo := 1) (hi := 5) q1_5 (by decide)).1 (sw_in (lo := 1) (hi := 5) q1_5 (by decide)).2 (sw_at q1_5 rfl) (by decide) ?_
    refine lv_iload_n hx hb dX10_lastsBy_44 rfl (lv_at hl 1 rfl) ?_
    refine lv_iconst (v := (2 : Int32)) hx hb dX10_lastsBy_45 (by decide) ?_
    refine lv_idiv hx hb dX10_lastsBy_46 (by decide) ?_
    refine lv_iconst (v := (4 : Int32)) hx hb dX10_lastsBy_47 (by decide) ?_
    refine lv_iadd hx hb dX10_lastsBy_48 ?_
    obtain rfl := Option.some.inj hF
    exact W.iret hx hb hr (fun t ht hW => ⟨rfl, ht⟩) nofun dX10_lastsBy_49
  have hF := kn hF q1_5
  refine lv_tableOut (tgt := 50) hx hb dX10_lastsBy_1 (by have z0 := lv_neT q1_1 (a := 1) (by decide); have z1 := lv_neT q1_2 (a := 2) (by decide); have z2 := lv_neT q1_3 (a := 3) (by decide); have z3 := lv_neT q1_4 (a := 4) (by decide); have z4 := lv_neT q1_5 (a := 5) (by decide); omega) (by decide) ?_
  refine lv_iload_n hx hb dX10_lastsBy_50 rfl (lv_at hl 1 rfl) ?_
  obtain rfl := Option.some.inj hF
  exact W.iret hx hb hr (fun t ht hW => ⟨rfl, ht⟩) nofun dX10_lastsBy_51
abbrev w_M_lasts (E : kE) (h_t : Nat) (h_t_s : Nat) (x_t_kept : Nat) (x_t_before : Nat) (x_t_findings : Nat) (x_t_shown : Nat) (x_t_worths : Nat) (x_t_steps : Nat) (x_t_tape : Nat) (x_t_bits : Nat) (x_t_longs : Nat) (x_t_cells : Nat) (x_t_between : Nat) (c_t_isKept : Int32) (c_t_most : Int32) (c_t_taped : Int32) (c_t_here : Int32) (c_t_fault : Int32) (c_t_value : Int32) (c_t_s : (Nat → Int32)) : va_W := [(h_t, .inr (8, [.ref h_t_s, .ref x_t_kept, .ref x_t_before, .int c_t_isKept, .ref x_t_findings, .ref x_t_shown, .int c_t_most, .ref x_t_worths, .ref x_t_steps, .ref x_t_tape, .int c_t_taped, .int c_t_here, .int c_t_fault, .int c_t_value, .ref x_t_bits, .ref x_t_longs, .ref x_t_cells, .ref x_t_between])), (h_t_s, .inl (eI E, 65, .inl c_t_s))]
set_option maxHeartbeats 4000000 in
set_option maxRecDepth 100000 in
theorem k_M_lasts (l : Launch) (E : kE) (h_t : Nat) (h_t_s : Nat) (x_t_kept : Nat) (x_t_before : Nat) (x_t_findings : Nat) (x_t_shown : Nat) (x_t_worths : Nat) (x_t_steps : Nat) (x_t_tape : Nat) (x_t_bits : Nat) (x_t_longs : Nat) (x_t_cells : Nat) (x_t_between : Nat) (c_t_isKept : Int32) (c_t_most : Int32) (c_t_taped : Int32) (c_t_here : Int32) (c_t_fault : Int32) (c_t_value : Int32) (c_t_s : (Nat → Int32)) (a1 : Int32) (out : Int32) (hF : f_M_lasts c_t_s a1 = some out) : Met l yX10_lasts (Cond.code yX10_lasts cX10_lasts 2 (some .int) :: wG) (rm 2) (pR E (w_M_lasts E h_t h_t_s x_t_kept x_t_before x_t_findings x_t_shown x_t_worths x_t_steps x_t_tape x_t_bits x_t_longs x_t_cells x_t_between c_t_isKept c_t_most c_t_taped c_t_here c_t_fault c_t_value c_t_s) [.ref h_t, .int a1]) (qR (.int out)) 0 0 (fun _ => False) := by
  refine met_R (by decide) (Nat.le_of_ble_eq_true rfl) ?_
  intro p e s m args below meth c ls C hP hK hT hl
  obtain ⟨hx, hb, hr, hml, hown, hw, hlocks⟩ := id C
  have hS : va_S (fun _ => False) s.heap s.heap [] := va_S.rf
  have hl : lv_has ls 2 [(0, .ref h_t), (1, .int a1)] := hl
  rw [f_M_lasts] at hF
  refine lv_aload_n hx hb dX10_lasts_0 rfl (lv_at hl 0 rfl) ?_
  refine va_get (D := eD E) (ci := 8) (C := RX10) (T := TX10) (N := 18) (v := .ref h_t_s) hx hb hw inX10 hown hK hP 0 rfl rfl 0 (by decide) (hw _ mw_881) (fun _ h9 => h9) rfl dX10_lasts_1 ?_
  refine lv_aload_n hx hb dX10_lasts_4 rfl (lv_at hl 0 rfl) ?_
  refine lv_iload_n hx hb dX10_lasts_5 rfl (lv_at hl 1 rfl) ?_
  refine lv_iconst (v := (0 : Int32)) hx hb dX10_lasts_6 (by decide) ?_
  obtain ⟨r1, er1, hF⟩ := kb hF
  refine kRV (rest := [.ref h_t_s]) C (k_M_at l E h_t h_t_s x_t_kept x_t_before x_t_findings x_t_shown x_t_worths x_t_steps x_t_tape x_t_bits x_t_longs x_t_cells x_t_between c_t_isKept c_t_most c_t_taped c_t_here c_t_fault c_t_value a1 (0 : Int32) r1 er1) fn_M_at mw_1084 ⟨Nat.le_of_ble_eq_true rfl, Nat.le_of_ble_eq_true rfl⟩ hK hT hS (va_recv hK hP (ci := 8) (q0 := 0) rfl rfl) hP [0] rfl rfl rfl hl (Nat.le_of_ble_eq_true rfl) dX10_lasts_7 ?_
  obtain ⟨r2, er2, hF⟩ := kb hF
  refine wa_iald hx hb hK hP 1 0 rfl rfl er2 dX10_lasts_10 ?_
  refine lv_aload_n hx hb dX10_lasts_11 rfl (lv_at hl 0 rfl) ?_
  refine va_get (D := eD E) (ci := 8) (C := RX10) (T := TX10) (N := 18) (v := .ref h_t_s) hx hb hw inX10 hown hK hP 0 rfl rfl 0 (by decide) (hw _ mw_881) (fun _ h9 => h9) rfl dX10_lasts_12 ?_
  refine lv_aload_n hx hb dX10_lasts_15 rfl (lv_at hl 0 rfl) ?_
  refine lv_iload_n hx hb dX10_lasts_16 rfl (lv_at hl 1 rfl) ?_
  refine lv_iconst (v := (2 : Int32)) hx hb dX10_lasts_17 (by decide) ?_
  obtain ⟨r3, er3, hF⟩ := kb hF
  refine kRV (rest := [.ref h_t_s, .int r2]) C (k_M_at l E h_t h_t_s x_t_kept x_t_before x_t_findings x_t_shown x_t_worths x_t_steps x_t_tape x_t_bits x_t_longs x_t_cells x_t_between c_t_isKept c_t_most c_t_taped c_t_here c_t_fault c_t_value a1 (2 : Int32) r3 er3) fn_M_at mw_1084 ⟨Nat.le_of_ble_eq_true rfl, Nat.le_of_ble_eq_true rfl⟩ hK hT hS (va_recv hK hP (ci := 8) (q0 := 0) rfl rfl) hP [0] rfl rfl rfl hl (Nat.le_of_ble_eq_true rfl) dX10_lasts_18 ?_
  obtain ⟨r4, er4, hF⟩ := kb hF
  refine wa_iald hx hb hK hP 1 0 rfl rfl er4 dX10_lasts_21 ?_
  obtain ⟨r5, er5, hF⟩ := kb hF
  refine kRS (rest := []) C (k_M_lastsBy l E r2 r4 r5 er5) fn_M_lastsBy mw_1100 ⟨Nat.le_of_ble_eq_true rfl, Nat.le_of_ble_eq_true rfl⟩ hK hT hS hP [] rfl rfl rfl hl (Nat.le_of_ble_eq_true rfl) dX10_lasts_22 ?_
  obtain rfl := Option.some.inj hF
  exact W.iret hx hb hr (fun t ht hW => ⟨rfl, ht⟩) nofun dX10_lasts_25
abbrev w_M_shows (E : kE) (h_t : Nat) (h_t_s : Nat) (x_t_kept : Nat) (x_t_before : Nat) (x_t_findings : Nat) (x_t_shown : Nat) (x_t_worths : Nat) (x_t_steps : Nat) (x_t_tape : Nat) (x_t_bits : Nat) (x_t_longs : Nat) (x_t_cells : Nat) (x_t_between : Nat) (c_t_isKept : Int32) (c_t_most : Int32) (c_t_taped : Int32) (c_t_here : Int32) (c_t_fault : Int32) (c_t_value : Int32) (c_t_s : (Nat → Int32)) : va_W := [(h_t, .inr (8, [.ref h_t_s, .ref x_t_kept, .ref x_t_before, .int c_t_isKept, .ref x_t_findings, .ref x_t_shown, .int c_t_most, .ref x_t_worths, .ref x_t_steps, .ref x_t_tape, .int c_t_taped, .int c_t_here, .int c_t_fault, .int c_t_value, .ref x_t_bits, .ref x_t_longs, .ref x_t_cells, .ref x_t_between])), (h_t_s, .inl (eI E, 65, .inl c_t_s))]
set_option maxHeartbeats 4000000 in
set_option maxRecDepth 100000 in
theorem wk_M_shows_b48 {p : Program} {l : Launch} {e : Env} {s : State} {m : MethodId} {args : Array Value} {below : List Frame} {meth : Method} {c : Code} (E : kE) (h_t : Nat) (h_t_s : Nat) (x_t_kept : Nat) (x_t_before : Nat) (x_t_findings : Nat) (x_t_shown : Nat) (x_t_worths : Nat) (x_t_steps : Nat) (x_t_tape : Nat) (x_t_bits : Nat) (x_t_longs : Nat) (x_t_cells : Nat) (x_t_between : Nat) (c_t_isKept : Int32) (c_t_most : Int32) (c_t_taped : Int32) (c_t_here : Int32) (c_t_fault : Int32) (c_t_value : Int32) (c_t_s : (Nat → Int32)) (a1 : Int32) {out : Int32} (C : kC RX10 cX10_shows 4 (some .int) p s m args meth c) (hP : va_P (eD E) vwCl (w_M_shows E h_t h_t_s x_t_kept x_t_before x_t_findings x_t_shown x_t_worths x_t_steps x_t_tape x_t_bits x_t_longs x_t_cells x_t_between c_t_isKept c_t_most c_t_taped c_t_here c_t_fault c_t_value c_t_s) s.heap) (hK : va_K (eD E) vwCl (eT E) s) (hT : sT E (fun _ => False) s s.heap)  :
    ∀ (s0 : Int32), f_M_shows_b48  c_t_s a1 s0 = some out → ∀ (ls : Array Slot), lv_has ls 4 [(0, .ref h_t), (1, .int a1)] → W p l e (rm 3) s m args below meth c s.heap [] 0 0 (MQ below (qR (.int out)) args s 0 0 (fun _ => False)) (F0 m 48 ls [.int s0]) := by
  obtain ⟨hx, hb, hr, hml, hown, hw, hlocks⟩ := id C
  have hS : va_S (fun _ => False) s.heap s.heap [] := va_S.rf
  intro s0 hF ls hl
  rw [f_M_shows_b48] at hF
  refine lv_istore_n (lv' := [(2, .int s0), (0, .ref h_t), (1, .int a1)]) hx hb dX10_shows_48 rfl hl (by decide) rfl (fun ls hl => ?_)
  refine lv_aload_n hx hb dX10_shows_49 rfl (lv_at hl 1 rfl) ?_
  refine va_get (D := eD E) (ci := 8) (C := RX10) (T := TX10) (N := 18) (v := .ref h_t_s) hx hb hw inX10 hown hK hP 0 rfl rfl 0 (by decide) (hw _ mw_881) (fun _ h9 => h9) rfl dX10_shows_50 ?_
  refine lv_aload_n hx hb dX10_shows_53 rfl (lv_at hl 1 rfl) ?_
  refine lv_iload_n hx hb dX10_shows_54 rfl (lv_at hl 2 rfl) ?_
  refine lv_iconst (v := (0 : Int32)) hx hb dX10_shows_55 (by decide) ?_
  obtain ⟨r1, er1, hF⟩ := kb hF
  refine kRV (rest := [.ref h_t_s]) C (k_M_at l E h_t h_t_s x_t_kept x_t_before x_t_findings x_t_shown x_t_worths x_t_steps x_t_tape x_t_bits x_t_longs x_t_cells x_t_between c_t_isKept c_t_most c_t_taped c_t_here c_t_fault c_t_value a1 (0 : Int32) r1 er1) fn_M_at mw_1084 ⟨Nat.le_of_ble_eq_true rfl, Nat.le_of_ble_eq_true rfl⟩ hK hT hS (va_recv hK hP (ci := 8) (q0 := 0) rfl rfl) hP [0] rfl rfl rfl hl (Nat.le_of_ble_eq_true rfl) dX10_shows_56 ?_
  obtain ⟨r2, er2, hF⟩ := kb hF
  refine wa_iald hx hb hK hP 1 0 rfl rfl er2 dX10_shows_59 ?_
  refine lv_istore_n (lv' := [(3, .int r2), (2, .int s0), (0, .ref h_t), (1, .int a1)]) hx hb dX10_shows_60 rfl hl (by decide) rfl (fun ls hl => ?_)
  refine lv_iload_n hx hb dX10_shows_61 rfl (lv_at hl 0 rfl) ?_
  refine lv_iconst (v := (3 : Int32)) hx hb dX10_shows_62 (by decide) ?_
  refine lv_icmp_ne (tgt := 73) hx hb dX10_shows_63 (by decide) (fun q3 => ?_) (fun q3 => ?_)
  · have hF := kn hF q3
    refine lv_iload_n hx hb dX10_shows_73 rfl (lv_at hl 0 rfl) ?_
    refine lv_iconst (v := (4 : Int32)) hx hb dX10_shows_74 (by decide) ?_
    refine lv_icmp_ne (tgt := 85) hx hb dX10_shows_75 (by decide) (fun q4 => ?_) (fun q4 => ?_)
    · have hF := kn hF q4
      refine lv_iload_n hx hb dX10_shows_85 rfl (lv_at hl 1 rfl) ?_
      obtain rfl := Option.some.inj hF
      exact W.iret hx hb hr (fun t ht hW => ⟨rfl, ht⟩) nofun dX10_shows_86
    · have hF := kp hF q4
      refine lv_iload_n hx hb dX10_shows_78 rfl (lv_at hl 1 rfl) ?_
      refine lv_bipush (v := (48 : Int32)) hx hb dX10_shows_79 (by decide) ?_
      refine lv_ior hx hb dX10_shows_81 ?_
      refine lv_goto (tgt := 86) hx hb dX10_shows_82 (by decide) ?_
      obtain rfl := Option.some.inj hF
      exact W.iret hx hb hr (fun t ht hW => ⟨rfl, ht⟩) nofun dX10_shows_86
  · have hF := kp hF q3
    refine lv_iload_n hx hb dX10_shows_66 rfl (lv_at hl 1 rfl) ?_
    refine lv_bipush (v := (12 : Int32)) hx hb dX10_shows_67 (by decide) ?_
    refine lv_ior hx hb dX10_shows_69 ?_
    refine lv_goto (tgt := 86) hx hb dX10_shows_70 (by decide) ?_
    obtain rfl := Option.some.inj hF
    exact W.iret hx hb hr (fun t ht hW => ⟨rfl, ht⟩) nofun dX10_shows_86
set_option maxHeartbeats 4000000 in
set_option maxRecDepth 100000 in
theorem k_M_shows (l : Launch) (E : kE) (h_t : Nat) (h_t_s : Nat) (x_t_kept : Nat) (x_t_before : Nat) (x_t_findings : Nat) (x_t_shown : Nat) (x_t_worths : Nat) (x_t_steps : Nat) (x_t_tape : Nat) (x_t_bits : Nat) (x_t_longs : Nat) (x_t_cells : Nat) (x_t_between : Nat) (c_t_isKept : Int32) (c_t_most : Int32) (c_t_taped : Int32) (c_t_here : Int32) (c_t_fault : Int32) (c_t_value : Int32) (c_t_s : (Nat → Int32)) (a1 : Int32) (out : Int32) (hF : f_M_shows c_t_s a1 = some out) : Met l yX10_shows (Cond.code yX10_shows cX10_shows 4 (some .int) :: wG) (rm 3) (pR E (w_M_shows E h_t h_t_s x_t_kept x_t_before x_t_findings x_t_shown x_t_worths x_t_steps x_t_tape x_t_bits x_t_longs x_t_cells x_t_between c_t_isKept c_t_most c_t_taped c_t_here c_t_fault c_t_value c_t_s) [.ref h_t, .int a1]) (qR (.int out)) 0 0 (fun _ => False) := by
  refine met_R (by decide) (Nat.le_of_ble_eq_true rfl) ?_
  intro p e s m args below meth c ls C hP hK hT hl
  obtain ⟨hx, hb, hr, hml, hown, hw, hlocks⟩ := id C
  have hS : va_S (fun _ => False) s.heap s.heap [] := va_S.rf
  have hl : lv_has ls 4 [(0, .ref h_t), (1, .int a1)] := hl
  rw [f_M_shows] at hF
  refine lv_aload_n hx hb dX10_shows_0 rfl (lv_at hl 0 rfl) ?_
  refine va_get (D := eD E) (ci := 8) (C := RX10) (T := TX10) (N := 18) (v := .ref h_t_s) hx hb hw inX10 hown hK hP 0 rfl rfl 0 (by decide) (hw _ mw_881) (fun _ h9 => h9) rfl dX10_shows_1 ?_
  refine lv_iconst (v := (0 : Int32)) hx hb dX10_shows_4 (by decide) ?_
  obtain ⟨r5, er5, hF⟩ := kb hF
  refine wa_iald hx hb hK hP 1 0 rfl rfl er5 dX10_shows_5 ?_
  refine lv_aload_n hx hb dX10_shows_6 rfl (lv_at hl 0 rfl) ?_
  refine lv_iload_n hx hb dX10_shows_7 rfl (lv_at hl 1 rfl) ?_
  obtain ⟨r6, er6, hF⟩ := kb hF
  refine kRV (rest := [.int r5]) C (k_M_lasts l E h_t h_t_s x_t_kept x_t_before x_t_findings x_t_shown x_t_worths x_t_steps x_t_tape x_t_bits x_t_longs x_t_cells x_t_between c_t_isKept c_t_most c_t_taped c_t_here c_t_fault c_t_value c_t_s a1 r6 er6) fn_M_lasts mw_1096 ⟨Nat.le_of_ble_eq_true rfl, Nat.le_of_ble_eq_true rfl⟩ hK hT hS (va_recv hK hP (ci := 8) (q0 := 0) rfl rfl) hP [0, 1] rfl rfl rfl hl (Nat.le_of_ble_eq_true rfl) dX10_shows_8 ?_
  refine lv_icmp_ge (tgt := 28) hx hb dX10_shows_11 (by decide) (fun q7 => ?_) (fun q7 => ?_)
  · have hF := kp hF q7
    refine lv_aload_n hx hb dX10_shows_28 rfl (lv_at hl 0 rfl) ?_
    refine va_get (D := eD E) (ci := 8) (C := RX10) (T := TX10) (N := 18) (v := .ref h_t_s) hx hb hw inX10 hown hK hP 0 rfl rfl 0 (by decide) (hw _ mw_881) (fun _ h9 => h9) rfl dX10_shows_29 ?_
    refine lv_aload_n hx hb dX10_shows_32 rfl (lv_at hl 0 rfl) ?_
    refine lv_iload_n hx hb dX10_shows_33 rfl (lv_at hl 1 rfl) ?_
    refine lv_iconst (v := (1 : Int32)) hx hb dX10_shows_34 (by decide) ?_
    obtain ⟨r8, er8, hF⟩ := kb hF
    refine kRV (rest := [.ref h_t_s]) C (k_M_at l E h_t h_t_s x_t_kept x_t_before x_t_findings x_t_shown x_t_worths x_t_steps x_t_tape x_t_bits x_t_longs x_t_cells x_t_between c_t_isKept c_t_most c_t_taped c_t_here c_t_fault c_t_value a1 (1 : Int32) r8 er8) fn_M_at mw_1084 ⟨Nat.le_of_ble_eq_true rfl, Nat.le_of_ble_eq_true rfl⟩ hK hT hS (va_recv hK hP (ci := 8) (q0 := 0) rfl rfl) hP [0] rfl rfl rfl hl (Nat.le_of_ble_eq_true rfl) dX10_shows_35 ?_
    obtain ⟨r9, er9, hF⟩ := kb hF
    refine wa_iald hx hb hK hP 1 0 rfl rfl er9 dX10_shows_38 ?_
    refine lv_aload_n hx hb dX10_shows_39 rfl (lv_at hl 0 rfl) ?_
    refine va_get (D := eD E) (ci := 8) (C := RX10) (T := TX10) (N := 18) (v := .ref h_t_s) hx hb hw inX10 hown hK hP 0 rfl rfl 0 (by decide) (hw _ mw_881) (fun _ h9 => h9) rfl dX10_shows_40 ?_
    refine lv_iconst (v := (1 : Int32)) hx hb dX10_shows_43 (by decide) ?_
    obtain ⟨r10, er10, hF⟩ := kb hF
    refine wa_iald hx hb hK hP 1 0 rfl rfl er10 dX10_shows_44 ?_
    refine lv_iconst (v := (-1 : Int32)) hx hb dX10_shows_45 (by decide) ?_
    refine lv_ixor hx hb dX10_shows_46 ?_
    refine lv_iand hx hb dX10_shows_47 ?_
    exact wk_M_shows_b48 E h_t h_t_s x_t_kept x_t_before x_t_findings x_t_shown x_t_worths x_t_steps x_t_tape x_t_bits x_t_longs x_t_cells x_t_between c_t_isKept c_t_most c_t_taped c_t_here c_t_fault c_t_value c_t_s a1 C hP  hK hT  (r9 &&& (r10 ^^^ (-1 : Int32))) hF _ (lv_sub hl [0, 1] rfl)
  · have hF := kn hF q7
    refine lv_aload_n hx hb dX10_shows_14 rfl (lv_at hl 0 rfl) ?_
    refine va_get (D := eD E) (ci := 8) (C := RX10) (T := TX10) (N := 18) (v := .ref h_t_s) hx hb hw inX10 hown hK hP 0 rfl rfl 0 (by decide) (hw _ mw_881) (fun _ h9 => h9) rfl dX10_shows_15 ?_
    refine lv_aload_n hx hb dX10_shows_18 rfl (lv_at hl 0 rfl) ?_
    refine lv_iload_n hx hb dX10_shows_19 rfl (lv_at hl 1 rfl) ?_
    refine lv_iconst (v := (1 : Int32)) hx hb dX10_shows_20 (by decide) ?_
    obtain ⟨r11, er11, hF⟩ := kb hF
    refine kRV (rest := [.ref h_t_s]) C (k_M_at l E h_t h_t_s x_t_kept x_t_before x_t_findings x_t_shown x_t_worths x_t_steps x_t_tape x_t_bits x_t_longs x_t_cells x_t_between c_t_isKept c_t_most c_t_taped c_t_here c_t_fault c_t_value a1 (1 : Int32) r11 er11) fn_M_at mw_1084 ⟨Nat.le_of_ble_eq_true rfl, Nat.le_of_ble_eq_true rfl⟩ hK hT hS (va_recv hK hP (ci := 8) (q0 := 0) rfl rfl) hP [0] rfl rfl rfl hl (Nat.le_of_ble_eq_true rfl) dX10_shows_21 ?_
    obtain ⟨r12, er12, hF⟩ := kb hF
    refine wa_iald hx hb hK hP 1 0 rfl rfl er12 dX10_shows_24 ?_
    refine lv_goto (tgt := 48) hx hb dX10_shows_25 (by decide) ?_
    exact wk_M_shows_b48 E h_t h_t_s x_t_kept x_t_before x_t_findings x_t_shown x_t_worths x_t_steps x_t_tape x_t_bits x_t_longs x_t_cells x_t_between c_t_isKept c_t_most c_t_taped c_t_here c_t_fault c_t_value c_t_s a1 C hP  hK hT  r12 hF _ (lv_sub hl [0, 1] rfl)
abbrev w_M_feetBy (E : kE)    : va_W := []
set_option maxHeartbeats 4000000 in
set_option maxRecDepth 100000 in
theorem k_M_feetBy (l : Launch) (E : kE)    (a0 : Int32) (a1 : Int32) (out : Int32) (hF : f_M_feetBy  a0 a1 = some out) : Met l yX10_feetBy (Cond.code yX10_feetBy cX10_feetBy 3 (some .int) :: wG) (rm 8) (pR E (w_M_feetBy E ) [.int a0, .int a1]) (qR (.int out)) 0 0 (fun _ => False) := by
  refine met_R (by decide) (Nat.le_of_ble_eq_true rfl) ?_
  intro p e s m args below meth c ls C hP hK hT hl
  obtain ⟨hx, hb, hr, hml, hown, hw, hlocks⟩ := id C
  have hS : va_S (fun _ => False) s.heap s.heap [] := va_S.rf
  have hl : lv_has ls 3 [(0, .int a0), (1, .int a1)] := hl
  rw [f_M_feetBy] at hF
  refine lv_iload_n hx hb dX10_feetBy_0 rfl (lv_at hl 1 rfl) ?_
  obtain ⟨r1, er1, hF⟩ := kb hF
  refine kRS (rest := []) C (k_M_ones l E a1 r1 er1) fn_M_ones mw_989 ⟨Nat.le_of_ble_eq_true rfl, Nat.le_of_ble_eq_true rfl⟩ hK hT hS hP [] rfl rfl rfl hl (Nat.le_of_ble_eq_true rfl) dX10_feetBy_1 ?_
  refine lv_iload_n hx hb dX10_feetBy_4 rfl (lv_at hl 1 rfl) ?_
  obtain ⟨r2, er2, hF⟩ := kb hF
  refine kRS (rest := [.int r1]) C (k_M_straysOf l E a1 r2 er2) fn_M_straysOf mw_996 ⟨Nat.le_of_ble_eq_true rfl, Nat.le_of_ble_eq_true rfl⟩ hK hT hS hP [] rfl rfl rfl hl (Nat.le_of_ble_eq_true rfl) dX10_feetBy_5 ?_
  refine lv_iadd hx hb dX10_feetBy_8 ?_
  refine lv_istore_n (lv' := [(2, .int (r1 + r2)), (0, .int a0), (1, .int a1)]) hx hb dX10_feetBy_9 rfl hl (by decide) rfl (fun ls hl => ?_)
  refine lv_iload_n hx hb dX10_feetBy_10 rfl (lv_at hl 1 rfl) ?_
  by_cases q3_1 : a0 = (1 : Int32)
  · have hF := kp hF q3_1
    refine lv_tableIn (tgt := 40) (off := 29) hx hb dX10_feetBy_11 (sw_in (lo := 1) (hi := 4) q3_1 (by decide)).1 (sw_in (lo := 1) (hi := 4) q3_1 (by decide)).2 (sw_at q3_1 rfl) (by decide) ?_
    refine lv_iconst (v := (2 : Int32)) hx hb dX10_feetBy_40 (by decide) ?_
    refine lv_iload_n hx hb dX10_feetBy_41 rfl (lv_at hl 0 rfl) ?_
    refine lv_imul hx hb dX10_feetBy_42 ?_
    obtain rfl := Option.some.inj hF
    exact W.iret hx hb hr (fun t ht hW => ⟨rfl, ht⟩) nofun dX10_feetBy_43
  have hF := kn hF q3_1
  by_cases q3_2 : a0 = (2 : Int32)
  · have hF := kp hF q3_2
    refine lv_tableIn (tgt := 54) (off := 43) hx hb dX10_feetBy_11 (sw_in (lo := 1) (hi := 4) q3_2 (by decide)).1 (sw_in (lo := 1) (hi := 4) q3_2 (by decide)).2 (sw_at q3_2 rfl) (by decide) ?_
    refine lv_iload_n hx hb dX10_feetBy_54 rfl (lv_at hl 0 rfl) ?_
    obtain rfl := Option.some.inj hF
    exact W.iret hx hb hr (fun t ht hW => ⟨rfl, ht⟩) nofun dX10_feetBy_55
  have hF := kn hF q3_2
  by_cases q3_3 : a0 = (3 : Int32)
  · have hF := kp hF q3_3
    refine lv_tableIn (tgt := 50) (off := 39) hx hb dX10_feetBy_11 (sw_in (lo := 1) (hi := 4) q3_3 (by decide)).1 (sw_in (lo := 1) (hi := 4) q3_3 (by decide)).2 (sw_at q3_3 rfl) (by decide) ?_
    refine lv_iload_n hx hb dX10_feetBy_50 rfl (lv_at hl 0 rfl) ?_
    refine lv_iconst (v := (2 : Int32)) hx hb dX10_feetBy_51 (by decide) ?_
    refine lv_iadd hx hb dX10_feetBy_52 ?_
    obtain rfl := Option.some.inj hF
    exact W.iret hx hb hr (fun t ht hW => ⟨rfl, ht⟩) nofun dX10_feetBy_53
  have hF := kn hF q3_3
  by_cases q3_4 : a0 = (4 : Int32)
  · have hF := kp hF q3_4
    refine lv_tableIn (tgt := 44) (off := 33) hx hb dX10_feetBy_11 (sw_in (lo := 1) (hi := 4) q3_4 (by decide)).1 (sw_in (lo := 1) (hi := 4) q3_4 (by decide)).2 (sw_at q3_4 rfl) (by decide) ?_
    refine lv_iconst (v := (2 : Int32)) hx hb dX10_feetBy_44 (by decide) ?_
    refine lv_iload_n hx hb dX10_feetBy_45 rfl (lv_at hl 0 rfl) ?_
    refine lv_imul hx hb dX10_feetBy_46 ?_
    refine lv_iconst (v := (2 : Int32)) hx hb dX10_feetBy_47 (by decide) ?_
    refine lv_iadd hx hb dX10_feetBy_48 ?_
    obtain rfl := Option.some.inj hF
    exact W.iret hx hb hr (fun t ht hW => ⟨rfl, ht⟩) nofun dX10_feetBy_49
  have hF := kn hF q3_4
  refine lv_tableOut (tgt := 54) hx hb dX10_feetBy_11 (by have z0 := lv_neT q3_1 (a := 1) (by decide); have z1 := lv_neT q3_2 (a := 2) (by decide); have z2 := lv_neT q3_3 (a := 3) (by decide); have z3 := lv_neT q3_4 (a := 4) (by decide); omega) (by decide) ?_
  refine lv_iload_n hx hb dX10_feetBy_54 rfl (lv_at hl 0 rfl) ?_
  obtain rfl := Option.some.inj hF
  exact W.iret hx hb hr (fun t ht hW => ⟨rfl, ht⟩) nofun dX10_feetBy_55
abbrev w_M_feet (E : kE) (h_t : Nat) (h_t_s : Nat) (x_t_kept : Nat) (x_t_before : Nat) (x_t_findings : Nat) (x_t_shown : Nat) (x_t_worths : Nat) (x_t_steps : Nat) (x_t_tape : Nat) (x_t_bits : Nat) (x_t_longs : Nat) (x_t_cells : Nat) (x_t_between : Nat) (c_t_isKept : Int32) (c_t_most : Int32) (c_t_taped : Int32) (c_t_here : Int32) (c_t_fault : Int32) (c_t_value : Int32) (c_t_s : (Nat → Int32)) : va_W := [(h_t, .inr (8, [.ref h_t_s, .ref x_t_kept, .ref x_t_before, .int c_t_isKept, .ref x_t_findings, .ref x_t_shown, .int c_t_most, .ref x_t_worths, .ref x_t_steps, .ref x_t_tape, .int c_t_taped, .int c_t_here, .int c_t_fault, .int c_t_value, .ref x_t_bits, .ref x_t_longs, .ref x_t_cells, .ref x_t_between])), (h_t_s, .inl (eI E, 65, .inl c_t_s))]
set_option maxHeartbeats 4000000 in
set_option maxRecDepth 100000 in
theorem k_M_feet (l : Launch) (E : kE) (h_t : Nat) (h_t_s : Nat) (x_t_kept : Nat) (x_t_before : Nat) (x_t_findings : Nat) (x_t_shown : Nat) (x_t_worths : Nat) (x_t_steps : Nat) (x_t_tape : Nat) (x_t_bits : Nat) (x_t_longs : Nat) (x_t_cells : Nat) (x_t_between : Nat) (c_t_isKept : Int32) (c_t_most : Int32) (c_t_taped : Int32) (c_t_here : Int32) (c_t_fault : Int32) (c_t_value : Int32) (c_t_s : (Nat → Int32)) (a1 : Int32) (out : Int32) (hF : f_M_feet c_t_s a1 = some out) : Met l yX10_feet (Cond.code yX10_feet cX10_feet 2 (some .int) :: wG) (rm 9) (pR E (w_M_feet E h_t h_t_s x_t_kept x_t_before x_t_findings x_t_shown x_t_worths x_t_steps x_t_tape x_t_bits x_t_longs x_t_cells x_t_between c_t_isKept c_t_most c_t_taped c_t_here c_t_fault c_t_value c_t_s) [.ref h_t, .int a1]) (qR (.int out)) 0 0 (fun _ => False) := by
  refine met_R (by decide) (Nat.le_of_ble_eq_true rfl) ?_
  intro p e s m args below meth c ls C hP hK hT hl
  obtain ⟨hx, hb, hr, hml, hown, hw, hlocks⟩ := id C
  have hS : va_S (fun _ => False) s.heap s.heap [] := va_S.rf
  have hl : lv_has ls 2 [(0, .ref h_t), (1, .int a1)] := hl
  rw [f_M_feet] at hF
  refine lv_aload_n hx hb dX10_feet_0 rfl (lv_at hl 0 rfl) ?_
  refine va_get (D := eD E) (ci := 8) (C := RX10) (T := TX10) (N := 18) (v := .ref h_t_s) hx hb hw inX10 hown hK hP 0 rfl rfl 0 (by decide) (hw _ mw_881) (fun _ h9 => h9) rfl dX10_feet_1 ?_
  refine lv_aload_n hx hb dX10_feet_4 rfl (lv_at hl 0 rfl) ?_
  refine lv_iload_n hx hb dX10_feet_5 rfl (lv_at hl 1 rfl) ?_
  refine lv_iconst (v := (0 : Int32)) hx hb dX10_feet_6 (by decide) ?_
  obtain ⟨r1, er1, hF⟩ := kb hF
  refine kRV (rest := [.ref h_t_s]) C (k_M_at l E h_t h_t_s x_t_kept x_t_before x_t_findings x_t_shown x_t_worths x_t_steps x_t_tape x_t_bits x_t_longs x_t_cells x_t_between c_t_isKept c_t_most c_t_taped c_t_here c_t_fault c_t_value a1 (0 : Int32) r1 er1) fn_M_at mw_1084 ⟨Nat.le_of_ble_eq_true rfl, Nat.le_of_ble_eq_true rfl⟩ hK hT hS (va_recv hK hP (ci := 8) (q0 := 0) rfl rfl) hP [0] rfl rfl rfl hl (Nat.le_of_ble_eq_true rfl) dX10_feet_7 ?_
  obtain ⟨r2, er2, hF⟩ := kb hF
  refine wa_iald hx hb hK hP 1 0 rfl rfl er2 dX10_feet_10 ?_
  refine lv_aload_n hx hb dX10_feet_11 rfl (lv_at hl 0 rfl) ?_
  refine va_get (D := eD E) (ci := 8) (C := RX10) (T := TX10) (N := 18) (v := .ref h_t_s) hx hb hw inX10 hown hK hP 0 rfl rfl 0 (by decide) (hw _ mw_881) (fun _ h9 => h9) rfl dX10_feet_12 ?_
  refine lv_aload_n hx hb dX10_feet_15 rfl (lv_at hl 0 rfl) ?_
  refine lv_iload_n hx hb dX10_feet_16 rfl (lv_at hl 1 rfl) ?_
  refine lv_iconst (v := (1 : Int32)) hx hb dX10_feet_17 (by decide) ?_
  obtain ⟨r3, er3, hF⟩ := kb hF
  refine kRV (rest := [.ref h_t_s, .int r2]) C (k_M_at l E h_t h_t_s x_t_kept x_t_before x_t_findings x_t_shown x_t_worths x_t_steps x_t_tape x_t_bits x_t_longs x_t_cells x_t_between c_t_isKept c_t_most c_t_taped c_t_here c_t_fault c_t_value a1 (1 : Int32) r3 er3) fn_M_at mw_1084 ⟨Nat.le_of_ble_eq_true rfl, Nat.le_of_ble_eq_true rfl⟩ hK hT hS (va_recv hK hP (ci := 8) (q0 := 0) rfl rfl) hP [0] rfl rfl rfl hl (Nat.le_of_ble_eq_true rfl) dX10_feet_18 ?_
  obtain ⟨r4, er4, hF⟩ := kb hF
  refine wa_iald hx hb hK hP 1 0 rfl rfl er4 dX10_feet_21 ?_
  obtain ⟨r5, er5, hF⟩ := kb hF
  refine kRS (rest := []) C (k_M_feetBy l E r2 r4 r5 er5) fn_M_feetBy mw_1111 ⟨Nat.le_of_ble_eq_true rfl, Nat.le_of_ble_eq_true rfl⟩ hK hT hS hP [] rfl rfl rfl hl (Nat.le_of_ble_eq_true rfl) dX10_feet_22 ?_
  obtain rfl := Option.some.inj hF
  exact W.iret hx hb hr (fun t ht hW => ⟨rfl, ht⟩) nofun dX10_feet_25
abbrev w_M_of (E : kE) (h_t : Nat) (h_t_findings : Nat) (h_t_s : Nat) (x_t_kept : Nat) (x_t_before : Nat) (x_t_shown : Nat) (x_t_worths : Nat) (x_t_steps : Nat) (x_t_tape : Nat) (x_t_bits : Nat) (x_t_longs : Nat) (x_t_cells : Nat) (x_t_between : Nat) (c_t_isKept : Int32) (c_t_most : Int32) (c_t_taped : Int32) (c_t_here : Int32) (c_t_fault : Int32) (c_t_value : Int32) (c_t_findings : (Nat → Int32)) (c_t_s : (Nat → Int32)) : va_W := [(h_t, .inr (8, [.ref h_t_s, .ref x_t_kept, .ref x_t_before, .int c_t_isKept, .ref h_t_findings, .ref x_t_shown, .int c_t_most, .ref x_t_worths, .ref x_t_steps, .ref x_t_tape, .int c_t_taped, .int c_t_here, .int c_t_fault, .int c_t_value, .ref x_t_bits, .ref x_t_longs, .ref x_t_cells, .ref x_t_between])), (h_t_findings, .inl (eI E, 7, .inl c_t_findings)), (h_t_s, .inl (eI E, 65, .inl c_t_s))]
set_option maxHeartbeats 4000000 in
set_option maxRecDepth 100000 in
theorem wk_M_of_b18 {p : Program} {l : Launch} {e : Env} {s : State} {m : MethodId} {args : Array Value} {below : List Frame} {meth : Method} {c : Code} {A : Nat → Prop} (E : kE) (h_t : Nat) (h_t_findings : Nat) (h_t_s : Nat) (x_t_kept : Nat) (x_t_before : Nat) (x_t_shown : Nat) (x_t_worths : Nat) (x_t_steps : Nat) (x_t_tape : Nat) (x_t_bits : Nat) (x_t_longs : Nat) (x_t_cells : Nat) (x_t_between : Nat) (c_t_isKept : Int32) (c_t_most : Int32) (c_t_taped : Int32) (c_t_here : Int32) (c_t_fault : Int32) (c_t_value : Int32) (c_t_s : (Nat → Int32)) (a1 : Int32) (a2 : Int32) {out : Int32 × (Nat → Int32)} (C : kC RX10 cX10_of 3 (some .int) p s m args meth c) (hA : ∀ q : Nat, s.heap.size ≤ q → A q) (hK : va_K (eD E) vwCl (eT E) s) (hT : sT E A s s.heap)  :
    ∀ (c_t_findings : (Nat → Int32)), f_M_of_b18  c_t_s a1 a2 c_t_findings = some out → ∀ (H : Heap) (locs : List Loc), va_P (eD E) vwCl (w_M_of E h_t h_t_findings h_t_s x_t_kept x_t_before x_t_shown x_t_worths x_t_steps x_t_tape x_t_bits x_t_longs x_t_cells x_t_between c_t_isKept c_t_most c_t_taped c_t_here c_t_fault c_t_value c_t_findings c_t_s) H → va_D A (w_M_of E h_t h_t_findings h_t_s x_t_kept x_t_before x_t_shown x_t_worths x_t_steps x_t_tape x_t_bits x_t_longs x_t_cells x_t_between c_t_isKept c_t_most c_t_taped c_t_here c_t_fault c_t_value c_t_findings c_t_s) → va_S A s.heap H locs → ∀ (ls : Array Slot), lv_has ls 3 [(0, .ref h_t)] → W p l e (rm 10) s m args below meth c H locs 0 0 (MQ below (qW (some (.int out.1)) E (w_M_of E h_t h_t_findings h_t_s x_t_kept x_t_before x_t_shown x_t_worths x_t_steps x_t_tape x_t_bits x_t_longs x_t_cells x_t_between c_t_isKept c_t_most c_t_taped c_t_here c_t_fault c_t_value out.2 c_t_s) A) args s 0 0 A) (F0 m 18 ls []) := by
  obtain ⟨hx, hb, hr, hml, hown, hw, hlocks⟩ := id C
  intro c_t_findings hF H locs hP hD hS ls hl
  rw [f_M_of_b18] at hF
  refine lv_aload_n hx hb dX10_of_18 rfl (lv_at hl 0 rfl) ?_
  refine lv_iconst (v := (0 : Int32)) hx hb dX10_of_19 (by decide) ?_
  obtain ⟨r1, er1, hF⟩ := kb hF
  refine kWV (rest := []) (Wr := [(h_t_s, .inl (eI E, 65, .inl c_t_s))]) (Wn := (w_M_of E h_t h_t_findings h_t_s x_t_kept x_t_before x_t_shown x_t_worths x_t_steps x_t_tape x_t_bits x_t_longs x_t_cells x_t_between c_t_isKept c_t_most c_t_taped c_t_here c_t_fault c_t_value r1.2 c_t_s)) C (k_M_no l E h_t h_t_findings h_t_s x_t_kept x_t_before x_t_shown x_t_worths x_t_steps x_t_tape x_t_bits x_t_longs x_t_cells x_t_between H.size c_t_isKept c_t_most c_t_taped c_t_here c_t_fault c_t_value c_t_findings (0 : Int32) r1 er1) fn_M_no mw_964 ⟨Nat.le_of_ble_eq_true rfl, Nat.le_of_ble_eq_true rfl⟩ hK hT hS hA (va_recv hK hP (ci := 8) (q0 := 0) rfl rfl) hP hD [0, 1] rfl (by decide) [2] rfl (by decide) (by decide) [1, 2, 0] rfl (by decide) rfl rfl hl (Nat.le_of_ble_eq_true rfl) dX10_of_20 (fun H locs hP hD hS => ?_)
  refine W.eq (g2 := F0 m 23 ls [.int r1.1]) rfl ?_
  obtain rfl := Option.some.inj hF
  exact W.iret hx hb hr (fun t ht hW => ⟨⟨rfl, by rw [ht]; exact hP, hD⟩, hS.F ht⟩) hS.2.2 dX10_of_23
set_option maxHeartbeats 4000000 in
set_option maxRecDepth 100000 in
theorem k_M_of (l : Launch) (E : kE) (h_t : Nat) (h_t_findings : Nat) (h_t_s : Nat) (x_t_kept : Nat) (x_t_before : Nat) (x_t_shown : Nat) (x_t_worths : Nat) (x_t_steps : Nat) (x_t_tape : Nat) (x_t_bits : Nat) (x_t_longs : Nat) (x_t_cells : Nat) (x_t_between : Nat) (sz : Nat) (c_t_isKept : Int32) (c_t_most : Int32) (c_t_taped : Int32) (c_t_here : Int32) (c_t_fault : Int32) (c_t_value : Int32) (c_t_findings : (Nat → Int32)) (c_t_s : (Nat → Int32)) (a1 : Int32) (a2 : Int32) (out : Int32 × (Nat → Int32)) (hF : f_M_of c_t_findings c_t_s a1 a2 = some out) : Met l yX10_of (Cond.code yX10_of cX10_of 3 (some .int) :: wG) (rm 10) (pW E (w_M_of E h_t h_t_findings h_t_s x_t_kept x_t_before x_t_shown x_t_worths x_t_steps x_t_tape x_t_bits x_t_longs x_t_cells x_t_between c_t_isKept c_t_most c_t_taped c_t_here c_t_fault c_t_value c_t_findings c_t_s) sz [.ref h_t, .int a1, .int a2]) (qW (some (.int out.1)) E (w_M_of E h_t h_t_findings h_t_s x_t_kept x_t_before x_t_shown x_t_worths x_t_steps x_t_tape x_t_bits x_t_longs x_t_cells x_t_between c_t_isKept c_t_most c_t_taped c_t_here c_t_fault c_t_value out.2 c_t_s) (va_A (w_M_of E h_t h_t_findings h_t_s x_t_kept x_t_before x_t_shown x_t_worths x_t_steps x_t_tape x_t_bits x_t_longs x_t_cells x_t_between c_t_isKept c_t_most c_t_taped c_t_here c_t_fault c_t_value c_t_findings c_t_s) sz)) 0 0 (va_A (w_M_of E h_t h_t_findings h_t_s x_t_kept x_t_before x_t_shown x_t_worths x_t_steps x_t_tape x_t_bits x_t_longs x_t_cells x_t_between c_t_isKept c_t_most c_t_taped c_t_here c_t_fault c_t_value c_t_findings c_t_s) sz) := by
  refine met_W (by decide) (Nat.le_of_ble_eq_true rfl) ?_
  intro p e s m args below meth c A ls C hP hD hS hA hK hT hl
  obtain ⟨hx, hb, hr, hml, hown, hw, hlocks⟩ := id C
  have hl : lv_has ls 3 [(0, .ref h_t), (1, .int a1), (2, .int a2)] := hl
  rw [f_M_of] at hF
  refine lv_aload_n hx hb dX10_of_0 rfl (lv_at hl 0 rfl) ?_
  refine lv_iload_n hx hb dX10_of_1 rfl (lv_at hl 1 rfl) ?_
  obtain ⟨r2, er2, hF⟩ := kb hF
  refine kRV (rest := []) C (k_M_isLetter l E h_t h_t_s x_t_kept x_t_before h_t_findings x_t_shown x_t_worths x_t_steps x_t_tape x_t_bits x_t_longs x_t_cells x_t_between c_t_isKept c_t_most c_t_taped c_t_here c_t_fault c_t_value c_t_s a1 r2 er2) fn_M_isLetter mw_1092 ⟨Nat.le_of_ble_eq_true rfl, Nat.le_of_ble_eq_true rfl⟩ hK hT hS (va_recv hK hP (ci := 8) (q0 := 0) rfl rfl) hP [0, 2] rfl rfl rfl hl (Nat.le_of_ble_eq_true rfl) dX10_of_2 ?_
  refine lv_if_eq (tgt := 18) hx hb dX10_of_5 (by decide) (fun q3 => ?_) (fun q3 => ?_)
  · have hF := kp hF q3
    exact wk_M_of_b18 E h_t h_t_findings h_t_s x_t_kept x_t_before x_t_shown x_t_worths x_t_steps x_t_tape x_t_bits x_t_longs x_t_cells x_t_between c_t_isKept c_t_most c_t_taped c_t_here c_t_fault c_t_value c_t_s a1 a2 C hA  hK hT  c_t_findings hF _ _ hP hD hS _ (lv_sub hl [0] rfl)
  · have hF := kn hF q3
    refine lv_iload_n hx hb dX10_of_8 rfl (lv_at hl 2 rfl) ?_
    refine lv_iconst (v := (0 : Int32)) hx hb dX10_of_9 (by decide) ?_
    refine lv_bipush (v := (7 : Int32)) hx hb dX10_of_10 (by decide) ?_
    obtain ⟨r4, er4, hF⟩ := kb hF
    refine kRS (rest := []) C (k_M_in l E a2 (0 : Int32) (7 : Int32) r4 er4) fn_M_in mw_943 ⟨Nat.le_of_ble_eq_true rfl, Nat.le_of_ble_eq_true rfl⟩ hK hT hS hP [] rfl rfl rfl hl (Nat.le_of_ble_eq_true rfl) dX10_of_12 ?_
    refine lv_if_ne (tgt := 24) hx hb dX10_of_15 (by decide) (fun q5 => ?_) (fun q5 => ?_)
    · have hF := kn hF q5
      refine lv_iload_n hx hb dX10_of_24 rfl (lv_at hl 2 rfl) ?_
      by_cases q6_3 : a2 = (3 : Int32)
      · have hF := kp hF q6_3
        refine lv_tableIn (tgt := 60) (off := 35) hx hb dX10_of_25 (sw_in (lo := 3) (hi := 7) q6_3 (by decide)).1 (sw_in (lo := 3) (hi := 7) q6_3 (by decide)).2 (sw_at q6_3 rfl) (by decide) ?_
        refine lv_aload_n hx hb dX10_of_60 rfl (lv_at hl 0 rfl) ?_
        refine lv_iload_n hx hb dX10_of_61 rfl (lv_at hl 1 rfl) ?_
        obtain ⟨r7, er7, hF⟩ := kb hF
        refine kRV (rest := []) C (k_M_lasts l E h_t h_t_s x_t_kept x_t_before h_t_findings x_t_shown x_t_worths x_t_steps x_t_tape x_t_bits x_t_longs x_t_cells x_t_between c_t_isKept c_t_most c_t_taped c_t_here c_t_fault c_t_value c_t_s a1 r7 er7) fn_M_lasts mw_1096 ⟨Nat.le_of_ble_eq_true rfl, Nat.le_of_ble_eq_true rfl⟩ hK hT hS (va_recv hK hP (ci := 8) (q0 := 0) rfl rfl) hP [0, 2] rfl rfl rfl hl (Nat.le_of_ble_eq_true rfl) dX10_of_62 ?_
        obtain rfl := Option.some.inj hF
        exact W.iret hx hb hr (fun t ht hW => ⟨⟨rfl, by rw [ht]; exact hP, hD⟩, hS.F ht⟩) hS.2.2 dX10_of_65
      have hF := kn hF q6_3
      by_cases q6_4 : a2 = (4 : Int32)
      · have hF := kp hF q6_4
        refine lv_tableIn (tgt := 66) (off := 41) hx hb dX10_of_25 (sw_in (lo := 3) (hi := 7) q6_4 (by decide)).1 (sw_in (lo := 3) (hi := 7) q6_4 (by decide)).2 (sw_at q6_4 rfl) (by decide) ?_
        refine lv_aload_n hx hb dX10_of_66 rfl (lv_at hl 0 rfl) ?_
        refine lv_iload_n hx hb dX10_of_67 rfl (lv_at hl 1 rfl) ?_
        obtain ⟨r8, er8, hF⟩ := kb hF
        refine kRV (rest := []) C (k_M_shows l E h_t h_t_s x_t_kept x_t_before h_t_findings x_t_shown x_t_worths x_t_steps x_t_tape x_t_bits x_t_longs x_t_cells x_t_between c_t_isKept c_t_most c_t_taped c_t_here c_t_fault c_t_value c_t_s a1 r8 er8) fn_M_shows mw_1103 ⟨Nat.le_of_ble_eq_true rfl, Nat.le_of_ble_eq_true rfl⟩ hK hT hS (va_recv hK hP (ci := 8) (q0 := 0) rfl rfl) hP [0, 2] rfl rfl rfl hl (Nat.le_of_ble_eq_true rfl) dX10_of_68 ?_
        obtain rfl := Option.some.inj hF
        exact W.iret hx hb hr (fun t ht hW => ⟨⟨rfl, by rw [ht]; exact hP, hD⟩, hS.F ht⟩) hS.2.2 dX10_of_71
      have hF := kn hF q6_4
      by_cases q6_5 : a2 = (5 : Int32)
      · have hF := kp hF q6_5
        refine lv_tableIn (tgt := 72) (off := 47) hx hb dX10_of_25 (sw_in (lo := 3) (hi := 7) q6_5 (by decide)).1 (sw_in (lo := 3) (hi := 7) q6_5 (by decide)).2 (sw_at q6_5 rfl) (by decide) ?_
        refine lv_aload_n hx hb dX10_of_72 rfl (lv_at hl 0 rfl) ?_
        refine lv_iload_n hx hb dX10_of_73 rfl (lv_at hl 1 rfl) ?_
        obtain ⟨r9, er9, hF⟩ := kb hF
        refine kRV (rest := []) C (k_M_feet l E h_t h_t_s x_t_kept x_t_before h_t_findings x_t_shown x_t_worths x_t_steps x_t_tape x_t_bits x_t_longs x_t_cells x_t_between c_t_isKept c_t_most c_t_taped c_t_here c_t_fault c_t_value c_t_s a1 r9 er9) fn_M_feet mw_1107 ⟨Nat.le_of_ble_eq_true rfl, Nat.le_of_ble_eq_true rfl⟩ hK hT hS (va_recv hK hP (ci := 8) (q0 := 0) rfl rfl) hP [0, 2] rfl rfl rfl hl (Nat.le_of_ble_eq_true rfl) dX10_of_74 ?_
        obtain rfl := Option.some.inj hF
        exact W.iret hx hb hr (fun t ht hW => ⟨⟨rfl, by rw [ht]; exact hP, hD⟩, hS.F ht⟩) hS.2.2 dX10_of_77
      have hF := kn hF q6_5
      by_cases q6_6 : a2 = (6 : Int32)
      · have hF := kp hF q6_6
        refine lv_tableIn (tgt := 78) (off := 53) hx hb dX10_of_25 (sw_in (lo := 3) (hi := 7) q6_6 (by decide)).1 (sw_in (lo := 3) (hi := 7) q6_6 (by decide)).2 (sw_at q6_6 rfl) (by decide) ?_
        refine lv_aload_n hx hb dX10_of_78 rfl (lv_at hl 0 rfl) ?_
        refine lv_aload_n hx hb dX10_of_79 rfl (lv_at hl 0 rfl) ?_
        refine va_get (D := eD E) (ci := 8) (C := RX10) (T := TX10) (N := 18) (v := .ref h_t_s) hx hb hw inX10 hown hK hP 0 rfl rfl 0 (by decide) (hw _ mw_881) (fun _ h9 => h9) rfl dX10_of_80 ?_
        refine lv_aload_n hx hb dX10_of_83 rfl (lv_at hl 0 rfl) ?_
        refine lv_iload_n hx hb dX10_of_84 rfl (lv_at hl 1 rfl) ?_
        refine lv_iconst (v := (1 : Int32)) hx hb dX10_of_85 (by decide) ?_
        obtain ⟨r10, er10, hF⟩ := kb hF
        refine kRV (rest := [.ref h_t_s, .ref h_t]) C (k_M_at l E h_t h_t_s x_t_kept x_t_before h_t_findings x_t_shown x_t_worths x_t_steps x_t_tape x_t_bits x_t_longs x_t_cells x_t_between c_t_isKept c_t_most c_t_taped c_t_here c_t_fault c_t_value a1 (1 : Int32) r10 er10) fn_M_at mw_1084 ⟨Nat.le_of_ble_eq_true rfl, Nat.le_of_ble_eq_true rfl⟩ hK hT hS (va_recv hK hP (ci := 8) (q0 := 0) rfl rfl) hP [0] rfl rfl rfl hl (Nat.le_of_ble_eq_true rfl) dX10_of_86 ?_
        obtain ⟨r11, er11, hF⟩ := kb hF
        refine wa_iald hx hb hK hP 2 0 rfl rfl er11 dX10_of_89 ?_
        obtain ⟨r12, er12, hF⟩ := kb hF
        refine kRV (rest := []) C (k_M_readAs l E h_t h_t_s x_t_kept x_t_before h_t_findings x_t_shown x_t_worths x_t_steps x_t_tape x_t_bits x_t_longs x_t_cells x_t_between c_t_isKept c_t_most c_t_taped c_t_here c_t_fault c_t_value c_t_s r11 r12 er12) fn_M_readAs mw_1049 ⟨Nat.le_of_ble_eq_true rfl, Nat.le_of_ble_eq_true rfl⟩ hK hT hS (va_recv hK hP (ci := 8) (q0 := 0) rfl rfl) hP [0, 2] rfl rfl rfl hl (Nat.le_of_ble_eq_true rfl) dX10_of_90 ?_
        obtain rfl := Option.some.inj hF
        exact W.iret hx hb hr (fun t ht hW => ⟨⟨rfl, by rw [ht]; exact hP, hD⟩, hS.F ht⟩) hS.2.2 dX10_of_93
      have hF := kn hF q6_6
      by_cases q6_7 : a2 = (7 : Int32)
      · have hF := kp hF q6_7
        refine lv_tableIn (tgt := 94) (off := 69) hx hb dX10_of_25 (sw_in (lo := 3) (hi := 7) q6_7 (by decide)).1 (sw_in (lo := 3) (hi := 7) q6_7 (by decide)).2 (sw_at q6_7 rfl) (by decide) ?_
        refine lv_aload_n hx hb dX10_of_94 rfl (lv_at hl 0 rfl) ?_
        refine lv_aload_n hx hb dX10_of_95 rfl (lv_at hl 0 rfl) ?_
        refine lv_iload_n hx hb dX10_of_96 rfl (lv_at hl 1 rfl) ?_
        obtain ⟨r13, er13, hF⟩ := kb hF
        refine kRV (rest := [.ref h_t]) C (k_M_shows l E h_t h_t_s x_t_kept x_t_before h_t_findings x_t_shown x_t_worths x_t_steps x_t_tape x_t_bits x_t_longs x_t_cells x_t_between c_t_isKept c_t_most c_t_taped c_t_here c_t_fault c_t_value c_t_s a1 r13 er13) fn_M_shows mw_1103 ⟨Nat.le_of_ble_eq_true rfl, Nat.le_of_ble_eq_true rfl⟩ hK hT hS (va_recv hK hP (ci := 8) (q0 := 0) rfl rfl) hP [0, 2] rfl rfl rfl hl (Nat.le_of_ble_eq_true rfl) dX10_of_97 ?_
        obtain ⟨r14, er14, hF⟩ := kb hF
        refine kRV (rest := []) C (k_M_readAs l E h_t h_t_s x_t_kept x_t_before h_t_findings x_t_shown x_t_worths x_t_steps x_t_tape x_t_bits x_t_longs x_t_cells x_t_between c_t_isKept c_t_most c_t_taped c_t_here c_t_fault c_t_value c_t_s r13 r14 er14) fn_M_readAs mw_1049 ⟨Nat.le_of_ble_eq_true rfl, Nat.le_of_ble_eq_true rfl⟩ hK hT hS (va_recv hK hP (ci := 8) (q0 := 0) rfl rfl) hP [0, 2] rfl rfl rfl hl (Nat.le_of_ble_eq_true rfl) dX10_of_100 ?_
        obtain rfl := Option.some.inj hF
        exact W.iret hx hb hr (fun t ht hW => ⟨⟨rfl, by rw [ht]; exact hP, hD⟩, hS.F ht⟩) hS.2.2 dX10_of_103
      have hF := kn hF q6_7
      refine lv_tableOut (tgt := 104) hx hb dX10_of_25 (by have z0 := lv_neT q6_3 (a := 3) (by decide); have z1 := lv_neT q6_4 (a := 4) (by decide); have z2 := lv_neT q6_5 (a := 5) (by decide); have z3 := lv_neT q6_6 (a := 6) (by decide); have z4 := lv_neT q6_7 (a := 7) (by decide); omega) (by decide) ?_
      refine lv_aload_n hx hb dX10_of_104 rfl (lv_at hl 0 rfl) ?_
      refine va_get (D := eD E) (ci := 8) (C := RX10) (T := TX10) (N := 18) (v := .ref h_t_s) hx hb hw inX10 hown hK hP 0 rfl rfl 0 (by decide) (hw _ mw_881) (fun _ h9 => h9) rfl dX10_of_105 ?_
      refine lv_aload_n hx hb dX10_of_108 rfl (lv_at hl 0 rfl) ?_
      refine lv_iload_n hx hb dX10_of_109 rfl (lv_at hl 1 rfl) ?_
      refine lv_iload_n hx hb dX10_of_110 rfl (lv_at hl 2 rfl) ?_
      obtain ⟨r15, er15, hF⟩ := kb hF
      refine kRV (rest := [.ref h_t_s]) C (k_M_at l E h_t h_t_s x_t_kept x_t_before h_t_findings x_t_shown x_t_worths x_t_steps x_t_tape x_t_bits x_t_longs x_t_cells x_t_between c_t_isKept c_t_most c_t_taped c_t_here c_t_fault c_t_value a1 a2 r15 er15) fn_M_at mw_1084 ⟨Nat.le_of_ble_eq_true rfl, Nat.le_of_ble_eq_true rfl⟩ hK hT hS (va_recv hK hP (ci := 8) (q0 := 0) rfl rfl) hP [0] rfl rfl rfl hl (Nat.le_of_ble_eq_true rfl) dX10_of_111 ?_
      obtain ⟨r16, er16, hF⟩ := kb hF
      refine wa_iald hx hb hK hP 2 0 rfl rfl er16 dX10_of_114 ?_
      obtain rfl := Option.some.inj hF
      exact W.iret hx hb hr (fun t ht hW => ⟨⟨rfl, by rw [ht]; exact hP, hD⟩, hS.F ht⟩) hS.2.2 dX10_of_115
    · have hF := kp hF q5
      exact wk_M_of_b18 E h_t h_t_findings h_t_s x_t_kept x_t_before x_t_shown x_t_worths x_t_steps x_t_tape x_t_bits x_t_longs x_t_cells x_t_between c_t_isKept c_t_most c_t_taped c_t_here c_t_fault c_t_value c_t_s a1 a2 C hA  hK hT  c_t_findings hF _ _ hP hD hS _ (lv_sub hl [0] rfl)
abbrev w_M_set (E : kE) (h_t : Nat) (h_t_findings : Nat) (h_t_s : Nat) (x_t_kept : Nat) (x_t_before : Nat) (x_t_shown : Nat) (x_t_worths : Nat) (x_t_steps : Nat) (x_t_tape : Nat) (x_t_bits : Nat) (x_t_longs : Nat) (x_t_cells : Nat) (x_t_between : Nat) (c_t_isKept : Int32) (c_t_most : Int32) (c_t_taped : Int32) (c_t_here : Int32) (c_t_fault : Int32) (c_t_value : Int32) (c_t_findings : (Nat → Int32)) (c_t_s : (Nat → Int32)) : va_W := [(h_t, .inr (8, [.ref h_t_s, .ref x_t_kept, .ref x_t_before, .int c_t_isKept, .ref h_t_findings, .ref x_t_shown, .int c_t_most, .ref x_t_worths, .ref x_t_steps, .ref x_t_tape, .int c_t_taped, .int c_t_here, .int c_t_fault, .int c_t_value, .ref x_t_bits, .ref x_t_longs, .ref x_t_cells, .ref x_t_between])), (h_t_findings, .inl (eI E, 7, .inl c_t_findings)), (h_t_s, .inl (eI E, 65, .inl c_t_s))]
set_option maxHeartbeats 4000000 in
set_option maxRecDepth 100000 in
theorem wk_M_set_b61 {p : Program} {l : Launch} {e : Env} {s : State} {m : MethodId} {args : Array Value} {below : List Frame} {meth : Method} {c : Code} {A : Nat → Prop} (E : kE) (h_t : Nat) (h_t_findings : Nat) (h_t_s : Nat) (x_t_kept : Nat) (x_t_before : Nat) (x_t_shown : Nat) (x_t_worths : Nat) (x_t_steps : Nat) (x_t_tape : Nat) (x_t_bits : Nat) (x_t_longs : Nat) (x_t_cells : Nat) (x_t_between : Nat) (c_t_isKept : Int32) (c_t_most : Int32) (c_t_taped : Int32) (c_t_here : Int32) (c_t_fault : Int32) (c_t_value : Int32) (a1 : Int32) (a2 : Int32) (a3 : Int32) {out : Int32 × (Nat → Int32) × (Nat → Int32)} (C : kC RX10 cX10_set 5 (some .int) p s m args meth c) (hA : ∀ q : Nat, s.heap.size ≤ q → A q) (hK : va_K (eD E) vwCl (eT E) s) (hT : sT E A s s.heap)  :
    ∀ (c_t_findings : (Nat → Int32)) (c_t_s : (Nat → Int32)), f_M_set_b61  a1 a2 a3 c_t_findings c_t_s = some out → ∀ (H : Heap) (locs : List Loc), va_P (eD E) vwCl (w_M_set E h_t h_t_findings h_t_s x_t_kept x_t_before x_t_shown x_t_worths x_t_steps x_t_tape x_t_bits x_t_longs x_t_cells x_t_between c_t_isKept c_t_most c_t_taped c_t_here c_t_fault c_t_value c_t_findings c_t_s) H → va_D A (w_M_set E h_t h_t_findings h_t_s x_t_kept x_t_before x_t_shown x_t_worths x_t_steps x_t_tape x_t_bits x_t_longs x_t_cells x_t_between c_t_isKept c_t_most c_t_taped c_t_here c_t_fault c_t_value c_t_findings c_t_s) → va_S A s.heap H locs → ∀ (ls : Array Slot), lv_has ls 5 [(0, .ref h_t)] → W p l e (rm 3) s m args below meth c H locs 0 0 (MQ below (qW (some (.int out.1)) E (w_M_set E h_t h_t_findings h_t_s x_t_kept x_t_before x_t_shown x_t_worths x_t_steps x_t_tape x_t_bits x_t_longs x_t_cells x_t_between c_t_isKept c_t_most c_t_taped c_t_here c_t_fault c_t_value out.2.1 out.2.2) A) args s 0 0 A) (F0 m 61 ls []) := by
  obtain ⟨hx, hb, hr, hml, hown, hw, hlocks⟩ := id C
  intro c_t_findings c_t_s hF H locs hP hD hS ls hl
  rw [f_M_set_b61] at hF
  refine lv_aload_n hx hb dX10_set_61 rfl (lv_at hl 0 rfl) ?_
  refine lv_iconst (v := (0 : Int32)) hx hb dX10_set_62 (by decide) ?_
  obtain ⟨r1, er1, hF⟩ := kb hF
  refine kWV (rest := []) (Wr := [(h_t_s, .inl (eI E, 65, .inl c_t_s))]) (Wn := (w_M_set E h_t h_t_findings h_t_s x_t_kept x_t_before x_t_shown x_t_worths x_t_steps x_t_tape x_t_bits x_t_longs x_t_cells x_t_between c_t_isKept c_t_most c_t_taped c_t_here c_t_fault c_t_value r1.2 c_t_s)) C (k_M_no l E h_t h_t_findings h_t_s x_t_kept x_t_before x_t_shown x_t_worths x_t_steps x_t_tape x_t_bits x_t_longs x_t_cells x_t_between H.size c_t_isKept c_t_most c_t_taped c_t_here c_t_fault c_t_value c_t_findings (0 : Int32) r1 er1) fn_M_no mw_964 ⟨Nat.le_of_ble_eq_true rfl, Nat.le_of_ble_eq_true rfl⟩ hK hT hS hA (va_recv hK hP (ci := 8) (q0 := 0) rfl rfl) hP hD [0, 1] rfl (by decide) [2] rfl (by decide) (by decide) [1, 2, 0] rfl (by decide) rfl rfl hl (Nat.le_of_ble_eq_true rfl) dX10_set_63 (fun H locs hP hD hS => ?_)
  refine W.eq (g2 := F0 m 66 ls [.int r1.1]) rfl ?_
  obtain rfl := Option.some.inj hF
  exact W.iret hx hb hr (fun t ht hW => ⟨⟨rfl, by rw [ht]; exact hP, hD⟩, hS.F ht⟩) hS.2.2 dX10_set_66
set_option maxHeartbeats 4000000 in
set_option maxRecDepth 100000 in
theorem wk_M_set_b32 {p : Program} {l : Launch} {e : Env} {s : State} {m : MethodId} {args : Array Value} {below : List Frame} {meth : Method} {c : Code} {A : Nat → Prop} (E : kE) (h_t : Nat) (h_t_findings : Nat) (h_t_s : Nat) (x_t_kept : Nat) (x_t_before : Nat) (x_t_shown : Nat) (x_t_worths : Nat) (x_t_steps : Nat) (x_t_tape : Nat) (x_t_bits : Nat) (x_t_longs : Nat) (x_t_cells : Nat) (x_t_between : Nat) (c_t_isKept : Int32) (c_t_most : Int32) (c_t_taped : Int32) (c_t_here : Int32) (c_t_fault : Int32) (c_t_value : Int32) (a1 : Int32) (a2 : Int32) (a3 : Int32) {out : Int32 × (Nat → Int32) × (Nat → Int32)} (C : kC RX10 cX10_set 5 (some .int) p s m args meth c) (hA : ∀ q : Nat, s.heap.size ≤ q → A q) (hK : va_K (eD E) vwCl (eT E) s) (hT : sT E A s s.heap)  :
    ∀ (c_t_findings : (Nat → Int32)) (c_t_s : (Nat → Int32)) (s0 : Int32), f_M_set_b32  a1 a2 a3 c_t_findings c_t_s s0 = some out → ∀ (H : Heap) (locs : List Loc), va_P (eD E) vwCl (w_M_set E h_t h_t_findings h_t_s x_t_kept x_t_before x_t_shown x_t_worths x_t_steps x_t_tape x_t_bits x_t_longs x_t_cells x_t_between c_t_isKept c_t_most c_t_taped c_t_here c_t_fault c_t_value c_t_findings c_t_s) H → va_D A (w_M_set E h_t h_t_findings h_t_s x_t_kept x_t_before x_t_shown x_t_worths x_t_steps x_t_tape x_t_bits x_t_longs x_t_cells x_t_between c_t_isKept c_t_most c_t_taped c_t_here c_t_fault c_t_value c_t_findings c_t_s) → va_S A s.heap H locs → ∀ (ls : Array Slot), lv_has ls 5 [(0, .ref h_t), (1, .int a1), (2, .int a2), (3, .int a3)] → W p l e (rm 3) s m args below meth c H locs 0 0 (MQ below (qW (some (.int out.1)) E (w_M_set E h_t h_t_findings h_t_s x_t_kept x_t_before x_t_shown x_t_worths x_t_steps x_t_tape x_t_bits x_t_longs x_t_cells x_t_between c_t_isKept c_t_most c_t_taped c_t_here c_t_fault c_t_value out.2.1 out.2.2) A) args s 0 0 A) (F0 m 32 ls [.int s0]) := by
  obtain ⟨hx, hb, hr, hml, hown, hw, hlocks⟩ := id C
  intro c_t_findings c_t_s s0 hF H locs hP hD hS ls hl
  rw [f_M_set_b32] at hF
  refine lv_istore (lv' := [(4, .int s0), (0, .ref h_t), (1, .int a1), (2, .int a2), (3, .int a3)]) hx hb dX10_set_32 hl (by decide) rfl (fun ls hl => ?_)
  refine lv_aload_n hx hb dX10_set_34 rfl (lv_at hl 1 rfl) ?_
  refine lv_iload_n hx hb dX10_set_35 rfl (lv_at hl 2 rfl) ?_
  obtain ⟨r2, er2, hF⟩ := kb hF
  refine kRV (rest := []) C (k_M_isLetter l E h_t h_t_s x_t_kept x_t_before h_t_findings x_t_shown x_t_worths x_t_steps x_t_tape x_t_bits x_t_longs x_t_cells x_t_between c_t_isKept c_t_most c_t_taped c_t_here c_t_fault c_t_value c_t_s a1 r2 er2) fn_M_isLetter mw_1092 ⟨Nat.le_of_ble_eq_true rfl, Nat.le_of_ble_eq_true rfl⟩ hK hT hS (va_recv hK hP (ci := 8) (q0 := 0) rfl rfl) hP [0, 2] rfl rfl rfl hl (Nat.le_of_ble_eq_true rfl) dX10_set_36 ?_
  refine lv_if_eq (tgt := 61) hx hb dX10_set_39 (by decide) (fun q3 => ?_) (fun q3 => ?_)
  · have hF := kp hF q3
    exact wk_M_set_b61 E h_t h_t_findings h_t_s x_t_kept x_t_before x_t_shown x_t_worths x_t_steps x_t_tape x_t_bits x_t_longs x_t_cells x_t_between c_t_isKept c_t_most c_t_taped c_t_here c_t_fault c_t_value a1 a2 a3 C hA  hK hT  c_t_findings c_t_s hF _ _ hP hD hS _ (lv_sub hl [1] rfl)
  · have hF := kn hF q3
    refine lv_iload hx hb dX10_set_42 (lv_at hl 0 rfl) ?_
    refine lv_if_eq (tgt := 61) hx hb dX10_set_44 (by decide) (fun q4 => ?_) (fun q4 => ?_)
    · have hF := kp hF q4
      exact wk_M_set_b61 E h_t h_t_findings h_t_s x_t_kept x_t_before x_t_shown x_t_worths x_t_steps x_t_tape x_t_bits x_t_longs x_t_cells x_t_between c_t_isKept c_t_most c_t_taped c_t_here c_t_fault c_t_value a1 a2 a3 C hA  hK hT  c_t_findings c_t_s hF _ _ hP hD hS _ (lv_sub hl [1] rfl)
    · have hF := kn hF q4
      refine lv_aload_n hx hb dX10_set_47 rfl (lv_at hl 1 rfl) ?_
      refine lv_aload_n hx hb dX10_set_48 rfl (lv_at hl 1 rfl) ?_
      refine lv_iload_n hx hb dX10_set_49 rfl (lv_at hl 2 rfl) ?_
      refine lv_iload_n hx hb dX10_set_50 rfl (lv_at hl 3 rfl) ?_
      obtain ⟨r5, er5, hF⟩ := kb hF
      refine kRV (rest := [.ref h_t]) C (k_M_at l E h_t h_t_s x_t_kept x_t_before h_t_findings x_t_shown x_t_worths x_t_steps x_t_tape x_t_bits x_t_longs x_t_cells x_t_between c_t_isKept c_t_most c_t_taped c_t_here c_t_fault c_t_value a1 a2 r5 er5) fn_M_at mw_1084 ⟨Nat.le_of_ble_eq_true rfl, Nat.le_of_ble_eq_true rfl⟩ hK hT hS (va_recv hK hP (ci := 8) (q0 := 0) rfl rfl) hP [0] rfl rfl rfl hl (Nat.le_of_ble_eq_true rfl) dX10_set_51 ?_
      refine lv_iload_n hx hb dX10_set_54 rfl (lv_at hl 4 rfl) ?_
      obtain ⟨r6, er6, hF⟩ := kb hF
      refine kWV (rest := []) (Wr := [(h_t_findings, .inl (eI E, 7, .inl c_t_findings))]) (Wn := (w_M_set E h_t h_t_findings h_t_s x_t_kept x_t_before x_t_shown x_t_worths x_t_steps x_t_tape x_t_bits x_t_longs x_t_cells x_t_between c_t_isKept c_t_most c_t_taped c_t_here c_t_fault c_t_value c_t_findings r6.2)) C (k_M_puts l E h_t h_t_s x_t_kept x_t_before h_t_findings x_t_shown x_t_worths x_t_steps x_t_tape x_t_bits x_t_longs x_t_cells x_t_between H.size c_t_isKept c_t_most c_t_taped c_t_here c_t_fault c_t_value c_t_s r5 a3 r6 er6) fn_M_puts mw_1037 ⟨Nat.le_of_ble_eq_true rfl, Nat.le_of_ble_eq_true rfl⟩ hK hT hS hA (va_recv hK hP (ci := 8) (q0 := 0) rfl rfl) hP hD [0, 2] rfl (by decide) [1] rfl (by decide) (by decide) [1, 0, 2] rfl (by decide) rfl rfl hl (Nat.le_of_ble_eq_true rfl) dX10_set_55 (fun H locs hP hD hS => ?_)
      refine W.eq (g2 := F0 m 58 ls [.int r6.1]) rfl ?_
      refine lv_goto (tgt := 66) hx hb dX10_set_58 (by decide) ?_
      obtain rfl := Option.some.inj hF
      exact W.iret hx hb hr (fun t ht hW => ⟨⟨rfl, by rw [ht]; exact hP, hD⟩, hS.F ht⟩) hS.2.2 dX10_set_66
set_option maxHeartbeats 4000000 in
set_option maxRecDepth 100000 in
theorem k_M_set (l : Launch) (E : kE) (h_t : Nat) (h_t_findings : Nat) (h_t_s : Nat) (x_t_kept : Nat) (x_t_before : Nat) (x_t_shown : Nat) (x_t_worths : Nat) (x_t_steps : Nat) (x_t_tape : Nat) (x_t_bits : Nat) (x_t_longs : Nat) (x_t_cells : Nat) (x_t_between : Nat) (sz : Nat) (c_t_isKept : Int32) (c_t_most : Int32) (c_t_taped : Int32) (c_t_here : Int32) (c_t_fault : Int32) (c_t_value : Int32) (c_t_findings : (Nat → Int32)) (c_t_s : (Nat → Int32)) (a1 : Int32) (a2 : Int32) (a3 : Int32) (out : Int32 × (Nat → Int32) × (Nat → Int32)) (hF : f_M_set c_t_findings c_t_s a1 a2 a3 = some out) : Met l yX10_set (Cond.code yX10_set cX10_set 5 (some .int) :: wG) (rm 3) (pW E (w_M_set E h_t h_t_findings h_t_s x_t_kept x_t_before x_t_shown x_t_worths x_t_steps x_t_tape x_t_bits x_t_longs x_t_cells x_t_between c_t_isKept c_t_most c_t_taped c_t_here c_t_fault c_t_value c_t_findings c_t_s) sz [.ref h_t, .int a1, .int a2, .int a3]) (qW (some (.int out.1)) E (w_M_set E h_t h_t_findings h_t_s x_t_kept x_t_before x_t_shown x_t_worths x_t_steps x_t_tape x_t_bits x_t_longs x_t_cells x_t_between c_t_isKept c_t_most c_t_taped c_t_here c_t_fault c_t_value out.2.1 out.2.2) (va_A (w_M_set E h_t h_t_findings h_t_s x_t_kept x_t_before x_t_shown x_t_worths x_t_steps x_t_tape x_t_bits x_t_longs x_t_cells x_t_between c_t_isKept c_t_most c_t_taped c_t_here c_t_fault c_t_value c_t_findings c_t_s) sz)) 0 0 (va_A (w_M_set E h_t h_t_findings h_t_s x_t_kept x_t_before x_t_shown x_t_worths x_t_steps x_t_tape x_t_bits x_t_longs x_t_cells x_t_between c_t_isKept c_t_most c_t_taped c_t_here c_t_fault c_t_value c_t_findings c_t_s) sz) := by
  refine met_W (by decide) (Nat.le_of_ble_eq_true rfl) ?_
  intro p e s m args below meth c A ls C hP hD hS hA hK hT hl
  obtain ⟨hx, hb, hr, hml, hown, hw, hlocks⟩ := id C
  have hl : lv_has ls 5 [(0, .ref h_t), (1, .int a1), (2, .int a2), (3, .int a3)] := hl
  rw [f_M_set] at hF
  refine lv_iload_n hx hb dX10_set_0 rfl (lv_at hl 2 rfl) ?_
  refine lv_iconst (v := (1 : Int32)) hx hb dX10_set_1 (by decide) ?_
  refine lv_icmp_ne (tgt := 12) hx hb dX10_set_2 (by decide) (fun q7 => ?_) (fun q7 => ?_)
  · have hF := kn hF q7
    refine lv_iload_n hx hb dX10_set_12 rfl (lv_at hl 2 rfl) ?_
    refine lv_iconst (v := (2 : Int32)) hx hb dX10_set_13 (by decide) ?_
    refine lv_icmp_ne (tgt := 31) hx hb dX10_set_14 (by decide) (fun q8 => ?_) (fun q8 => ?_)
    · have hF := kn hF q8
      refine lv_iconst (v := (0 : Int32)) hx hb dX10_set_31 (by decide) ?_
      exact wk_M_set_b32 E h_t h_t_findings h_t_s x_t_kept x_t_before x_t_shown x_t_worths x_t_steps x_t_tape x_t_bits x_t_longs x_t_cells x_t_between c_t_isKept c_t_most c_t_taped c_t_here c_t_fault c_t_value a1 a2 a3 C hA  hK hT  c_t_findings c_t_s (0 : Int32) hF _ _ hP hD hS _ (lv_sub hl [0, 1, 2, 3] rfl)
    · have hF := kp hF q8
      refine lv_iload_n hx hb dX10_set_17 rfl (lv_at hl 3 rfl) ?_
      refine lv_iconst (v := (0 : Int32)) hx hb dX10_set_18 (by decide) ?_
      refine lv_bipush (v := (99 : Int32)) hx hb dX10_set_19 (by decide) ?_
      obtain ⟨r9, er9, hF⟩ := kb hF
      refine kRS (rest := []) C (k_M_in l E a3 (0 : Int32) (99 : Int32) r9 er9) fn_M_in mw_943 ⟨Nat.le_of_ble_eq_true rfl, Nat.le_of_ble_eq_true rfl⟩ hK hT hS hP [] rfl rfl rfl hl (Nat.le_of_ble_eq_true rfl) dX10_set_21 ?_
      refine lv_if_eq (tgt := 31) hx hb dX10_set_24 (by decide) (fun q10 => ?_) (fun q10 => ?_)
      · have hF := kp hF q10
        refine lv_iconst (v := (0 : Int32)) hx hb dX10_set_31 (by decide) ?_
        exact wk_M_set_b32 E h_t h_t_findings h_t_s x_t_kept x_t_before x_t_shown x_t_worths x_t_steps x_t_tape x_t_bits x_t_longs x_t_cells x_t_between c_t_isKept c_t_most c_t_taped c_t_here c_t_fault c_t_value a1 a2 a3 C hA  hK hT  c_t_findings c_t_s (0 : Int32) hF _ _ hP hD hS _ (lv_sub hl [0, 1, 2, 3] rfl)
      · have hF := kn hF q10
        refine lv_iconst (v := (1 : Int32)) hx hb dX10_set_27 (by decide) ?_
        refine lv_goto (tgt := 32) hx hb dX10_set_28 (by decide) ?_
        exact wk_M_set_b32 E h_t h_t_findings h_t_s x_t_kept x_t_before x_t_shown x_t_worths x_t_steps x_t_tape x_t_bits x_t_longs x_t_cells x_t_between c_t_isKept c_t_most c_t_taped c_t_here c_t_fault c_t_value a1 a2 a3 C hA  hK hT  c_t_findings c_t_s (1 : Int32) hF _ _ hP hD hS _ (lv_sub hl [0, 1, 2, 3] rfl)
  · have hF := kp hF q7
    refine lv_iload_n hx hb dX10_set_5 rfl (lv_at hl 3 rfl) ?_
    obtain ⟨r11, er11, hF⟩ := kb hF
    refine kRS (rest := []) C (k_M_isForm l E a3 r11 er11) fn_M_isForm mw_940 ⟨Nat.le_of_ble_eq_true rfl, Nat.le_of_ble_eq_true rfl⟩ hK hT hS hP [] rfl rfl rfl hl (Nat.le_of_ble_eq_true rfl) dX10_set_6 ?_
    refine lv_goto (tgt := 32) hx hb dX10_set_9 (by decide) ?_
    exact wk_M_set_b32 E h_t h_t_findings h_t_s x_t_kept x_t_before x_t_shown x_t_worths x_t_steps x_t_tape x_t_bits x_t_longs x_t_cells x_t_between c_t_isKept c_t_most c_t_taped c_t_here c_t_fault c_t_value a1 a2 a3 C hA  hK hT  c_t_findings c_t_s r11 hF _ _ hP hD hS _ (lv_sub hl [0, 1, 2, 3] rfl)
