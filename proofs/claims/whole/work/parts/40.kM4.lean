abbrev w_M_best (E : kE) (h_t : Nat) (h_t_findings : Nat) (h_t_s : Nat) (h_t_steps : Nat) (h_t_worths : Nat) (x_t_kept : Nat) (x_t_before : Nat) (x_t_shown : Nat) (x_t_tape : Nat) (x_t_bits : Nat) (x_t_longs : Nat) (x_t_cells : Nat) (x_t_between : Nat) (c_t_isKept : Int32) (c_t_most : Int32) (c_t_taped : Int32) (c_t_here : Int32) (c_t_fault : Int32) (c_t_value : Int32) (c_t_findings : (Nat → Int32)) (c_t_s : (Nat → Int32)) (c_t_steps : (Nat → Int32)) (c_t_worths : (Nat → Int32)) : va_W := [(h_t, .inr (8, [.ref h_t_s, .ref x_t_kept, .ref x_t_before, .int c_t_isKept, .ref h_t_findings, .ref x_t_shown, .int c_t_most, .ref h_t_worths, .ref h_t_steps, .ref x_t_tape, .int c_t_taped, .int c_t_here, .int c_t_fault, .int c_t_value, .ref x_t_bits, .ref x_t_longs, .ref x_t_cells, .ref x_t_between])), (h_t_findings, .inl (eI E, 7, .inl c_t_findings)), (h_t_s, .inl (eI E, 65, .inl c_t_s)), (h_t_steps, .inl (eI E, 12, .inl c_t_steps)), (h_t_worths, .inl (eI E, 12, .inl c_t_worths))]
set_option maxHeartbeats 4000000 in
set_option maxRecDepth 100000 in
theorem k_M_best (l : Launch) (E : kE) (h_t : Nat) (h_t_findings : Nat) (h_t_s : Nat) (h_t_steps : Nat) (h_t_worths : Nat) (x_t_kept : Nat) (x_t_before : Nat) (x_t_shown : Nat) (x_t_tape : Nat) (x_t_bits : Nat) (x_t_longs : Nat) (x_t_cells : Nat) (x_t_between : Nat) (sz : Nat) (c_t_isKept : Int32) (c_t_most : Int32) (c_t_taped : Int32) (c_t_here : Int32) (c_t_fault : Int32) (c_t_value : Int32) (c_t_findings : (Nat → Int32)) (c_t_s : (Nat → Int32)) (c_t_steps : (Nat → Int32)) (c_t_worths : (Nat → Int32)) (a1 : Int32) (out : Int32 × Int32 × (Nat → Int32) × (Nat → Int32) × (Nat → Int32)) (hF : f_M_best c_t_most c_t_findings c_t_s c_t_steps c_t_worths a1 = some out) : Met l yX10_best (Cond.code yX10_best cX10_best 2 (some .int) :: wG) (rm 11) (pW E (w_M_best E h_t h_t_findings h_t_s h_t_steps h_t_worths x_t_kept x_t_before x_t_shown x_t_tape x_t_bits x_t_longs x_t_cells x_t_between c_t_isKept c_t_most c_t_taped c_t_here c_t_fault c_t_value c_t_findings c_t_s c_t_steps c_t_worths) sz [.ref h_t, .int a1]) (qW (some (.int out.1)) E (w_M_best E h_t h_t_findings h_t_s h_t_steps h_t_worths x_t_kept x_t_before x_t_shown x_t_tape x_t_bits x_t_longs x_t_cells x_t_between c_t_isKept out.2.1 c_t_taped c_t_here c_t_fault c_t_value out.2.2.1 c_t_s out.2.2.2.1 out.2.2.2.2) (va_A (w_M_best E h_t h_t_findings h_t_s h_t_steps h_t_worths x_t_kept x_t_before x_t_shown x_t_tape x_t_bits x_t_longs x_t_cells x_t_between c_t_isKept c_t_most c_t_taped c_t_here c_t_fault c_t_value c_t_findings c_t_s c_t_steps c_t_worths) sz)) 0 0 (va_A (w_M_best E h_t h_t_findings h_t_s h_t_steps h_t_worths x_t_kept x_t_before x_t_shown x_t_tape x_t_bits x_t_longs x_t_cells x_t_between c_t_isKept c_t_most c_t_taped c_t_here c_t_fault c_t_value c_t_findings c_t_s c_t_steps c_t_worths) sz) := by
  refine met_W (by decide) (Nat.le_of_ble_eq_true rfl) ?_
  intro p e s m args below meth c A ls C hP hD hS hA hK hT hl
  obtain ⟨hx, hb, hr, hml, hown, hw, hlocks⟩ := id C
  have hl : lv_has ls 2 [(0, .ref h_t), (1, .int a1)] := hl
  rw [f_M_best] at hF
  refine lv_iload_n hx hb dX10_best_0 rfl (lv_at hl 1 rfl) ?_
  refine lv_iconst (v := (0 : Int32)) hx hb dX10_best_1 (by decide) ?_
  refine lv_sipush (v := (9999 : Int32)) hx hb dX10_best_2 (by decide) ?_
  obtain ⟨r1, er1, hF⟩ := kb hF
  refine kRS (rest := []) C (k_M_in l E a1 (0 : Int32) (9999 : Int32) r1 er1) fn_M_in mw_943 ⟨Nat.le_of_ble_eq_true rfl, Nat.le_of_ble_eq_true rfl⟩ hK hT hS hP [] rfl rfl rfl hl (Nat.le_of_ble_eq_true rfl) dX10_best_5 ?_
  refine lv_if_eq (tgt := 19) hx hb dX10_best_8 (by decide) (fun q2 => ?_) (fun q2 => ?_)
  · have hF := kp hF q2
    refine lv_aload_n hx hb dX10_best_19 rfl (lv_at hl 0 rfl) ?_
    refine lv_iconst (v := (0 : Int32)) hx hb dX10_best_20 (by decide) ?_
    obtain ⟨r3, er3, hF⟩ := kb hF
    refine kWV (rest := []) (Wr := [(h_t_s, .inl (eI E, 65, .inl c_t_s)), (h_t_steps, .inl (eI E, 12, .inl c_t_steps)), (h_t_worths, .inl (eI E, 12, .inl c_t_worths))]) (Wn := (w_M_best E h_t h_t_findings h_t_s h_t_steps h_t_worths x_t_kept x_t_before x_t_shown x_t_tape x_t_bits x_t_longs x_t_cells x_t_between c_t_isKept c_t_most c_t_taped c_t_here c_t_fault c_t_value r3.2 c_t_s c_t_steps c_t_worths)) C (k_M_no l E h_t h_t_findings h_t_s x_t_kept x_t_before x_t_shown h_t_worths h_t_steps x_t_tape x_t_bits x_t_longs x_t_cells x_t_between s.heap.size c_t_isKept c_t_most c_t_taped c_t_here c_t_fault c_t_value c_t_findings (0 : Int32) r3 er3) fn_M_no mw_964 ⟨Nat.le_of_ble_eq_true rfl, Nat.le_of_ble_eq_true rfl⟩ hK hT hS hA (va_recv hK hP (ci := 8) (q0 := 0) rfl rfl) hP hD [0, 1] rfl (by decide) [2, 3, 4] rfl (by decide) (by decide) [3, 4, 0, 1, 2] rfl (by decide) rfl rfl hl (Nat.le_of_ble_eq_true rfl) dX10_best_21 (fun H locs hP hD hS => ?_)
    refine W.eq (g2 := F0 m 24 ls [.int r3.1]) rfl ?_
    obtain rfl := Option.some.inj hF
    exact W.iret hx hb hr (fun t ht hW => ⟨⟨rfl, by rw [ht]; exact hP, hD⟩, hS.F ht⟩) hS.2.2 dX10_best_24
  · have hF := kn hF q2
    refine lv_aload_n hx hb dX10_best_11 rfl (lv_at hl 0 rfl) ?_
    refine lv_iload_n hx hb dX10_best_12 rfl (lv_at hl 1 rfl) ?_
    obtain ⟨r4, er4, hF⟩ := kb hF
    refine kWV (rest := []) (Wr := [(h_t_findings, .inl (eI E, 7, .inl c_t_findings))]) (Wn := (w_M_best E h_t h_t_findings h_t_s h_t_steps h_t_worths x_t_kept x_t_before x_t_shown x_t_tape x_t_bits x_t_longs x_t_cells x_t_between c_t_isKept r4.2.1 c_t_taped c_t_here c_t_fault c_t_value c_t_findings c_t_s r4.2.2.1 r4.2.2.2)) C (k_M_bestSet l E h_t h_t_s h_t_steps h_t_worths x_t_kept x_t_before h_t_findings x_t_shown x_t_tape x_t_bits x_t_longs x_t_cells x_t_between s.heap.size c_t_isKept c_t_most c_t_taped c_t_here c_t_fault c_t_value c_t_s c_t_steps c_t_worths a1 r4 er4) fn_M_bestSet mw_1164 ⟨Nat.le_of_ble_eq_true rfl, Nat.le_of_ble_eq_true rfl⟩ hK hT hS hA (va_recv hK hP (ci := 8) (q0 := 0) rfl rfl) hP hD [0, 2, 3, 4] rfl (by decide) [1] rfl (by decide) (by decide) [1, 0, 2, 3, 4] rfl (by decide) rfl rfl hl (Nat.le_of_ble_eq_true rfl) dX10_best_13 (fun H locs hP hD hS => ?_)
    refine W.eq (g2 := F0 m 16 ls [.int r4.1]) rfl ?_
    refine lv_goto (tgt := 24) hx hb dX10_best_16 (by decide) ?_
    obtain rfl := Option.some.inj hF
    exact W.iret hx hb hr (fun t ht hW => ⟨⟨rfl, by rw [ht]; exact hP, hD⟩, hS.F ht⟩) hS.2.2 dX10_best_24
abbrev w_M_worth (E : kE) (h_t : Nat) (h_t_findings : Nat) (h_t_s : Nat) (h_t_steps : Nat) (h_t_worths : Nat) (x_t_kept : Nat) (x_t_before : Nat) (x_t_shown : Nat) (x_t_tape : Nat) (x_t_bits : Nat) (x_t_longs : Nat) (x_t_cells : Nat) (x_t_between : Nat) (c_t_isKept : Int32) (c_t_most : Int32) (c_t_taped : Int32) (c_t_here : Int32) (c_t_fault : Int32) (c_t_value : Int32) (c_t_findings : (Nat → Int32)) (c_t_s : (Nat → Int32)) (c_t_steps : (Nat → Int32)) (c_t_worths : (Nat → Int32)) : va_W := [(h_t, .inr (8, [.ref h_t_s, .ref x_t_kept, .ref x_t_before, .int c_t_isKept, .ref h_t_findings, .ref x_t_shown, .int c_t_most, .ref h_t_worths, .ref h_t_steps, .ref x_t_tape, .int c_t_taped, .int c_t_here, .int c_t_fault, .int c_t_value, .ref x_t_bits, .ref x_t_longs, .ref x_t_cells, .ref x_t_between])), (h_t_findings, .inl (eI E, 7, .inl c_t_findings)), (h_t_s, .inl (eI E, 65, .inl c_t_s)), (h_t_steps, .inl (eI E, 12, .inl c_t_steps)), (h_t_worths, .inl (eI E, 12, .inl c_t_worths))]
set_option maxHeartbeats 4000000 in
set_option maxRecDepth 100000 in
theorem k_M_worth (l : Launch) (E : kE) (h_t : Nat) (h_t_findings : Nat) (h_t_s : Nat) (h_t_steps : Nat) (h_t_worths : Nat) (x_t_kept : Nat) (x_t_before : Nat) (x_t_shown : Nat) (x_t_tape : Nat) (x_t_bits : Nat) (x_t_longs : Nat) (x_t_cells : Nat) (x_t_between : Nat) (sz : Nat) (c_t_isKept : Int32) (c_t_most : Int32) (c_t_taped : Int32) (c_t_here : Int32) (c_t_fault : Int32) (c_t_value : Int32) (c_t_findings : (Nat → Int32)) (c_t_s : (Nat → Int32)) (c_t_steps : (Nat → Int32)) (c_t_worths : (Nat → Int32)) (a1 : Int32) (out : Int32 × Int32 × (Nat → Int32) × (Nat → Int32) × (Nat → Int32)) (hF : f_M_worth c_t_most c_t_findings c_t_s c_t_steps c_t_worths a1 = some out) : Met l yX10_worth (Cond.code yX10_worth cX10_worth 2 (some .int) :: wG) (rm 11) (pW E (w_M_worth E h_t h_t_findings h_t_s h_t_steps h_t_worths x_t_kept x_t_before x_t_shown x_t_tape x_t_bits x_t_longs x_t_cells x_t_between c_t_isKept c_t_most c_t_taped c_t_here c_t_fault c_t_value c_t_findings c_t_s c_t_steps c_t_worths) sz [.ref h_t, .int a1]) (qW (some (.int out.1)) E (w_M_worth E h_t h_t_findings h_t_s h_t_steps h_t_worths x_t_kept x_t_before x_t_shown x_t_tape x_t_bits x_t_longs x_t_cells x_t_between c_t_isKept out.2.1 c_t_taped c_t_here c_t_fault c_t_value out.2.2.1 c_t_s out.2.2.2.1 out.2.2.2.2) (va_A (w_M_worth E h_t h_t_findings h_t_s h_t_steps h_t_worths x_t_kept x_t_before x_t_shown x_t_tape x_t_bits x_t_longs x_t_cells x_t_between c_t_isKept c_t_most c_t_taped c_t_here c_t_fault c_t_value c_t_findings c_t_s c_t_steps c_t_worths) sz)) 0 0 (va_A (w_M_worth E h_t h_t_findings h_t_s h_t_steps h_t_worths x_t_kept x_t_before x_t_shown x_t_tape x_t_bits x_t_longs x_t_cells x_t_between c_t_isKept c_t_most c_t_taped c_t_here c_t_fault c_t_value c_t_findings c_t_s c_t_steps c_t_worths) sz) := by
  refine met_W (by decide) (Nat.le_of_ble_eq_true rfl) ?_
  intro p e s m args below meth c A ls C hP hD hS hA hK hT hl
  obtain ⟨hx, hb, hr, hml, hown, hw, hlocks⟩ := id C
  have hl : lv_has ls 2 [(0, .ref h_t), (1, .int a1)] := hl
  rw [f_M_worth] at hF
  refine lv_iload_n hx hb dX10_worth_0 rfl (lv_at hl 1 rfl) ?_
  refine lv_iconst (v := (0 : Int32)) hx hb dX10_worth_1 (by decide) ?_
  refine lv_sipush (v := (9999 : Int32)) hx hb dX10_worth_2 (by decide) ?_
  obtain ⟨r1, er1, hF⟩ := kb hF
  refine kRS (rest := []) C (k_M_in l E a1 (0 : Int32) (9999 : Int32) r1 er1) fn_M_in mw_943 ⟨Nat.le_of_ble_eq_true rfl, Nat.le_of_ble_eq_true rfl⟩ hK hT hS hP [] rfl rfl rfl hl (Nat.le_of_ble_eq_true rfl) dX10_worth_5 ?_
  refine lv_if_ne (tgt := 17) hx hb dX10_worth_8 (by decide) (fun q2 => ?_) (fun q2 => ?_)
  · have hF := kn hF q2
    refine lv_aload_n hx hb dX10_worth_17 rfl (lv_at hl 0 rfl) ?_
    refine lv_iload_n hx hb dX10_worth_18 rfl (lv_at hl 1 rfl) ?_
    obtain ⟨r3, er3, hF⟩ := kb hF
    refine kWV (rest := []) (Wr := [(h_t_findings, .inl (eI E, 7, .inl c_t_findings))]) (Wn := (w_M_worth E h_t h_t_findings h_t_s h_t_steps h_t_worths x_t_kept x_t_before x_t_shown x_t_tape x_t_bits x_t_longs x_t_cells x_t_between c_t_isKept r3.2.1 c_t_taped c_t_here c_t_fault c_t_value c_t_findings c_t_s r3.2.2.1 r3.2.2.2)) C (k_M_bestSet l E h_t h_t_s h_t_steps h_t_worths x_t_kept x_t_before h_t_findings x_t_shown x_t_tape x_t_bits x_t_longs x_t_cells x_t_between s.heap.size c_t_isKept c_t_most c_t_taped c_t_here c_t_fault c_t_value c_t_s c_t_steps c_t_worths a1 r3 er3) fn_M_bestSet mw_1164 ⟨Nat.le_of_ble_eq_true rfl, Nat.le_of_ble_eq_true rfl⟩ hK hT hS hA (va_recv hK hP (ci := 8) (q0 := 0) rfl rfl) hP hD [0, 2, 3, 4] rfl (by decide) [1] rfl (by decide) (by decide) [1, 0, 2, 3, 4] rfl (by decide) rfl rfl hl (Nat.le_of_ble_eq_true rfl) dX10_worth_19 (fun H locs hP hD hS => ?_)
    refine W.eq (g2 := F0 m 22 ls [.int r3.1]) rfl ?_
    refine lv_pop hx hb dX10_worth_22 rfl ?_
    refine lv_aload_n hx hb dX10_worth_23 rfl (lv_at hl 0 rfl) ?_
    refine va_get (D := eD E) (ci := 8) (C := RX10) (T := TX10) (N := 18) (v := .int r3.2.1) hx hb hw inX10 hown hK hP 0 rfl rfl 6 (by decide) (hw _ mw_887) (fun _ h9 => h9) rfl dX10_worth_24 ?_
    obtain rfl := Option.some.inj hF
    exact W.iret hx hb hr (fun t ht hW => ⟨⟨rfl, by rw [ht]; exact hP, hD⟩, hS.F ht⟩) hS.2.2 dX10_worth_27
  · have hF := kp hF q2
    refine lv_aload_n hx hb dX10_worth_11 rfl (lv_at hl 0 rfl) ?_
    refine lv_iconst (v := (0 : Int32)) hx hb dX10_worth_12 (by decide) ?_
    obtain ⟨r4, er4, hF⟩ := kb hF
    refine kWV (rest := []) (Wr := [(h_t_s, .inl (eI E, 65, .inl c_t_s)), (h_t_steps, .inl (eI E, 12, .inl c_t_steps)), (h_t_worths, .inl (eI E, 12, .inl c_t_worths))]) (Wn := (w_M_worth E h_t h_t_findings h_t_s h_t_steps h_t_worths x_t_kept x_t_before x_t_shown x_t_tape x_t_bits x_t_longs x_t_cells x_t_between c_t_isKept c_t_most c_t_taped c_t_here c_t_fault c_t_value r4.2 c_t_s c_t_steps c_t_worths)) C (k_M_no l E h_t h_t_findings h_t_s x_t_kept x_t_before x_t_shown h_t_worths h_t_steps x_t_tape x_t_bits x_t_longs x_t_cells x_t_between s.heap.size c_t_isKept c_t_most c_t_taped c_t_here c_t_fault c_t_value c_t_findings (0 : Int32) r4 er4) fn_M_no mw_964 ⟨Nat.le_of_ble_eq_true rfl, Nat.le_of_ble_eq_true rfl⟩ hK hT hS hA (va_recv hK hP (ci := 8) (q0 := 0) rfl rfl) hP hD [0, 1] rfl (by decide) [2, 3, 4] rfl (by decide) (by decide) [3, 4, 0, 1, 2] rfl (by decide) rfl rfl hl (Nat.le_of_ble_eq_true rfl) dX10_worth_13 (fun H locs hP hD hS => ?_)
    refine W.eq (g2 := F0 m 16 ls [.int r4.1]) rfl ?_
    obtain rfl := Option.some.inj hF
    exact W.iret hx hb hr (fun t ht hW => ⟨⟨rfl, by rw [ht]; exact hP, hD⟩, hS.F ht⟩) hS.2.2 dX10_worth_16
abbrev w_M_meant (E : kE) (h_t : Nat) (h_t_findings : Nat) (h_t_s : Nat) (x_t_kept : Nat) (x_t_before : Nat) (x_t_shown : Nat) (x_t_worths : Nat) (x_t_steps : Nat) (x_t_tape : Nat) (x_t_bits : Nat) (x_t_longs : Nat) (x_t_cells : Nat) (x_t_between : Nat) (c_t_isKept : Int32) (c_t_most : Int32) (c_t_taped : Int32) (c_t_here : Int32) (c_t_fault : Int32) (c_t_value : Int32) (c_t_findings : (Nat → Int32)) (c_t_s : (Nat → Int32)) : va_W := [(h_t, .inr (8, [.ref h_t_s, .ref x_t_kept, .ref x_t_before, .int c_t_isKept, .ref h_t_findings, .ref x_t_shown, .int c_t_most, .ref x_t_worths, .ref x_t_steps, .ref x_t_tape, .int c_t_taped, .int c_t_here, .int c_t_fault, .int c_t_value, .ref x_t_bits, .ref x_t_longs, .ref x_t_cells, .ref x_t_between])), (h_t_findings, .inl (eI E, 7, .inl c_t_findings)), (h_t_s, .inl (eI E, 65, .inl c_t_s))]
set_option maxHeartbeats 4000000 in
set_option maxRecDepth 100000 in
theorem wk_M_meant_b84 {p : Program} {l : Launch} {e : Env} {s : State} {m : MethodId} {args : Array Value} {below : List Frame} {meth : Method} {c : Code} {A : Nat → Prop} (E : kE) (h_t : Nat) (h_t_findings : Nat) (h_t_s : Nat) (x_t_kept : Nat) (x_t_before : Nat) (x_t_shown : Nat) (x_t_worths : Nat) (x_t_steps : Nat) (x_t_tape : Nat) (x_t_bits : Nat) (x_t_longs : Nat) (x_t_cells : Nat) (x_t_between : Nat) (c_t_isKept : Int32) (c_t_most : Int32) (c_t_taped : Int32) (c_t_here : Int32) (c_t_fault : Int32) (c_t_value : Int32) (c_t_s : (Nat → Int32)) (a1 : Int32) {out : Int32 × (Nat → Int32)} (C : kC RX10 cX10_meant 6 (some .int) p s m args meth c) (hA : ∀ q : Nat, s.heap.size ≤ q → A q) (hK : va_K (eD E) vwCl (eT E) s) (hT : sT E A s s.heap) (k25 : (Nat → Int32) → Int32 → Int32 → Int32 → Option (Int32 × (Nat → Int32))) (hk25 : ∀ (c_t_findings : (Nat → Int32)) (v2 : Int32) (v3 : Int32) (v4 : Int32), k25 c_t_findings v2 v3 v4 = some out → ∀ (H : Heap) (locs : List Loc), va_P (eD E) vwCl (w_M_meant E h_t h_t_findings h_t_s x_t_kept x_t_before x_t_shown x_t_worths x_t_steps x_t_tape x_t_bits x_t_longs x_t_cells x_t_between c_t_isKept c_t_most c_t_taped c_t_here c_t_fault c_t_value c_t_findings c_t_s) H → va_D A (w_M_meant E h_t h_t_findings h_t_s x_t_kept x_t_before x_t_shown x_t_worths x_t_steps x_t_tape x_t_bits x_t_longs x_t_cells x_t_between c_t_isKept c_t_most c_t_taped c_t_here c_t_fault c_t_value c_t_findings c_t_s) → va_S A s.heap H locs → ∀ (ls : Array Slot), lv_has ls 6 [(0, .ref h_t), (2, .int v2), (3, .int v3), (4, .int v4)] → W p l e (rm 4) s m args below meth c H locs 0 0 (MQ below (qW (some (.int out.1)) E (w_M_meant E h_t h_t_findings h_t_s x_t_kept x_t_before x_t_shown x_t_worths x_t_steps x_t_tape x_t_bits x_t_longs x_t_cells x_t_between c_t_isKept c_t_most c_t_taped c_t_here c_t_fault c_t_value out.2 c_t_s) A) args s 0 0 A) (F0 m 25 ls [])) :
    ∀ (c_t_findings : (Nat → Int32)) (v2 : Int32) (v4 : Int32) (s0 : Int32) (s1 : Int32), f_M_meant_b84 k25 c_t_s a1 c_t_findings v2 v4 s0 s1 = some out → ∀ (H : Heap) (locs : List Loc), va_P (eD E) vwCl (w_M_meant E h_t h_t_findings h_t_s x_t_kept x_t_before x_t_shown x_t_worths x_t_steps x_t_tape x_t_bits x_t_longs x_t_cells x_t_between c_t_isKept c_t_most c_t_taped c_t_here c_t_fault c_t_value c_t_findings c_t_s) H → va_D A (w_M_meant E h_t h_t_findings h_t_s x_t_kept x_t_before x_t_shown x_t_worths x_t_steps x_t_tape x_t_bits x_t_longs x_t_cells x_t_between c_t_isKept c_t_most c_t_taped c_t_here c_t_fault c_t_value c_t_findings c_t_s) → va_S A s.heap H locs → ∀ (ls : Array Slot), lv_has ls 6 [(0, .ref h_t), (2, .int v2), (4, .int v4)] → W p l e (rm 4) s m args below meth c H locs 0 0 (MQ below (qW (some (.int out.1)) E (w_M_meant E h_t h_t_findings h_t_s x_t_kept x_t_before x_t_shown x_t_worths x_t_steps x_t_tape x_t_bits x_t_longs x_t_cells x_t_between c_t_isKept c_t_most c_t_taped c_t_here c_t_fault c_t_value out.2 c_t_s) A) args s 0 0 A) (F0 m 84 ls [.int s0, .int s1]) := by
  obtain ⟨hx, hb, hr, hml, hown, hw, hlocks⟩ := id C
  intro c_t_findings v2 v4 s0 s1 hF H locs hP hD hS ls hl
  rw [f_M_meant_b84] at hF
  refine lv_ior hx hb dX10_meant_84 ?_
  refine lv_istore_n (lv' := [(3, .int (s1 ||| s0)), (0, .ref h_t), (2, .int v2), (4, .int v4)]) hx hb dX10_meant_85 rfl hl (by decide) rfl (fun ls hl => ?_)
  refine lv_iinc (v := (v4 + (1))) (lv' := [(4, .int (v4 + (1))), (3, .int (s1 ||| s0)), (0, .ref h_t), (2, .int v2)]) hx hb dX10_meant_86 hl (k := 3) rfl rfl (by decide) rfl (fun ls hl => ?_)
  refine lv_goto (tgt := 25) hx hb dX10_meant_89 (by decide) ?_
  exact hk25 c_t_findings v2 (s1 ||| s0) (v4 + (1)) hF _ _ hP hD hS _ (lv_sub hl [2, 3, 1, 0] rfl)
set_option maxHeartbeats 4000000 in
set_option maxRecDepth 100000 in
theorem wk_M_meant_b25 {p : Program} {l : Launch} {e : Env} {s : State} {m : MethodId} {args : Array Value} {below : List Frame} {meth : Method} {c : Code} {A : Nat → Prop} (E : kE) (h_t : Nat) (h_t_findings : Nat) (h_t_s : Nat) (x_t_kept : Nat) (x_t_before : Nat) (x_t_shown : Nat) (x_t_worths : Nat) (x_t_steps : Nat) (x_t_tape : Nat) (x_t_bits : Nat) (x_t_longs : Nat) (x_t_cells : Nat) (x_t_between : Nat) (c_t_isKept : Int32) (c_t_most : Int32) (c_t_taped : Int32) (c_t_here : Int32) (c_t_fault : Int32) (c_t_value : Int32) (c_t_s : (Nat → Int32)) (a1 : Int32) {out : Int32 × (Nat → Int32)} (C : kC RX10 cX10_meant 6 (some .int) p s m args meth c) (hA : ∀ q : Nat, s.heap.size ≤ q → A q) (hK : va_K (eD E) vwCl (eT E) s) (hT : sT E A s s.heap)  :
    ∀ (n : Nat), ∀ (c_t_findings : (Nat → Int32)) (v2 : Int32) (v3 : Int32) (v4 : Int32), f_M_meant_b25  c_t_s a1 n c_t_findings v2 v3 v4 = some out → ∀ (H : Heap) (locs : List Loc), va_P (eD E) vwCl (w_M_meant E h_t h_t_findings h_t_s x_t_kept x_t_before x_t_shown x_t_worths x_t_steps x_t_tape x_t_bits x_t_longs x_t_cells x_t_between c_t_isKept c_t_most c_t_taped c_t_here c_t_fault c_t_value c_t_findings c_t_s) H → va_D A (w_M_meant E h_t h_t_findings h_t_s x_t_kept x_t_before x_t_shown x_t_worths x_t_steps x_t_tape x_t_bits x_t_longs x_t_cells x_t_between c_t_isKept c_t_most c_t_taped c_t_here c_t_fault c_t_value c_t_findings c_t_s) → va_S A s.heap H locs → ∀ (ls : Array Slot), lv_has ls 6 [(0, .ref h_t), (2, .int v2), (3, .int v3), (4, .int v4)] → W p l e (rm 4) s m args below meth c H locs 0 0 (MQ below (qW (some (.int out.1)) E (w_M_meant E h_t h_t_findings h_t_s x_t_kept x_t_before x_t_shown x_t_worths x_t_steps x_t_tape x_t_bits x_t_longs x_t_cells x_t_between c_t_isKept c_t_most c_t_taped c_t_here c_t_fault c_t_value out.2 c_t_s) A) args s 0 0 A) (F0 m 25 ls []) := by
  obtain ⟨hx, hb, hr, hml, hown, hw, hlocks⟩ := id C
  intro n
  induction n with
  | zero =>
    intro c_t_findings v2 v3 v4 hF
    exact absurd (show (none : Option (Int32 × (Nat → Int32))) = some out from hF) nofun
  | succ n ih =>
    intro c_t_findings v2 v3 v4 hF H locs hP hD hS ls hl
    rw [f_M_meant_b25] at hF
    refine lv_iload hx hb dX10_meant_25 (lv_at hl 3 rfl) ?_
    refine lv_bipush (v := (26 : Int32)) hx hb dX10_meant_27 (by decide) ?_
    refine lv_icmp_ge (tgt := 92) hx hb dX10_meant_29 (by decide) (fun q1 => ?_) (fun q1 => ?_)
    · have hF := kp hF q1
      refine lv_iload_n hx hb dX10_meant_92 rfl (lv_at hl 2 rfl) ?_
      obtain rfl := Option.some.inj hF
      exact W.iret hx hb hr (fun t ht hW => ⟨⟨rfl, by rw [ht]; exact hP, hD⟩, hS.F ht⟩) hS.2.2 dX10_meant_93
    · have hF := kn hF q1
      refine lv_aload_n hx hb dX10_meant_32 rfl (lv_at hl 0 rfl) ?_
      refine va_get (D := eD E) (ci := 8) (C := RX10) (T := TX10) (N := 18) (v := .ref h_t_s) hx hb hw inX10 hown hK hP 0 rfl rfl 0 (by decide) (hw _ mw_881) (fun _ h9 => h9) rfl dX10_meant_33 ?_
      refine lv_iconst (v := (3 : Int32)) hx hb dX10_meant_36 (by decide) ?_
      refine lv_iload hx hb dX10_meant_37 (lv_at hl 3 rfl) ?_
      refine lv_iadd hx hb dX10_meant_39 ?_
      obtain ⟨r2, er2, hF⟩ := kb hF
      refine wa_iald hx hb hK hP 2 0 rfl rfl er2 dX10_meant_40 ?_
      refine lv_istore (lv' := [(5, .int r2), (0, .ref h_t), (2, .int v2), (3, .int v3), (4, .int v4)]) hx hb dX10_meant_41 hl (by decide) rfl (fun ls hl => ?_)
      refine lv_iload_n hx hb dX10_meant_43 rfl (lv_at hl 3 rfl) ?_
      refine lv_iload hx hb dX10_meant_44 (lv_at hl 0 rfl) ?_
      refine lv_if_eq (tgt := 83) hx hb dX10_meant_46 (by decide) (fun q3 => ?_) (fun q3 => ?_)
      · have hF := kp hF q3
        refine lv_iconst (v := (0 : Int32)) hx hb dX10_meant_83 (by decide) ?_
        exact wk_M_meant_b84 E h_t h_t_findings h_t_s x_t_kept x_t_before x_t_shown x_t_worths x_t_steps x_t_tape x_t_bits x_t_longs x_t_cells x_t_between c_t_isKept c_t_most c_t_taped c_t_here c_t_fault c_t_value c_t_s a1 C hA  hK hT (f_M_meant_b25  c_t_s a1 n) ih c_t_findings v2 v4 (0 : Int32) v3 hF _ _ hP hD hS _ (lv_sub hl [1, 2, 4] rfl)
      · have hF := kn hF q3
        refine lv_iload_n hx hb dX10_meant_49 rfl (lv_at hl 2 rfl) ?_
        refine lv_iload hx hb dX10_meant_50 (lv_at hl 0 rfl) ?_
        refine lv_iconst (v := (-1 : Int32)) hx hb dX10_meant_52 (by decide) ?_
        refine lv_ixor hx hb dX10_meant_53 ?_
        refine lv_iand hx hb dX10_meant_54 ?_
        refine lv_if_ne (tgt := 83) hx hb dX10_meant_55 (by decide) (fun q4 => ?_) (fun q4 => ?_)
        · have hF := kn hF q4
          refine lv_iconst (v := (0 : Int32)) hx hb dX10_meant_83 (by decide) ?_
          exact wk_M_meant_b84 E h_t h_t_findings h_t_s x_t_kept x_t_before x_t_shown x_t_worths x_t_steps x_t_tape x_t_bits x_t_longs x_t_cells x_t_between c_t_isKept c_t_most c_t_taped c_t_here c_t_fault c_t_value c_t_s a1 C hA  hK hT (f_M_meant_b25  c_t_s a1 n) ih c_t_findings v2 v4 (0 : Int32) v3 hF _ _ hP hD hS _ (lv_sub hl [1, 2, 4] rfl)
        · have hF := kp hF q4
          refine lv_iload hx hb dX10_meant_58 (lv_at hl 0 rfl) ?_
          refine lv_iload_n hx hb dX10_meant_60 rfl (lv_at hl 2 rfl) ?_
          refine lv_iconst (v := (-1 : Int32)) hx hb dX10_meant_61 (by decide) ?_
          refine lv_ixor hx hb dX10_meant_62 ?_
          refine lv_iand hx hb dX10_meant_63 ?_
          refine lv_aload_n hx hb dX10_meant_64 rfl (lv_at hl 1 rfl) ?_
          refine va_get (D := eD E) (ci := 8) (C := RX10) (T := TX10) (N := 18) (v := .ref h_t_s) hx hb hw inX10 hown hK hP 0 rfl rfl 0 (by decide) (hw _ mw_881) (fun _ h9 => h9) rfl dX10_meant_65 ?_
          refine lv_iconst (v := (1 : Int32)) hx hb dX10_meant_68 (by decide) ?_
          obtain ⟨r5, er5, hF⟩ := kb hF
          refine wa_iald hx hb hK hP 2 0 rfl rfl er5 dX10_meant_69 ?_
          refine lv_iconst (v := (-1 : Int32)) hx hb dX10_meant_70 (by decide) ?_
          refine lv_ixor hx hb dX10_meant_71 ?_
          refine lv_iand hx hb dX10_meant_72 ?_
          refine lv_if_ne (tgt := 83) hx hb dX10_meant_73 (by decide) (fun q6 => ?_) (fun q6 => ?_)
          · have hF := kn hF q6
            refine lv_iconst (v := (0 : Int32)) hx hb dX10_meant_83 (by decide) ?_
            exact wk_M_meant_b84 E h_t h_t_findings h_t_s x_t_kept x_t_before x_t_shown x_t_worths x_t_steps x_t_tape x_t_bits x_t_longs x_t_cells x_t_between c_t_isKept c_t_most c_t_taped c_t_here c_t_fault c_t_value c_t_s a1 C hA  hK hT (f_M_meant_b25  c_t_s a1 n) ih c_t_findings v2 v4 (0 : Int32) v3 hF _ _ hP hD hS _ (lv_sub hl [1, 2, 4] rfl)
          · have hF := kp hF q6
            refine lv_iconst (v := (1 : Int32)) hx hb dX10_meant_76 (by decide) ?_
            refine lv_iload hx hb dX10_meant_77 (lv_at hl 4 rfl) ?_
            refine lv_ishl hx hb dX10_meant_79 ?_
            refine lv_goto (tgt := 84) hx hb dX10_meant_80 (by decide) ?_
            exact wk_M_meant_b84 E h_t h_t_findings h_t_s x_t_kept x_t_before x_t_shown x_t_worths x_t_steps x_t_tape x_t_bits x_t_longs x_t_cells x_t_between c_t_isKept c_t_most c_t_taped c_t_here c_t_fault c_t_value c_t_s a1 C hA  hK hT (f_M_meant_b25  c_t_s a1 n) ih c_t_findings v2 v4 ((1 : Int32) <<< (v4 &&& 31)) v3 hF _ _ hP hD hS _ (lv_sub hl [1, 2, 4] rfl)
set_option maxHeartbeats 4000000 in
set_option maxRecDepth 100000 in
theorem k_M_meant (l : Launch) (E : kE) (h_t : Nat) (h_t_findings : Nat) (h_t_s : Nat) (x_t_kept : Nat) (x_t_before : Nat) (x_t_shown : Nat) (x_t_worths : Nat) (x_t_steps : Nat) (x_t_tape : Nat) (x_t_bits : Nat) (x_t_longs : Nat) (x_t_cells : Nat) (x_t_between : Nat) (sz : Nat) (c_t_isKept : Int32) (c_t_most : Int32) (c_t_taped : Int32) (c_t_here : Int32) (c_t_fault : Int32) (c_t_value : Int32) (c_t_findings : (Nat → Int32)) (c_t_s : (Nat → Int32)) (a1 : Int32) (out : Int32 × (Nat → Int32)) (hF : f_M_meant c_t_findings c_t_s a1 = some out) : Met l yX10_meant (Cond.code yX10_meant cX10_meant 6 (some .int) :: wG) (rm 4) (pW E (w_M_meant E h_t h_t_findings h_t_s x_t_kept x_t_before x_t_shown x_t_worths x_t_steps x_t_tape x_t_bits x_t_longs x_t_cells x_t_between c_t_isKept c_t_most c_t_taped c_t_here c_t_fault c_t_value c_t_findings c_t_s) sz [.ref h_t, .int a1]) (qW (some (.int out.1)) E (w_M_meant E h_t h_t_findings h_t_s x_t_kept x_t_before x_t_shown x_t_worths x_t_steps x_t_tape x_t_bits x_t_longs x_t_cells x_t_between c_t_isKept c_t_most c_t_taped c_t_here c_t_fault c_t_value out.2 c_t_s) (va_A (w_M_meant E h_t h_t_findings h_t_s x_t_kept x_t_before x_t_shown x_t_worths x_t_steps x_t_tape x_t_bits x_t_longs x_t_cells x_t_between c_t_isKept c_t_most c_t_taped c_t_here c_t_fault c_t_value c_t_findings c_t_s) sz)) 0 0 (va_A (w_M_meant E h_t h_t_findings h_t_s x_t_kept x_t_before x_t_shown x_t_worths x_t_steps x_t_tape x_t_bits x_t_longs x_t_cells x_t_between c_t_isKept c_t_most c_t_taped c_t_here c_t_fault c_t_value c_t_findings c_t_s) sz) := by
  refine met_W (by decide) (Nat.le_of_ble_eq_true rfl) ?_
  intro p e s m args below meth c A ls C hP hD hS hA hK hT hl
  obtain ⟨hx, hb, hr, hml, hown, hw, hlocks⟩ := id C
  have hl : lv_has ls 6 [(0, .ref h_t), (1, .int a1)] := hl
  rw [f_M_meant] at hF
  refine lv_aload_n hx hb dX10_meant_0 rfl (lv_at hl 0 rfl) ?_
  refine lv_iload_n hx hb dX10_meant_1 rfl (lv_at hl 1 rfl) ?_
  obtain ⟨r7, er7, hF⟩ := kb hF
  refine kRV (rest := []) C (k_M_isLetter l E h_t h_t_s x_t_kept x_t_before h_t_findings x_t_shown x_t_worths x_t_steps x_t_tape x_t_bits x_t_longs x_t_cells x_t_between c_t_isKept c_t_most c_t_taped c_t_here c_t_fault c_t_value c_t_s a1 r7 er7) fn_M_isLetter mw_1092 ⟨Nat.le_of_ble_eq_true rfl, Nat.le_of_ble_eq_true rfl⟩ hK hT hS (va_recv hK hP (ci := 8) (q0 := 0) rfl rfl) hP [0, 2] rfl rfl rfl hl (Nat.le_of_ble_eq_true rfl) dX10_meant_2 ?_
  refine lv_if_ne (tgt := 14) hx hb dX10_meant_5 (by decide) (fun q8 => ?_) (fun q8 => ?_)
  · have hF := kn hF q8
    refine lv_aload_n hx hb dX10_meant_14 rfl (lv_at hl 0 rfl) ?_
    refine lv_iload_n hx hb dX10_meant_15 rfl (lv_at hl 1 rfl) ?_
    obtain ⟨r9, er9, hF⟩ := kb hF
    refine kRV (rest := []) C (k_M_shows l E h_t h_t_s x_t_kept x_t_before h_t_findings x_t_shown x_t_worths x_t_steps x_t_tape x_t_bits x_t_longs x_t_cells x_t_between c_t_isKept c_t_most c_t_taped c_t_here c_t_fault c_t_value c_t_s a1 r9 er9) fn_M_shows mw_1103 ⟨Nat.le_of_ble_eq_true rfl, Nat.le_of_ble_eq_true rfl⟩ hK hT hS (va_recv hK hP (ci := 8) (q0 := 0) rfl rfl) hP [0, 2] rfl rfl rfl hl (Nat.le_of_ble_eq_true rfl) dX10_meant_16 ?_
    refine lv_istore_n (lv' := [(2, .int r9), (0, .ref h_t), (1, .int a1)]) hx hb dX10_meant_19 rfl hl (by decide) rfl (fun ls hl => ?_)
    refine lv_iconst (v := (0 : Int32)) hx hb dX10_meant_20 (by decide) ?_
    refine lv_istore_n (lv' := [(3, .int (0 : Int32)), (2, .int r9), (0, .ref h_t), (1, .int a1)]) hx hb dX10_meant_21 rfl hl (by decide) rfl (fun ls hl => ?_)
    refine lv_iconst (v := (0 : Int32)) hx hb dX10_meant_22 (by decide) ?_
    refine lv_istore (lv' := [(4, .int (0 : Int32)), (3, .int (0 : Int32)), (2, .int r9), (0, .ref h_t), (1, .int a1)]) hx hb dX10_meant_23 hl (by decide) rfl (fun ls hl => ?_)
    exact wk_M_meant_b25 E h_t h_t_findings h_t_s x_t_kept x_t_before x_t_shown x_t_worths x_t_steps x_t_tape x_t_bits x_t_longs x_t_cells x_t_between c_t_isKept c_t_most c_t_taped c_t_here c_t_fault c_t_value c_t_s a1 C hA  hK hT  5000 c_t_findings r9 (0 : Int32) (0 : Int32) hF _ _ hP hD hS _ (lv_sub hl [3, 2, 1, 0] rfl)
  · have hF := kp hF q8
    refine lv_aload_n hx hb dX10_meant_8 rfl (lv_at hl 0 rfl) ?_
    refine lv_iconst (v := (0 : Int32)) hx hb dX10_meant_9 (by decide) ?_
    obtain ⟨r10, er10, hF⟩ := kb hF
    refine kWV (rest := []) (Wr := [(h_t_s, .inl (eI E, 65, .inl c_t_s))]) (Wn := (w_M_meant E h_t h_t_findings h_t_s x_t_kept x_t_before x_t_shown x_t_worths x_t_steps x_t_tape x_t_bits x_t_longs x_t_cells x_t_between c_t_isKept c_t_most c_t_taped c_t_here c_t_fault c_t_value r10.2 c_t_s)) C (k_M_no l E h_t h_t_findings h_t_s x_t_kept x_t_before x_t_shown x_t_worths x_t_steps x_t_tape x_t_bits x_t_longs x_t_cells x_t_between s.heap.size c_t_isKept c_t_most c_t_taped c_t_here c_t_fault c_t_value c_t_findings (0 : Int32) r10 er10) fn_M_no mw_964 ⟨Nat.le_of_ble_eq_true rfl, Nat.le_of_ble_eq_true rfl⟩ hK hT hS hA (va_recv hK hP (ci := 8) (q0 := 0) rfl rfl) hP hD [0, 1] rfl (by decide) [2] rfl (by decide) (by decide) [1, 2, 0] rfl (by decide) rfl rfl hl (Nat.le_of_ble_eq_true rfl) dX10_meant_10 (fun H locs hP hD hS => ?_)
    refine W.eq (g2 := F0 m 13 ls [.int r10.1]) rfl ?_
    obtain rfl := Option.some.inj hF
    exact W.iret hx hb hr (fun t ht hW => ⟨⟨rfl, by rw [ht]; exact hP, hD⟩, hS.F ht⟩) hS.2.2 dX10_meant_13
abbrev w_M_cheap (E : kE) (h_t : Nat) (h_t_findings : Nat) (h_t_s : Nat) (x_t_kept : Nat) (x_t_before : Nat) (x_t_shown : Nat) (x_t_worths : Nat) (x_t_steps : Nat) (x_t_tape : Nat) (x_t_bits : Nat) (x_t_longs : Nat) (x_t_cells : Nat) (x_t_between : Nat) (c_t_isKept : Int32) (c_t_most : Int32) (c_t_taped : Int32) (c_t_here : Int32) (c_t_fault : Int32) (c_t_value : Int32) (c_t_findings : (Nat → Int32)) (c_t_s : (Nat → Int32)) : va_W := [(h_t, .inr (8, [.ref h_t_s, .ref x_t_kept, .ref x_t_before, .int c_t_isKept, .ref h_t_findings, .ref x_t_shown, .int c_t_most, .ref x_t_worths, .ref x_t_steps, .ref x_t_tape, .int c_t_taped, .int c_t_here, .int c_t_fault, .int c_t_value, .ref x_t_bits, .ref x_t_longs, .ref x_t_cells, .ref x_t_between])), (h_t_findings, .inl (eI E, 7, .inl c_t_findings)), (h_t_s, .inl (eI E, 65, .inl c_t_s))]
set_option maxHeartbeats 4000000 in
set_option maxRecDepth 100000 in
theorem wk_M_cheap_b62 {p : Program} {l : Launch} {e : Env} {s : State} {m : MethodId} {args : Array Value} {below : List Frame} {meth : Method} {c : Code} {A : Nat → Prop} (E : kE) (h_t : Nat) (h_t_findings : Nat) (h_t_s : Nat) (x_t_kept : Nat) (x_t_before : Nat) (x_t_shown : Nat) (x_t_worths : Nat) (x_t_steps : Nat) (x_t_tape : Nat) (x_t_bits : Nat) (x_t_longs : Nat) (x_t_cells : Nat) (x_t_between : Nat) (c_t_isKept : Int32) (c_t_most : Int32) (c_t_taped : Int32) (c_t_here : Int32) (c_t_fault : Int32) (c_t_value : Int32) (c_t_s : (Nat → Int32)) (a1 : Int32) {out : Int32 × (Nat → Int32)} (C : kC RX10 cX10_cheap 5 (some .int) p s m args meth c) (hA : ∀ q : Nat, s.heap.size ≤ q → A q) (hK : va_K (eD E) vwCl (eT E) s) (hT : sT E A s s.heap) (k18 : (Nat → Int32) → Int32 → Int32 → Option (Int32 × (Nat → Int32))) (hk18 : ∀ (c_t_findings : (Nat → Int32)) (v2 : Int32) (v3 : Int32), k18 c_t_findings v2 v3 = some out → ∀ (H : Heap) (locs : List Loc), va_P (eD E) vwCl (w_M_cheap E h_t h_t_findings h_t_s x_t_kept x_t_before x_t_shown x_t_worths x_t_steps x_t_tape x_t_bits x_t_longs x_t_cells x_t_between c_t_isKept c_t_most c_t_taped c_t_here c_t_fault c_t_value c_t_findings c_t_s) H → va_D A (w_M_cheap E h_t h_t_findings h_t_s x_t_kept x_t_before x_t_shown x_t_worths x_t_steps x_t_tape x_t_bits x_t_longs x_t_cells x_t_between c_t_isKept c_t_most c_t_taped c_t_here c_t_fault c_t_value c_t_findings c_t_s) → va_S A s.heap H locs → ∀ (ls : Array Slot), lv_has ls 5 [(0, .ref h_t), (1, .int a1), (2, .int v2), (3, .int v3)] → W p l e (rm 9) s m args below meth c H locs 0 0 (MQ below (qW (some (.int out.1)) E (w_M_cheap E h_t h_t_findings h_t_s x_t_kept x_t_before x_t_shown x_t_worths x_t_steps x_t_tape x_t_bits x_t_longs x_t_cells x_t_between c_t_isKept c_t_most c_t_taped c_t_here c_t_fault c_t_value out.2 c_t_s) A) args s 0 0 A) (F0 m 18 ls [])) :
    ∀ (c_t_findings : (Nat → Int32)) (v3 : Int32), f_M_cheap_b62 k18 c_t_s a1 c_t_findings v3 = some out → ∀ (H : Heap) (locs : List Loc), va_P (eD E) vwCl (w_M_cheap E h_t h_t_findings h_t_s x_t_kept x_t_before x_t_shown x_t_worths x_t_steps x_t_tape x_t_bits x_t_longs x_t_cells x_t_between c_t_isKept c_t_most c_t_taped c_t_here c_t_fault c_t_value c_t_findings c_t_s) H → va_D A (w_M_cheap E h_t h_t_findings h_t_s x_t_kept x_t_before x_t_shown x_t_worths x_t_steps x_t_tape x_t_bits x_t_longs x_t_cells x_t_between c_t_isKept c_t_most c_t_taped c_t_here c_t_fault c_t_value c_t_findings c_t_s) → va_S A s.heap H locs → ∀ (ls : Array Slot), lv_has ls 5 [(0, .ref h_t), (1, .int a1), (3, .int v3)] → W p l e (rm 9) s m args below meth c H locs 0 0 (MQ below (qW (some (.int out.1)) E (w_M_cheap E h_t h_t_findings h_t_s x_t_kept x_t_before x_t_shown x_t_worths x_t_steps x_t_tape x_t_bits x_t_longs x_t_cells x_t_between c_t_isKept c_t_most c_t_taped c_t_here c_t_fault c_t_value out.2 c_t_s) A) args s 0 0 A) (F0 m 62 ls []) := by
  obtain ⟨hx, hb, hr, hml, hown, hw, hlocks⟩ := id C
  intro c_t_findings v3 hF H locs hP hD hS ls hl
  rw [f_M_cheap_b62] at hF
  refine lv_iload_n hx hb dX10_cheap_62 rfl (lv_at hl 2 rfl) ?_
  refine lv_istore_n (lv' := [(2, .int v3), (0, .ref h_t), (1, .int a1), (3, .int v3)]) hx hb dX10_cheap_63 rfl hl (by decide) rfl (fun ls hl => ?_)
  refine lv_iinc (v := (v3 + (-1))) (lv' := [(3, .int (v3 + (-1))), (2, .int v3), (0, .ref h_t), (1, .int a1)]) hx hb dX10_cheap_64 hl (k := 3) rfl rfl (by decide) rfl (fun ls hl => ?_)
  refine lv_goto (tgt := 18) hx hb dX10_cheap_67 (by decide) ?_
  exact hk18 c_t_findings v3 (v3 + (-1)) hF _ _ hP hD hS _ (lv_sub hl [2, 3, 1, 0] rfl)
set_option maxHeartbeats 4000000 in
set_option maxRecDepth 100000 in
theorem wk_M_cheap_b18 {p : Program} {l : Launch} {e : Env} {s : State} {m : MethodId} {args : Array Value} {below : List Frame} {meth : Method} {c : Code} {A : Nat → Prop} (E : kE) (h_t : Nat) (h_t_findings : Nat) (h_t_s : Nat) (x_t_kept : Nat) (x_t_before : Nat) (x_t_shown : Nat) (x_t_worths : Nat) (x_t_steps : Nat) (x_t_tape : Nat) (x_t_bits : Nat) (x_t_longs : Nat) (x_t_cells : Nat) (x_t_between : Nat) (c_t_isKept : Int32) (c_t_most : Int32) (c_t_taped : Int32) (c_t_here : Int32) (c_t_fault : Int32) (c_t_value : Int32) (c_t_s : (Nat → Int32)) (a1 : Int32) {out : Int32 × (Nat → Int32)} (C : kC RX10 cX10_cheap 5 (some .int) p s m args meth c) (hA : ∀ q : Nat, s.heap.size ≤ q → A q) (hK : va_K (eD E) vwCl (eT E) s) (hT : sT E A s s.heap)  :
    ∀ (n : Nat), ∀ (c_t_findings : (Nat → Int32)) (v2 : Int32) (v3 : Int32), f_M_cheap_b18  c_t_s a1 n c_t_findings v2 v3 = some out → ∀ (H : Heap) (locs : List Loc), va_P (eD E) vwCl (w_M_cheap E h_t h_t_findings h_t_s x_t_kept x_t_before x_t_shown x_t_worths x_t_steps x_t_tape x_t_bits x_t_longs x_t_cells x_t_between c_t_isKept c_t_most c_t_taped c_t_here c_t_fault c_t_value c_t_findings c_t_s) H → va_D A (w_M_cheap E h_t h_t_findings h_t_s x_t_kept x_t_before x_t_shown x_t_worths x_t_steps x_t_tape x_t_bits x_t_longs x_t_cells x_t_between c_t_isKept c_t_most c_t_taped c_t_here c_t_fault c_t_value c_t_findings c_t_s) → va_S A s.heap H locs → ∀ (ls : Array Slot), lv_has ls 5 [(0, .ref h_t), (1, .int a1), (2, .int v2), (3, .int v3)] → W p l e (rm 9) s m args below meth c H locs 0 0 (MQ below (qW (some (.int out.1)) E (w_M_cheap E h_t h_t_findings h_t_s x_t_kept x_t_before x_t_shown x_t_worths x_t_steps x_t_tape x_t_bits x_t_longs x_t_cells x_t_between c_t_isKept c_t_most c_t_taped c_t_here c_t_fault c_t_value out.2 c_t_s) A) args s 0 0 A) (F0 m 18 ls []) := by
  obtain ⟨hx, hb, hr, hml, hown, hw, hlocks⟩ := id C
  intro n
  induction n with
  | zero =>
    intro c_t_findings v2 v3 hF
    exact absurd (show (none : Option (Int32 × (Nat → Int32))) = some out from hF) nofun
  | succ n ih =>
    intro c_t_findings v2 v3 hF H locs hP hD hS ls hl
    rw [f_M_cheap_b18] at hF
    refine lv_iload_n hx hb dX10_cheap_18 rfl (lv_at hl 3 rfl) ?_
    refine lv_if_lt (tgt := 70) hx hb dX10_cheap_19 (by decide) (fun q1 => ?_) (fun q1 => ?_)
    · have hF := kp hF q1
      refine lv_iload_n hx hb dX10_cheap_70 rfl (lv_at hl 2 rfl) ?_
      refine lv_if_ge (tgt := 82) hx hb dX10_cheap_71 (by decide) (fun q2 => ?_) (fun q2 => ?_)
      · have hF := kp hF q2
        refine lv_iload_n hx hb dX10_cheap_82 rfl (lv_at hl 2 rfl) ?_
        obtain rfl := Option.some.inj hF
        exact W.iret hx hb hr (fun t ht hW => ⟨⟨rfl, by rw [ht]; exact hP, hD⟩, hS.F ht⟩) hS.2.2 dX10_cheap_83
      · have hF := kn hF q2
        refine lv_aload_n hx hb dX10_cheap_74 rfl (lv_at hl 0 rfl) ?_
        refine lv_iconst (v := (3 : Int32)) hx hb dX10_cheap_75 (by decide) ?_
        obtain ⟨r3, er3, hF⟩ := kb hF
        refine kWV (rest := []) (Wr := [(h_t_s, .inl (eI E, 65, .inl c_t_s))]) (Wn := (w_M_cheap E h_t h_t_findings h_t_s x_t_kept x_t_before x_t_shown x_t_worths x_t_steps x_t_tape x_t_bits x_t_longs x_t_cells x_t_between c_t_isKept c_t_most c_t_taped c_t_here c_t_fault c_t_value r3.2 c_t_s)) C (k_M_no l E h_t h_t_findings h_t_s x_t_kept x_t_before x_t_shown x_t_worths x_t_steps x_t_tape x_t_bits x_t_longs x_t_cells x_t_between H.size c_t_isKept c_t_most c_t_taped c_t_here c_t_fault c_t_value c_t_findings (3 : Int32) r3 er3) fn_M_no mw_964 ⟨Nat.le_of_ble_eq_true rfl, Nat.le_of_ble_eq_true rfl⟩ hK hT hS hA (va_recv hK hP (ci := 8) (q0 := 0) rfl rfl) hP hD [0, 1] rfl (by decide) [2] rfl (by decide) (by decide) [1, 2, 0] rfl (by decide) rfl rfl hl (Nat.le_of_ble_eq_true rfl) dX10_cheap_76 (fun H locs hP hD hS => ?_)
        refine W.eq (g2 := F0 m 79 ls [.int r3.1]) rfl ?_
        refine lv_goto (tgt := 83) hx hb dX10_cheap_79 (by decide) ?_
        obtain rfl := Option.some.inj hF
        exact W.iret hx hb hr (fun t ht hW => ⟨⟨rfl, by rw [ht]; exact hP, hD⟩, hS.F ht⟩) hS.2.2 dX10_cheap_83
    · have hF := kn hF q1
      refine lv_aload_n hx hb dX10_cheap_22 rfl (lv_at hl 0 rfl) ?_
      refine va_get (D := eD E) (ci := 8) (C := RX10) (T := TX10) (N := 18) (v := .ref h_t_s) hx hb hw inX10 hown hK hP 0 rfl rfl 0 (by decide) (hw _ mw_881) (fun _ h9 => h9) rfl dX10_cheap_23 ?_
      refine lv_iconst (v := (3 : Int32)) hx hb dX10_cheap_26 (by decide) ?_
      refine lv_iload_n hx hb dX10_cheap_27 rfl (lv_at hl 3 rfl) ?_
      refine lv_iadd hx hb dX10_cheap_28 ?_
      obtain ⟨r4, er4, hF⟩ := kb hF
      refine wa_iald hx hb hK hP 2 0 rfl rfl er4 dX10_cheap_29 ?_
      refine lv_istore (lv' := [(4, .int r4), (0, .ref h_t), (1, .int a1), (2, .int v2), (3, .int v3)]) hx hb dX10_cheap_30 hl (by decide) rfl (fun ls hl => ?_)
      refine lv_iload hx hb dX10_cheap_32 (lv_at hl 0 rfl) ?_
      refine lv_if_eq (tgt := 64) hx hb dX10_cheap_34 (by decide) (fun q5 => ?_) (fun q5 => ?_)
      · have hF := kp hF q5
        refine lv_iinc (v := (v3 + (-1))) (lv' := [(3, .int (v3 + (-1))), (4, .int r4), (0, .ref h_t), (1, .int a1), (2, .int v2)]) hx hb dX10_cheap_64 hl (k := 4) rfl rfl (by decide) rfl (fun ls hl => ?_)
        refine lv_goto (tgt := 18) hx hb dX10_cheap_67 (by decide) ?_
        exact ih c_t_findings v2 (v3 + (-1)) hF _ _ hP hD hS _ (lv_sub hl [2, 3, 4, 0] rfl)
      · have hF := kn hF q5
        refine lv_iload_n hx hb dX10_cheap_37 rfl (lv_at hl 3 rfl) ?_
        refine lv_if_lt (tgt := 62) hx hb dX10_cheap_38 (by decide) (fun q6 => ?_) (fun q6 => ?_)
        · have hF := kp hF q6
          exact wk_M_cheap_b62 E h_t h_t_findings h_t_s x_t_kept x_t_before x_t_shown x_t_worths x_t_steps x_t_tape x_t_bits x_t_longs x_t_cells x_t_between c_t_isKept c_t_most c_t_taped c_t_here c_t_fault c_t_value c_t_s a1 C hA  hK hT (f_M_cheap_b18  c_t_s a1 n) ih c_t_findings v3 hF _ _ hP hD hS _ (lv_sub hl [1, 2, 4] rfl)
        · have hF := kn hF q6
          refine lv_iload_n hx hb dX10_cheap_41 rfl (lv_at hl 2 rfl) ?_
          refine lv_iload hx hb dX10_cheap_42 (lv_at hl 0 rfl) ?_
          obtain ⟨r7, er7, hF⟩ := kb hF
          refine kRS (rest := []) C (k_M_feetBy l E a1 r4 r7 er7) fn_M_feetBy mw_1111 ⟨Nat.le_of_ble_eq_true rfl, Nat.le_of_ble_eq_true rfl⟩ hK hT hS hP [] rfl rfl rfl hl (Nat.le_of_ble_eq_true rfl) dX10_cheap_44 ?_
          refine lv_iload_n hx hb dX10_cheap_47 rfl (lv_at hl 2 rfl) ?_
          refine lv_aload_n hx hb dX10_cheap_48 rfl (lv_at hl 1 rfl) ?_
          refine va_get (D := eD E) (ci := 8) (C := RX10) (T := TX10) (N := 18) (v := .ref h_t_s) hx hb hw inX10 hown hK hP 0 rfl rfl 0 (by decide) (hw _ mw_881) (fun _ h9 => h9) rfl dX10_cheap_49 ?_
          refine lv_iconst (v := (3 : Int32)) hx hb dX10_cheap_52 (by decide) ?_
          refine lv_iload_n hx hb dX10_cheap_53 rfl (lv_at hl 3 rfl) ?_
          refine lv_iadd hx hb dX10_cheap_54 ?_
          obtain ⟨r8, er8, hF⟩ := kb hF
          refine wa_iald hx hb hK hP 2 0 rfl rfl er8 dX10_cheap_55 ?_
          obtain ⟨r9, er9, hF⟩ := kb hF
          refine kRS (rest := [.int r7]) C (k_M_feetBy l E a1 r8 r9 er9) fn_M_feetBy mw_1111 ⟨Nat.le_of_ble_eq_true rfl, Nat.le_of_ble_eq_true rfl⟩ hK hT hS hP [] rfl rfl rfl hl (Nat.le_of_ble_eq_true rfl) dX10_cheap_56 ?_
          refine lv_icmp_gt (tgt := 64) hx hb dX10_cheap_59 (by decide) (fun q10 => ?_) (fun q10 => ?_)
          · have hF := kp hF q10
            refine lv_iinc (v := (v3 + (-1))) (lv' := [(3, .int (v3 + (-1))), (4, .int r4), (0, .ref h_t), (1, .int a1), (2, .int v2)]) hx hb dX10_cheap_64 hl (k := 4) rfl rfl (by decide) rfl (fun ls hl => ?_)
            refine lv_goto (tgt := 18) hx hb dX10_cheap_67 (by decide) ?_
            exact ih c_t_findings v2 (v3 + (-1)) hF _ _ hP hD hS _ (lv_sub hl [2, 3, 4, 0] rfl)
          · have hF := kn hF q10
            exact wk_M_cheap_b62 E h_t h_t_findings h_t_s x_t_kept x_t_before x_t_shown x_t_worths x_t_steps x_t_tape x_t_bits x_t_longs x_t_cells x_t_between c_t_isKept c_t_most c_t_taped c_t_here c_t_fault c_t_value c_t_s a1 C hA  hK hT (f_M_cheap_b18  c_t_s a1 n) ih c_t_findings v3 hF _ _ hP hD hS _ (lv_sub hl [1, 2, 4] rfl)
set_option maxHeartbeats 4000000 in
set_option maxRecDepth 100000 in
theorem k_M_cheap (l : Launch) (E : kE) (h_t : Nat) (h_t_findings : Nat) (h_t_s : Nat) (x_t_kept : Nat) (x_t_before : Nat) (x_t_shown : Nat) (x_t_worths : Nat) (x_t_steps : Nat) (x_t_tape : Nat) (x_t_bits : Nat) (x_t_longs : Nat) (x_t_cells : Nat) (x_t_between : Nat) (sz : Nat) (c_t_isKept : Int32) (c_t_most : Int32) (c_t_taped : Int32) (c_t_here : Int32) (c_t_fault : Int32) (c_t_value : Int32) (c_t_findings : (Nat → Int32)) (c_t_s : (Nat → Int32)) (a1 : Int32) (out : Int32 × (Nat → Int32)) (hF : f_M_cheap c_t_findings c_t_s a1 = some out) : Met l yX10_cheap (Cond.code yX10_cheap cX10_cheap 5 (some .int) :: wG) (rm 9) (pW E (w_M_cheap E h_t h_t_findings h_t_s x_t_kept x_t_before x_t_shown x_t_worths x_t_steps x_t_tape x_t_bits x_t_longs x_t_cells x_t_between c_t_isKept c_t_most c_t_taped c_t_here c_t_fault c_t_value c_t_findings c_t_s) sz [.ref h_t, .int a1]) (qW (some (.int out.1)) E (w_M_cheap E h_t h_t_findings h_t_s x_t_kept x_t_before x_t_shown x_t_worths x_t_steps x_t_tape x_t_bits x_t_longs x_t_cells x_t_between c_t_isKept c_t_most c_t_taped c_t_here c_t_fault c_t_value out.2 c_t_s) (va_A (w_M_cheap E h_t h_t_findings h_t_s x_t_kept x_t_before x_t_shown x_t_worths x_t_steps x_t_tape x_t_bits x_t_longs x_t_cells x_t_between c_t_isKept c_t_most c_t_taped c_t_here c_t_fault c_t_value c_t_findings c_t_s) sz)) 0 0 (va_A (w_M_cheap E h_t h_t_findings h_t_s x_t_kept x_t_before x_t_shown x_t_worths x_t_steps x_t_tape x_t_bits x_t_longs x_t_cells x_t_between c_t_isKept c_t_most c_t_taped c_t_here c_t_fault c_t_value c_t_findings c_t_s) sz) := by
  refine met_W (by decide) (Nat.le_of_ble_eq_true rfl) ?_
  intro p e s m args below meth c A ls C hP hD hS hA hK hT hl
  obtain ⟨hx, hb, hr, hml, hown, hw, hlocks⟩ := id C
  have hl : lv_has ls 5 [(0, .ref h_t), (1, .int a1)] := hl
  rw [f_M_cheap] at hF
  refine lv_iload_n hx hb dX10_cheap_0 rfl (lv_at hl 1 rfl) ?_
  obtain ⟨r11, er11, hF⟩ := kb hF
  refine kRS (rest := []) C (k_M_isKind l E a1 r11 er11) fn_M_isKind mw_1077 ⟨Nat.le_of_ble_eq_true rfl, Nat.le_of_ble_eq_true rfl⟩ hK hT hS hP [] rfl rfl rfl hl (Nat.le_of_ble_eq_true rfl) dX10_cheap_1 ?_
  refine lv_if_ne (tgt := 13) hx hb dX10_cheap_4 (by decide) (fun q12 => ?_) (fun q12 => ?_)
  · have hF := kn hF q12
    refine lv_iconst (v := (-1 : Int32)) hx hb dX10_cheap_13 (by decide) ?_
    refine lv_istore_n (lv' := [(2, .int (-1 : Int32)), (0, .ref h_t), (1, .int a1)]) hx hb dX10_cheap_14 rfl hl (by decide) rfl (fun ls hl => ?_)
    refine lv_bipush (v := (25 : Int32)) hx hb dX10_cheap_15 (by decide) ?_
    refine lv_istore_n (lv' := [(3, .int (25 : Int32)), (2, .int (-1 : Int32)), (0, .ref h_t), (1, .int a1)]) hx hb dX10_cheap_17 rfl hl (by decide) rfl (fun ls hl => ?_)
    exact wk_M_cheap_b18 E h_t h_t_findings h_t_s x_t_kept x_t_before x_t_shown x_t_worths x_t_steps x_t_tape x_t_bits x_t_longs x_t_cells x_t_between c_t_isKept c_t_most c_t_taped c_t_here c_t_fault c_t_value c_t_s a1 C hA  hK hT  5000 c_t_findings (-1 : Int32) (25 : Int32) hF _ _ hP hD hS _ (lv_sub hl [2, 3, 1, 0] rfl)
  · have hF := kp hF q12
    refine lv_aload_n hx hb dX10_cheap_7 rfl (lv_at hl 0 rfl) ?_
    refine lv_iconst (v := (0 : Int32)) hx hb dX10_cheap_8 (by decide) ?_
    obtain ⟨r13, er13, hF⟩ := kb hF
    refine kWV (rest := []) (Wr := [(h_t_s, .inl (eI E, 65, .inl c_t_s))]) (Wn := (w_M_cheap E h_t h_t_findings h_t_s x_t_kept x_t_before x_t_shown x_t_worths x_t_steps x_t_tape x_t_bits x_t_longs x_t_cells x_t_between c_t_isKept c_t_most c_t_taped c_t_here c_t_fault c_t_value r13.2 c_t_s)) C (k_M_no l E h_t h_t_findings h_t_s x_t_kept x_t_before x_t_shown x_t_worths x_t_steps x_t_tape x_t_bits x_t_longs x_t_cells x_t_between s.heap.size c_t_isKept c_t_most c_t_taped c_t_here c_t_fault c_t_value c_t_findings (0 : Int32) r13 er13) fn_M_no mw_964 ⟨Nat.le_of_ble_eq_true rfl, Nat.le_of_ble_eq_true rfl⟩ hK hT hS hA (va_recv hK hP (ci := 8) (q0 := 0) rfl rfl) hP hD [0, 1] rfl (by decide) [2] rfl (by decide) (by decide) [1, 2, 0] rfl (by decide) rfl rfl hl (Nat.le_of_ble_eq_true rfl) dX10_cheap_9 (fun H locs hP hD hS => ?_)
    refine W.eq (g2 := F0 m 12 ls [.int r13.1]) rfl ?_
    obtain rfl := Option.some.inj hF
    exact W.iret hx hb hr (fun t ht hW => ⟨⟨rfl, by rw [ht]; exact hP, hD⟩, hS.F ht⟩) hS.2.2 dX10_cheap_12
abbrev w_M_feed (E : kE) (h_t : Nat) (h_t_findings : Nat) (h_t_tape : Nat) (x_t_s : Nat) (x_t_kept : Nat) (x_t_before : Nat) (x_t_shown : Nat) (x_t_worths : Nat) (x_t_steps : Nat) (x_t_bits : Nat) (x_t_longs : Nat) (x_t_cells : Nat) (x_t_between : Nat) (c_t_isKept : Int32) (c_t_most : Int32) (c_t_taped : Int32) (c_t_here : Int32) (c_t_fault : Int32) (c_t_value : Int32) (c_t_findings : (Nat → Int32)) (c_t_tape : (Nat → Int32)) : va_W := [(h_t, .inr (8, [.ref x_t_s, .ref x_t_kept, .ref x_t_before, .int c_t_isKept, .ref h_t_findings, .ref x_t_shown, .int c_t_most, .ref x_t_worths, .ref x_t_steps, .ref h_t_tape, .int c_t_taped, .int c_t_here, .int c_t_fault, .int c_t_value, .ref x_t_bits, .ref x_t_longs, .ref x_t_cells, .ref x_t_between])), (h_t_findings, .inl (eI E, 7, .inl c_t_findings)), (h_t_tape, .inl (eI E, 120, .inl c_t_tape))]
set_option maxHeartbeats 4000000 in
set_option maxRecDepth 100000 in
theorem wk_M_feed_b36 {p : Program} {l : Launch} {e : Env} {s : State} {m : MethodId} {args : Array Value} {below : List Frame} {meth : Method} {c : Code} {A : Nat → Prop} (E : kE) (h_t : Nat) (h_t_findings : Nat) (h_t_tape : Nat) (x_t_s : Nat) (x_t_kept : Nat) (x_t_before : Nat) (x_t_shown : Nat) (x_t_worths : Nat) (x_t_steps : Nat) (x_t_bits : Nat) (x_t_longs : Nat) (x_t_cells : Nat) (x_t_between : Nat) (c_t_isKept : Int32) (c_t_most : Int32) (c_t_here : Int32) (c_t_fault : Int32) (c_t_value : Int32) (a1 : Int32) (a2 : Int32) {out : Int32 × Int32 × (Nat → Int32) × (Nat → Int32)} (C : kC RX10 cX10_feed 4 (some .int) p s m args meth c) (hA : ∀ q : Nat, s.heap.size ≤ q → A q) (hK : va_K (eD E) vwCl (eT E) s) (hT : sT E A s s.heap)  :
    ∀ (n : Nat), ∀ (c_t_taped : Int32) (c_t_findings : (Nat → Int32)) (c_t_tape : (Nat → Int32)) (v3 : Int32), f_M_feed_b36  a1 a2 n c_t_taped c_t_findings c_t_tape v3 = some out → ∀ (H : Heap) (locs : List Loc), va_P (eD E) vwCl (w_M_feed E h_t h_t_findings h_t_tape x_t_s x_t_kept x_t_before x_t_shown x_t_worths x_t_steps x_t_bits x_t_longs x_t_cells x_t_between c_t_isKept c_t_most c_t_taped c_t_here c_t_fault c_t_value c_t_findings c_t_tape) H → va_D A (w_M_feed E h_t h_t_findings h_t_tape x_t_s x_t_kept x_t_before x_t_shown x_t_worths x_t_steps x_t_bits x_t_longs x_t_cells x_t_between c_t_isKept c_t_most c_t_taped c_t_here c_t_fault c_t_value c_t_findings c_t_tape) → va_S A s.heap H locs → ∀ (ls : Array Slot), lv_has ls 4 [(0, .ref h_t), (1, .int a1), (3, .int v3)] → W p l e (rm 2) s m args below meth c H locs 0 0 (MQ below (qW (some (.int out.1)) E (w_M_feed E h_t h_t_findings h_t_tape x_t_s x_t_kept x_t_before x_t_shown x_t_worths x_t_steps x_t_bits x_t_longs x_t_cells x_t_between c_t_isKept c_t_most out.2.1 c_t_here c_t_fault c_t_value out.2.2.1 out.2.2.2) A) args s 0 0 A) (F0 m 36 ls []) := by
  obtain ⟨hx, hb, hr, hml, hown, hw, hlocks⟩ := id C
  intro n
  induction n with
  | zero =>
    intro c_t_taped c_t_findings c_t_tape v3 hF
    exact absurd (show (none : Option (Int32 × Int32 × (Nat → Int32) × (Nat → Int32))) = some out from hF) nofun
  | succ n ih =>
    intro c_t_taped c_t_findings c_t_tape v3 hF H locs hP hD hS ls hl
    rw [f_M_feed_b36] at hF
    refine lv_iload_n hx hb dX10_feed_36 rfl (lv_at hl 2 rfl) ?_
    refine lv_if_lt (tgt := 75) hx hb dX10_feed_37 (by decide) (fun q1 => ?_) (fun q1 => ?_)
    · have hF := kp hF q1
      refine lv_aload_n hx hb dX10_feed_75 rfl (lv_at hl 0 rfl) ?_
      refine va_get (D := eD E) (ci := 8) (C := RX10) (T := TX10) (N := 18) (v := .int c_t_taped) hx hb hw inX10 hown hK hP 0 rfl rfl 10 (by decide) (hw _ mw_891) (fun _ h9 => h9) rfl dX10_feed_76 ?_
      obtain rfl := Option.some.inj hF
      exact W.iret hx hb hr (fun t ht hW => ⟨⟨rfl, by rw [ht]; exact hP, hD⟩, hS.F ht⟩) hS.2.2 dX10_feed_79
    · have hF := kn hF q1
      refine lv_aload_n hx hb dX10_feed_40 rfl (lv_at hl 0 rfl) ?_
      refine va_get (D := eD E) (ci := 8) (C := RX10) (T := TX10) (N := 18) (v := .ref h_t_tape) hx hb hw inX10 hown hK hP 0 rfl rfl 9 (by decide) (hw _ mw_890) (fun _ h9 => h9) rfl dX10_feed_41 ?_
      refine lv_aload_n hx hb dX10_feed_44 rfl (lv_at hl 0 rfl) ?_
      refine va_get (D := eD E) (ci := 8) (C := RX10) (T := TX10) (N := 18) (v := .int c_t_taped) hx hb hw inX10 hown hK hP 0 rfl rfl 10 (by decide) (hw _ mw_891) (fun _ h9 => h9) rfl dX10_feed_45 ?_
      refine lv_iload_n hx hb dX10_feed_48 rfl (lv_at hl 1 rfl) ?_
      refine lv_bipush (v := (8 : Int32)) hx hb dX10_feed_49 (by decide) ?_
      refine lv_iload_n hx hb dX10_feed_51 rfl (lv_at hl 2 rfl) ?_
      refine lv_imul hx hb dX10_feed_52 ?_
      refine lv_ishr hx hb dX10_feed_53 ?_
      refine lv_sipush (v := (255 : Int32)) hx hb dX10_feed_54 (by decide) ?_
      refine lv_iand hx hb dX10_feed_57 ?_
      obtain ⟨r2, er2, hF⟩ := kb hF
      refine wa_iast hx hb hK hP hD hS 2 0 rfl rfl er2 dX10_feed_58 (fun H locs hP hD hS => ?_)
      have hP : va_P (eD E) vwCl (w_M_feed E h_t h_t_findings h_t_tape x_t_s x_t_kept x_t_before x_t_shown x_t_worths x_t_steps x_t_bits x_t_longs x_t_cells x_t_between c_t_isKept c_t_most c_t_taped c_t_here c_t_fault c_t_value c_t_findings r2) H := hP
      have hD : va_D A (w_M_feed E h_t h_t_findings h_t_tape x_t_s x_t_kept x_t_before x_t_shown x_t_worths x_t_steps x_t_bits x_t_longs x_t_cells x_t_between c_t_isKept c_t_most c_t_taped c_t_here c_t_fault c_t_value c_t_findings r2) := hD
      refine lv_aload_n hx hb dX10_feed_59 rfl (lv_at hl 0 rfl) ?_
      refine lv_dup hx hb dX10_feed_60 rfl ?_
      refine va_get (D := eD E) (ci := 8) (C := RX10) (T := TX10) (N := 18) (v := .int c_t_taped) hx hb hw inX10 hown hK hP 0 rfl rfl 10 (by decide) (hw _ mw_891) (fun _ h9 => h9) rfl dX10_feed_61 ?_
      refine lv_iconst (v := (1 : Int32)) hx hb dX10_feed_64 (by decide) ?_
      refine lv_iadd hx hb dX10_feed_65 ?_
      refine va_put (D := eD E) (ci := 8) (v := .int (c_t_taped + (1 : Int32))) (ty := .int) (C := RX10) (T := TX10) (N := 18) hx hb hw inX10 tyX10 tyX10_ok nmX10 hown hK hP hD hS 0 rfl rfl 10 (by decide) (hw _ mw_891) (fun _ h9 => h9) rfl (by decide +kernel) rfl rfl (Nat.le_of_ble_eq_true rfl) dX10_feed_66 (fun H locs hP hD hS => ?_)
      have hP : va_P (eD E) vwCl (w_M_feed E h_t h_t_findings h_t_tape x_t_s x_t_kept x_t_before x_t_shown x_t_worths x_t_steps x_t_bits x_t_longs x_t_cells x_t_between c_t_isKept c_t_most (c_t_taped + (1 : Int32)) c_t_here c_t_fault c_t_value c_t_findings r2) H := hP
      have hD : va_D A (w_M_feed E h_t h_t_findings h_t_tape x_t_s x_t_kept x_t_before x_t_shown x_t_worths x_t_steps x_t_bits x_t_longs x_t_cells x_t_between c_t_isKept c_t_most (c_t_taped + (1 : Int32)) c_t_here c_t_fault c_t_value c_t_findings r2) := hD
      refine lv_iinc (v := (v3 + (-1))) (lv' := [(3, .int (v3 + (-1))), (0, .ref h_t), (1, .int a1)]) hx hb dX10_feed_69 hl (k := 2) rfl rfl (by decide) rfl (fun ls hl => ?_)
      refine lv_goto (tgt := 36) hx hb dX10_feed_72 (by decide) ?_
      exact ih (c_t_taped + (1 : Int32)) c_t_findings r2 (v3 + (-1)) hF _ _ hP hD hS _ (lv_sub hl [1, 2, 0] rfl)
set_option maxHeartbeats 4000000 in
set_option maxRecDepth 100000 in
theorem k_M_feed (l : Launch) (E : kE) (h_t : Nat) (h_t_findings : Nat) (h_t_tape : Nat) (x_t_s : Nat) (x_t_kept : Nat) (x_t_before : Nat) (x_t_shown : Nat) (x_t_worths : Nat) (x_t_steps : Nat) (x_t_bits : Nat) (x_t_longs : Nat) (x_t_cells : Nat) (x_t_between : Nat) (sz : Nat) (c_t_isKept : Int32) (c_t_most : Int32) (c_t_taped : Int32) (c_t_here : Int32) (c_t_fault : Int32) (c_t_value : Int32) (c_t_findings : (Nat → Int32)) (c_t_tape : (Nat → Int32)) (a1 : Int32) (a2 : Int32) (out : Int32 × Int32 × (Nat → Int32) × (Nat → Int32)) (hF : f_M_feed c_t_taped c_t_findings c_t_tape a1 a2 = some out) : Met l yX10_feed (Cond.code yX10_feed cX10_feed 4 (some .int) :: wG) (rm 2) (pW E (w_M_feed E h_t h_t_findings h_t_tape x_t_s x_t_kept x_t_before x_t_shown x_t_worths x_t_steps x_t_bits x_t_longs x_t_cells x_t_between c_t_isKept c_t_most c_t_taped c_t_here c_t_fault c_t_value c_t_findings c_t_tape) sz [.ref h_t, .int a1, .int a2]) (qW (some (.int out.1)) E (w_M_feed E h_t h_t_findings h_t_tape x_t_s x_t_kept x_t_before x_t_shown x_t_worths x_t_steps x_t_bits x_t_longs x_t_cells x_t_between c_t_isKept c_t_most out.2.1 c_t_here c_t_fault c_t_value out.2.2.1 out.2.2.2) (va_A (w_M_feed E h_t h_t_findings h_t_tape x_t_s x_t_kept x_t_before x_t_shown x_t_worths x_t_steps x_t_bits x_t_longs x_t_cells x_t_between c_t_isKept c_t_most c_t_taped c_t_here c_t_fault c_t_value c_t_findings c_t_tape) sz)) 0 0 (va_A (w_M_feed E h_t h_t_findings h_t_tape x_t_s x_t_kept x_t_before x_t_shown x_t_worths x_t_steps x_t_bits x_t_longs x_t_cells x_t_between c_t_isKept c_t_most c_t_taped c_t_here c_t_fault c_t_value c_t_findings c_t_tape) sz) := by
  refine met_W (by decide) (Nat.le_of_ble_eq_true rfl) ?_
  intro p e s m args below meth c A ls C hP hD hS hA hK hT hl
  obtain ⟨hx, hb, hr, hml, hown, hw, hlocks⟩ := id C
  have hl : lv_has ls 4 [(0, .ref h_t), (1, .int a1), (2, .int a2)] := hl
  rw [f_M_feed] at hF
  refine lv_iload_n hx hb dX10_feed_0 rfl (lv_at hl 2 rfl) ?_
  refine lv_iconst (v := (1 : Int32)) hx hb dX10_feed_1 (by decide) ?_
  refine lv_iconst (v := (4 : Int32)) hx hb dX10_feed_2 (by decide) ?_
  obtain ⟨r3, er3, hF⟩ := kb hF
  refine kRS (rest := []) C (k_M_in l E a2 (1 : Int32) (4 : Int32) r3 er3) fn_M_in mw_943 ⟨Nat.le_of_ble_eq_true rfl, Nat.le_of_ble_eq_true rfl⟩ hK hT hS hP [] rfl rfl rfl hl (Nat.le_of_ble_eq_true rfl) dX10_feed_3 ?_
  refine lv_if_ne (tgt := 15) hx hb dX10_feed_6 (by decide) (fun q4 => ?_) (fun q4 => ?_)
  · have hF := kn hF q4
    refine lv_aload_n hx hb dX10_feed_15 rfl (lv_at hl 0 rfl) ?_
    refine va_get (D := eD E) (ci := 8) (C := RX10) (T := TX10) (N := 18) (v := .int c_t_taped) hx hb hw inX10 hown hK hP 0 rfl rfl 10 (by decide) (hw _ mw_891) (fun _ h9 => h9) rfl dX10_feed_16 ?_
    refine lv_iload_n hx hb dX10_feed_19 rfl (lv_at hl 2 rfl) ?_
    refine lv_iadd hx hb dX10_feed_20 ?_
    refine lv_bipush (v := (120 : Int32)) hx hb dX10_feed_21 (by decide) ?_
    refine lv_icmp_le (tgt := 32) hx hb dX10_feed_23 (by decide) (fun q5 => ?_) (fun q5 => ?_)
    · have hF := kp hF q5
      refine lv_iload_n hx hb dX10_feed_32 rfl (lv_at hl 2 rfl) ?_
      refine lv_iconst (v := (1 : Int32)) hx hb dX10_feed_33 (by decide) ?_
      refine lv_isub hx hb dX10_feed_34 ?_
      refine lv_istore_n (lv' := [(3, .int (a2 - (1 : Int32))), (0, .ref h_t), (1, .int a1), (2, .int a2)]) hx hb dX10_feed_35 rfl hl (by decide) rfl (fun ls hl => ?_)
      exact wk_M_feed_b36 E h_t h_t_findings h_t_tape x_t_s x_t_kept x_t_before x_t_shown x_t_worths x_t_steps x_t_bits x_t_longs x_t_cells x_t_between c_t_isKept c_t_most c_t_here c_t_fault c_t_value a1 a2 C hA  hK hT  5000 c_t_taped c_t_findings c_t_tape (a2 - (1 : Int32)) hF _ _ hP hD hS _ (lv_sub hl [1, 2, 0] rfl)
    · have hF := kn hF q5
      refine lv_aload_n hx hb dX10_feed_26 rfl (lv_at hl 0 rfl) ?_
      refine lv_iconst (v := (1 : Int32)) hx hb dX10_feed_27 (by decide) ?_
      obtain ⟨r6, er6, hF⟩ := kb hF
      refine kWV (rest := []) (Wr := [(h_t_tape, .inl (eI E, 120, .inl c_t_tape))]) (Wn := (w_M_feed E h_t h_t_findings h_t_tape x_t_s x_t_kept x_t_before x_t_shown x_t_worths x_t_steps x_t_bits x_t_longs x_t_cells x_t_between c_t_isKept c_t_most c_t_taped c_t_here c_t_fault c_t_value r6.2 c_t_tape)) C (k_M_no l E h_t h_t_findings x_t_s x_t_kept x_t_before x_t_shown x_t_worths x_t_steps h_t_tape x_t_bits x_t_longs x_t_cells x_t_between s.heap.size c_t_isKept c_t_most c_t_taped c_t_here c_t_fault c_t_value c_t_findings (1 : Int32) r6 er6) fn_M_no mw_964 ⟨Nat.le_of_ble_eq_true rfl, Nat.le_of_ble_eq_true rfl⟩ hK hT hS hA (va_recv hK hP (ci := 8) (q0 := 0) rfl rfl) hP hD [0, 1] rfl (by decide) [2] rfl (by decide) (by decide) [1, 2, 0] rfl (by decide) rfl rfl hl (Nat.le_of_ble_eq_true rfl) dX10_feed_28 (fun H locs hP hD hS => ?_)
      refine W.eq (g2 := F0 m 31 ls [.int r6.1]) rfl ?_
      obtain rfl := Option.some.inj hF
      exact W.iret hx hb hr (fun t ht hW => ⟨⟨rfl, by rw [ht]; exact hP, hD⟩, hS.F ht⟩) hS.2.2 dX10_feed_31
  · have hF := kp hF q4
    refine lv_aload_n hx hb dX10_feed_9 rfl (lv_at hl 0 rfl) ?_
    refine lv_iconst (v := (0 : Int32)) hx hb dX10_feed_10 (by decide) ?_
    obtain ⟨r7, er7, hF⟩ := kb hF
    refine kWV (rest := []) (Wr := [(h_t_tape, .inl (eI E, 120, .inl c_t_tape))]) (Wn := (w_M_feed E h_t h_t_findings h_t_tape x_t_s x_t_kept x_t_before x_t_shown x_t_worths x_t_steps x_t_bits x_t_longs x_t_cells x_t_between c_t_isKept c_t_most c_t_taped c_t_here c_t_fault c_t_value r7.2 c_t_tape)) C (k_M_no l E h_t h_t_findings x_t_s x_t_kept x_t_before x_t_shown x_t_worths x_t_steps h_t_tape x_t_bits x_t_longs x_t_cells x_t_between s.heap.size c_t_isKept c_t_most c_t_taped c_t_here c_t_fault c_t_value c_t_findings (0 : Int32) r7 er7) fn_M_no mw_964 ⟨Nat.le_of_ble_eq_true rfl, Nat.le_of_ble_eq_true rfl⟩ hK hT hS hA (va_recv hK hP (ci := 8) (q0 := 0) rfl rfl) hP hD [0, 1] rfl (by decide) [2] rfl (by decide) (by decide) [1, 2, 0] rfl (by decide) rfl rfl hl (Nat.le_of_ble_eq_true rfl) dX10_feed_11 (fun H locs hP hD hS => ?_)
    refine W.eq (g2 := F0 m 14 ls [.int r7.1]) rfl ?_
    obtain rfl := Option.some.inj hF
    exact W.iret hx hb hr (fun t ht hW => ⟨⟨rfl, by rw [ht]; exact hP, hD⟩, hS.F ht⟩) hS.2.2 dX10_feed_14
abbrev w_M_wipe (E : kE) (h_t : Nat) (x_t_s : Nat) (x_t_kept : Nat) (x_t_before : Nat) (x_t_findings : Nat) (x_t_shown : Nat) (x_t_worths : Nat) (x_t_steps : Nat) (x_t_tape : Nat) (x_t_bits : Nat) (x_t_longs : Nat) (x_t_cells : Nat) (x_t_between : Nat) (c_t_isKept : Int32) (c_t_most : Int32) (c_t_taped : Int32) (c_t_here : Int32) (c_t_fault : Int32) (c_t_value : Int32) : va_W := [(h_t, .inr (8, [.ref x_t_s, .ref x_t_kept, .ref x_t_before, .int c_t_isKept, .ref x_t_findings, .ref x_t_shown, .int c_t_most, .ref x_t_worths, .ref x_t_steps, .ref x_t_tape, .int c_t_taped, .int c_t_here, .int c_t_fault, .int c_t_value, .ref x_t_bits, .ref x_t_longs, .ref x_t_cells, .ref x_t_between]))]
set_option maxHeartbeats 4000000 in
set_option maxRecDepth 100000 in
theorem k_M_wipe (l : Launch) (E : kE) (h_t : Nat) (x_t_s : Nat) (x_t_kept : Nat) (x_t_before : Nat) (x_t_findings : Nat) (x_t_shown : Nat) (x_t_worths : Nat) (x_t_steps : Nat) (x_t_tape : Nat) (x_t_bits : Nat) (x_t_longs : Nat) (x_t_cells : Nat) (x_t_between : Nat) (sz : Nat) (c_t_isKept : Int32) (c_t_most : Int32) (c_t_taped : Int32) (c_t_here : Int32) (c_t_fault : Int32) (c_t_value : Int32)  (out : Int32 × Int32) (hF : f_M_wipe c_t_taped  = some out) : Met l yX10_wipe (Cond.code yX10_wipe cX10_wipe 2 (some .int) :: wG) (rm 1) (pW E (w_M_wipe E h_t x_t_s x_t_kept x_t_before x_t_findings x_t_shown x_t_worths x_t_steps x_t_tape x_t_bits x_t_longs x_t_cells x_t_between c_t_isKept c_t_most c_t_taped c_t_here c_t_fault c_t_value) sz [.ref h_t]) (qW (some (.int out.1)) E (w_M_wipe E h_t x_t_s x_t_kept x_t_before x_t_findings x_t_shown x_t_worths x_t_steps x_t_tape x_t_bits x_t_longs x_t_cells x_t_between c_t_isKept c_t_most out.2 c_t_here c_t_fault c_t_value) (va_A (w_M_wipe E h_t x_t_s x_t_kept x_t_before x_t_findings x_t_shown x_t_worths x_t_steps x_t_tape x_t_bits x_t_longs x_t_cells x_t_between c_t_isKept c_t_most c_t_taped c_t_here c_t_fault c_t_value) sz)) 0 0 (va_A (w_M_wipe E h_t x_t_s x_t_kept x_t_before x_t_findings x_t_shown x_t_worths x_t_steps x_t_tape x_t_bits x_t_longs x_t_cells x_t_between c_t_isKept c_t_most c_t_taped c_t_here c_t_fault c_t_value) sz) := by
  refine met_W (by decide) (Nat.le_of_ble_eq_true rfl) ?_
  intro p e s m args below meth c A ls C hP hD hS hA hK hT hl
  obtain ⟨hx, hb, hr, hml, hown, hw, hlocks⟩ := id C
  have hl : lv_has ls 2 [(0, .ref h_t)] := hl
  rw [f_M_wipe] at hF
  refine lv_aload_n hx hb dX10_wipe_0 rfl (lv_at hl 0 rfl) ?_
  refine va_get (D := eD E) (ci := 8) (C := RX10) (T := TX10) (N := 18) (v := .int c_t_taped) hx hb hw inX10 hown hK hP 0 rfl rfl 10 (by decide) (hw _ mw_891) (fun _ h9 => h9) rfl dX10_wipe_1 ?_
  refine lv_istore_n (lv' := [(1, .int c_t_taped), (0, .ref h_t)]) hx hb dX10_wipe_4 rfl hl (by decide) rfl (fun ls hl => ?_)
  refine lv_aload_n hx hb dX10_wipe_5 rfl (lv_at hl 1 rfl) ?_
  refine lv_iconst (v := (0 : Int32)) hx hb dX10_wipe_6 (by decide) ?_
  refine va_put (D := eD E) (ci := 8) (v := .int (0 : Int32)) (ty := .int) (C := RX10) (T := TX10) (N := 18) hx hb hw inX10 tyX10 tyX10_ok nmX10 hown hK hP hD hS 0 rfl rfl 10 (by decide) (hw _ mw_891) (fun _ h9 => h9) rfl (by decide +kernel) rfl rfl (Nat.le_of_ble_eq_true rfl) dX10_wipe_7 (fun H locs hP hD hS => ?_)
  have hP : va_P (eD E) vwCl (w_M_wipe E h_t x_t_s x_t_kept x_t_before x_t_findings x_t_shown x_t_worths x_t_steps x_t_tape x_t_bits x_t_longs x_t_cells x_t_between c_t_isKept c_t_most (0 : Int32) c_t_here c_t_fault c_t_value) H := hP
  have hD : va_D A (w_M_wipe E h_t x_t_s x_t_kept x_t_before x_t_findings x_t_shown x_t_worths x_t_steps x_t_tape x_t_bits x_t_longs x_t_cells x_t_between c_t_isKept c_t_most (0 : Int32) c_t_here c_t_fault c_t_value) := hD
  refine lv_iload_n hx hb dX10_wipe_10 rfl (lv_at hl 0 rfl) ?_
  obtain rfl := Option.some.inj hF
  exact W.iret hx hb hr (fun t ht hW => ⟨⟨rfl, by rw [ht]; exact hP, hD⟩, hS.F ht⟩) hS.2.2 dX10_wipe_11
abbrev w_M_byteAt (E : kE) (h_t : Nat) (h_t_tape : Nat) (x_t_s : Nat) (x_t_kept : Nat) (x_t_before : Nat) (x_t_findings : Nat) (x_t_shown : Nat) (x_t_worths : Nat) (x_t_steps : Nat) (x_t_bits : Nat) (x_t_longs : Nat) (x_t_cells : Nat) (x_t_between : Nat) (c_t_isKept : Int32) (c_t_most : Int32) (c_t_taped : Int32) (c_t_here : Int32) (c_t_fault : Int32) (c_t_value : Int32) (c_t_tape : (Nat → Int32)) : va_W := [(h_t, .inr (8, [.ref x_t_s, .ref x_t_kept, .ref x_t_before, .int c_t_isKept, .ref x_t_findings, .ref x_t_shown, .int c_t_most, .ref x_t_worths, .ref x_t_steps, .ref h_t_tape, .int c_t_taped, .int c_t_here, .int c_t_fault, .int c_t_value, .ref x_t_bits, .ref x_t_longs, .ref x_t_cells, .ref x_t_between])), (h_t_tape, .inl (eI E, 120, .inl c_t_tape))]
set_option maxHeartbeats 4000000 in
set_option maxRecDepth 100000 in
theorem k_M_byteAt (l : Launch) (E : kE) (h_t : Nat) (h_t_tape : Nat) (x_t_s : Nat) (x_t_kept : Nat) (x_t_before : Nat) (x_t_findings : Nat) (x_t_shown : Nat) (x_t_worths : Nat) (x_t_steps : Nat) (x_t_bits : Nat) (x_t_longs : Nat) (x_t_cells : Nat) (x_t_between : Nat) (c_t_isKept : Int32) (c_t_most : Int32) (c_t_taped : Int32) (c_t_here : Int32) (c_t_fault : Int32) (c_t_value : Int32) (c_t_tape : (Nat → Int32)) (a1 : Int32) (out : Int32) (hF : f_M_byteAt c_t_taped c_t_tape a1 = some out) : Met l yX10_byteAt (Cond.code yX10_byteAt cX10_byteAt 2 (some .int) :: wG) (rm 1) (pR E (w_M_byteAt E h_t h_t_tape x_t_s x_t_kept x_t_before x_t_findings x_t_shown x_t_worths x_t_steps x_t_bits x_t_longs x_t_cells x_t_between c_t_isKept c_t_most c_t_taped c_t_here c_t_fault c_t_value c_t_tape) [.ref h_t, .int a1]) (qR (.int out)) 0 0 (fun _ => False) := by
  refine met_R (by decide) (Nat.le_of_ble_eq_true rfl) ?_
  intro p e s m args below meth c ls C hP hK hT hl
  obtain ⟨hx, hb, hr, hml, hown, hw, hlocks⟩ := id C
  have hS : va_S (fun _ => False) s.heap s.heap [] := va_S.rf
  have hl : lv_has ls 2 [(0, .ref h_t), (1, .int a1)] := hl
  rw [f_M_byteAt] at hF
  refine lv_iload_n hx hb dX10_byteAt_0 rfl (lv_at hl 1 rfl) ?_
  refine lv_aload_n hx hb dX10_byteAt_1 rfl (lv_at hl 0 rfl) ?_
  refine va_get (D := eD E) (ci := 8) (C := RX10) (T := TX10) (N := 18) (v := .int c_t_taped) hx hb hw inX10 hown hK hP 0 rfl rfl 10 (by decide) (hw _ mw_891) (fun _ h9 => h9) rfl dX10_byteAt_2 ?_
  refine lv_icmp_ge (tgt := 17) hx hb dX10_byteAt_5 (by decide) (fun q1 => ?_) (fun q1 => ?_)
  · have hF := kp hF q1
    refine lv_iconst (v := (-1 : Int32)) hx hb dX10_byteAt_17 (by decide) ?_
    obtain rfl := Option.some.inj hF
    exact W.iret hx hb hr (fun t ht hW => ⟨rfl, ht⟩) nofun dX10_byteAt_18
  · have hF := kn hF q1
    refine lv_aload_n hx hb dX10_byteAt_8 rfl (lv_at hl 0 rfl) ?_
    refine va_get (D := eD E) (ci := 8) (C := RX10) (T := TX10) (N := 18) (v := .ref h_t_tape) hx hb hw inX10 hown hK hP 0 rfl rfl 9 (by decide) (hw _ mw_890) (fun _ h9 => h9) rfl dX10_byteAt_9 ?_
    refine lv_iload_n hx hb dX10_byteAt_12 rfl (lv_at hl 1 rfl) ?_
    obtain ⟨r2, er2, hF⟩ := kb hF
    refine wa_iald hx hb hK hP 1 0 rfl rfl er2 dX10_byteAt_13 ?_
    refine lv_goto (tgt := 18) hx hb dX10_byteAt_14 (by decide) ?_
    obtain rfl := Option.some.inj hF
    exact W.iret hx hb hr (fun t ht hW => ⟨rfl, ht⟩) nofun dX10_byteAt_18
abbrev w_M_blanks (E : kE) (h_t : Nat) (h_t_tape : Nat) (x_t_s : Nat) (x_t_kept : Nat) (x_t_before : Nat) (x_t_findings : Nat) (x_t_shown : Nat) (x_t_worths : Nat) (x_t_steps : Nat) (x_t_bits : Nat) (x_t_longs : Nat) (x_t_cells : Nat) (x_t_between : Nat) (c_t_isKept : Int32) (c_t_most : Int32) (c_t_taped : Int32) (c_t_here : Int32) (c_t_fault : Int32) (c_t_value : Int32) (c_t_tape : (Nat → Int32)) : va_W := [(h_t, .inr (8, [.ref x_t_s, .ref x_t_kept, .ref x_t_before, .int c_t_isKept, .ref x_t_findings, .ref x_t_shown, .int c_t_most, .ref x_t_worths, .ref x_t_steps, .ref h_t_tape, .int c_t_taped, .int c_t_here, .int c_t_fault, .int c_t_value, .ref x_t_bits, .ref x_t_longs, .ref x_t_cells, .ref x_t_between])), (h_t_tape, .inl (eI E, 120, .inl c_t_tape))]
set_option maxHeartbeats 4000000 in
set_option maxRecDepth 100000 in
theorem wk_M_blanks_b0 {p : Program} {l : Launch} {e : Env} {s : State} {m : MethodId} {args : Array Value} {below : List Frame} {meth : Method} {c : Code} {A : Nat → Prop} (E : kE) (h_t : Nat) (h_t_tape : Nat) (x_t_s : Nat) (x_t_kept : Nat) (x_t_before : Nat) (x_t_findings : Nat) (x_t_shown : Nat) (x_t_worths : Nat) (x_t_steps : Nat) (x_t_bits : Nat) (x_t_longs : Nat) (x_t_cells : Nat) (x_t_between : Nat) (c_t_isKept : Int32) (c_t_most : Int32) (c_t_taped : Int32) (c_t_fault : Int32) (c_t_value : Int32) (c_t_tape : (Nat → Int32))  {out : Int32} (C : kC RX10 cX10_blanks 1 none p s m args meth c) (hA : ∀ q : Nat, s.heap.size ≤ q → A q) (hK : va_K (eD E) vwCl (eT E) s) (hT : sT E A s s.heap)  :
    ∀ (n : Nat), ∀ (c_t_here : Int32), f_M_blanks_b0  c_t_taped c_t_tape n c_t_here = some out → ∀ (H : Heap) (locs : List Loc), va_P (eD E) vwCl (w_M_blanks E h_t h_t_tape x_t_s x_t_kept x_t_before x_t_findings x_t_shown x_t_worths x_t_steps x_t_bits x_t_longs x_t_cells x_t_between c_t_isKept c_t_most c_t_taped c_t_here c_t_fault c_t_value c_t_tape) H → va_D A (w_M_blanks E h_t h_t_tape x_t_s x_t_kept x_t_before x_t_findings x_t_shown x_t_worths x_t_steps x_t_bits x_t_longs x_t_cells x_t_between c_t_isKept c_t_most c_t_taped c_t_here c_t_fault c_t_value c_t_tape) → va_S A s.heap H locs → ∀ (ls : Array Slot), lv_has ls 1 [(0, .ref h_t)] → W p l e (rm 2) s m args below meth c H locs 0 0 (MQ below (qW none E (w_M_blanks E h_t h_t_tape x_t_s x_t_kept x_t_before x_t_findings x_t_shown x_t_worths x_t_steps x_t_bits x_t_longs x_t_cells x_t_between c_t_isKept c_t_most c_t_taped out c_t_fault c_t_value c_t_tape) A) args s 0 0 A) (F0 m 0 ls []) := by
  obtain ⟨hx, hb, hr, hml, hown, hw, hlocks⟩ := id C
  intro n
  induction n with
  | zero =>
    intro c_t_here hF
    exact absurd (show (none : Option (Int32)) = some out from hF) nofun
  | succ n ih =>
    intro c_t_here hF H locs hP hD hS ls hl
    rw [f_M_blanks_b0] at hF
    refine lv_aload_n hx hb dX10_blanks_0 rfl (lv_at hl 0 rfl) ?_
    refine lv_aload_n hx hb dX10_blanks_1 rfl (lv_at hl 0 rfl) ?_
    refine va_get (D := eD E) (ci := 8) (C := RX10) (T := TX10) (N := 18) (v := .int c_t_here) hx hb hw inX10 hown hK hP 0 rfl rfl 11 (by decide) (hw _ mw_892) (fun _ h9 => h9) rfl dX10_blanks_2 ?_
    obtain ⟨r1, er1, hF⟩ := kb hF
    refine kRV (rest := []) C (k_M_byteAt l E h_t h_t_tape x_t_s x_t_kept x_t_before x_t_findings x_t_shown x_t_worths x_t_steps x_t_bits x_t_longs x_t_cells x_t_between c_t_isKept c_t_most c_t_taped c_t_here c_t_fault c_t_value c_t_tape c_t_here r1 er1) fn_M_byteAt mw_1220 ⟨Nat.le_of_ble_eq_true rfl, Nat.le_of_ble_eq_true rfl⟩ hK hT hS (va_recv hK hP (ci := 8) (q0 := 0) rfl rfl) hP [0, 1] rfl rfl rfl hl (Nat.le_of_ble_eq_true rfl) dX10_blanks_5 ?_
    refine lv_bipush (v := (32 : Int32)) hx hb dX10_blanks_8 (by decide) ?_
    refine lv_icmp_ne (tgt := 26) hx hb dX10_blanks_10 (by decide) (fun q2 => ?_) (fun q2 => ?_)
    · have hF := kn hF q2
      obtain rfl := Option.some.inj hF
      exact W.vret hx hb hr (fun t ht hW => ⟨⟨rfl, by rw [ht]; exact hP, hD⟩, hS.F ht⟩) hS.2.2 dX10_blanks_26
    · have hF := kp hF q2
      refine lv_aload_n hx hb dX10_blanks_13 rfl (lv_at hl 0 rfl) ?_
      refine lv_dup hx hb dX10_blanks_14 rfl ?_
      refine va_get (D := eD E) (ci := 8) (C := RX10) (T := TX10) (N := 18) (v := .int c_t_here) hx hb hw inX10 hown hK hP 0 rfl rfl 11 (by decide) (hw _ mw_892) (fun _ h9 => h9) rfl dX10_blanks_15 ?_
      refine lv_iconst (v := (1 : Int32)) hx hb dX10_blanks_18 (by decide) ?_
      refine lv_iadd hx hb dX10_blanks_19 ?_
      refine va_put (D := eD E) (ci := 8) (v := .int (c_t_here + (1 : Int32))) (ty := .int) (C := RX10) (T := TX10) (N := 18) hx hb hw inX10 tyX10 tyX10_ok nmX10 hown hK hP hD hS 0 rfl rfl 11 (by decide) (hw _ mw_892) (fun _ h9 => h9) rfl (by decide +kernel) rfl rfl (Nat.le_of_ble_eq_true rfl) dX10_blanks_20 (fun H locs hP hD hS => ?_)
      have hP : va_P (eD E) vwCl (w_M_blanks E h_t h_t_tape x_t_s x_t_kept x_t_before x_t_findings x_t_shown x_t_worths x_t_steps x_t_bits x_t_longs x_t_cells x_t_between c_t_isKept c_t_most c_t_taped (c_t_here + (1 : Int32)) c_t_fault c_t_value c_t_tape) H := hP
      have hD : va_D A (w_M_blanks E h_t h_t_tape x_t_s x_t_kept x_t_before x_t_findings x_t_shown x_t_worths x_t_steps x_t_bits x_t_longs x_t_cells x_t_between c_t_isKept c_t_most c_t_taped (c_t_here + (1 : Int32)) c_t_fault c_t_value c_t_tape) := hD
      refine lv_goto (tgt := 0) hx hb dX10_blanks_23 (by decide) ?_
      exact ih (c_t_here + (1 : Int32)) hF _ _ hP hD hS _ (lv_sub hl [0] rfl)
set_option maxHeartbeats 4000000 in
set_option maxRecDepth 100000 in
theorem k_M_blanks (l : Launch) (E : kE) (h_t : Nat) (h_t_tape : Nat) (x_t_s : Nat) (x_t_kept : Nat) (x_t_before : Nat) (x_t_findings : Nat) (x_t_shown : Nat) (x_t_worths : Nat) (x_t_steps : Nat) (x_t_bits : Nat) (x_t_longs : Nat) (x_t_cells : Nat) (x_t_between : Nat) (sz : Nat) (c_t_isKept : Int32) (c_t_most : Int32) (c_t_taped : Int32) (c_t_here : Int32) (c_t_fault : Int32) (c_t_value : Int32) (c_t_tape : (Nat → Int32))  (out : Int32) (hF : f_M_blanks c_t_taped c_t_here c_t_tape  = some out) : Met l yX10_blanks (Cond.code yX10_blanks cX10_blanks 1 none :: wG) (rm 2) (pW E (w_M_blanks E h_t h_t_tape x_t_s x_t_kept x_t_before x_t_findings x_t_shown x_t_worths x_t_steps x_t_bits x_t_longs x_t_cells x_t_between c_t_isKept c_t_most c_t_taped c_t_here c_t_fault c_t_value c_t_tape) sz [.ref h_t]) (qW none E (w_M_blanks E h_t h_t_tape x_t_s x_t_kept x_t_before x_t_findings x_t_shown x_t_worths x_t_steps x_t_bits x_t_longs x_t_cells x_t_between c_t_isKept c_t_most c_t_taped out c_t_fault c_t_value c_t_tape) (va_A (w_M_blanks E h_t h_t_tape x_t_s x_t_kept x_t_before x_t_findings x_t_shown x_t_worths x_t_steps x_t_bits x_t_longs x_t_cells x_t_between c_t_isKept c_t_most c_t_taped c_t_here c_t_fault c_t_value c_t_tape) sz)) 0 0 (va_A (w_M_blanks E h_t h_t_tape x_t_s x_t_kept x_t_before x_t_findings x_t_shown x_t_worths x_t_steps x_t_bits x_t_longs x_t_cells x_t_between c_t_isKept c_t_most c_t_taped c_t_here c_t_fault c_t_value c_t_tape) sz) := by
  refine met_W (by decide) (Nat.le_of_ble_eq_true rfl) ?_
  intro p e s m args below meth c A ls C hP hD hS hA hK hT hl
  obtain ⟨hx, hb, hr, hml, hown, hw, hlocks⟩ := id C
  have hl : lv_has ls 1 [(0, .ref h_t)] := hl
  rw [f_M_blanks] at hF
  exact wk_M_blanks_b0 E h_t h_t_tape x_t_s x_t_kept x_t_before x_t_findings x_t_shown x_t_worths x_t_steps x_t_bits x_t_longs x_t_cells x_t_between c_t_isKept c_t_most c_t_taped c_t_fault c_t_value c_t_tape  C hA  hK hT  5000 c_t_here hF _ _ hP hD hS _ (lv_sub hl [0] rfl)
abbrev w_M_fails (E : kE) (h_t : Nat) (x_t_s : Nat) (x_t_kept : Nat) (x_t_before : Nat) (x_t_findings : Nat) (x_t_shown : Nat) (x_t_worths : Nat) (x_t_steps : Nat) (x_t_tape : Nat) (x_t_bits : Nat) (x_t_longs : Nat) (x_t_cells : Nat) (x_t_between : Nat) (c_t_isKept : Int32) (c_t_most : Int32) (c_t_taped : Int32) (c_t_here : Int32) (c_t_fault : Int32) (c_t_value : Int32) : va_W := [(h_t, .inr (8, [.ref x_t_s, .ref x_t_kept, .ref x_t_before, .int c_t_isKept, .ref x_t_findings, .ref x_t_shown, .int c_t_most, .ref x_t_worths, .ref x_t_steps, .ref x_t_tape, .int c_t_taped, .int c_t_here, .int c_t_fault, .int c_t_value, .ref x_t_bits, .ref x_t_longs, .ref x_t_cells, .ref x_t_between]))]
set_option maxHeartbeats 4000000 in
set_option maxRecDepth 100000 in
theorem wk_M_fails_b19 {p : Program} {l : Launch} {e : Env} {s : State} {m : MethodId} {args : Array Value} {below : List Frame} {meth : Method} {c : Code} {A : Nat → Prop} (E : kE) (h_t : Nat) (x_t_s : Nat) (x_t_kept : Nat) (x_t_before : Nat) (x_t_findings : Nat) (x_t_shown : Nat) (x_t_worths : Nat) (x_t_steps : Nat) (x_t_tape : Nat) (x_t_bits : Nat) (x_t_longs : Nat) (x_t_cells : Nat) (x_t_between : Nat) (c_t_isKept : Int32) (c_t_most : Int32) (c_t_taped : Int32) (c_t_here : Int32) (c_t_value : Int32)  {out : Int32 × Int32} (C : kC RX10 cX10_fails 1 (some .boolean) p s m args meth c) (hA : ∀ q : Nat, s.heap.size ≤ q → A q) (hK : va_K (eD E) vwCl (eT E) s) (hT : sT E A s s.heap)  :
    ∀ (c_t_fault : Int32) (s0 : Int32), f_M_fails_b19  c_t_here c_t_fault s0 = some out → ∀ (H : Heap) (locs : List Loc), va_P (eD E) vwCl (w_M_fails E h_t x_t_s x_t_kept x_t_before x_t_findings x_t_shown x_t_worths x_t_steps x_t_tape x_t_bits x_t_longs x_t_cells x_t_between c_t_isKept c_t_most c_t_taped c_t_here c_t_fault c_t_value) H → va_D A (w_M_fails E h_t x_t_s x_t_kept x_t_before x_t_findings x_t_shown x_t_worths x_t_steps x_t_tape x_t_bits x_t_longs x_t_cells x_t_between c_t_isKept c_t_most c_t_taped c_t_here c_t_fault c_t_value) → va_S A s.heap H locs → ∀ (ls : Array Slot), lv_has ls 1 [] → W p l e (rm 1) s m args below meth c H locs 0 0 (MQ below (qW (some (.int out.1)) E (w_M_fails E h_t x_t_s x_t_kept x_t_before x_t_findings x_t_shown x_t_worths x_t_steps x_t_tape x_t_bits x_t_longs x_t_cells x_t_between c_t_isKept c_t_most c_t_taped c_t_here out.2 c_t_value) A) args s 0 0 A) (F0 m 19 ls [.int s0, .ref h_t]) := by
  obtain ⟨hx, hb, hr, hml, hown, hw, hlocks⟩ := id C
  intro c_t_fault s0 hF H locs hP hD hS ls hl
  rw [f_M_fails_b19] at hF
  refine va_put (D := eD E) (ci := 8) (v := .int s0) (ty := .int) (C := RX10) (T := TX10) (N := 18) hx hb hw inX10 tyX10 tyX10_ok nmX10 hown hK hP hD hS 0 rfl rfl 12 (by decide) (hw _ mw_893) (fun _ h9 => h9) rfl (by decide +kernel) rfl rfl (Nat.le_of_ble_eq_true rfl) dX10_fails_19 (fun H locs hP hD hS => ?_)
  have hP : va_P (eD E) vwCl (w_M_fails E h_t x_t_s x_t_kept x_t_before x_t_findings x_t_shown x_t_worths x_t_steps x_t_tape x_t_bits x_t_longs x_t_cells x_t_between c_t_isKept c_t_most c_t_taped c_t_here s0 c_t_value) H := hP
  have hD : va_D A (w_M_fails E h_t x_t_s x_t_kept x_t_before x_t_findings x_t_shown x_t_worths x_t_steps x_t_tape x_t_bits x_t_longs x_t_cells x_t_between c_t_isKept c_t_most c_t_taped c_t_here s0 c_t_value) := hD
  refine lv_iconst (v := (0 : Int32)) hx hb dX10_fails_22 (by decide) ?_
  obtain rfl := Option.some.inj hF
  exact W.zret (ty := .boolean) hx hb hr rfl (fun t ht hW => ⟨⟨rfl, by rw [ht]; exact hP, hD⟩, hS.F ht⟩) hS.2.2 dX10_fails_23
set_option maxHeartbeats 4000000 in
set_option maxRecDepth 100000 in
theorem k_M_fails (l : Launch) (E : kE) (h_t : Nat) (x_t_s : Nat) (x_t_kept : Nat) (x_t_before : Nat) (x_t_findings : Nat) (x_t_shown : Nat) (x_t_worths : Nat) (x_t_steps : Nat) (x_t_tape : Nat) (x_t_bits : Nat) (x_t_longs : Nat) (x_t_cells : Nat) (x_t_between : Nat) (sz : Nat) (c_t_isKept : Int32) (c_t_most : Int32) (c_t_taped : Int32) (c_t_here : Int32) (c_t_fault : Int32) (c_t_value : Int32)  (out : Int32 × Int32) (hF : f_M_fails c_t_here c_t_fault  = some out) : Met l yX10_fails (Cond.code yX10_fails cX10_fails 1 (some .boolean) :: wG) (rm 1) (pW E (w_M_fails E h_t x_t_s x_t_kept x_t_before x_t_findings x_t_shown x_t_worths x_t_steps x_t_tape x_t_bits x_t_longs x_t_cells x_t_between c_t_isKept c_t_most c_t_taped c_t_here c_t_fault c_t_value) sz [.ref h_t]) (qW (some (.int out.1)) E (w_M_fails E h_t x_t_s x_t_kept x_t_before x_t_findings x_t_shown x_t_worths x_t_steps x_t_tape x_t_bits x_t_longs x_t_cells x_t_between c_t_isKept c_t_most c_t_taped c_t_here out.2 c_t_value) (va_A (w_M_fails E h_t x_t_s x_t_kept x_t_before x_t_findings x_t_shown x_t_worths x_t_steps x_t_tape x_t_bits x_t_longs x_t_cells x_t_between c_t_isKept c_t_most c_t_taped c_t_here c_t_fault c_t_value) sz)) 0 0 (va_A (w_M_fails E h_t x_t_s x_t_kept x_t_before x_t_findings x_t_shown x_t_worths x_t_steps x_t_tape x_t_bits x_t_longs x_t_cells x_t_between c_t_isKept c_t_most c_t_taped c_t_here c_t_fault c_t_value) sz) := by
  refine met_W (by decide) (Nat.le_of_ble_eq_true rfl) ?_
  intro p e s m args below meth c A ls C hP hD hS hA hK hT hl
  obtain ⟨hx, hb, hr, hml, hown, hw, hlocks⟩ := id C
  have hl : lv_has ls 1 [(0, .ref h_t)] := hl
  rw [f_M_fails] at hF
  refine lv_aload_n hx hb dX10_fails_0 rfl (lv_at hl 0 rfl) ?_
  refine lv_aload_n hx hb dX10_fails_1 rfl (lv_at hl 0 rfl) ?_
  refine va_get (D := eD E) (ci := 8) (C := RX10) (T := TX10) (N := 18) (v := .int c_t_fault) hx hb hw inX10 hown hK hP 0 rfl rfl 12 (by decide) (hw _ mw_893) (fun _ h9 => h9) rfl dX10_fails_2 ?_
  refine lv_if_ge (tgt := 15) hx hb dX10_fails_5 (by decide) (fun q1 => ?_) (fun q1 => ?_)
  · have hF := kp hF q1
    refine lv_aload_n hx hb dX10_fails_15 rfl (lv_at hl 0 rfl) ?_
    refine va_get (D := eD E) (ci := 8) (C := RX10) (T := TX10) (N := 18) (v := .int c_t_fault) hx hb hw inX10 hown hK hP 0 rfl rfl 12 (by decide) (hw _ mw_893) (fun _ h9 => h9) rfl dX10_fails_16 ?_
    exact wk_M_fails_b19 E h_t x_t_s x_t_kept x_t_before x_t_findings x_t_shown x_t_worths x_t_steps x_t_tape x_t_bits x_t_longs x_t_cells x_t_between c_t_isKept c_t_most c_t_taped c_t_here c_t_value  C hA  hK hT  c_t_fault c_t_fault hF _ _ hP hD hS _ (lv_sub hl [] rfl)
  · have hF := kn hF q1
    refine lv_aload_n hx hb dX10_fails_8 rfl (lv_at hl 0 rfl) ?_
    refine va_get (D := eD E) (ci := 8) (C := RX10) (T := TX10) (N := 18) (v := .int c_t_here) hx hb hw inX10 hown hK hP 0 rfl rfl 11 (by decide) (hw _ mw_892) (fun _ h9 => h9) rfl dX10_fails_9 ?_
    refine lv_goto (tgt := 19) hx hb dX10_fails_12 (by decide) ?_
    exact wk_M_fails_b19 E h_t x_t_s x_t_kept x_t_before x_t_findings x_t_shown x_t_worths x_t_steps x_t_tape x_t_bits x_t_longs x_t_cells x_t_between c_t_isKept c_t_most c_t_taped c_t_here c_t_value  C hA  hK hT  c_t_fault c_t_here hF _ _ hP hD hS _ (lv_sub hl [] rfl)
abbrev w_M_isLow (E : kE)    : va_W := []
set_option maxHeartbeats 4000000 in
set_option maxRecDepth 100000 in
theorem k_M_isLow (l : Launch) (E : kE)    (a0 : Int32) (out : Int32) (hF : f_M_isLow  a0 = some out) : Met l yX10_isLow (Cond.code yX10_isLow cX10_isLow 1 (some .boolean) :: wG) (rm 2) (pR E (w_M_isLow E ) [.int a0]) (qR (.int out)) 0 0 (fun _ => False) := by
  refine met_R (by decide) (Nat.le_of_ble_eq_true rfl) ?_
  intro p e s m args below meth c ls C hP hK hT hl
  obtain ⟨hx, hb, hr, hml, hown, hw, hlocks⟩ := id C
  have hS : va_S (fun _ => False) s.heap s.heap [] := va_S.rf
  have hl : lv_has ls 1 [(0, .int a0)] := hl
  rw [f_M_isLow] at hF
  refine lv_iload_n hx hb dX10_isLow_0 rfl (lv_at hl 0 rfl) ?_
  refine lv_bipush (v := (97 : Int32)) hx hb dX10_isLow_1 (by decide) ?_
  refine lv_bipush (v := (122 : Int32)) hx hb dX10_isLow_3 (by decide) ?_
  obtain ⟨r1, er1, hF⟩ := kb hF
  refine kRS (rest := []) C (k_M_in l E a0 (97 : Int32) (122 : Int32) r1 er1) fn_M_in mw_943 ⟨Nat.le_of_ble_eq_true rfl, Nat.le_of_ble_eq_true rfl⟩ hK hT hS hP [] rfl rfl rfl hl (Nat.le_of_ble_eq_true rfl) dX10_isLow_5 ?_
  obtain ⟨b2, eb2, hF⟩ := kb hF
  obtain ⟨eeb2, hnb2⟩ := bl_some eb2
  subst eeb2
  obtain rfl := Option.some.inj hF
  exact W.zret (ty := .boolean) hx hb hr hnb2 (fun t ht hW => ⟨rfl, ht⟩) nofun dX10_isLow_8
abbrev w_M_isDigit (E : kE)    : va_W := []
set_option maxHeartbeats 4000000 in
set_option maxRecDepth 100000 in
theorem k_M_isDigit (l : Launch) (E : kE)    (a0 : Int32) (out : Int32) (hF : f_M_isDigit  a0 = some out) : Met l yX10_isDigit (Cond.code yX10_isDigit cX10_isDigit 1 (some .boolean) :: wG) (rm 2) (pR E (w_M_isDigit E ) [.int a0]) (qR (.int out)) 0 0 (fun _ => False) := by
  refine met_R (by decide) (Nat.le_of_ble_eq_true rfl) ?_
  intro p e s m args below meth c ls C hP hK hT hl
  obtain ⟨hx, hb, hr, hml, hown, hw, hlocks⟩ := id C
  have hS : va_S (fun _ => False) s.heap s.heap [] := va_S.rf
  have hl : lv_has ls 1 [(0, .int a0)] := hl
  rw [f_M_isDigit] at hF
  refine lv_iload_n hx hb dX10_isDigit_0 rfl (lv_at hl 0 rfl) ?_
  refine lv_bipush (v := (48 : Int32)) hx hb dX10_isDigit_1 (by decide) ?_
  refine lv_bipush (v := (57 : Int32)) hx hb dX10_isDigit_3 (by decide) ?_
  obtain ⟨r1, er1, hF⟩ := kb hF
  refine kRS (rest := []) C (k_M_in l E a0 (48 : Int32) (57 : Int32) r1 er1) fn_M_in mw_943 ⟨Nat.le_of_ble_eq_true rfl, Nat.le_of_ble_eq_true rfl⟩ hK hT hS hP [] rfl rfl rfl hl (Nat.le_of_ble_eq_true rfl) dX10_isDigit_5 ?_
  obtain ⟨b2, eb2, hF⟩ := kb hF
  obtain ⟨eeb2, hnb2⟩ := bl_some eb2
  subst eeb2
  obtain rfl := Option.some.inj hF
  exact W.zret (ty := .boolean) hx hb hr hnb2 (fun t ht hW => ⟨rfl, ht⟩) nofun dX10_isDigit_8
abbrev w_M_wordEnd (E : kE) (h_t : Nat) (h_t_tape : Nat) (x_t_s : Nat) (x_t_kept : Nat) (x_t_before : Nat) (x_t_findings : Nat) (x_t_shown : Nat) (x_t_worths : Nat) (x_t_steps : Nat) (x_t_bits : Nat) (x_t_longs : Nat) (x_t_cells : Nat) (x_t_between : Nat) (c_t_isKept : Int32) (c_t_most : Int32) (c_t_taped : Int32) (c_t_here : Int32) (c_t_fault : Int32) (c_t_value : Int32) (c_t_tape : (Nat → Int32)) : va_W := [(h_t, .inr (8, [.ref x_t_s, .ref x_t_kept, .ref x_t_before, .int c_t_isKept, .ref x_t_findings, .ref x_t_shown, .int c_t_most, .ref x_t_worths, .ref x_t_steps, .ref h_t_tape, .int c_t_taped, .int c_t_here, .int c_t_fault, .int c_t_value, .ref x_t_bits, .ref x_t_longs, .ref x_t_cells, .ref x_t_between])), (h_t_tape, .inl (eI E, 120, .inl c_t_tape))]
set_option maxHeartbeats 4000000 in
set_option maxRecDepth 100000 in
theorem wk_M_wordEnd_b5 {p : Program} {l : Launch} {e : Env} {s : State} {m : MethodId} {args : Array Value} {below : List Frame} {meth : Method} {c : Code} (E : kE) (h_t : Nat) (h_t_tape : Nat) (x_t_s : Nat) (x_t_kept : Nat) (x_t_before : Nat) (x_t_findings : Nat) (x_t_shown : Nat) (x_t_worths : Nat) (x_t_steps : Nat) (x_t_bits : Nat) (x_t_longs : Nat) (x_t_cells : Nat) (x_t_between : Nat) (c_t_isKept : Int32) (c_t_most : Int32) (c_t_taped : Int32) (c_t_here : Int32) (c_t_fault : Int32) (c_t_value : Int32) (c_t_tape : (Nat → Int32))  {out : Int32} (C : kC RX10 cX10_wordEnd 2 (some .int) p s m args meth c) (hP : va_P (eD E) vwCl (w_M_wordEnd E h_t h_t_tape x_t_s x_t_kept x_t_before x_t_findings x_t_shown x_t_worths x_t_steps x_t_bits x_t_longs x_t_cells x_t_between c_t_isKept c_t_most c_t_taped c_t_here c_t_fault c_t_value c_t_tape) s.heap) (hK : va_K (eD E) vwCl (eT E) s) (hT : sT E (fun _ => False) s s.heap)  :
    ∀ (n : Nat), ∀ (v1 : Int32), f_M_wordEnd_b5  c_t_taped c_t_here c_t_tape n v1 = some out → ∀ (ls : Array Slot), lv_has ls 2 [(0, .ref h_t), (1, .int v1)] → W p l e (rm 3) s m args below meth c s.heap [] 0 0 (MQ below (qR (.int out)) args s 0 0 (fun _ => False)) (F0 m 5 ls []) := by
  obtain ⟨hx, hb, hr, hml, hown, hw, hlocks⟩ := id C
  have hS : va_S (fun _ => False) s.heap s.heap [] := va_S.rf
  intro n
  induction n with
  | zero =>
    intro v1 hF
    exact absurd (show (none : Option (Int32)) = some out from hF) nofun
  | succ n ih =>
    intro v1 hF ls hl
    rw [f_M_wordEnd_b5] at hF
    refine lv_aload_n hx hb dX10_wordEnd_5 rfl (lv_at hl 0 rfl) ?_
    refine lv_iload_n hx hb dX10_wordEnd_6 rfl (lv_at hl 1 rfl) ?_
    obtain ⟨r1, er1, hF⟩ := kb hF
    refine kRV (rest := []) C (k_M_byteAt l E h_t h_t_tape x_t_s x_t_kept x_t_before x_t_findings x_t_shown x_t_worths x_t_steps x_t_bits x_t_longs x_t_cells x_t_between c_t_isKept c_t_most c_t_taped c_t_here c_t_fault c_t_value c_t_tape v1 r1 er1) fn_M_byteAt mw_1220 ⟨Nat.le_of_ble_eq_true rfl, Nat.le_of_ble_eq_true rfl⟩ hK hT hS (va_recv hK hP (ci := 8) (q0 := 0) rfl rfl) hP [0, 1] rfl rfl rfl hl (Nat.le_of_ble_eq_true rfl) dX10_wordEnd_7 ?_
    obtain ⟨r2, er2, hF⟩ := kb hF
    refine kRS (rest := []) C (k_M_isLow l E r1 r2 er2) fn_M_isLow mw_1228 ⟨Nat.le_of_ble_eq_true rfl, Nat.le_of_ble_eq_true rfl⟩ hK hT hS hP [] rfl rfl rfl hl (Nat.le_of_ble_eq_true rfl) dX10_wordEnd_10 ?_
    refine lv_if_eq (tgt := 22) hx hb dX10_wordEnd_13 (by decide) (fun q3 => ?_) (fun q3 => ?_)
    · have hF := kp hF q3
      refine lv_iload_n hx hb dX10_wordEnd_22 rfl (lv_at hl 1 rfl) ?_
      obtain rfl := Option.some.inj hF
      exact W.iret hx hb hr (fun t ht hW => ⟨rfl, ht⟩) nofun dX10_wordEnd_23
    · have hF := kn hF q3
      refine lv_iinc (v := (v1 + (1))) (lv' := [(1, .int (v1 + (1))), (0, .ref h_t)]) hx hb dX10_wordEnd_16 hl (k := 1) rfl rfl (by decide) rfl (fun ls hl => ?_)
      refine lv_goto (tgt := 5) hx hb dX10_wordEnd_19 (by decide) ?_
      exact ih (v1 + (1)) hF _ (lv_sub hl [1, 0] rfl)
set_option maxHeartbeats 4000000 in
set_option maxRecDepth 100000 in
theorem k_M_wordEnd (l : Launch) (E : kE) (h_t : Nat) (h_t_tape : Nat) (x_t_s : Nat) (x_t_kept : Nat) (x_t_before : Nat) (x_t_findings : Nat) (x_t_shown : Nat) (x_t_worths : Nat) (x_t_steps : Nat) (x_t_bits : Nat) (x_t_longs : Nat) (x_t_cells : Nat) (x_t_between : Nat) (c_t_isKept : Int32) (c_t_most : Int32) (c_t_taped : Int32) (c_t_here : Int32) (c_t_fault : Int32) (c_t_value : Int32) (c_t_tape : (Nat → Int32))  (out : Int32) (hF : f_M_wordEnd c_t_taped c_t_here c_t_tape  = some out) : Met l yX10_wordEnd (Cond.code yX10_wordEnd cX10_wordEnd 2 (some .int) :: wG) (rm 3) (pR E (w_M_wordEnd E h_t h_t_tape x_t_s x_t_kept x_t_before x_t_findings x_t_shown x_t_worths x_t_steps x_t_bits x_t_longs x_t_cells x_t_between c_t_isKept c_t_most c_t_taped c_t_here c_t_fault c_t_value c_t_tape) [.ref h_t]) (qR (.int out)) 0 0 (fun _ => False) := by
  refine met_R (by decide) (Nat.le_of_ble_eq_true rfl) ?_
  intro p e s m args below meth c ls C hP hK hT hl
  obtain ⟨hx, hb, hr, hml, hown, hw, hlocks⟩ := id C
  have hS : va_S (fun _ => False) s.heap s.heap [] := va_S.rf
  have hl : lv_has ls 2 [(0, .ref h_t)] := hl
  rw [f_M_wordEnd] at hF
  refine lv_aload_n hx hb dX10_wordEnd_0 rfl (lv_at hl 0 rfl) ?_
  refine va_get (D := eD E) (ci := 8) (C := RX10) (T := TX10) (N := 18) (v := .int c_t_here) hx hb hw inX10 hown hK hP 0 rfl rfl 11 (by decide) (hw _ mw_892) (fun _ h9 => h9) rfl dX10_wordEnd_1 ?_
  refine lv_istore_n (lv' := [(1, .int c_t_here), (0, .ref h_t)]) hx hb dX10_wordEnd_4 rfl hl (by decide) rfl (fun ls hl => ?_)
  exact wk_M_wordEnd_b5 E h_t h_t_tape x_t_s x_t_kept x_t_before x_t_findings x_t_shown x_t_worths x_t_steps x_t_bits x_t_longs x_t_cells x_t_between c_t_isKept c_t_most c_t_taped c_t_here c_t_fault c_t_value c_t_tape  C hP  hK hT  5000 c_t_here hF _ (lv_sub hl [1, 0] rfl)
abbrev w_M_isWord (E : kE) (h_t : Nat) (h_t_tape : Nat) (x_t_s : Nat) (x_t_kept : Nat) (x_t_before : Nat) (x_t_findings : Nat) (x_t_shown : Nat) (x_t_worths : Nat) (x_t_steps : Nat) (x_t_bits : Nat) (x_t_longs : Nat) (x_t_cells : Nat) (x_t_between : Nat) (c_t_isKept : Int32) (c_t_most : Int32) (c_t_taped : Int32) (c_t_here : Int32) (c_t_fault : Int32) (c_t_value : Int32) (c_t_tape : (Nat → Int32)) : va_W := [(h_t, .inr (8, [.ref x_t_s, .ref x_t_kept, .ref x_t_before, .int c_t_isKept, .ref x_t_findings, .ref x_t_shown, .int c_t_most, .ref x_t_worths, .ref x_t_steps, .ref h_t_tape, .int c_t_taped, .int c_t_here, .int c_t_fault, .int c_t_value, .ref x_t_bits, .ref x_t_longs, .ref x_t_cells, .ref x_t_between])), (h_t_tape, .inl (eI E, 120, .inl c_t_tape))]
set_option maxHeartbeats 4000000 in
set_option maxRecDepth 100000 in
theorem wk_M_isWord_b63 {p : Program} {l : Launch} {e : Env} {s : State} {m : MethodId} {args : Array Value} {below : List Frame} {meth : Method} {c : Code} {A : Nat → Prop} (E : kE) (h_t : Nat) (h_t_tape : Nat) (x_t_s : Nat) (x_t_kept : Nat) (x_t_before : Nat) (x_t_findings : Nat) (x_t_shown : Nat) (x_t_worths : Nat) (x_t_steps : Nat) (x_t_bits : Nat) (x_t_longs : Nat) (x_t_cells : Nat) (x_t_between : Nat) (c_t_isKept : Int32) (c_t_most : Int32) (c_t_taped : Int32) (c_t_fault : Int32) (c_t_value : Int32) (c_t_tape : (Nat → Int32)) (a1 : Nat) {out : Int32 × Int32} (C : kC RX10 cX10_isWord 4 (some .boolean) p s m args meth c) (hA : ∀ q : Nat, s.heap.size ≤ q → A q) (hK : va_K (eD E) vwCl (eT E) s) (hT : sT E A s s.heap) (k28 : Int32 → Int32 → Int32 → Option (Int32 × Int32)) (hk28 : ∀ (c_t_here : Int32) (v2 : Int32) (v3 : Int32), k28 c_t_here v2 v3 = some out → ∀ (H : Heap) (locs : List Loc), va_P (eD E) vwCl (w_M_isWord E h_t h_t_tape x_t_s x_t_kept x_t_before x_t_findings x_t_shown x_t_worths x_t_steps x_t_bits x_t_longs x_t_cells x_t_between c_t_isKept c_t_most c_t_taped c_t_here c_t_fault c_t_value c_t_tape) H → va_D A (w_M_isWord E h_t h_t_tape x_t_s x_t_kept x_t_before x_t_findings x_t_shown x_t_worths x_t_steps x_t_bits x_t_longs x_t_cells x_t_between c_t_isKept c_t_most c_t_taped c_t_here c_t_fault c_t_value c_t_tape) → va_S A s.heap H locs → ∀ (ls : Array Slot), lv_has ls 4 [(0, .ref h_t), (1, .ref (eK E a1)), (2, .int v2), (3, .int v3)] → W p l e (rm 6) s m args below meth c H locs 0 0 (MQ below (qW (some (.int out.1)) E (w_M_isWord E h_t h_t_tape x_t_s x_t_kept x_t_before x_t_findings x_t_shown x_t_worths x_t_steps x_t_bits x_t_longs x_t_cells x_t_between c_t_isKept c_t_most c_t_taped out.2 c_t_fault c_t_value c_t_tape) A) args s 0 0 A) (F0 m 28 ls [])) :
    ∀ (c_t_here : Int32) (v3 : Int32) (s0 : Int32), f_M_isWord_b63 k28 c_t_taped c_t_tape a1 c_t_here v3 s0 = some out → ∀ (H : Heap) (locs : List Loc), va_P (eD E) vwCl (w_M_isWord E h_t h_t_tape x_t_s x_t_kept x_t_before x_t_findings x_t_shown x_t_worths x_t_steps x_t_bits x_t_longs x_t_cells x_t_between c_t_isKept c_t_most c_t_taped c_t_here c_t_fault c_t_value c_t_tape) H → va_D A (w_M_isWord E h_t h_t_tape x_t_s x_t_kept x_t_before x_t_findings x_t_shown x_t_worths x_t_steps x_t_bits x_t_longs x_t_cells x_t_between c_t_isKept c_t_most c_t_taped c_t_here c_t_fault c_t_value c_t_tape) → va_S A s.heap H locs → ∀ (ls : Array Slot), lv_has ls 4 [(0, .ref h_t), (1, .ref (eK E a1)), (3, .int v3)] → W p l e (rm 6) s m args below meth c H locs 0 0 (MQ below (qW (some (.int out.1)) E (w_M_isWord E h_t h_t_tape x_t_s x_t_kept x_t_before x_t_findings x_t_shown x_t_worths x_t_steps x_t_bits x_t_longs x_t_cells x_t_between c_t_isKept c_t_most c_t_taped out.2 c_t_fault c_t_value c_t_tape) A) args s 0 0 A) (F0 m 63 ls [.int s0]) := by
  obtain ⟨hx, hb, hr, hml, hown, hw, hlocks⟩ := id C
  intro c_t_here v3 s0 hF H locs hP hD hS ls hl
  rw [f_M_isWord_b63] at hF
  refine lv_istore_n (lv' := [(2, .int s0), (0, .ref h_t), (1, .ref (eK E a1)), (3, .int v3)]) hx hb dX10_isWord_63 rfl hl (by decide) rfl (fun ls hl => ?_)
  refine lv_iinc (v := (v3 + (1))) (lv' := [(3, .int (v3 + (1))), (2, .int s0), (0, .ref h_t), (1, .ref (eK E a1))]) hx hb dX10_isWord_64 hl (k := 3) rfl rfl (by decide) rfl (fun ls hl => ?_)
  refine lv_goto (tgt := 28) hx hb dX10_isWord_67 (by decide) ?_
  exact hk28 c_t_here s0 (v3 + (1)) hF _ _ hP hD hS _ (lv_sub hl [2, 3, 1, 0] rfl)
set_option maxHeartbeats 4000000 in
set_option maxRecDepth 100000 in
theorem wk_M_isWord_b28 {p : Program} {l : Launch} {e : Env} {s : State} {m : MethodId} {args : Array Value} {below : List Frame} {meth : Method} {c : Code} {A : Nat → Prop} (E : kE) (h_t : Nat) (h_t_tape : Nat) (x_t_s : Nat) (x_t_kept : Nat) (x_t_before : Nat) (x_t_findings : Nat) (x_t_shown : Nat) (x_t_worths : Nat) (x_t_steps : Nat) (x_t_bits : Nat) (x_t_longs : Nat) (x_t_cells : Nat) (x_t_between : Nat) (c_t_isKept : Int32) (c_t_most : Int32) (c_t_taped : Int32) (c_t_fault : Int32) (c_t_value : Int32) (c_t_tape : (Nat → Int32)) (a1 : Nat) {out : Int32 × Int32} (C : kC RX10 cX10_isWord 4 (some .boolean) p s m args meth c) (hA : ∀ q : Nat, s.heap.size ≤ q → A q) (hK : va_K (eD E) vwCl (eT E) s) (hT : sT E A s s.heap)  :
    ∀ (n : Nat), ∀ (c_t_here : Int32) (v2 : Int32) (v3 : Int32), f_M_isWord_b28  c_t_taped c_t_tape a1 n c_t_here v2 v3 = some out → ∀ (H : Heap) (locs : List Loc), va_P (eD E) vwCl (w_M_isWord E h_t h_t_tape x_t_s x_t_kept x_t_before x_t_findings x_t_shown x_t_worths x_t_steps x_t_bits x_t_longs x_t_cells x_t_between c_t_isKept c_t_most c_t_taped c_t_here c_t_fault c_t_value c_t_tape) H → va_D A (w_M_isWord E h_t h_t_tape x_t_s x_t_kept x_t_before x_t_findings x_t_shown x_t_worths x_t_steps x_t_bits x_t_longs x_t_cells x_t_between c_t_isKept c_t_most c_t_taped c_t_here c_t_fault c_t_value c_t_tape) → va_S A s.heap H locs → ∀ (ls : Array Slot), lv_has ls 4 [(0, .ref h_t), (1, .ref (eK E a1)), (2, .int v2), (3, .int v3)] → W p l e (rm 6) s m args below meth c H locs 0 0 (MQ below (qW (some (.int out.1)) E (w_M_isWord E h_t h_t_tape x_t_s x_t_kept x_t_before x_t_findings x_t_shown x_t_worths x_t_steps x_t_bits x_t_longs x_t_cells x_t_between c_t_isKept c_t_most c_t_taped out.2 c_t_fault c_t_value c_t_tape) A) args s 0 0 A) (F0 m 28 ls []) := by
  obtain ⟨hx, hb, hr, hml, hown, hw, hlocks⟩ := id C
  intro n
  induction n with
  | zero =>
    intro c_t_here v2 v3 hF
    exact absurd (show (none : Option (Int32 × Int32)) = some out from hF) nofun
  | succ n ih =>
    intro c_t_here v2 v3 hF H locs hP hD hS ls hl
    rw [f_M_isWord_b28] at hF
    refine lv_iload_n hx hb dX10_isWord_28 rfl (lv_at hl 3 rfl) ?_
    refine lv_aload_n hx hb dX10_isWord_29 rfl (lv_at hl 1 rfl) ?_
    obtain ⟨r1, er1, hF⟩ := kb hF
    refine kRV (rest := [.int v3]) C (k_Str_length l E a1 r1 er1) fn_Str_length mw_1231 ⟨Nat.le_of_ble_eq_true rfl, Nat.le_of_ble_eq_true rfl⟩ hK hT hS (s_recvL hT hS er1) hP [] rfl rfl rfl hl (Nat.le_of_ble_eq_true rfl) dX10_isWord_30 ?_
    refine lv_icmp_ge (tgt := 70) hx hb dX10_isWord_33 (by decide) (fun q2 => ?_) (fun q2 => ?_)
    · have hF := kp hF q2
      refine lv_iload_n hx hb dX10_isWord_70 rfl (lv_at hl 2 rfl) ?_
      obtain ⟨b3, eb3, hF⟩ := kb hF
      obtain ⟨eeb3, hnb3⟩ := bl_some eb3
      subst eeb3
      obtain rfl := Option.some.inj hF
      exact W.zret (ty := .boolean) hx hb hr hnb3 (fun t ht hW => ⟨⟨rfl, by rw [ht]; exact hP, hD⟩, hS.F ht⟩) hS.2.2 dX10_isWord_71
    · have hF := kn hF q2
      refine lv_iload_n hx hb dX10_isWord_36 rfl (lv_at hl 2 rfl) ?_
      refine lv_if_eq (tgt := 70) hx hb dX10_isWord_37 (by decide) (fun q4 => ?_) (fun q4 => ?_)
      · have hF := kp hF q4
        refine lv_iload_n hx hb dX10_isWord_70 rfl (lv_at hl 2 rfl) ?_
        obtain ⟨b5, eb5, hF⟩ := kb hF
        obtain ⟨eeb5, hnb5⟩ := bl_some eb5
        subst eeb5
        obtain rfl := Option.some.inj hF
        exact W.zret (ty := .boolean) hx hb hr hnb5 (fun t ht hW => ⟨⟨rfl, by rw [ht]; exact hP, hD⟩, hS.F ht⟩) hS.2.2 dX10_isWord_71
      · have hF := kn hF q4
        refine lv_aload_n hx hb dX10_isWord_40 rfl (lv_at hl 0 rfl) ?_
        refine lv_aload_n hx hb dX10_isWord_41 rfl (lv_at hl 0 rfl) ?_
        refine va_get (D := eD E) (ci := 8) (C := RX10) (T := TX10) (N := 18) (v := .int c_t_here) hx hb hw inX10 hown hK hP 0 rfl rfl 11 (by decide) (hw _ mw_892) (fun _ h9 => h9) rfl dX10_isWord_42 ?_
        refine lv_iload_n hx hb dX10_isWord_45 rfl (lv_at hl 3 rfl) ?_
        refine lv_iadd hx hb dX10_isWord_46 ?_
        obtain ⟨r6, er6, hF⟩ := kb hF
        refine kRV (rest := []) C (k_M_byteAt l E h_t h_t_tape x_t_s x_t_kept x_t_before x_t_findings x_t_shown x_t_worths x_t_steps x_t_bits x_t_longs x_t_cells x_t_between c_t_isKept c_t_most c_t_taped c_t_here c_t_fault c_t_value c_t_tape (c_t_here + v3) r6 er6) fn_M_byteAt mw_1220 ⟨Nat.le_of_ble_eq_true rfl, Nat.le_of_ble_eq_true rfl⟩ hK hT hS (va_recv hK hP (ci := 8) (q0 := 0) rfl rfl) hP [0, 1] rfl rfl rfl hl (Nat.le_of_ble_eq_true rfl) dX10_isWord_47 ?_
        refine lv_aload_n hx hb dX10_isWord_50 rfl (lv_at hl 1 rfl) ?_
        refine lv_iload_n hx hb dX10_isWord_51 rfl (lv_at hl 3 rfl) ?_
        obtain ⟨r7, er7, hF⟩ := kb hF
        refine kRV (rest := [.int r6]) C (k_Str_charAt l E a1 v3 r7 er7) fn_Str_charAt mw_1232 ⟨Nat.le_of_ble_eq_true rfl, Nat.le_of_ble_eq_true rfl⟩ hK hT hS (s_recv hT hS er7) hP [] rfl rfl rfl hl (Nat.le_of_ble_eq_true rfl) dX10_isWord_52 ?_
        refine lv_icmp_ne (tgt := 62) hx hb dX10_isWord_55 (by decide) (fun q8 => ?_) (fun q8 => ?_)
        · have hF := kn hF q8
          refine lv_iconst (v := (0 : Int32)) hx hb dX10_isWord_62 (by decide) ?_
          exact wk_M_isWord_b63 E h_t h_t_tape x_t_s x_t_kept x_t_before x_t_findings x_t_shown x_t_worths x_t_steps x_t_bits x_t_longs x_t_cells x_t_between c_t_isKept c_t_most c_t_taped c_t_fault c_t_value c_t_tape a1 C hA  hK hT (f_M_isWord_b28  c_t_taped c_t_tape a1 n) ih c_t_here v3 (0 : Int32) hF _ _ hP hD hS _ (lv_sub hl [0, 1, 3] rfl)
        · have hF := kp hF q8
          refine lv_iconst (v := (1 : Int32)) hx hb dX10_isWord_58 (by decide) ?_
          refine lv_goto (tgt := 63) hx hb dX10_isWord_59 (by decide) ?_
          exact wk_M_isWord_b63 E h_t h_t_tape x_t_s x_t_kept x_t_before x_t_findings x_t_shown x_t_worths x_t_steps x_t_bits x_t_longs x_t_cells x_t_between c_t_isKept c_t_most c_t_taped c_t_fault c_t_value c_t_tape a1 C hA  hK hT (f_M_isWord_b28  c_t_taped c_t_tape a1 n) ih c_t_here v3 (1 : Int32) hF _ _ hP hD hS _ (lv_sub hl [0, 1, 3] rfl)
set_option maxHeartbeats 4000000 in
set_option maxRecDepth 100000 in
theorem wk_M_isWord_b25 {p : Program} {l : Launch} {e : Env} {s : State} {m : MethodId} {args : Array Value} {below : List Frame} {meth : Method} {c : Code} {A : Nat → Prop} (E : kE) (h_t : Nat) (h_t_tape : Nat) (x_t_s : Nat) (x_t_kept : Nat) (x_t_before : Nat) (x_t_findings : Nat) (x_t_shown : Nat) (x_t_worths : Nat) (x_t_steps : Nat) (x_t_bits : Nat) (x_t_longs : Nat) (x_t_cells : Nat) (x_t_between : Nat) (c_t_isKept : Int32) (c_t_most : Int32) (c_t_taped : Int32) (c_t_fault : Int32) (c_t_value : Int32) (c_t_tape : (Nat → Int32)) (a1 : Nat) {out : Int32 × Int32} (C : kC RX10 cX10_isWord 4 (some .boolean) p s m args meth c) (hA : ∀ q : Nat, s.heap.size ≤ q → A q) (hK : va_K (eD E) vwCl (eT E) s) (hT : sT E A s s.heap)  :
    ∀ (c_t_here : Int32) (s0 : Int32), f_M_isWord_b25  c_t_taped c_t_tape a1 c_t_here s0 = some out → ∀ (H : Heap) (locs : List Loc), va_P (eD E) vwCl (w_M_isWord E h_t h_t_tape x_t_s x_t_kept x_t_before x_t_findings x_t_shown x_t_worths x_t_steps x_t_bits x_t_longs x_t_cells x_t_between c_t_isKept c_t_most c_t_taped c_t_here c_t_fault c_t_value c_t_tape) H → va_D A (w_M_isWord E h_t h_t_tape x_t_s x_t_kept x_t_before x_t_findings x_t_shown x_t_worths x_t_steps x_t_bits x_t_longs x_t_cells x_t_between c_t_isKept c_t_most c_t_taped c_t_here c_t_fault c_t_value c_t_tape) → va_S A s.heap H locs → ∀ (ls : Array Slot), lv_has ls 4 [(0, .ref h_t), (1, .ref (eK E a1))] → W p l e (rm 6) s m args below meth c H locs 0 0 (MQ below (qW (some (.int out.1)) E (w_M_isWord E h_t h_t_tape x_t_s x_t_kept x_t_before x_t_findings x_t_shown x_t_worths x_t_steps x_t_bits x_t_longs x_t_cells x_t_between c_t_isKept c_t_most c_t_taped out.2 c_t_fault c_t_value c_t_tape) A) args s 0 0 A) (F0 m 25 ls [.int s0]) := by
  obtain ⟨hx, hb, hr, hml, hown, hw, hlocks⟩ := id C
  intro c_t_here s0 hF H locs hP hD hS ls hl
  rw [f_M_isWord_b25] at hF
  refine lv_istore_n (lv' := [(2, .int s0), (0, .ref h_t), (1, .ref (eK E a1))]) hx hb dX10_isWord_25 rfl hl (by decide) rfl (fun ls hl => ?_)
  refine lv_iconst (v := (0 : Int32)) hx hb dX10_isWord_26 (by decide) ?_
  refine lv_istore_n (lv' := [(3, .int (0 : Int32)), (2, .int s0), (0, .ref h_t), (1, .ref (eK E a1))]) hx hb dX10_isWord_27 rfl hl (by decide) rfl (fun ls hl => ?_)
  exact wk_M_isWord_b28 E h_t h_t_tape x_t_s x_t_kept x_t_before x_t_findings x_t_shown x_t_worths x_t_steps x_t_bits x_t_longs x_t_cells x_t_between c_t_isKept c_t_most c_t_taped c_t_fault c_t_value c_t_tape a1 C hA  hK hT  5000 c_t_here s0 (0 : Int32) hF _ _ hP hD hS _ (lv_sub hl [2, 3, 1, 0] rfl)
set_option maxHeartbeats 4000000 in
set_option maxRecDepth 100000 in
theorem k_M_isWord (l : Launch) (E : kE) (h_t : Nat) (h_t_tape : Nat) (x_t_s : Nat) (x_t_kept : Nat) (x_t_before : Nat) (x_t_findings : Nat) (x_t_shown : Nat) (x_t_worths : Nat) (x_t_steps : Nat) (x_t_bits : Nat) (x_t_longs : Nat) (x_t_cells : Nat) (x_t_between : Nat) (sz : Nat) (c_t_isKept : Int32) (c_t_most : Int32) (c_t_taped : Int32) (c_t_here : Int32) (c_t_fault : Int32) (c_t_value : Int32) (c_t_tape : (Nat → Int32)) (a1 : Nat) (out : Int32 × Int32) (hF : f_M_isWord c_t_taped c_t_here c_t_tape a1 = some out) : Met l yX10_isWord (Cond.code yX10_isWord cX10_isWord 4 (some .boolean) :: wG) (rm 6) (pW E (w_M_isWord E h_t h_t_tape x_t_s x_t_kept x_t_before x_t_findings x_t_shown x_t_worths x_t_steps x_t_bits x_t_longs x_t_cells x_t_between c_t_isKept c_t_most c_t_taped c_t_here c_t_fault c_t_value c_t_tape) sz [.ref h_t, .ref (eK E a1)]) (qW (some (.int out.1)) E (w_M_isWord E h_t h_t_tape x_t_s x_t_kept x_t_before x_t_findings x_t_shown x_t_worths x_t_steps x_t_bits x_t_longs x_t_cells x_t_between c_t_isKept c_t_most c_t_taped out.2 c_t_fault c_t_value c_t_tape) (va_A (w_M_isWord E h_t h_t_tape x_t_s x_t_kept x_t_before x_t_findings x_t_shown x_t_worths x_t_steps x_t_bits x_t_longs x_t_cells x_t_between c_t_isKept c_t_most c_t_taped c_t_here c_t_fault c_t_value c_t_tape) sz)) 0 0 (va_A (w_M_isWord E h_t h_t_tape x_t_s x_t_kept x_t_before x_t_findings x_t_shown x_t_worths x_t_steps x_t_bits x_t_longs x_t_cells x_t_between c_t_isKept c_t_most c_t_taped c_t_here c_t_fault c_t_value c_t_tape) sz) := by
  refine met_W (by decide) (Nat.le_of_ble_eq_true rfl) ?_
  intro p e s m args below meth c A ls C hP hD hS hA hK hT hl
  obtain ⟨hx, hb, hr, hml, hown, hw, hlocks⟩ := id C
  have hl : lv_has ls 4 [(0, .ref h_t), (1, .ref (eK E a1))] := hl
  rw [f_M_isWord] at hF
  refine lv_aload_n hx hb dX10_isWord_0 rfl (lv_at hl 0 rfl) ?_
  obtain ⟨r9, er9, hF⟩ := kb hF
  refine kWV (rest := []) (Wr := []) (Wn := (w_M_isWord E h_t h_t_tape x_t_s x_t_kept x_t_before x_t_findings x_t_shown x_t_worths x_t_steps x_t_bits x_t_longs x_t_cells x_t_between c_t_isKept c_t_most c_t_taped r9 c_t_fault c_t_value c_t_tape)) C (k_M_blanks l E h_t h_t_tape x_t_s x_t_kept x_t_before x_t_findings x_t_shown x_t_worths x_t_steps x_t_bits x_t_longs x_t_cells x_t_between s.heap.size c_t_isKept c_t_most c_t_taped c_t_here c_t_fault c_t_value c_t_tape r9 er9) fn_M_blanks mw_1216 ⟨Nat.le_of_ble_eq_true rfl, Nat.le_of_ble_eq_true rfl⟩ hK hT hS hA (va_recv hK hP (ci := 8) (q0 := 0) rfl rfl) hP hD [0, 1] rfl (by decide) [] rfl (by decide) (by decide) [0, 1] rfl (by decide) rfl rfl hl (Nat.le_of_ble_eq_true rfl) dX10_isWord_1 (fun H locs hP hD hS => ?_)
  refine W.eq (g2 := F0 m 4 ls []) rfl ?_
  refine lv_aload_n hx hb dX10_isWord_4 rfl (lv_at hl 0 rfl) ?_
  obtain ⟨r10, er10, hF⟩ := kb hF
  refine kRV (rest := []) C (k_M_wordEnd l E h_t h_t_tape x_t_s x_t_kept x_t_before x_t_findings x_t_shown x_t_worths x_t_steps x_t_bits x_t_longs x_t_cells x_t_between c_t_isKept c_t_most c_t_taped r9 c_t_fault c_t_value c_t_tape r10 er10) fn_M_wordEnd mw_1224 ⟨Nat.le_of_ble_eq_true rfl, Nat.le_of_ble_eq_true rfl⟩ hK hT hS (va_recv hK hP (ci := 8) (q0 := 0) rfl rfl) hP [0, 1] rfl rfl rfl hl (Nat.le_of_ble_eq_true rfl) dX10_isWord_5 ?_
  refine lv_aload_n hx hb dX10_isWord_8 rfl (lv_at hl 0 rfl) ?_
  refine va_get (D := eD E) (ci := 8) (C := RX10) (T := TX10) (N := 18) (v := .int r9) hx hb hw inX10 hown hK hP 0 rfl rfl 11 (by decide) (hw _ mw_892) (fun _ h9 => h9) rfl dX10_isWord_9 ?_
  refine lv_isub hx hb dX10_isWord_12 ?_
  refine lv_aload_n hx hb dX10_isWord_13 rfl (lv_at hl 1 rfl) ?_
  obtain ⟨r11, er11, hF⟩ := kb hF
  refine kRV (rest := [.int (r10 - r9)]) C (k_Str_length l E a1 r11 er11) fn_Str_length mw_1231 ⟨Nat.le_of_ble_eq_true rfl, Nat.le_of_ble_eq_true rfl⟩ hK hT hS (s_recvL hT hS er11) hP [] rfl rfl rfl hl (Nat.le_of_ble_eq_true rfl) dX10_isWord_14 ?_
  refine lv_icmp_ne (tgt := 24) hx hb dX10_isWord_17 (by decide) (fun q12 => ?_) (fun q12 => ?_)
  · have hF := kn hF q12
    refine lv_iconst (v := (0 : Int32)) hx hb dX10_isWord_24 (by decide) ?_
    exact wk_M_isWord_b25 E h_t h_t_tape x_t_s x_t_kept x_t_before x_t_findings x_t_shown x_t_worths x_t_steps x_t_bits x_t_longs x_t_cells x_t_between c_t_isKept c_t_most c_t_taped c_t_fault c_t_value c_t_tape a1 C hA  hK hT  r9 (0 : Int32) hF _ _ hP hD hS _ (lv_sub hl [0, 1] rfl)
  · have hF := kp hF q12
    refine lv_iconst (v := (1 : Int32)) hx hb dX10_isWord_20 (by decide) ?_
    refine lv_goto (tgt := 25) hx hb dX10_isWord_21 (by decide) ?_
    exact wk_M_isWord_b25 E h_t h_t_tape x_t_s x_t_kept x_t_before x_t_findings x_t_shown x_t_worths x_t_steps x_t_bits x_t_longs x_t_cells x_t_between c_t_isKept c_t_most c_t_taped c_t_fault c_t_value c_t_tape a1 C hA  hK hT  r9 (1 : Int32) hF _ _ hP hD hS _ (lv_sub hl [0, 1] rfl)
abbrev w_M_may (E : kE) (h_t : Nat) (h_t_tape : Nat) (x_t_s : Nat) (x_t_kept : Nat) (x_t_before : Nat) (x_t_findings : Nat) (x_t_shown : Nat) (x_t_worths : Nat) (x_t_steps : Nat) (x_t_bits : Nat) (x_t_longs : Nat) (x_t_cells : Nat) (x_t_between : Nat) (c_t_isKept : Int32) (c_t_most : Int32) (c_t_taped : Int32) (c_t_here : Int32) (c_t_fault : Int32) (c_t_value : Int32) (c_t_tape : (Nat → Int32)) : va_W := [(h_t, .inr (8, [.ref x_t_s, .ref x_t_kept, .ref x_t_before, .int c_t_isKept, .ref x_t_findings, .ref x_t_shown, .int c_t_most, .ref x_t_worths, .ref x_t_steps, .ref h_t_tape, .int c_t_taped, .int c_t_here, .int c_t_fault, .int c_t_value, .ref x_t_bits, .ref x_t_longs, .ref x_t_cells, .ref x_t_between])), (h_t_tape, .inl (eI E, 120, .inl c_t_tape))]
set_option maxHeartbeats 4000000 in
set_option maxRecDepth 100000 in
theorem wk_M_may_b38 {p : Program} {l : Launch} {e : Env} {s : State} {m : MethodId} {args : Array Value} {below : List Frame} {meth : Method} {c : Code} {A : Nat → Prop} (E : kE) (h_t : Nat) (h_t_tape : Nat) (x_t_s : Nat) (x_t_kept : Nat) (x_t_before : Nat) (x_t_findings : Nat) (x_t_shown : Nat) (x_t_worths : Nat) (x_t_steps : Nat) (x_t_bits : Nat) (x_t_longs : Nat) (x_t_cells : Nat) (x_t_between : Nat) (c_t_isKept : Int32) (c_t_most : Int32) (c_t_taped : Int32) (c_t_fault : Int32) (c_t_value : Int32) (c_t_tape : (Nat → Int32)) (a1 : Nat) {out : Int32 × Int32} (C : kC RX10 cX10_may 3 (some .boolean) p s m args meth c) (hA : ∀ q : Nat, s.heap.size ≤ q → A q) (hK : va_K (eD E) vwCl (eT E) s) (hT : sT E A s s.heap)  :
    ∀ (c_t_here : Int32) (v2 : Int32) (s0 : Int32) (s1 : Int32), f_M_may_b38  c_t_taped c_t_fault c_t_tape a1 c_t_here v2 s0 s1 = some out → ∀ (H : Heap) (locs : List Loc), va_P (eD E) vwCl (w_M_may E h_t h_t_tape x_t_s x_t_kept x_t_before x_t_findings x_t_shown x_t_worths x_t_steps x_t_bits x_t_longs x_t_cells x_t_between c_t_isKept c_t_most c_t_taped c_t_here c_t_fault c_t_value c_t_tape) H → va_D A (w_M_may E h_t h_t_tape x_t_s x_t_kept x_t_before x_t_findings x_t_shown x_t_worths x_t_steps x_t_bits x_t_longs x_t_cells x_t_between c_t_isKept c_t_most c_t_taped c_t_here c_t_fault c_t_value c_t_tape) → va_S A s.heap H locs → ∀ (ls : Array Slot), lv_has ls 3 [(2, .int v2)] → W p l e (rm 7) s m args below meth c H locs 0 0 (MQ below (qW (some (.int out.1)) E (w_M_may E h_t h_t_tape x_t_s x_t_kept x_t_before x_t_findings x_t_shown x_t_worths x_t_steps x_t_bits x_t_longs x_t_cells x_t_between c_t_isKept c_t_most c_t_taped out.2 c_t_fault c_t_value c_t_tape) A) args s 0 0 A) (F0 m 38 ls [.int s0, .int s1, .ref h_t]) := by
  obtain ⟨hx, hb, hr, hml, hown, hw, hlocks⟩ := id C
  intro c_t_here v2 s0 s1 hF H locs hP hD hS ls hl
  rw [f_M_may_b38] at hF
  refine lv_iadd hx hb dX10_may_38 ?_
  refine va_put (D := eD E) (ci := 8) (v := .int (s1 + s0)) (ty := .int) (C := RX10) (T := TX10) (N := 18) hx hb hw inX10 tyX10 tyX10_ok nmX10 hown hK hP hD hS 0 rfl rfl 11 (by decide) (hw _ mw_892) (fun _ h9 => h9) rfl (by decide +kernel) rfl rfl (Nat.le_of_ble_eq_true rfl) dX10_may_39 (fun H locs hP hD hS => ?_)
  have hP : va_P (eD E) vwCl (w_M_may E h_t h_t_tape x_t_s x_t_kept x_t_before x_t_findings x_t_shown x_t_worths x_t_steps x_t_bits x_t_longs x_t_cells x_t_between c_t_isKept c_t_most c_t_taped (s1 + s0) c_t_fault c_t_value c_t_tape) H := hP
  have hD : va_D A (w_M_may E h_t h_t_tape x_t_s x_t_kept x_t_before x_t_findings x_t_shown x_t_worths x_t_steps x_t_bits x_t_longs x_t_cells x_t_between c_t_isKept c_t_most c_t_taped (s1 + s0) c_t_fault c_t_value c_t_tape) := hD
  refine lv_iload_n hx hb dX10_may_42 rfl (lv_at hl 0 rfl) ?_
  obtain ⟨b1, eb1, hF⟩ := kb hF
  obtain ⟨eeb1, hnb1⟩ := bl_some eb1
  subst eeb1
  obtain rfl := Option.some.inj hF
  exact W.zret (ty := .boolean) hx hb hr hnb1 (fun t ht hW => ⟨⟨rfl, by rw [ht]; exact hP, hD⟩, hS.F ht⟩) hS.2.2 dX10_may_43
set_option maxHeartbeats 4000000 in
set_option maxRecDepth 100000 in
theorem wk_M_may_b20 {p : Program} {l : Launch} {e : Env} {s : State} {m : MethodId} {args : Array Value} {below : List Frame} {meth : Method} {c : Code} {A : Nat → Prop} (E : kE) (h_t : Nat) (h_t_tape : Nat) (x_t_s : Nat) (x_t_kept : Nat) (x_t_before : Nat) (x_t_findings : Nat) (x_t_shown : Nat) (x_t_worths : Nat) (x_t_steps : Nat) (x_t_bits : Nat) (x_t_longs : Nat) (x_t_cells : Nat) (x_t_between : Nat) (c_t_isKept : Int32) (c_t_most : Int32) (c_t_taped : Int32) (c_t_fault : Int32) (c_t_value : Int32) (c_t_tape : (Nat → Int32)) (a1 : Nat) {out : Int32 × Int32} (C : kC RX10 cX10_may 3 (some .boolean) p s m args meth c) (hA : ∀ q : Nat, s.heap.size ≤ q → A q) (hK : va_K (eD E) vwCl (eT E) s) (hT : sT E A s s.heap)  :
    ∀ (c_t_here : Int32) (s0 : Int32), f_M_may_b20  c_t_taped c_t_fault c_t_tape a1 c_t_here s0 = some out → ∀ (H : Heap) (locs : List Loc), va_P (eD E) vwCl (w_M_may E h_t h_t_tape x_t_s x_t_kept x_t_before x_t_findings x_t_shown x_t_worths x_t_steps x_t_bits x_t_longs x_t_cells x_t_between c_t_isKept c_t_most c_t_taped c_t_here c_t_fault c_t_value c_t_tape) H → va_D A (w_M_may E h_t h_t_tape x_t_s x_t_kept x_t_before x_t_findings x_t_shown x_t_worths x_t_steps x_t_bits x_t_longs x_t_cells x_t_between c_t_isKept c_t_most c_t_taped c_t_here c_t_fault c_t_value c_t_tape) → va_S A s.heap H locs → ∀ (ls : Array Slot), lv_has ls 3 [(0, .ref h_t), (1, .ref (eK E a1))] → W p l e (rm 7) s m args below meth c H locs 0 0 (MQ below (qW (some (.int out.1)) E (w_M_may E h_t h_t_tape x_t_s x_t_kept x_t_before x_t_findings x_t_shown x_t_worths x_t_steps x_t_bits x_t_longs x_t_cells x_t_between c_t_isKept c_t_most c_t_taped out.2 c_t_fault c_t_value c_t_tape) A) args s 0 0 A) (F0 m 20 ls [.int s0]) := by
  obtain ⟨hx, hb, hr, hml, hown, hw, hlocks⟩ := id C
  intro c_t_here s0 hF H locs hP hD hS ls hl
  rw [f_M_may_b20] at hF
  refine lv_istore_n (lv' := [(2, .int s0), (0, .ref h_t), (1, .ref (eK E a1))]) hx hb dX10_may_20 rfl hl (by decide) rfl (fun ls hl => ?_)
  refine lv_aload_n hx hb dX10_may_21 rfl (lv_at hl 1 rfl) ?_
  refine lv_dup hx hb dX10_may_22 rfl ?_
  refine va_get (D := eD E) (ci := 8) (C := RX10) (T := TX10) (N := 18) (v := .int c_t_here) hx hb hw inX10 hown hK hP 0 rfl rfl 11 (by decide) (hw _ mw_892) (fun _ h9 => h9) rfl dX10_may_23 ?_
  refine lv_iload_n hx hb dX10_may_26 rfl (lv_at hl 0 rfl) ?_
  refine lv_if_eq (tgt := 37) hx hb dX10_may_27 (by decide) (fun q2 => ?_) (fun q2 => ?_)
  · have hF := kp hF q2
    refine lv_iconst (v := (0 : Int32)) hx hb dX10_may_37 (by decide) ?_
    exact wk_M_may_b38 E h_t h_t_tape x_t_s x_t_kept x_t_before x_t_findings x_t_shown x_t_worths x_t_steps x_t_bits x_t_longs x_t_cells x_t_between c_t_isKept c_t_most c_t_taped c_t_fault c_t_value c_t_tape a1 C hA  hK hT  c_t_here s0 (0 : Int32) c_t_here hF _ _ hP hD hS _ (lv_sub hl [0] rfl)
  · have hF := kn hF q2
    refine lv_aload_n hx hb dX10_may_30 rfl (lv_at hl 2 rfl) ?_
    obtain ⟨r3, er3, hF⟩ := kb hF
    refine kRV (rest := [.int c_t_here, .ref h_t]) C (k_Str_length l E a1 r3 er3) fn_Str_length mw_1231 ⟨Nat.le_of_ble_eq_true rfl, Nat.le_of_ble_eq_true rfl⟩ hK hT hS (s_recvL hT hS er3) hP [] rfl rfl rfl hl (Nat.le_of_ble_eq_true rfl) dX10_may_31 ?_
    refine lv_goto (tgt := 38) hx hb dX10_may_34 (by decide) ?_
    exact wk_M_may_b38 E h_t h_t_tape x_t_s x_t_kept x_t_before x_t_findings x_t_shown x_t_worths x_t_steps x_t_bits x_t_longs x_t_cells x_t_between c_t_isKept c_t_most c_t_taped c_t_fault c_t_value c_t_tape a1 C hA  hK hT  c_t_here s0 r3 c_t_here hF _ _ hP hD hS _ (lv_sub hl [0] rfl)
set_option maxHeartbeats 4000000 in
set_option maxRecDepth 100000 in
theorem k_M_may (l : Launch) (E : kE) (h_t : Nat) (h_t_tape : Nat) (x_t_s : Nat) (x_t_kept : Nat) (x_t_before : Nat) (x_t_findings : Nat) (x_t_shown : Nat) (x_t_worths : Nat) (x_t_steps : Nat) (x_t_bits : Nat) (x_t_longs : Nat) (x_t_cells : Nat) (x_t_between : Nat) (sz : Nat) (c_t_isKept : Int32) (c_t_most : Int32) (c_t_taped : Int32) (c_t_here : Int32) (c_t_fault : Int32) (c_t_value : Int32) (c_t_tape : (Nat → Int32)) (a1 : Nat) (out : Int32 × Int32) (hF : f_M_may c_t_taped c_t_here c_t_fault c_t_tape a1 = some out) : Met l yX10_may (Cond.code yX10_may cX10_may 3 (some .boolean) :: wG) (rm 7) (pW E (w_M_may E h_t h_t_tape x_t_s x_t_kept x_t_before x_t_findings x_t_shown x_t_worths x_t_steps x_t_bits x_t_longs x_t_cells x_t_between c_t_isKept c_t_most c_t_taped c_t_here c_t_fault c_t_value c_t_tape) sz [.ref h_t, .ref (eK E a1)]) (qW (some (.int out.1)) E (w_M_may E h_t h_t_tape x_t_s x_t_kept x_t_before x_t_findings x_t_shown x_t_worths x_t_steps x_t_bits x_t_longs x_t_cells x_t_between c_t_isKept c_t_most c_t_taped out.2 c_t_fault c_t_value c_t_tape) (va_A (w_M_may E h_t h_t_tape x_t_s x_t_kept x_t_before x_t_findings x_t_shown x_t_worths x_t_steps x_t_bits x_t_longs x_t_cells x_t_between c_t_isKept c_t_most c_t_taped c_t_here c_t_fault c_t_value c_t_tape) sz)) 0 0 (va_A (w_M_may E h_t h_t_tape x_t_s x_t_kept x_t_before x_t_findings x_t_shown x_t_worths x_t_steps x_t_bits x_t_longs x_t_cells x_t_between c_t_isKept c_t_most c_t_taped c_t_here c_t_fault c_t_value c_t_tape) sz) := by
  refine met_W (by decide) (Nat.le_of_ble_eq_true rfl) ?_
  intro p e s m args below meth c A ls C hP hD hS hA hK hT hl
  obtain ⟨hx, hb, hr, hml, hown, hw, hlocks⟩ := id C
  have hl : lv_has ls 3 [(0, .ref h_t), (1, .ref (eK E a1))] := hl
  rw [f_M_may] at hF
  refine lv_aload_n hx hb dX10_may_0 rfl (lv_at hl 0 rfl) ?_
  refine va_get (D := eD E) (ci := 8) (C := RX10) (T := TX10) (N := 18) (v := .int c_t_fault) hx hb hw inX10 hown hK hP 0 rfl rfl 12 (by decide) (hw _ mw_893) (fun _ h9 => h9) rfl dX10_may_1 ?_
  refine lv_if_ge (tgt := 19) hx hb dX10_may_4 (by decide) (fun q4 => ?_) (fun q4 => ?_)
  · have hF := kp hF q4
    refine lv_iconst (v := (0 : Int32)) hx hb dX10_may_19 (by decide) ?_
    exact wk_M_may_b20 E h_t h_t_tape x_t_s x_t_kept x_t_before x_t_findings x_t_shown x_t_worths x_t_steps x_t_bits x_t_longs x_t_cells x_t_between c_t_isKept c_t_most c_t_taped c_t_fault c_t_value c_t_tape a1 C hA  hK hT  c_t_here (0 : Int32) hF _ _ hP hD hS _ (lv_sub hl [0, 1] rfl)
  · have hF := kn hF q4
    refine lv_aload_n hx hb dX10_may_7 rfl (lv_at hl 0 rfl) ?_
    refine lv_aload_n hx hb dX10_may_8 rfl (lv_at hl 1 rfl) ?_
    obtain ⟨r5, er5, hF⟩ := kb hF
    refine kWV (rest := []) (Wr := []) (Wn := (w_M_may E h_t h_t_tape x_t_s x_t_kept x_t_before x_t_findings x_t_shown x_t_worths x_t_steps x_t_bits x_t_longs x_t_cells x_t_between c_t_isKept c_t_most c_t_taped r5.2 c_t_fault c_t_value c_t_tape)) C (k_M_isWord l E h_t h_t_tape x_t_s x_t_kept x_t_before x_t_findings x_t_shown x_t_worths x_t_steps x_t_bits x_t_longs x_t_cells x_t_between s.heap.size c_t_isKept c_t_most c_t_taped c_t_here c_t_fault c_t_value c_t_tape a1 r5 er5) fn_M_isWord mw_1212 ⟨Nat.le_of_ble_eq_true rfl, Nat.le_of_ble_eq_true rfl⟩ hK hT hS hA (va_recv hK hP (ci := 8) (q0 := 0) rfl rfl) hP hD [0, 1] rfl (by decide) [] rfl (by decide) (by decide) [0, 1] rfl (by decide) rfl rfl hl (Nat.le_of_ble_eq_true rfl) dX10_may_9 (fun H locs hP hD hS => ?_)
    refine W.eq (g2 := F0 m 12 ls [.int r5.1]) rfl ?_
    refine lv_if_eq (tgt := 19) hx hb dX10_may_12 (by decide) (fun q6 => ?_) (fun q6 => ?_)
    · have hF := kp hF q6
      refine lv_iconst (v := (0 : Int32)) hx hb dX10_may_19 (by decide) ?_
      exact wk_M_may_b20 E h_t h_t_tape x_t_s x_t_kept x_t_before x_t_findings x_t_shown x_t_worths x_t_steps x_t_bits x_t_longs x_t_cells x_t_between c_t_isKept c_t_most c_t_taped c_t_fault c_t_value c_t_tape a1 C hA  hK hT  r5.2 (0 : Int32) hF _ _ hP hD hS _ (lv_sub hl [0, 1] rfl)
    · have hF := kn hF q6
      refine lv_iconst (v := (1 : Int32)) hx hb dX10_may_15 (by decide) ?_
      refine lv_goto (tgt := 20) hx hb dX10_may_16 (by decide) ?_
      exact wk_M_may_b20 E h_t h_t_tape x_t_s x_t_kept x_t_before x_t_findings x_t_shown x_t_worths x_t_steps x_t_bits x_t_longs x_t_cells x_t_between c_t_isKept c_t_most c_t_taped c_t_fault c_t_value c_t_tape a1 C hA  hK hT  r5.2 (1 : Int32) hF _ _ hP hD hS _ (lv_sub hl [0, 1] rfl)
abbrev w_M_must (E : kE) (h_t : Nat) (h_t_tape : Nat) (x_t_s : Nat) (x_t_kept : Nat) (x_t_before : Nat) (x_t_findings : Nat) (x_t_shown : Nat) (x_t_worths : Nat) (x_t_steps : Nat) (x_t_bits : Nat) (x_t_longs : Nat) (x_t_cells : Nat) (x_t_between : Nat) (c_t_isKept : Int32) (c_t_most : Int32) (c_t_taped : Int32) (c_t_here : Int32) (c_t_fault : Int32) (c_t_value : Int32) (c_t_tape : (Nat → Int32)) : va_W := [(h_t, .inr (8, [.ref x_t_s, .ref x_t_kept, .ref x_t_before, .int c_t_isKept, .ref x_t_findings, .ref x_t_shown, .int c_t_most, .ref x_t_worths, .ref x_t_steps, .ref h_t_tape, .int c_t_taped, .int c_t_here, .int c_t_fault, .int c_t_value, .ref x_t_bits, .ref x_t_longs, .ref x_t_cells, .ref x_t_between])), (h_t_tape, .inl (eI E, 120, .inl c_t_tape))]
set_option maxHeartbeats 4000000 in
set_option maxRecDepth 100000 in
theorem wk_M_must_b15 {p : Program} {l : Launch} {e : Env} {s : State} {m : MethodId} {args : Array Value} {below : List Frame} {meth : Method} {c : Code} {A : Nat → Prop} (E : kE) (h_t : Nat) (h_t_tape : Nat) (x_t_s : Nat) (x_t_kept : Nat) (x_t_before : Nat) (x_t_findings : Nat) (x_t_shown : Nat) (x_t_worths : Nat) (x_t_steps : Nat) (x_t_bits : Nat) (x_t_longs : Nat) (x_t_cells : Nat) (x_t_between : Nat) (c_t_isKept : Int32) (c_t_most : Int32) (c_t_taped : Int32) (c_t_value : Int32) (c_t_tape : (Nat → Int32)) (a1 : Nat) {out : Int32 × Int32 × Int32} (C : kC RX10 cX10_must 2 (some .boolean) p s m args meth c) (hA : ∀ q : Nat, s.heap.size ≤ q → A q) (hK : va_K (eD E) vwCl (eT E) s) (hT : sT E A s s.heap)  :
    ∀ (c_t_here : Int32) (c_t_fault : Int32), f_M_must_b15  c_t_taped c_t_tape a1 c_t_here c_t_fault = some out → ∀ (H : Heap) (locs : List Loc), va_P (eD E) vwCl (w_M_must E h_t h_t_tape x_t_s x_t_kept x_t_before x_t_findings x_t_shown x_t_worths x_t_steps x_t_bits x_t_longs x_t_cells x_t_between c_t_isKept c_t_most c_t_taped c_t_here c_t_fault c_t_value c_t_tape) H → va_D A (w_M_must E h_t h_t_tape x_t_s x_t_kept x_t_before x_t_findings x_t_shown x_t_worths x_t_steps x_t_bits x_t_longs x_t_cells x_t_between c_t_isKept c_t_most c_t_taped c_t_here c_t_fault c_t_value c_t_tape) → va_S A s.heap H locs → ∀ (ls : Array Slot), lv_has ls 2 [] → W p l e (rm 8) s m args below meth c H locs 0 0 (MQ below (qW (some (.int out.1)) E (w_M_must E h_t h_t_tape x_t_s x_t_kept x_t_before x_t_findings x_t_shown x_t_worths x_t_steps x_t_bits x_t_longs x_t_cells x_t_between c_t_isKept c_t_most c_t_taped out.2.1 out.2.2 c_t_value c_t_tape) A) args s 0 0 A) (F0 m 15 ls []) := by
  obtain ⟨hx, hb, hr, hml, hown, hw, hlocks⟩ := id C
  intro c_t_here c_t_fault hF H locs hP hD hS ls hl
  rw [f_M_must_b15] at hF
  refine lv_iconst (v := (1 : Int32)) hx hb dX10_must_15 (by decide) ?_
  refine lv_goto (tgt := 20) hx hb dX10_must_16 (by decide) ?_
  obtain rfl := Option.some.inj hF
  exact W.zret (ty := .boolean) hx hb hr rfl (fun t ht hW => ⟨⟨rfl, by rw [ht]; exact hP, hD⟩, hS.F ht⟩) hS.2.2 dX10_must_20
set_option maxHeartbeats 4000000 in
set_option maxRecDepth 100000 in
theorem k_M_must (l : Launch) (E : kE) (h_t : Nat) (h_t_tape : Nat) (x_t_s : Nat) (x_t_kept : Nat) (x_t_before : Nat) (x_t_findings : Nat) (x_t_shown : Nat) (x_t_worths : Nat) (x_t_steps : Nat) (x_t_bits : Nat) (x_t_longs : Nat) (x_t_cells : Nat) (x_t_between : Nat) (sz : Nat) (c_t_isKept : Int32) (c_t_most : Int32) (c_t_taped : Int32) (c_t_here : Int32) (c_t_fault : Int32) (c_t_value : Int32) (c_t_tape : (Nat → Int32)) (a1 : Nat) (out : Int32 × Int32 × Int32) (hF : f_M_must c_t_taped c_t_here c_t_fault c_t_tape a1 = some out) : Met l yX10_must (Cond.code yX10_must cX10_must 2 (some .boolean) :: wG) (rm 8) (pW E (w_M_must E h_t h_t_tape x_t_s x_t_kept x_t_before x_t_findings x_t_shown x_t_worths x_t_steps x_t_bits x_t_longs x_t_cells x_t_between c_t_isKept c_t_most c_t_taped c_t_here c_t_fault c_t_value c_t_tape) sz [.ref h_t, .ref (eK E a1)]) (qW (some (.int out.1)) E (w_M_must E h_t h_t_tape x_t_s x_t_kept x_t_before x_t_findings x_t_shown x_t_worths x_t_steps x_t_bits x_t_longs x_t_cells x_t_between c_t_isKept c_t_most c_t_taped out.2.1 out.2.2 c_t_value c_t_tape) (va_A (w_M_must E h_t h_t_tape x_t_s x_t_kept x_t_before x_t_findings x_t_shown x_t_worths x_t_steps x_t_bits x_t_longs x_t_cells x_t_between c_t_isKept c_t_most c_t_taped c_t_here c_t_fault c_t_value c_t_tape) sz)) 0 0 (va_A (w_M_must E h_t h_t_tape x_t_s x_t_kept x_t_before x_t_findings x_t_shown x_t_worths x_t_steps x_t_bits x_t_longs x_t_cells x_t_between c_t_isKept c_t_most c_t_taped c_t_here c_t_fault c_t_value c_t_tape) sz) := by
  refine met_W (by decide) (Nat.le_of_ble_eq_true rfl) ?_
  intro p e s m args below meth c A ls C hP hD hS hA hK hT hl
  obtain ⟨hx, hb, hr, hml, hown, hw, hlocks⟩ := id C
  have hl : lv_has ls 2 [(0, .ref h_t), (1, .ref (eK E a1))] := hl
  rw [f_M_must] at hF
  refine lv_aload_n hx hb dX10_must_0 rfl (lv_at hl 0 rfl) ?_
  refine lv_aload_n hx hb dX10_must_1 rfl (lv_at hl 1 rfl) ?_
  obtain ⟨r1, er1, hF⟩ := kb hF
  refine kWV (rest := []) (Wr := []) (Wn := (w_M_must E h_t h_t_tape x_t_s x_t_kept x_t_before x_t_findings x_t_shown x_t_worths x_t_steps x_t_bits x_t_longs x_t_cells x_t_between c_t_isKept c_t_most c_t_taped r1.2 c_t_fault c_t_value c_t_tape)) C (k_M_may l E h_t h_t_tape x_t_s x_t_kept x_t_before x_t_findings x_t_shown x_t_worths x_t_steps x_t_bits x_t_longs x_t_cells x_t_between s.heap.size c_t_isKept c_t_most c_t_taped c_t_here c_t_fault c_t_value c_t_tape a1 r1 er1) fn_M_may mw_1237 ⟨Nat.le_of_ble_eq_true rfl, Nat.le_of_ble_eq_true rfl⟩ hK hT hS hA (va_recv hK hP (ci := 8) (q0 := 0) rfl rfl) hP hD [0, 1] rfl (by decide) [] rfl (by decide) (by decide) [0, 1] rfl (by decide) rfl rfl hl (Nat.le_of_ble_eq_true rfl) dX10_must_2 (fun H locs hP hD hS => ?_)
  refine W.eq (g2 := F0 m 5 ls [.int r1.1]) rfl ?_
  refine lv_if_ne (tgt := 15) hx hb dX10_must_5 (by decide) (fun q2 => ?_) (fun q2 => ?_)
  · have hF := kn hF q2
    exact wk_M_must_b15 E h_t h_t_tape x_t_s x_t_kept x_t_before x_t_findings x_t_shown x_t_worths x_t_steps x_t_bits x_t_longs x_t_cells x_t_between c_t_isKept c_t_most c_t_taped c_t_value c_t_tape a1 C hA  hK hT  r1.2 c_t_fault hF _ _ hP hD hS _ (lv_sub hl [] rfl)
  · have hF := kp hF q2
    refine lv_aload_n hx hb dX10_must_8 rfl (lv_at hl 0 rfl) ?_
    obtain ⟨r3, er3, hF⟩ := kb hF
    refine kWV (rest := []) (Wr := [(h_t_tape, .inl (eI E, 120, .inl c_t_tape))]) (Wn := (w_M_must E h_t h_t_tape x_t_s x_t_kept x_t_before x_t_findings x_t_shown x_t_worths x_t_steps x_t_bits x_t_longs x_t_cells x_t_between c_t_isKept c_t_most c_t_taped r1.2 r3.2 c_t_value c_t_tape)) C (k_M_fails l E h_t x_t_s x_t_kept x_t_before x_t_findings x_t_shown x_t_worths x_t_steps h_t_tape x_t_bits x_t_longs x_t_cells x_t_between H.size c_t_isKept c_t_most c_t_taped r1.2 c_t_fault c_t_value r3 er3) fn_M_fails mw_1233 ⟨Nat.le_of_ble_eq_true rfl, Nat.le_of_ble_eq_true rfl⟩ hK hT hS hA (va_recv hK hP (ci := 8) (q0 := 0) rfl rfl) hP hD [0] rfl (by decide) [1] rfl (by decide) (by decide) [1, 0] rfl (by decide) rfl rfl hl (Nat.le_of_ble_eq_true rfl) dX10_must_9 (fun H locs hP hD hS => ?_)
    refine W.eq (g2 := F0 m 12 ls [.int r3.1]) rfl ?_
    refine lv_if_eq (tgt := 19) hx hb dX10_must_12 (by decide) (fun q4 => ?_) (fun q4 => ?_)
    · have hF := kp hF q4
      refine lv_iconst (v := (0 : Int32)) hx hb dX10_must_19 (by decide) ?_
      obtain rfl := Option.some.inj hF
      exact W.zret (ty := .boolean) hx hb hr rfl (fun t ht hW => ⟨⟨rfl, by rw [ht]; exact hP, hD⟩, hS.F ht⟩) hS.2.2 dX10_must_20
    · have hF := kn hF q4
      exact wk_M_must_b15 E h_t h_t_tape x_t_s x_t_kept x_t_before x_t_findings x_t_shown x_t_worths x_t_steps x_t_bits x_t_longs x_t_cells x_t_between c_t_isKept c_t_most c_t_taped c_t_value c_t_tape a1 C hA  hK hT  r1.2 r3.2 hF _ _ hP hD hS _ (lv_sub hl [] rfl)
abbrev w_M_number (E : kE) (h_t : Nat) (h_t_tape : Nat) (x_t_s : Nat) (x_t_kept : Nat) (x_t_before : Nat) (x_t_findings : Nat) (x_t_shown : Nat) (x_t_worths : Nat) (x_t_steps : Nat) (x_t_bits : Nat) (x_t_longs : Nat) (x_t_cells : Nat) (x_t_between : Nat) (c_t_isKept : Int32) (c_t_most : Int32) (c_t_taped : Int32) (c_t_here : Int32) (c_t_fault : Int32) (c_t_value : Int32) (c_t_tape : (Nat → Int32)) : va_W := [(h_t, .inr (8, [.ref x_t_s, .ref x_t_kept, .ref x_t_before, .int c_t_isKept, .ref x_t_findings, .ref x_t_shown, .int c_t_most, .ref x_t_worths, .ref x_t_steps, .ref h_t_tape, .int c_t_taped, .int c_t_here, .int c_t_fault, .int c_t_value, .ref x_t_bits, .ref x_t_longs, .ref x_t_cells, .ref x_t_between])), (h_t_tape, .inl (eI E, 120, .inl c_t_tape))]
set_option maxHeartbeats 4000000 in
set_option maxRecDepth 100000 in
theorem wk_M_number_b25 {p : Program} {l : Launch} {e : Env} {s : State} {m : MethodId} {args : Array Value} {below : List Frame} {meth : Method} {c : Code} {A : Nat → Prop} (E : kE) (h_t : Nat) (h_t_tape : Nat) (x_t_s : Nat) (x_t_kept : Nat) (x_t_before : Nat) (x_t_findings : Nat) (x_t_shown : Nat) (x_t_worths : Nat) (x_t_steps : Nat) (x_t_bits : Nat) (x_t_longs : Nat) (x_t_cells : Nat) (x_t_between : Nat) (c_t_isKept : Int32) (c_t_most : Int32) (c_t_taped : Int32) (c_t_tape : (Nat → Int32)) (a1 : Int32) (a2 : Int32) {out : Int32 × Int32 × Int32 × Int32} (C : kC RX10 cX10_number 6 (some .boolean) p s m args meth c) (hA : ∀ q : Nat, s.heap.size ≤ q → A q) (hK : va_K (eD E) vwCl (eT E) s) (hT : sT E A s s.heap)  :
    ∀ (c_t_here : Int32) (c_t_fault : Int32) (c_t_value : Int32), f_M_number_b25  c_t_taped c_t_tape a1 a2 c_t_here c_t_fault c_t_value = some out → ∀ (H : Heap) (locs : List Loc), va_P (eD E) vwCl (w_M_number E h_t h_t_tape x_t_s x_t_kept x_t_before x_t_findings x_t_shown x_t_worths x_t_steps x_t_bits x_t_longs x_t_cells x_t_between c_t_isKept c_t_most c_t_taped c_t_here c_t_fault c_t_value c_t_tape) H → va_D A (w_M_number E h_t h_t_tape x_t_s x_t_kept x_t_before x_t_findings x_t_shown x_t_worths x_t_steps x_t_bits x_t_longs x_t_cells x_t_between c_t_isKept c_t_most c_t_taped c_t_here c_t_fault c_t_value c_t_tape) → va_S A s.heap H locs → ∀ (ls : Array Slot), lv_has ls 6 [(0, .ref h_t)] → W p l e (rm 3) s m args below meth c H locs 0 0 (MQ below (qW (some (.int out.1)) E (w_M_number E h_t h_t_tape x_t_s x_t_kept x_t_before x_t_findings x_t_shown x_t_worths x_t_steps x_t_bits x_t_longs x_t_cells x_t_between c_t_isKept c_t_most c_t_taped out.2.1 out.2.2.1 out.2.2.2 c_t_tape) A) args s 0 0 A) (F0 m 25 ls []) := by
  obtain ⟨hx, hb, hr, hml, hown, hw, hlocks⟩ := id C
  intro c_t_here c_t_fault c_t_value hF H locs hP hD hS ls hl
  rw [f_M_number_b25] at hF
  refine lv_aload_n hx hb dX10_number_25 rfl (lv_at hl 0 rfl) ?_
  obtain ⟨r1, er1, hF⟩ := kb hF
  refine kWV (rest := []) (Wr := [(h_t_tape, .inl (eI E, 120, .inl c_t_tape))]) (Wn := (w_M_number E h_t h_t_tape x_t_s x_t_kept x_t_before x_t_findings x_t_shown x_t_worths x_t_steps x_t_bits x_t_longs x_t_cells x_t_between c_t_isKept c_t_most c_t_taped c_t_here r1.2 c_t_value c_t_tape)) C (k_M_fails l E h_t x_t_s x_t_kept x_t_before x_t_findings x_t_shown x_t_worths x_t_steps h_t_tape x_t_bits x_t_longs x_t_cells x_t_between H.size c_t_isKept c_t_most c_t_taped c_t_here c_t_fault c_t_value r1 er1) fn_M_fails mw_1233 ⟨Nat.le_of_ble_eq_true rfl, Nat.le_of_ble_eq_true rfl⟩ hK hT hS hA (va_recv hK hP (ci := 8) (q0 := 0) rfl rfl) hP hD [0] rfl (by decide) [1] rfl (by decide) (by decide) [1, 0] rfl (by decide) rfl rfl hl (Nat.le_of_ble_eq_true rfl) dX10_number_26 (fun H locs hP hD hS => ?_)
  refine W.eq (g2 := F0 m 29 ls [.int r1.1]) rfl ?_
  obtain ⟨b2, eb2, hF⟩ := kb hF
  obtain ⟨eeb2, hnb2⟩ := bl_some eb2
  subst eeb2
  obtain rfl := Option.some.inj hF
  exact W.zret (ty := .boolean) hx hb hr hnb2 (fun t ht hW => ⟨⟨rfl, by rw [ht]; exact hP, hD⟩, hS.F ht⟩) hS.2.2 dX10_number_29
set_option maxHeartbeats 4000000 in
set_option maxRecDepth 100000 in
theorem wk_M_number_b94 {p : Program} {l : Launch} {e : Env} {s : State} {m : MethodId} {args : Array Value} {below : List Frame} {meth : Method} {c : Code} {A : Nat → Prop} (E : kE) (h_t : Nat) (h_t_tape : Nat) (x_t_s : Nat) (x_t_kept : Nat) (x_t_before : Nat) (x_t_findings : Nat) (x_t_shown : Nat) (x_t_worths : Nat) (x_t_steps : Nat) (x_t_bits : Nat) (x_t_longs : Nat) (x_t_cells : Nat) (x_t_between : Nat) (c_t_isKept : Int32) (c_t_most : Int32) (c_t_taped : Int32) (c_t_tape : (Nat → Int32)) (a1 : Int32) (a2 : Int32) {out : Int32 × Int32 × Int32 × Int32} (C : kC RX10 cX10_number 6 (some .boolean) p s m args meth c) (hA : ∀ q : Nat, s.heap.size ≤ q → A q) (hK : va_K (eD E) vwCl (eT E) s) (hT : sT E A s s.heap)  :
    ∀ (c_t_here : Int32) (c_t_fault : Int32) (c_t_value : Int32), f_M_number_b94  c_t_taped c_t_tape a1 a2 c_t_here c_t_fault c_t_value = some out → ∀ (H : Heap) (locs : List Loc), va_P (eD E) vwCl (w_M_number E h_t h_t_tape x_t_s x_t_kept x_t_before x_t_findings x_t_shown x_t_worths x_t_steps x_t_bits x_t_longs x_t_cells x_t_between c_t_isKept c_t_most c_t_taped c_t_here c_t_fault c_t_value c_t_tape) H → va_D A (w_M_number E h_t h_t_tape x_t_s x_t_kept x_t_before x_t_findings x_t_shown x_t_worths x_t_steps x_t_bits x_t_longs x_t_cells x_t_between c_t_isKept c_t_most c_t_taped c_t_here c_t_fault c_t_value c_t_tape) → va_S A s.heap H locs → ∀ (ls : Array Slot), lv_has ls 6 [(0, .ref h_t)] → W p l e (rm 3) s m args below meth c H locs 0 0 (MQ below (qW (some (.int out.1)) E (w_M_number E h_t h_t_tape x_t_s x_t_kept x_t_before x_t_findings x_t_shown x_t_worths x_t_steps x_t_bits x_t_longs x_t_cells x_t_between c_t_isKept c_t_most c_t_taped out.2.1 out.2.2.1 out.2.2.2 c_t_tape) A) args s 0 0 A) (F0 m 94 ls []) := by
  obtain ⟨hx, hb, hr, hml, hown, hw, hlocks⟩ := id C
  intro c_t_here c_t_fault c_t_value hF H locs hP hD hS ls hl
  rw [f_M_number_b94] at hF
  refine lv_aload_n hx hb dX10_number_94 rfl (lv_at hl 0 rfl) ?_
  obtain ⟨r3, er3, hF⟩ := kb hF
  refine kWV (rest := []) (Wr := [(h_t_tape, .inl (eI E, 120, .inl c_t_tape))]) (Wn := (w_M_number E h_t h_t_tape x_t_s x_t_kept x_t_before x_t_findings x_t_shown x_t_worths x_t_steps x_t_bits x_t_longs x_t_cells x_t_between c_t_isKept c_t_most c_t_taped c_t_here r3.2 c_t_value c_t_tape)) C (k_M_fails l E h_t x_t_s x_t_kept x_t_before x_t_findings x_t_shown x_t_worths x_t_steps h_t_tape x_t_bits x_t_longs x_t_cells x_t_between H.size c_t_isKept c_t_most c_t_taped c_t_here c_t_fault c_t_value r3 er3) fn_M_fails mw_1233 ⟨Nat.le_of_ble_eq_true rfl, Nat.le_of_ble_eq_true rfl⟩ hK hT hS hA (va_recv hK hP (ci := 8) (q0 := 0) rfl rfl) hP hD [0] rfl (by decide) [1] rfl (by decide) (by decide) [1, 0] rfl (by decide) rfl rfl hl (Nat.le_of_ble_eq_true rfl) dX10_number_95 (fun H locs hP hD hS => ?_)
  refine W.eq (g2 := F0 m 98 ls [.int r3.1]) rfl ?_
  obtain ⟨b4, eb4, hF⟩ := kb hF
  obtain ⟨eeb4, hnb4⟩ := bl_some eb4
  subst eeb4
  obtain rfl := Option.some.inj hF
  exact W.zret (ty := .boolean) hx hb hr hnb4 (fun t ht hW => ⟨⟨rfl, by rw [ht]; exact hP, hD⟩, hS.F ht⟩) hS.2.2 dX10_number_98
set_option maxHeartbeats 4000000 in
set_option maxRecDepth 100000 in
theorem wk_M_number_b38 {p : Program} {l : Launch} {e : Env} {s : State} {m : MethodId} {args : Array Value} {below : List Frame} {meth : Method} {c : Code} {A : Nat → Prop} (E : kE) (h_t : Nat) (h_t_tape : Nat) (x_t_s : Nat) (x_t_kept : Nat) (x_t_before : Nat) (x_t_findings : Nat) (x_t_shown : Nat) (x_t_worths : Nat) (x_t_steps : Nat) (x_t_bits : Nat) (x_t_longs : Nat) (x_t_cells : Nat) (x_t_between : Nat) (c_t_isKept : Int32) (c_t_most : Int32) (c_t_taped : Int32) (c_t_tape : (Nat → Int32)) (a1 : Int32) (a2 : Int32) {out : Int32 × Int32 × Int32 × Int32} (C : kC RX10 cX10_number 6 (some .boolean) p s m args meth c) (hA : ∀ q : Nat, s.heap.size ≤ q → A q) (hK : va_K (eD E) vwCl (eT E) s) (hT : sT E A s s.heap)  :
    ∀ (n : Nat), ∀ (c_t_here : Int32) (c_t_fault : Int32) (c_t_value : Int32) (v3 : Int64) (v5 : Int32), f_M_number_b38  c_t_taped c_t_tape a1 a2 n c_t_here c_t_fault c_t_value v3 v5 = some out → ∀ (H : Heap) (locs : List Loc), va_P (eD E) vwCl (w_M_number E h_t h_t_tape x_t_s x_t_kept x_t_before x_t_findings x_t_shown x_t_worths x_t_steps x_t_bits x_t_longs x_t_cells x_t_between c_t_isKept c_t_most c_t_taped c_t_here c_t_fault c_t_value c_t_tape) H → va_D A (w_M_number E h_t h_t_tape x_t_s x_t_kept x_t_before x_t_findings x_t_shown x_t_worths x_t_steps x_t_bits x_t_longs x_t_cells x_t_between c_t_isKept c_t_most c_t_taped c_t_here c_t_fault c_t_value c_t_tape) → va_S A s.heap H locs → ∀ (ls : Array Slot), lv_has ls 6 [(0, .ref h_t), (1, .int a1), (2, .int a2), (3, .long v3), (5, .int v5)] → W p l e (rm 3) s m args below meth c H locs 0 0 (MQ below (qW (some (.int out.1)) E (w_M_number E h_t h_t_tape x_t_s x_t_kept x_t_before x_t_findings x_t_shown x_t_worths x_t_steps x_t_bits x_t_longs x_t_cells x_t_between c_t_isKept c_t_most c_t_taped out.2.1 out.2.2.1 out.2.2.2 c_t_tape) A) args s 0 0 A) (F0 m 38 ls []) := by
  obtain ⟨hx, hb, hr, hml, hown, hw, hlocks⟩ := id C
  intro n
  induction n with
  | zero =>
    intro c_t_here c_t_fault c_t_value v3 v5 hF
    exact absurd (show (none : Option (Int32 × Int32 × Int32 × Int32)) = some out from hF) nofun
  | succ n ih =>
    intro c_t_here c_t_fault c_t_value v3 v5 hF H locs hP hD hS ls hl
    rw [f_M_number_b38] at hF
    refine lv_aload_n hx hb dX10_number_38 rfl (lv_at hl 0 rfl) ?_
    refine lv_iload hx hb dX10_number_39 (lv_at hl 4 rfl) ?_
    obtain ⟨r5, er5, hF⟩ := kb hF
    refine kRV (rest := []) C (k_M_byteAt l E h_t h_t_tape x_t_s x_t_kept x_t_before x_t_findings x_t_shown x_t_worths x_t_steps x_t_bits x_t_longs x_t_cells x_t_between c_t_isKept c_t_most c_t_taped c_t_here c_t_fault c_t_value c_t_tape v5 r5 er5) fn_M_byteAt mw_1220 ⟨Nat.le_of_ble_eq_true rfl, Nat.le_of_ble_eq_true rfl⟩ hK hT hS (va_recv hK hP (ci := 8) (q0 := 0) rfl rfl) hP [0, 1] rfl rfl rfl hl (Nat.le_of_ble_eq_true rfl) dX10_number_41 ?_
    obtain ⟨r6, er6, hF⟩ := kb hF
    refine kRS (rest := []) C (k_M_isDigit l E r5 r6 er6) fn_M_isDigit mw_1255 ⟨Nat.le_of_ble_eq_true rfl, Nat.le_of_ble_eq_true rfl⟩ hK hT hS hP [] rfl rfl rfl hl (Nat.le_of_ble_eq_true rfl) dX10_number_44 ?_
    refine lv_if_eq (tgt := 80) hx hb dX10_number_47 (by decide) (fun q7 => ?_) (fun q7 => ?_)
    · have hF := kp hF q7
      refine lv_lload_n hx hb dX10_number_80 rfl (lv_at hl 3 rfl) ?_
      refine lv_iload_n hx hb dX10_number_81 rfl (lv_at hl 1 rfl) ?_
      refine lv_i2l (v := a1.toInt64) hx hb dX10_number_82 rfl ?_
      refine W.lcmp hx hb dX10_number_83 ?_
      refine lv_if_lt (tgt := 94) hx hb dX10_number_84 (by decide) (fun q8 => ?_) (fun q8 => ?_)
      · have hF := kp hF q8
        exact wk_M_number_b94 E h_t h_t_tape x_t_s x_t_kept x_t_before x_t_findings x_t_shown x_t_worths x_t_steps x_t_bits x_t_longs x_t_cells x_t_between c_t_isKept c_t_most c_t_taped c_t_tape a1 a2 C hA  hK hT  c_t_here c_t_fault c_t_value hF _ _ hP hD hS _ (lv_sub hl [0] rfl)
      · have hF := kn hF q8
        refine lv_lload_n hx hb dX10_number_87 rfl (lv_at hl 3 rfl) ?_
        refine lv_iload_n hx hb dX10_number_88 rfl (lv_at hl 2 rfl) ?_
        refine lv_i2l (v := a2.toInt64) hx hb dX10_number_89 rfl ?_
        refine W.lcmp hx hb dX10_number_90 ?_
        refine lv_if_le (tgt := 99) hx hb dX10_number_91 (by decide) (fun q9 => ?_) (fun q9 => ?_)
        · have hF := kp hF q9
          refine lv_aload_n hx hb dX10_number_99 rfl (lv_at hl 0 rfl) ?_
          refine lv_iload hx hb dX10_number_100 (lv_at hl 4 rfl) ?_
          refine va_put (D := eD E) (ci := 8) (v := .int v5) (ty := .int) (C := RX10) (T := TX10) (N := 18) hx hb hw inX10 tyX10 tyX10_ok nmX10 hown hK hP hD hS 0 rfl rfl 11 (by decide) (hw _ mw_892) (fun _ h9 => h9) rfl (by decide +kernel) rfl rfl (Nat.le_of_ble_eq_true rfl) dX10_number_102 (fun H locs hP hD hS => ?_)
          have hP : va_P (eD E) vwCl (w_M_number E h_t h_t_tape x_t_s x_t_kept x_t_before x_t_findings x_t_shown x_t_worths x_t_steps x_t_bits x_t_longs x_t_cells x_t_between c_t_isKept c_t_most c_t_taped v5 c_t_fault c_t_value c_t_tape) H := hP
          have hD : va_D A (w_M_number E h_t h_t_tape x_t_s x_t_kept x_t_before x_t_findings x_t_shown x_t_worths x_t_steps x_t_bits x_t_longs x_t_cells x_t_between c_t_isKept c_t_most c_t_taped v5 c_t_fault c_t_value c_t_tape) := hD
          refine lv_aload_n hx hb dX10_number_105 rfl (lv_at hl 0 rfl) ?_
          refine lv_lload_n hx hb dX10_number_106 rfl (lv_at hl 3 rfl) ?_
          refine lv_l2i (v := v3.toInt32) hx hb dX10_number_107 rfl ?_
          refine va_put (D := eD E) (ci := 8) (v := .int v3.toInt32) (ty := .int) (C := RX10) (T := TX10) (N := 18) hx hb hw inX10 tyX10 tyX10_ok nmX10 hown hK hP hD hS 0 rfl rfl 13 (by decide) (hw _ mw_894) (fun _ h9 => h9) rfl (by decide +kernel) rfl rfl (Nat.le_of_ble_eq_true rfl) dX10_number_108 (fun H locs hP hD hS => ?_)
          have hP : va_P (eD E) vwCl (w_M_number E h_t h_t_tape x_t_s x_t_kept x_t_before x_t_findings x_t_shown x_t_worths x_t_steps x_t_bits x_t_longs x_t_cells x_t_between c_t_isKept c_t_most c_t_taped v5 c_t_fault v3.toInt32 c_t_tape) H := hP
          have hD : va_D A (w_M_number E h_t h_t_tape x_t_s x_t_kept x_t_before x_t_findings x_t_shown x_t_worths x_t_steps x_t_bits x_t_longs x_t_cells x_t_between c_t_isKept c_t_most c_t_taped v5 c_t_fault v3.toInt32 c_t_tape) := hD
          refine lv_iconst (v := (1 : Int32)) hx hb dX10_number_111 (by decide) ?_
          obtain rfl := Option.some.inj hF
          exact W.zret (ty := .boolean) hx hb hr rfl (fun t ht hW => ⟨⟨rfl, by rw [ht]; exact hP, hD⟩, hS.F ht⟩) hS.2.2 dX10_number_112
        · have hF := kn hF q9
          exact wk_M_number_b94 E h_t h_t_tape x_t_s x_t_kept x_t_before x_t_findings x_t_shown x_t_worths x_t_steps x_t_bits x_t_longs x_t_cells x_t_between c_t_isKept c_t_most c_t_taped c_t_tape a1 a2 C hA  hK hT  c_t_here c_t_fault c_t_value hF _ _ hP hD hS _ (lv_sub hl [0] rfl)
    · have hF := kn hF q7
      refine lv_ldc2 (v := (99999 : Int64)) hx hb hown (hw _ mw_1258) dX10_number_50 ?_
      refine lv_ldc2 (v := (10 : Int64)) hx hb hown (hw _ mw_1259) dX10_number_53 ?_
      refine lv_lload_n hx hb dX10_number_56 rfl (lv_at hl 3 rfl) ?_
      refine lv_lmul hx hb dX10_number_57 ?_
      refine lv_aload_n hx hb dX10_number_58 rfl (lv_at hl 0 rfl) ?_
      refine lv_iload hx hb dX10_number_59 (lv_at hl 4 rfl) ?_
      obtain ⟨r10, er10, hF⟩ := kb hF
      refine kRV (rest := [.long ((10 : Int64) * v3), .long (99999 : Int64)]) C (k_M_byteAt l E h_t h_t_tape x_t_s x_t_kept x_t_before x_t_findings x_t_shown x_t_worths x_t_steps x_t_bits x_t_longs x_t_cells x_t_between c_t_isKept c_t_most c_t_taped c_t_here c_t_fault c_t_value c_t_tape v5 r10 er10) fn_M_byteAt mw_1220 ⟨Nat.le_of_ble_eq_true rfl, Nat.le_of_ble_eq_true rfl⟩ hK hT hS (va_recv hK hP (ci := 8) (q0 := 0) rfl rfl) hP [0, 1] rfl rfl rfl hl (Nat.le_of_ble_eq_true rfl) dX10_number_61 ?_
      refine lv_i2l (v := r10.toInt64) hx hb dX10_number_64 rfl ?_
      refine lv_ladd hx hb dX10_number_65 ?_
      refine lv_ldc2 (v := (48 : Int64)) hx hb hown (hw _ mw_1260) dX10_number_66 ?_
      refine lv_lsub hx hb dX10_number_69 ?_
      refine va_mmin_long hx hb (hml.trans hl.1.symm) hown (hw _ mw_1261) (hw _ mw_1262) (hw _ mw_49) (hw _ mw_1263) (Nat.le_of_ble_eq_true rfl) (Nat.le_of_ble_eq_true rfl) (Nat.zero_le _) (Nat.zero_le _) dX10_number_70 ?_
      refine lv_topl (fun x11 ex11 => ?_)
      have hF := kl_at hF ex11
      refine lv_lstore_n (lv' := [(3, .long x11), (0, .ref h_t), (1, .int a1), (2, .int a2), (5, .int v5)]) hx hb dX10_number_73 rfl hl (by decide) rfl (fun ls hl => ?_)
      refine lv_iinc (v := (v5 + (1))) (lv' := [(5, .int (v5 + (1))), (3, .long x11), (0, .ref h_t), (1, .int a1), (2, .int a2)]) hx hb dX10_number_74 hl (k := 4) rfl rfl (by decide) rfl (fun ls hl => ?_)
      refine lv_goto (tgt := 38) hx hb dX10_number_77 (by decide) ?_
      exact ih c_t_here c_t_fault c_t_value x11 (v5 + (1)) hF _ _ hP hD hS _ (lv_sub hl [2, 3, 4, 1, 0] rfl)
set_option maxHeartbeats 4000000 in
set_option maxRecDepth 100000 in
theorem k_M_number (l : Launch) (E : kE) (h_t : Nat) (h_t_tape : Nat) (x_t_s : Nat) (x_t_kept : Nat) (x_t_before : Nat) (x_t_findings : Nat) (x_t_shown : Nat) (x_t_worths : Nat) (x_t_steps : Nat) (x_t_bits : Nat) (x_t_longs : Nat) (x_t_cells : Nat) (x_t_between : Nat) (sz : Nat) (c_t_isKept : Int32) (c_t_most : Int32) (c_t_taped : Int32) (c_t_here : Int32) (c_t_fault : Int32) (c_t_value : Int32) (c_t_tape : (Nat → Int32)) (a1 : Int32) (a2 : Int32) (out : Int32 × Int32 × Int32 × Int32) (hF : f_M_number c_t_taped c_t_here c_t_fault c_t_value c_t_tape a1 a2 = some out) : Met l yX10_number (Cond.code yX10_number cX10_number 6 (some .boolean) :: wG) (rm 3) (pW E (w_M_number E h_t h_t_tape x_t_s x_t_kept x_t_before x_t_findings x_t_shown x_t_worths x_t_steps x_t_bits x_t_longs x_t_cells x_t_between c_t_isKept c_t_most c_t_taped c_t_here c_t_fault c_t_value c_t_tape) sz [.ref h_t, .int a1, .int a2]) (qW (some (.int out.1)) E (w_M_number E h_t h_t_tape x_t_s x_t_kept x_t_before x_t_findings x_t_shown x_t_worths x_t_steps x_t_bits x_t_longs x_t_cells x_t_between c_t_isKept c_t_most c_t_taped out.2.1 out.2.2.1 out.2.2.2 c_t_tape) (va_A (w_M_number E h_t h_t_tape x_t_s x_t_kept x_t_before x_t_findings x_t_shown x_t_worths x_t_steps x_t_bits x_t_longs x_t_cells x_t_between c_t_isKept c_t_most c_t_taped c_t_here c_t_fault c_t_value c_t_tape) sz)) 0 0 (va_A (w_M_number E h_t h_t_tape x_t_s x_t_kept x_t_before x_t_findings x_t_shown x_t_worths x_t_steps x_t_bits x_t_longs x_t_cells x_t_between c_t_isKept c_t_most c_t_taped c_t_here c_t_fault c_t_value c_t_tape) sz) := by
  refine met_W (by decide) (Nat.le_of_ble_eq_true rfl) ?_
  intro p e s m args below meth c A ls C hP hD hS hA hK hT hl
  obtain ⟨hx, hb, hr, hml, hown, hw, hlocks⟩ := id C
  have hl : lv_has ls 6 [(0, .ref h_t), (1, .int a1), (2, .int a2)] := hl
  rw [f_M_number] at hF
  refine lv_aload_n hx hb dX10_number_0 rfl (lv_at hl 0 rfl) ?_
  obtain ⟨r12, er12, hF⟩ := kb hF
  refine kWV (rest := []) (Wr := []) (Wn := (w_M_number E h_t h_t_tape x_t_s x_t_kept x_t_before x_t_findings x_t_shown x_t_worths x_t_steps x_t_bits x_t_longs x_t_cells x_t_between c_t_isKept c_t_most c_t_taped r12 c_t_fault c_t_value c_t_tape)) C (k_M_blanks l E h_t h_t_tape x_t_s x_t_kept x_t_before x_t_findings x_t_shown x_t_worths x_t_steps x_t_bits x_t_longs x_t_cells x_t_between s.heap.size c_t_isKept c_t_most c_t_taped c_t_here c_t_fault c_t_value c_t_tape r12 er12) fn_M_blanks mw_1216 ⟨Nat.le_of_ble_eq_true rfl, Nat.le_of_ble_eq_true rfl⟩ hK hT hS hA (va_recv hK hP (ci := 8) (q0 := 0) rfl rfl) hP hD [0, 1] rfl (by decide) [] rfl (by decide) (by decide) [0, 1] rfl (by decide) rfl rfl hl (Nat.le_of_ble_eq_true rfl) dX10_number_1 (fun H locs hP hD hS => ?_)
  refine W.eq (g2 := F0 m 4 ls []) rfl ?_
  refine lv_aload_n hx hb dX10_number_4 rfl (lv_at hl 0 rfl) ?_
  refine va_get (D := eD E) (ci := 8) (C := RX10) (T := TX10) (N := 18) (v := .int c_t_fault) hx hb hw inX10 hown hK hP 0 rfl rfl 12 (by decide) (hw _ mw_893) (fun _ h9 => h9) rfl dX10_number_5 ?_
  refine lv_if_ge (tgt := 25) hx hb dX10_number_8 (by decide) (fun q13 => ?_) (fun q13 => ?_)
  · have hF := kp hF q13
    exact wk_M_number_b25 E h_t h_t_tape x_t_s x_t_kept x_t_before x_t_findings x_t_shown x_t_worths x_t_steps x_t_bits x_t_longs x_t_cells x_t_between c_t_isKept c_t_most c_t_taped c_t_tape a1 a2 C hA  hK hT  r12 c_t_fault c_t_value hF _ _ hP hD hS _ (lv_sub hl [0] rfl)
  · have hF := kn hF q13
    refine lv_aload_n hx hb dX10_number_11 rfl (lv_at hl 0 rfl) ?_
    refine lv_aload_n hx hb dX10_number_12 rfl (lv_at hl 0 rfl) ?_
    refine va_get (D := eD E) (ci := 8) (C := RX10) (T := TX10) (N := 18) (v := .int r12) hx hb hw inX10 hown hK hP 0 rfl rfl 11 (by decide) (hw _ mw_892) (fun _ h9 => h9) rfl dX10_number_13 ?_
    obtain ⟨r14, er14, hF⟩ := kb hF
    refine kRV (rest := []) C (k_M_byteAt l E h_t h_t_tape x_t_s x_t_kept x_t_before x_t_findings x_t_shown x_t_worths x_t_steps x_t_bits x_t_longs x_t_cells x_t_between c_t_isKept c_t_most c_t_taped r12 c_t_fault c_t_value c_t_tape r12 r14 er14) fn_M_byteAt mw_1220 ⟨Nat.le_of_ble_eq_true rfl, Nat.le_of_ble_eq_true rfl⟩ hK hT hS (va_recv hK hP (ci := 8) (q0 := 0) rfl rfl) hP [0, 1] rfl rfl rfl hl (Nat.le_of_ble_eq_true rfl) dX10_number_16 ?_
    obtain ⟨r15, er15, hF⟩ := kb hF
    refine kRS (rest := []) C (k_M_isDigit l E r14 r15 er15) fn_M_isDigit mw_1255 ⟨Nat.le_of_ble_eq_true rfl, Nat.le_of_ble_eq_true rfl⟩ hK hT hS hP [] rfl rfl rfl hl (Nat.le_of_ble_eq_true rfl) dX10_number_19 ?_
    refine lv_if_ne (tgt := 30) hx hb dX10_number_22 (by decide) (fun q16 => ?_) (fun q16 => ?_)
    · have hF := kn hF q16
      refine lv_lconst (v := (0 : Int64)) hx hb dX10_number_30 (by decide) ?_
      refine lv_lstore_n (lv' := [(3, .long (0 : Int64)), (0, .ref h_t), (1, .int a1), (2, .int a2)]) hx hb dX10_number_31 rfl hl (by decide) rfl (fun ls hl => ?_)
      refine lv_aload_n hx hb dX10_number_32 rfl (lv_at hl 1 rfl) ?_
      refine va_get (D := eD E) (ci := 8) (C := RX10) (T := TX10) (N := 18) (v := .int r12) hx hb hw inX10 hown hK hP 0 rfl rfl 11 (by decide) (hw _ mw_892) (fun _ h9 => h9) rfl dX10_number_33 ?_
      refine lv_istore (lv' := [(5, .int r12), (3, .long (0 : Int64)), (0, .ref h_t), (1, .int a1), (2, .int a2)]) hx hb dX10_number_36 hl (by decide) rfl (fun ls hl => ?_)
      exact wk_M_number_b38 E h_t h_t_tape x_t_s x_t_kept x_t_before x_t_findings x_t_shown x_t_worths x_t_steps x_t_bits x_t_longs x_t_cells x_t_between c_t_isKept c_t_most c_t_taped c_t_tape a1 a2 C hA  hK hT  5000 r12 c_t_fault c_t_value (0 : Int64) r12 hF _ _ hP hD hS _ (lv_sub hl [2, 3, 4, 1, 0] rfl)
    · have hF := kp hF q16
      exact wk_M_number_b25 E h_t h_t_tape x_t_s x_t_kept x_t_before x_t_findings x_t_shown x_t_worths x_t_steps x_t_bits x_t_longs x_t_cells x_t_between c_t_isKept c_t_most c_t_taped c_t_tape a1 a2 C hA  hK hT  r12 c_t_fault c_t_value hF _ _ hP hD hS _ (lv_sub hl [0] rfl)
abbrev w_M_kindName (E : kE)    : va_W := []
set_option maxHeartbeats 4000000 in
set_option maxRecDepth 100000 in
theorem k_M_kindName (l : Launch) (E : kE)    (a0 : Int32) (out : Nat) (hF : f_M_kindName  a0 = some out) : Met l yX10_kindName (Cond.code yX10_kindName cX10_kindName 1 (some (.object "java/lang/String")) :: wG) (rm 1) (pR E (w_M_kindName E ) [.int a0]) (qR (.ref (eK E out))) 0 0 (fun _ => False) := by
  refine met_R (by decide) (Nat.le_of_ble_eq_true rfl) ?_
  intro p e s m args below meth c ls C hP hK hT hl
  obtain ⟨hx, hb, hr, hml, hown, hw, hlocks⟩ := id C
  have hS : va_S (fun _ => False) s.heap s.heap [] := va_S.rf
  have hl : lv_has ls 1 [(0, .int a0)] := hl
  rw [f_M_kindName] at hF
  refine lv_iload_n hx hb dX10_kindName_0 rfl (lv_at hl 0 rfl) ?_
  by_cases q1_0 : a0 = (0 : Int32)
  · have hF := kp hF q1_0
    refine lv_tableIn (tgt := 36) (off := 35) hx hb dX10_kindName_1 (sw_in (lo := 0) (hi := 4) q1_0 (by decide)).1 (sw_in (lo := 0) (hi := 4) q1_0 (by decide)).2 (sw_at q1_0 rfl) (by decide) ?_
    refine va_ldcS (own := RX10) hx hb hown (sR_12 hT) dX10_kindName_36 ?_
    obtain rfl := Option.some.inj hF
    exact W.aret hx hb hr (Or.inl ⟨_, rfl⟩) (Or.inr ⟨_, rfl⟩) (fun t ht hW => ⟨rfl, ht⟩) nofun dX10_kindName_38
  have hF := kn hF q1_0
  by_cases q1_1 : a0 = (1 : Int32)
  · have hF := kp hF q1_1
    refine lv_tableIn (tgt := 39) (off := 38) hx hb dX10_kindName_1 (sw_in (lo := 0) (hi := 4) q1_1 (by decide)).1 (sw_in (lo := 0) (hi := 4) q1_1 (by decide)).2 (sw_at q1_1 rfl) (by decide) ?_
    refine va_ldcS (own := RX10) hx hb hown (sR_13 hT) dX10_kindName_39 ?_
    obtain rfl := Option.some.inj hF
    exact W.aret hx hb hr (Or.inl ⟨_, rfl⟩) (Or.inr ⟨_, rfl⟩) (fun t ht hW => ⟨rfl, ht⟩) nofun dX10_kindName_41
  have hF := kn hF q1_1
  by_cases q1_2 : a0 = (2 : Int32)
  · have hF := kp hF q1_2
    refine lv_tableIn (tgt := 42) (off := 41) hx hb dX10_kindName_1 (sw_in (lo := 0) (hi := 4) q1_2 (by decide)).1 (sw_in (lo := 0) (hi := 4) q1_2 (by decide)).2 (sw_at q1_2 rfl) (by decide) ?_
    refine va_ldcS (own := RX10) hx hb hown (sR_14 hT) dX10_kindName_42 ?_
    obtain rfl := Option.some.inj hF
    exact W.aret hx hb hr (Or.inl ⟨_, rfl⟩) (Or.inr ⟨_, rfl⟩) (fun t ht hW => ⟨rfl, ht⟩) nofun dX10_kindName_44
  have hF := kn hF q1_2
  by_cases q1_3 : a0 = (3 : Int32)
  · have hF := kp hF q1_3
    refine lv_tableIn (tgt := 45) (off := 44) hx hb dX10_kindName_1 (sw_in (lo := 0) (hi := 4) q1_3 (by decide)).1 (sw_in (lo := 0) (hi := 4) q1_3 (by decide)).2 (sw_at q1_3 rfl) (by decide) ?_
    refine va_ldcS (own := RX10) hx hb hown (sR_15 hT) dX10_kindName_45 ?_
    obtain rfl := Option.some.inj hF
    exact W.aret hx hb hr (Or.inl ⟨_, rfl⟩) (Or.inr ⟨_, rfl⟩) (fun t ht hW => ⟨rfl, ht⟩) nofun dX10_kindName_47
  have hF := kn hF q1_3
  by_cases q1_4 : a0 = (4 : Int32)
  · have hF := kp hF q1_4
    refine lv_tableIn (tgt := 48) (off := 47) hx hb dX10_kindName_1 (sw_in (lo := 0) (hi := 4) q1_4 (by decide)).1 (sw_in (lo := 0) (hi := 4) q1_4 (by decide)).2 (sw_at q1_4 rfl) (by decide) ?_
    refine va_ldcS (own := RX10) hx hb hown (sR_16 hT) dX10_kindName_48 ?_
    obtain rfl := Option.some.inj hF
    exact W.aret hx hb hr (Or.inl ⟨_, rfl⟩) (Or.inr ⟨_, rfl⟩) (fun t ht hW => ⟨rfl, ht⟩) nofun dX10_kindName_50
  have hF := kn hF q1_4
  refine lv_tableOut (tgt := 51) hx hb dX10_kindName_1 (by have z0 := lv_neT q1_0 (a := 0) (by decide); have z1 := lv_neT q1_1 (a := 1) (by decide); have z2 := lv_neT q1_2 (a := 2) (by decide); have z3 := lv_neT q1_3 (a := 3) (by decide); have z4 := lv_neT q1_4 (a := 4) (by decide); omega) (by decide) ?_
  refine va_ldcS (own := RX10) hx hb hown (sR_17 hT) dX10_kindName_51 ?_
  obtain rfl := Option.some.inj hF
  exact W.aret hx hb hr (Or.inl ⟨_, rfl⟩) (Or.inr ⟨_, rfl⟩) (fun t ht hW => ⟨rfl, ht⟩) nofun dX10_kindName_53
abbrev w_M_letterTold (E : kE) (h_t : Nat) (h_t_s : Nat) (h_t_tape : Nat) (x_t_kept : Nat) (x_t_before : Nat) (x_t_findings : Nat) (x_t_shown : Nat) (x_t_worths : Nat) (x_t_steps : Nat) (x_t_bits : Nat) (x_t_longs : Nat) (x_t_cells : Nat) (x_t_between : Nat) (c_t_isKept : Int32) (c_t_most : Int32) (c_t_taped : Int32) (c_t_here : Int32) (c_t_fault : Int32) (c_t_value : Int32) (c_t_s : (Nat → Int32)) (c_t_tape : (Nat → Int32)) : va_W := [(h_t, .inr (8, [.ref h_t_s, .ref x_t_kept, .ref x_t_before, .int c_t_isKept, .ref x_t_findings, .ref x_t_shown, .int c_t_most, .ref x_t_worths, .ref x_t_steps, .ref h_t_tape, .int c_t_taped, .int c_t_here, .int c_t_fault, .int c_t_value, .ref x_t_bits, .ref x_t_longs, .ref x_t_cells, .ref x_t_between])), (h_t_s, .inl (eI E, 65, .inl c_t_s)), (h_t_tape, .inl (eI E, 120, .inl c_t_tape))]
set_option maxHeartbeats 4000000 in
set_option maxRecDepth 100000 in
theorem wk_M_letterTold_b96 {p : Program} {l : Launch} {e : Env} {s : State} {m : MethodId} {args : Array Value} {below : List Frame} {meth : Method} {c : Code} {A : Nat → Prop} (E : kE) (h_t : Nat) (h_t_s : Nat) (h_t_tape : Nat) (x_t_kept : Nat) (x_t_before : Nat) (x_t_findings : Nat) (x_t_shown : Nat) (x_t_worths : Nat) (x_t_steps : Nat) (x_t_bits : Nat) (x_t_longs : Nat) (x_t_cells : Nat) (x_t_between : Nat) (c_t_isKept : Int32) (c_t_most : Int32) (c_t_taped : Int32) (c_t_tape : (Nat → Int32)) (a1 : Int32) {out : Int32 × Int32 × Int32 × Int32 × (Nat → Int32)} (C : kC RX10 cX10_letterTold 5 (some .boolean) p s m args meth c) (hA : ∀ q : Nat, s.heap.size ≤ q → A q) (hK : va_K (eD E) vwCl (eT E) s) (hT : sT E A s s.heap)  :
    ∀ (c_t_here : Int32) (c_t_fault : Int32) (c_t_value : Int32) (c_t_s : (Nat → Int32)) (v3 : Int32) (v4 : Int32), f_M_letterTold_b96  c_t_taped c_t_tape a1 c_t_here c_t_fault c_t_value c_t_s v3 v4 = some out → ∀ (H : Heap) (locs : List Loc), va_P (eD E) vwCl (w_M_letterTold E h_t h_t_s h_t_tape x_t_kept x_t_before x_t_findings x_t_shown x_t_worths x_t_steps x_t_bits x_t_longs x_t_cells x_t_between c_t_isKept c_t_most c_t_taped c_t_here c_t_fault c_t_value c_t_s c_t_tape) H → va_D A (w_M_letterTold E h_t h_t_s h_t_tape x_t_kept x_t_before x_t_findings x_t_shown x_t_worths x_t_steps x_t_bits x_t_longs x_t_cells x_t_between c_t_isKept c_t_most c_t_taped c_t_here c_t_fault c_t_value c_t_s c_t_tape) → va_S A s.heap H locs → ∀ (ls : Array Slot), lv_has ls 5 [(0, .ref h_t), (1, .int a1), (3, .int v3), (4, .int v4)] → W p l e (rm 9) s m args below meth c H locs 0 0 (MQ below (qW (some (.int out.1)) E (w_M_letterTold E h_t h_t_s h_t_tape x_t_kept x_t_before x_t_findings x_t_shown x_t_worths x_t_steps x_t_bits x_t_longs x_t_cells x_t_between c_t_isKept c_t_most c_t_taped out.2.1 out.2.2.1 out.2.2.2.1 out.2.2.2.2 c_t_tape) A) args s 0 0 A) (F0 m 96 ls []) := by
  obtain ⟨hx, hb, hr, hml, hown, hw, hlocks⟩ := id C
  intro c_t_here c_t_fault c_t_value c_t_s v3 v4 hF H locs hP hD hS ls hl
  rw [f_M_letterTold_b96] at hF
  refine lv_aload_n hx hb dX10_letterTold_96 rfl (lv_at hl 0 rfl) ?_
  refine lv_iload_n hx hb dX10_letterTold_97 rfl (lv_at hl 1 rfl) ?_
  refine lv_iload_n hx hb dX10_letterTold_98 rfl (lv_at hl 2 rfl) ?_
  refine lv_iload hx hb dX10_letterTold_99 (lv_at hl 3 rfl) ?_
  obtain ⟨r1, er1, hF⟩ := kb hF
  refine kWV (rest := []) (Wr := [(h_t_tape, .inl (eI E, 120, .inl c_t_tape))]) (Wn := (w_M_letterTold E h_t h_t_s h_t_tape x_t_kept x_t_before x_t_findings x_t_shown x_t_worths x_t_steps x_t_bits x_t_longs x_t_cells x_t_between c_t_isKept c_t_most c_t_taped c_t_here c_t_fault c_t_value r1 c_t_tape)) C (k_M_adds l E h_t h_t_s x_t_kept x_t_before x_t_findings x_t_shown x_t_worths x_t_steps h_t_tape x_t_bits x_t_longs x_t_cells x_t_between H.size c_t_isKept c_t_most c_t_taped c_t_here c_t_fault c_t_value c_t_s a1 v3 v4 r1 er1) fn_M_adds mw_1080 ⟨Nat.le_of_ble_eq_true rfl, Nat.le_of_ble_eq_true rfl⟩ hK hT hS hA (va_recv hK hP (ci := 8) (q0 := 0) rfl rfl) hP hD [0, 1] rfl (by decide) [2] rfl (by decide) (by decide) [1, 2, 0] rfl (by decide) rfl rfl hl (Nat.le_of_ble_eq_true rfl) dX10_letterTold_101 (fun H locs hP hD hS => ?_)
  refine W.eq (g2 := F0 m 104 ls []) rfl ?_
  refine lv_iconst (v := (1 : Int32)) hx hb dX10_letterTold_104 (by decide) ?_
  obtain rfl := Option.some.inj hF
  exact W.zret (ty := .boolean) hx hb hr rfl (fun t ht hW => ⟨⟨rfl, by rw [ht]; exact hP, hD⟩, hS.F ht⟩) hS.2.2 dX10_letterTold_105
set_option maxHeartbeats 4000000 in
set_option maxRecDepth 100000 in
theorem wk_M_letterTold_b64 {p : Program} {l : Launch} {e : Env} {s : State} {m : MethodId} {args : Array Value} {below : List Frame} {meth : Method} {c : Code} {A : Nat → Prop} (E : kE) (h_t : Nat) (h_t_s : Nat) (h_t_tape : Nat) (x_t_kept : Nat) (x_t_before : Nat) (x_t_findings : Nat) (x_t_shown : Nat) (x_t_worths : Nat) (x_t_steps : Nat) (x_t_bits : Nat) (x_t_longs : Nat) (x_t_cells : Nat) (x_t_between : Nat) (c_t_isKept : Int32) (c_t_most : Int32) (c_t_taped : Int32) (c_t_tape : (Nat → Int32)) (a1 : Int32) {out : Int32 × Int32 × Int32 × Int32 × (Nat → Int32)} (C : kC RX10 cX10_letterTold 5 (some .boolean) p s m args meth c) (hA : ∀ q : Nat, s.heap.size ≤ q → A q) (hK : va_K (eD E) vwCl (eT E) s) (hT : sT E A s s.heap)  :
    ∀ (c_t_here : Int32) (c_t_fault : Int32) (c_t_value : Int32) (c_t_s : (Nat → Int32)) (s0 : Int32), f_M_letterTold_b64  c_t_taped c_t_tape a1 c_t_here c_t_fault c_t_value c_t_s s0 = some out → ∀ (H : Heap) (locs : List Loc), va_P (eD E) vwCl (w_M_letterTold E h_t h_t_s h_t_tape x_t_kept x_t_before x_t_findings x_t_shown x_t_worths x_t_steps x_t_bits x_t_longs x_t_cells x_t_between c_t_isKept c_t_most c_t_taped c_t_here c_t_fault c_t_value c_t_s c_t_tape) H → va_D A (w_M_letterTold E h_t h_t_s h_t_tape x_t_kept x_t_before x_t_findings x_t_shown x_t_worths x_t_steps x_t_bits x_t_longs x_t_cells x_t_between c_t_isKept c_t_most c_t_taped c_t_here c_t_fault c_t_value c_t_s c_t_tape) → va_S A s.heap H locs → ∀ (ls : Array Slot), lv_has ls 5 [(0, .ref h_t), (1, .int a1)] → W p l e (rm 9) s m args below meth c H locs 0 0 (MQ below (qW (some (.int out.1)) E (w_M_letterTold E h_t h_t_s h_t_tape x_t_kept x_t_before x_t_findings x_t_shown x_t_worths x_t_steps x_t_bits x_t_longs x_t_cells x_t_between c_t_isKept c_t_most c_t_taped out.2.1 out.2.2.1 out.2.2.2.1 out.2.2.2.2 c_t_tape) A) args s 0 0 A) (F0 m 64 ls [.int s0]) := by
  obtain ⟨hx, hb, hr, hml, hown, hw, hlocks⟩ := id C
  intro c_t_here c_t_fault c_t_value c_t_s s0 hF H locs hP hD hS ls hl
  rw [f_M_letterTold_b64] at hF
  refine lv_istore_n (lv' := [(3, .int s0), (0, .ref h_t), (1, .int a1)]) hx hb dX10_letterTold_64 rfl hl (by decide) rfl (fun ls hl => ?_)
  refine lv_bipush (v := (6 : Int32)) hx hb dX10_letterTold_65 (by decide) ?_
  refine lv_istore (lv' := [(4, .int (6 : Int32)), (3, .int s0), (0, .ref h_t), (1, .int a1)]) hx hb dX10_letterTold_67 hl (by decide) rfl (fun ls hl => ?_)
  refine lv_aload_n hx hb dX10_letterTold_69 rfl (lv_at hl 2 rfl) ?_
  refine va_ldcS (own := RX10) hx hb hown (sR_20 hT) dX10_letterTold_70 ?_
  obtain ⟨r2, er2, hF⟩ := kb hF
  refine kWV (rest := []) (Wr := [(h_t_s, .inl (eI E, 65, .inl c_t_s))]) (Wn := (w_M_letterTold E h_t h_t_s h_t_tape x_t_kept x_t_before x_t_findings x_t_shown x_t_worths x_t_steps x_t_bits x_t_longs x_t_cells x_t_between c_t_isKept c_t_most c_t_taped r2.2 c_t_fault c_t_value c_t_s c_t_tape)) C (k_M_may l E h_t h_t_tape h_t_s x_t_kept x_t_before x_t_findings x_t_shown x_t_worths x_t_steps x_t_bits x_t_longs x_t_cells x_t_between H.size c_t_isKept c_t_most c_t_taped c_t_here c_t_fault c_t_value c_t_tape 10 r2 er2) fn_M_may mw_1237 ⟨Nat.le_of_ble_eq_true rfl, Nat.le_of_ble_eq_true rfl⟩ hK hT hS hA (va_recv hK hP (ci := 8) (q0 := 0) rfl rfl) hP hD [0, 2] rfl (by decide) [1] rfl (by decide) (by decide) [1, 0, 2] rfl (by decide) rfl rfl hl (Nat.le_of_ble_eq_true rfl) dX10_letterTold_72 (fun H locs hP hD hS => ?_)
  refine W.eq (g2 := F0 m 75 ls [.int r2.1]) rfl ?_
  refine lv_if_eq (tgt := 96) hx hb dX10_letterTold_75 (by decide) (fun q3 => ?_) (fun q3 => ?_)
  · have hF := kp hF q3
    exact wk_M_letterTold_b96 E h_t h_t_s h_t_tape x_t_kept x_t_before x_t_findings x_t_shown x_t_worths x_t_steps x_t_bits x_t_longs x_t_cells x_t_between c_t_isKept c_t_most c_t_taped c_t_tape a1 C hA  hK hT  r2.2 c_t_fault c_t_value c_t_s s0 (6 : Int32) hF _ _ hP hD hS _ (lv_sub hl [2, 3, 1, 0] rfl)
  · have hF := kn hF q3
    refine lv_aload_n hx hb dX10_letterTold_78 rfl (lv_at hl 2 rfl) ?_
    refine lv_iconst (v := (0 : Int32)) hx hb dX10_letterTold_79 (by decide) ?_
    refine lv_bipush (v := (99 : Int32)) hx hb dX10_letterTold_80 (by decide) ?_
    obtain ⟨r4, er4, hF⟩ := kb hF
    refine kWV (rest := []) (Wr := [(h_t_s, .inl (eI E, 65, .inl c_t_s))]) (Wn := (w_M_letterTold E h_t h_t_s h_t_tape x_t_kept x_t_before x_t_findings x_t_shown x_t_worths x_t_steps x_t_bits x_t_longs x_t_cells x_t_between c_t_isKept c_t_most c_t_taped r4.2.1 r4.2.2.1 r4.2.2.2 c_t_s c_t_tape)) C (k_M_number l E h_t h_t_tape h_t_s x_t_kept x_t_before x_t_findings x_t_shown x_t_worths x_t_steps x_t_bits x_t_longs x_t_cells x_t_between H.size c_t_isKept c_t_most c_t_taped r2.2 c_t_fault c_t_value c_t_tape (0 : Int32) (99 : Int32) r4 er4) fn_M_number mw_1251 ⟨Nat.le_of_ble_eq_true rfl, Nat.le_of_ble_eq_true rfl⟩ hK hT hS hA (va_recv hK hP (ci := 8) (q0 := 0) rfl rfl) hP hD [0, 2] rfl (by decide) [1] rfl (by decide) (by decide) [1, 0, 2] rfl (by decide) rfl rfl hl (Nat.le_of_ble_eq_true rfl) dX10_letterTold_82 (fun H locs hP hD hS => ?_)
    refine W.eq (g2 := F0 m 85 ls [.int r4.1]) rfl ?_
    refine lv_if_ne (tgt := 90) hx hb dX10_letterTold_85 (by decide) (fun q5 => ?_) (fun q5 => ?_)
    · have hF := kn hF q5
      refine lv_aload_n hx hb dX10_letterTold_90 rfl (lv_at hl 2 rfl) ?_
      refine va_get (D := eD E) (ci := 8) (C := RX10) (T := TX10) (N := 18) (v := .int r4.2.2.2) hx hb hw inX10 hown hK hP 0 rfl rfl 13 (by decide) (hw _ mw_894) (fun _ h9 => h9) rfl dX10_letterTold_91 ?_
      refine lv_istore (lv' := [(4, .int r4.2.2.2), (3, .int s0), (0, .ref h_t), (1, .int a1)]) hx hb dX10_letterTold_94 hl (by decide) rfl (fun ls hl => ?_)
      exact wk_M_letterTold_b96 E h_t h_t_s h_t_tape x_t_kept x_t_before x_t_findings x_t_shown x_t_worths x_t_steps x_t_bits x_t_longs x_t_cells x_t_between c_t_isKept c_t_most c_t_taped c_t_tape a1 C hA  hK hT  r4.2.1 r4.2.2.1 r4.2.2.2 c_t_s s0 r4.2.2.2 hF _ _ hP hD hS _ (lv_sub hl [2, 3, 1, 0] rfl)
    · have hF := kp hF q5
      refine lv_iconst (v := (0 : Int32)) hx hb dX10_letterTold_88 (by decide) ?_
      obtain rfl := Option.some.inj hF
      exact W.zret (ty := .boolean) hx hb hr rfl (fun t ht hW => ⟨⟨rfl, by rw [ht]; exact hP, hD⟩, hS.F ht⟩) hS.2.2 dX10_letterTold_89
set_option maxHeartbeats 4000000 in
set_option maxRecDepth 100000 in
theorem wk_M_letterTold_b34 {p : Program} {l : Launch} {e : Env} {s : State} {m : MethodId} {args : Array Value} {below : List Frame} {meth : Method} {c : Code} {A : Nat → Prop} (E : kE) (h_t : Nat) (h_t_s : Nat) (h_t_tape : Nat) (x_t_kept : Nat) (x_t_before : Nat) (x_t_findings : Nat) (x_t_shown : Nat) (x_t_worths : Nat) (x_t_steps : Nat) (x_t_bits : Nat) (x_t_longs : Nat) (x_t_cells : Nat) (x_t_between : Nat) (c_t_isKept : Int32) (c_t_most : Int32) (c_t_taped : Int32) (c_t_tape : (Nat → Int32)) (a1 : Int32) {out : Int32 × Int32 × Int32 × Int32 × (Nat → Int32)} (C : kC RX10 cX10_letterTold 5 (some .boolean) p s m args meth c) (hA : ∀ q : Nat, s.heap.size ≤ q → A q) (hK : va_K (eD E) vwCl (eT E) s) (hT : sT E A s s.heap)  :
    ∀ (c_t_here : Int32) (c_t_fault : Int32) (c_t_value : Int32) (c_t_s : (Nat → Int32)) (v2 : Int32) (s0 : Int32) (s1 : Int32), f_M_letterTold_b34  c_t_taped c_t_tape a1 c_t_here c_t_fault c_t_value c_t_s v2 s0 s1 = some out → ∀ (H : Heap) (locs : List Loc), va_P (eD E) vwCl (w_M_letterTold E h_t h_t_s h_t_tape x_t_kept x_t_before x_t_findings x_t_shown x_t_worths x_t_steps x_t_bits x_t_longs x_t_cells x_t_between c_t_isKept c_t_most c_t_taped c_t_here c_t_fault c_t_value c_t_s c_t_tape) H → va_D A (w_M_letterTold E h_t h_t_s h_t_tape x_t_kept x_t_before x_t_findings x_t_shown x_t_worths x_t_steps x_t_bits x_t_longs x_t_cells x_t_between c_t_isKept c_t_most c_t_taped c_t_here c_t_fault c_t_value c_t_s c_t_tape) → va_S A s.heap H locs → ∀ (ls : Array Slot), lv_has ls 5 [(0, .ref h_t), (1, .int a1), (2, .int v2)] → W p l e (rm 9) s m args below meth c H locs 0 0 (MQ below (qW (some (.int out.1)) E (w_M_letterTold E h_t h_t_s h_t_tape x_t_kept x_t_before x_t_findings x_t_shown x_t_worths x_t_steps x_t_bits x_t_longs x_t_cells x_t_between c_t_isKept c_t_most c_t_taped out.2.1 out.2.2.1 out.2.2.2.1 out.2.2.2.2 c_t_tape) A) args s 0 0 A) (F0 m 34 ls [.int s0, .int s1, .ref h_t]) := by
  obtain ⟨hx, hb, hr, hml, hown, hw, hlocks⟩ := id C
  intro c_t_here c_t_fault c_t_value c_t_s v2 s0 s1 hF H locs hP hD hS ls hl
  rw [f_M_letterTold_b34] at hF
  obtain ⟨r6, er6, hF⟩ := kb hF
  refine kWV (rest := []) (Wr := [(h_t_s, .inl (eI E, 65, .inl c_t_s))]) (Wn := (w_M_letterTold E h_t h_t_s h_t_tape x_t_kept x_t_before x_t_findings x_t_shown x_t_worths x_t_steps x_t_bits x_t_longs x_t_cells x_t_between c_t_isKept c_t_most c_t_taped r6.2.1 r6.2.2.1 r6.2.2.2 c_t_s c_t_tape)) C (k_M_number l E h_t h_t_tape h_t_s x_t_kept x_t_before x_t_findings x_t_shown x_t_worths x_t_steps x_t_bits x_t_longs x_t_cells x_t_between H.size c_t_isKept c_t_most c_t_taped c_t_here c_t_fault c_t_value c_t_tape s1 s0 r6 er6) fn_M_number mw_1251 ⟨Nat.le_of_ble_eq_true rfl, Nat.le_of_ble_eq_true rfl⟩ hK hT hS hA (va_recv hK hP (ci := 8) (q0 := 0) rfl rfl) hP hD [0, 2] rfl (by decide) [1] rfl (by decide) (by decide) [1, 0, 2] rfl (by decide) rfl rfl hl (Nat.le_of_ble_eq_true rfl) dX10_letterTold_34 (fun H locs hP hD hS => ?_)
  refine W.eq (g2 := F0 m 37 ls [.int r6.1]) rfl ?_
  refine lv_if_ne (tgt := 42) hx hb dX10_letterTold_37 (by decide) (fun q7 => ?_) (fun q7 => ?_)
  · have hF := kn hF q7
    refine lv_iload_n hx hb dX10_letterTold_42 rfl (lv_at hl 2 rfl) ?_
    refine lv_if_eq (tgt := 53) hx hb dX10_letterTold_43 (by decide) (fun q8 => ?_) (fun q8 => ?_)
    · have hF := kp hF q8
      refine lv_aload_n hx hb dX10_letterTold_53 rfl (lv_at hl 0 rfl) ?_
      refine va_get (D := eD E) (ci := 8) (C := RX10) (T := TX10) (N := 18) (v := .ref h_t_s) hx hb hw inX10 hown hK hP 0 rfl rfl 0 (by decide) (hw _ mw_881) (fun _ h9 => h9) rfl dX10_letterTold_54 ?_
      refine lv_iconst (v := (3 : Int32)) hx hb dX10_letterTold_57 (by decide) ?_
      refine lv_aload_n hx hb dX10_letterTold_58 rfl (lv_at hl 0 rfl) ?_
      refine va_get (D := eD E) (ci := 8) (C := RX10) (T := TX10) (N := 18) (v := .int r6.2.2.2) hx hb hw inX10 hown hK hP 0 rfl rfl 13 (by decide) (hw _ mw_894) (fun _ h9 => h9) rfl dX10_letterTold_59 ?_
      refine lv_iadd hx hb dX10_letterTold_62 ?_
      obtain ⟨r9, er9, hF⟩ := kb hF
      refine wa_iald hx hb hK hP 1 0 rfl rfl er9 dX10_letterTold_63 ?_
      exact wk_M_letterTold_b64 E h_t h_t_s h_t_tape x_t_kept x_t_before x_t_findings x_t_shown x_t_worths x_t_steps x_t_bits x_t_longs x_t_cells x_t_between c_t_isKept c_t_most c_t_taped c_t_tape a1 C hA  hK hT  r6.2.1 r6.2.2.1 r6.2.2.2 c_t_s r9 hF _ _ hP hD hS _ (lv_sub hl [0, 1] rfl)
    · have hF := kn hF q8
      refine lv_aload_n hx hb dX10_letterTold_46 rfl (lv_at hl 0 rfl) ?_
      refine va_get (D := eD E) (ci := 8) (C := RX10) (T := TX10) (N := 18) (v := .int r6.2.2.2) hx hb hw inX10 hown hK hP 0 rfl rfl 13 (by decide) (hw _ mw_894) (fun _ h9 => h9) rfl dX10_letterTold_47 ?_
      refine lv_goto (tgt := 64) hx hb dX10_letterTold_50 (by decide) ?_
      exact wk_M_letterTold_b64 E h_t h_t_s h_t_tape x_t_kept x_t_before x_t_findings x_t_shown x_t_worths x_t_steps x_t_bits x_t_longs x_t_cells x_t_between c_t_isKept c_t_most c_t_taped c_t_tape a1 C hA  hK hT  r6.2.1 r6.2.2.1 r6.2.2.2 c_t_s r6.2.2.2 hF _ _ hP hD hS _ (lv_sub hl [0, 1] rfl)
  · have hF := kp hF q7
    refine lv_iconst (v := (0 : Int32)) hx hb dX10_letterTold_40 (by decide) ?_
    obtain rfl := Option.some.inj hF
    exact W.zret (ty := .boolean) hx hb hr rfl (fun t ht hW => ⟨⟨rfl, by rw [ht]; exact hP, hD⟩, hS.F ht⟩) hS.2.2 dX10_letterTold_41
set_option maxHeartbeats 4000000 in
set_option maxRecDepth 100000 in
theorem wk_M_letterTold_b20 {p : Program} {l : Launch} {e : Env} {s : State} {m : MethodId} {args : Array Value} {below : List Frame} {meth : Method} {c : Code} {A : Nat → Prop} (E : kE) (h_t : Nat) (h_t_s : Nat) (h_t_tape : Nat) (x_t_kept : Nat) (x_t_before : Nat) (x_t_findings : Nat) (x_t_shown : Nat) (x_t_worths : Nat) (x_t_steps : Nat) (x_t_bits : Nat) (x_t_longs : Nat) (x_t_cells : Nat) (x_t_between : Nat) (c_t_isKept : Int32) (c_t_most : Int32) (c_t_taped : Int32) (c_t_tape : (Nat → Int32)) (a1 : Int32) {out : Int32 × Int32 × Int32 × Int32 × (Nat → Int32)} (C : kC RX10 cX10_letterTold 5 (some .boolean) p s m args meth c) (hA : ∀ q : Nat, s.heap.size ≤ q → A q) (hK : va_K (eD E) vwCl (eT E) s) (hT : sT E A s s.heap)  :
    ∀ (c_t_here : Int32) (c_t_fault : Int32) (c_t_value : Int32) (c_t_s : (Nat → Int32)) (v2 : Int32), f_M_letterTold_b20  c_t_taped c_t_tape a1 c_t_here c_t_fault c_t_value c_t_s v2 = some out → ∀ (H : Heap) (locs : List Loc), va_P (eD E) vwCl (w_M_letterTold E h_t h_t_s h_t_tape x_t_kept x_t_before x_t_findings x_t_shown x_t_worths x_t_steps x_t_bits x_t_longs x_t_cells x_t_between c_t_isKept c_t_most c_t_taped c_t_here c_t_fault c_t_value c_t_s c_t_tape) H → va_D A (w_M_letterTold E h_t h_t_s h_t_tape x_t_kept x_t_before x_t_findings x_t_shown x_t_worths x_t_steps x_t_bits x_t_longs x_t_cells x_t_between c_t_isKept c_t_most c_t_taped c_t_here c_t_fault c_t_value c_t_s c_t_tape) → va_S A s.heap H locs → ∀ (ls : Array Slot), lv_has ls 5 [(0, .ref h_t), (1, .int a1), (2, .int v2)] → W p l e (rm 9) s m args below meth c H locs 0 0 (MQ below (qW (some (.int out.1)) E (w_M_letterTold E h_t h_t_s h_t_tape x_t_kept x_t_before x_t_findings x_t_shown x_t_worths x_t_steps x_t_bits x_t_longs x_t_cells x_t_between c_t_isKept c_t_most c_t_taped out.2.1 out.2.2.1 out.2.2.2.1 out.2.2.2.2 c_t_tape) A) args s 0 0 A) (F0 m 20 ls []) := by
  obtain ⟨hx, hb, hr, hml, hown, hw, hlocks⟩ := id C
  intro c_t_here c_t_fault c_t_value c_t_s v2 hF H locs hP hD hS ls hl
  rw [f_M_letterTold_b20] at hF
  refine lv_aload_n hx hb dX10_letterTold_20 rfl (lv_at hl 0 rfl) ?_
  refine lv_iconst (v := (0 : Int32)) hx hb dX10_letterTold_21 (by decide) ?_
  refine lv_iload_n hx hb dX10_letterTold_22 rfl (lv_at hl 2 rfl) ?_
  refine lv_if_eq (tgt := 32) hx hb dX10_letterTold_23 (by decide) (fun q10 => ?_) (fun q10 => ?_)
  · have hF := kp hF q10
    refine lv_bipush (v := (25 : Int32)) hx hb dX10_letterTold_32 (by decide) ?_
    exact wk_M_letterTold_b34 E h_t h_t_s h_t_tape x_t_kept x_t_before x_t_findings x_t_shown x_t_worths x_t_steps x_t_bits x_t_longs x_t_cells x_t_between c_t_isKept c_t_most c_t_taped c_t_tape a1 C hA  hK hT  c_t_here c_t_fault c_t_value c_t_s v2 (25 : Int32) (0 : Int32) hF _ _ hP hD hS _ (lv_sub hl [0, 1, 2] rfl)
  · have hF := kn hF q10
    refine lv_sipush (v := (4095 : Int32)) hx hb dX10_letterTold_26 (by decide) ?_
    refine lv_goto (tgt := 34) hx hb dX10_letterTold_29 (by decide) ?_
    exact wk_M_letterTold_b34 E h_t h_t_s h_t_tape x_t_kept x_t_before x_t_findings x_t_shown x_t_worths x_t_steps x_t_bits x_t_longs x_t_cells x_t_between c_t_isKept c_t_most c_t_taped c_t_tape a1 C hA  hK hT  c_t_here c_t_fault c_t_value c_t_s v2 (4095 : Int32) (0 : Int32) hF _ _ hP hD hS _ (lv_sub hl [0, 1, 2] rfl)
set_option maxHeartbeats 4000000 in
set_option maxRecDepth 100000 in
theorem k_M_letterTold (l : Launch) (E : kE) (h_t : Nat) (h_t_s : Nat) (h_t_tape : Nat) (x_t_kept : Nat) (x_t_before : Nat) (x_t_findings : Nat) (x_t_shown : Nat) (x_t_worths : Nat) (x_t_steps : Nat) (x_t_bits : Nat) (x_t_longs : Nat) (x_t_cells : Nat) (x_t_between : Nat) (sz : Nat) (c_t_isKept : Int32) (c_t_most : Int32) (c_t_taped : Int32) (c_t_here : Int32) (c_t_fault : Int32) (c_t_value : Int32) (c_t_s : (Nat → Int32)) (c_t_tape : (Nat → Int32)) (a1 : Int32) (out : Int32 × Int32 × Int32 × Int32 × (Nat → Int32)) (hF : f_M_letterTold c_t_taped c_t_here c_t_fault c_t_value c_t_s c_t_tape a1 = some out) : Met l yX10_letterTold (Cond.code yX10_letterTold cX10_letterTold 5 (some .boolean) :: wG) (rm 9) (pW E (w_M_letterTold E h_t h_t_s h_t_tape x_t_kept x_t_before x_t_findings x_t_shown x_t_worths x_t_steps x_t_bits x_t_longs x_t_cells x_t_between c_t_isKept c_t_most c_t_taped c_t_here c_t_fault c_t_value c_t_s c_t_tape) sz [.ref h_t, .int a1]) (qW (some (.int out.1)) E (w_M_letterTold E h_t h_t_s h_t_tape x_t_kept x_t_before x_t_findings x_t_shown x_t_worths x_t_steps x_t_bits x_t_longs x_t_cells x_t_between c_t_isKept c_t_most c_t_taped out.2.1 out.2.2.1 out.2.2.2.1 out.2.2.2.2 c_t_tape) (va_A (w_M_letterTold E h_t h_t_s h_t_tape x_t_kept x_t_before x_t_findings x_t_shown x_t_worths x_t_steps x_t_bits x_t_longs x_t_cells x_t_between c_t_isKept c_t_most c_t_taped c_t_here c_t_fault c_t_value c_t_s c_t_tape) sz)) 0 0 (va_A (w_M_letterTold E h_t h_t_s h_t_tape x_t_kept x_t_before x_t_findings x_t_shown x_t_worths x_t_steps x_t_bits x_t_longs x_t_cells x_t_between c_t_isKept c_t_most c_t_taped c_t_here c_t_fault c_t_value c_t_s c_t_tape) sz) := by
  refine met_W (by decide) (Nat.le_of_ble_eq_true rfl) ?_
  intro p e s m args below meth c A ls C hP hD hS hA hK hT hl
  obtain ⟨hx, hb, hr, hml, hown, hw, hlocks⟩ := id C
  have hl : lv_has ls 5 [(0, .ref h_t), (1, .int a1)] := hl
  rw [f_M_letterTold] at hF
  refine lv_aload_n hx hb dX10_letterTold_0 rfl (lv_at hl 0 rfl) ?_
  refine va_ldcS (own := RX10) hx hb hown (sR_18 hT) dX10_letterTold_1 ?_
  obtain ⟨r11, er11, hF⟩ := kb hF
  refine kWV (rest := []) (Wr := [(h_t_s, .inl (eI E, 65, .inl c_t_s))]) (Wn := (w_M_letterTold E h_t h_t_s h_t_tape x_t_kept x_t_before x_t_findings x_t_shown x_t_worths x_t_steps x_t_bits x_t_longs x_t_cells x_t_between c_t_isKept c_t_most c_t_taped r11.2 c_t_fault c_t_value c_t_s c_t_tape)) C (k_M_may l E h_t h_t_tape h_t_s x_t_kept x_t_before x_t_findings x_t_shown x_t_worths x_t_steps x_t_bits x_t_longs x_t_cells x_t_between s.heap.size c_t_isKept c_t_most c_t_taped c_t_here c_t_fault c_t_value c_t_tape 8 r11 er11) fn_M_may mw_1237 ⟨Nat.le_of_ble_eq_true rfl, Nat.le_of_ble_eq_true rfl⟩ hK hT hS hA (va_recv hK hP (ci := 8) (q0 := 0) rfl rfl) hP hD [0, 2] rfl (by decide) [1] rfl (by decide) (by decide) [1, 0, 2] rfl (by decide) rfl rfl hl (Nat.le_of_ble_eq_true rfl) dX10_letterTold_3 (fun H locs hP hD hS => ?_)
  refine W.eq (g2 := F0 m 6 ls [.int r11.1]) rfl ?_
  refine lv_istore_n (lv' := [(2, .int r11.1), (0, .ref h_t), (1, .int a1)]) hx hb dX10_letterTold_6 rfl hl (by decide) rfl (fun ls hl => ?_)
  refine lv_iload_n hx hb dX10_letterTold_7 rfl (lv_at hl 0 rfl) ?_
  refine lv_if_ne (tgt := 20) hx hb dX10_letterTold_8 (by decide) (fun q12 => ?_) (fun q12 => ?_)
  · have hF := kn hF q12
    exact wk_M_letterTold_b20 E h_t h_t_s h_t_tape x_t_kept x_t_before x_t_findings x_t_shown x_t_worths x_t_steps x_t_bits x_t_longs x_t_cells x_t_between c_t_isKept c_t_most c_t_taped c_t_tape a1 C hA  hK hT  r11.2 c_t_fault c_t_value c_t_s r11.1 hF _ _ hP hD hS _ (lv_sub hl [1, 2, 0] rfl)
  · have hF := kp hF q12
    refine lv_aload_n hx hb dX10_letterTold_11 rfl (lv_at hl 1 rfl) ?_
    refine va_ldcS (own := RX10) hx hb hown (sR_19 hT) dX10_letterTold_12 ?_
    obtain ⟨r13, er13, hF⟩ := kb hF
    refine kWV (rest := []) (Wr := [(h_t_s, .inl (eI E, 65, .inl c_t_s))]) (Wn := (w_M_letterTold E h_t h_t_s h_t_tape x_t_kept x_t_before x_t_findings x_t_shown x_t_worths x_t_steps x_t_bits x_t_longs x_t_cells x_t_between c_t_isKept c_t_most c_t_taped r13.2.1 r13.2.2 c_t_value c_t_s c_t_tape)) C (k_M_must l E h_t h_t_tape h_t_s x_t_kept x_t_before x_t_findings x_t_shown x_t_worths x_t_steps x_t_bits x_t_longs x_t_cells x_t_between H.size c_t_isKept c_t_most c_t_taped r11.2 c_t_fault c_t_value c_t_tape 9 r13 er13) fn_M_must mw_1247 ⟨Nat.le_of_ble_eq_true rfl, Nat.le_of_ble_eq_true rfl⟩ hK hT hS hA (va_recv hK hP (ci := 8) (q0 := 0) rfl rfl) hP hD [0, 2] rfl (by decide) [1] rfl (by decide) (by decide) [1, 0, 2] rfl (by decide) rfl rfl hl (Nat.le_of_ble_eq_true rfl) dX10_letterTold_14 (fun H locs hP hD hS => ?_)
    refine W.eq (g2 := F0 m 17 ls [.int r13.1]) rfl ?_
    refine lv_if_eq (tgt := 40) hx hb dX10_letterTold_17 (by decide) (fun q14 => ?_) (fun q14 => ?_)
    · have hF := kp hF q14
      refine lv_iconst (v := (0 : Int32)) hx hb dX10_letterTold_40 (by decide) ?_
      obtain rfl := Option.some.inj hF
      exact W.zret (ty := .boolean) hx hb hr rfl (fun t ht hW => ⟨⟨rfl, by rw [ht]; exact hP, hD⟩, hS.F ht⟩) hS.2.2 dX10_letterTold_41
    · have hF := kn hF q14
      exact wk_M_letterTold_b20 E h_t h_t_s h_t_tape x_t_kept x_t_before x_t_findings x_t_shown x_t_worths x_t_steps x_t_bits x_t_longs x_t_cells x_t_between c_t_isKept c_t_most c_t_taped c_t_tape a1 C hA  hK hT  r13.2.1 r13.2.2 c_t_value c_t_s r11.1 hF _ _ hP hD hS _ (lv_sub hl [1, 2, 0] rfl)
