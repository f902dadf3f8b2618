abbrev w_M_in (E : kE)    : va_W := []
set_option maxHeartbeats 4000000 in
set_option maxRecDepth 100000 in
theorem k_M_in (l : Launch) (E : kE)    (a0 : Int32) (a1 : Int32) (a2 : Int32) (out : Int32) (hF : f_M_in  a0 a1 a2 = some out) : Met l yX10_in (Cond.code yX10_in cX10_in 3 (some .boolean) :: wG) (rm 1) (pR E (w_M_in E ) [.int a0, .int a1, .int a2]) (qR (.int out)) 0 0 (fun _ => False) := by
  refine met_R (by decide) (Nat.le_of_ble_eq_true rfl) ?_
  intro p e s m args below meth c ls C hP hK hT hl
  obtain ⟨hx, hb, hr, hml, hown, hw, hlocks⟩ := id C
  have hS : va_S (fun _ => False) s.heap s.heap [] := va_S.rf
  have hl : lv_has ls 3 [(0, .int a0), (1, .int a1), (2, .int a2)] := hl
  rw [f_M_in] at hF
  refine lv_iload_n hx hb dX10_in_0 rfl (lv_at hl 0 rfl) ?_
  refine lv_iload_n hx hb dX10_in_1 rfl (lv_at hl 1 rfl) ?_
  refine lv_icmp_lt (tgt := 14) hx hb dX10_in_2 (by decide) (fun q1 => ?_) (fun q1 => ?_)
  · have hF := kp hF q1
    refine lv_iconst (v := (0 : Int32)) hx hb dX10_in_14 (by decide) ?_
    obtain rfl := Option.some.inj hF
    exact W.zret (ty := .boolean) hx hb hr rfl (fun t ht hW => ⟨rfl, ht⟩) nofun dX10_in_15
  · have hF := kn hF q1
    refine lv_iload_n hx hb dX10_in_5 rfl (lv_at hl 0 rfl) ?_
    refine lv_iload_n hx hb dX10_in_6 rfl (lv_at hl 2 rfl) ?_
    refine lv_icmp_gt (tgt := 14) hx hb dX10_in_7 (by decide) (fun q2 => ?_) (fun q2 => ?_)
    · have hF := kp hF q2
      refine lv_iconst (v := (0 : Int32)) hx hb dX10_in_14 (by decide) ?_
      obtain rfl := Option.some.inj hF
      exact W.zret (ty := .boolean) hx hb hr rfl (fun t ht hW => ⟨rfl, ht⟩) nofun dX10_in_15
    · have hF := kn hF q2
      refine lv_iconst (v := (1 : Int32)) hx hb dX10_in_10 (by decide) ?_
      refine lv_goto (tgt := 15) hx hb dX10_in_11 (by decide) ?_
      obtain rfl := Option.some.inj hF
      exact W.zret (ty := .boolean) hx hb hr rfl (fun t ht hW => ⟨rfl, ht⟩) nofun dX10_in_15
abbrev w_M_no (E : kE) (h_t : Nat) (h_t_findings : Nat) (x_t_s : Nat) (x_t_kept : Nat) (x_t_before : Nat) (x_t_shown : Nat) (x_t_worths : Nat) (x_t_steps : Nat) (x_t_tape : Nat) (x_t_bits : Nat) (x_t_longs : Nat) (x_t_cells : Nat) (x_t_between : Nat) (c_t_isKept : Int32) (c_t_most : Int32) (c_t_taped : Int32) (c_t_here : Int32) (c_t_fault : Int32) (c_t_value : Int32) (c_t_findings : (Nat → Int32)) : va_W := [(h_t, .inr (8, [.ref x_t_s, .ref x_t_kept, .ref x_t_before, .int c_t_isKept, .ref h_t_findings, .ref x_t_shown, .int c_t_most, .ref x_t_worths, .ref x_t_steps, .ref x_t_tape, .int c_t_taped, .int c_t_here, .int c_t_fault, .int c_t_value, .ref x_t_bits, .ref x_t_longs, .ref x_t_cells, .ref x_t_between])), (h_t_findings, .inl (eI E, 7, .inl c_t_findings))]
set_option maxHeartbeats 4000000 in
set_option maxRecDepth 100000 in
theorem k_M_no (l : Launch) (E : kE) (h_t : Nat) (h_t_findings : Nat) (x_t_s : Nat) (x_t_kept : Nat) (x_t_before : Nat) (x_t_shown : Nat) (x_t_worths : Nat) (x_t_steps : Nat) (x_t_tape : Nat) (x_t_bits : Nat) (x_t_longs : Nat) (x_t_cells : Nat) (x_t_between : Nat) (sz : Nat) (c_t_isKept : Int32) (c_t_most : Int32) (c_t_taped : Int32) (c_t_here : Int32) (c_t_fault : Int32) (c_t_value : Int32) (c_t_findings : (Nat → Int32)) (a1 : Int32) (out : Int32 × (Nat → Int32)) (hF : f_M_no c_t_findings a1 = some out) : Met l yX10_no (Cond.code yX10_no cX10_no 2 (some .int) :: wG) (rm 1) (pW E (w_M_no E h_t h_t_findings x_t_s x_t_kept x_t_before x_t_shown x_t_worths x_t_steps x_t_tape x_t_bits x_t_longs x_t_cells x_t_between c_t_isKept c_t_most c_t_taped c_t_here c_t_fault c_t_value c_t_findings) sz [.ref h_t, .int a1]) (qW (some (.int out.1)) E (w_M_no E h_t h_t_findings x_t_s x_t_kept x_t_before x_t_shown x_t_worths x_t_steps x_t_tape x_t_bits x_t_longs x_t_cells x_t_between c_t_isKept c_t_most c_t_taped c_t_here c_t_fault c_t_value out.2) (va_A (w_M_no E h_t h_t_findings x_t_s x_t_kept x_t_before x_t_shown x_t_worths x_t_steps x_t_tape x_t_bits x_t_longs x_t_cells x_t_between c_t_isKept c_t_most c_t_taped c_t_here c_t_fault c_t_value c_t_findings) sz)) 0 0 (va_A (w_M_no E h_t h_t_findings x_t_s x_t_kept x_t_before x_t_shown x_t_worths x_t_steps x_t_tape x_t_bits x_t_longs x_t_cells x_t_between c_t_isKept c_t_most c_t_taped c_t_here c_t_fault c_t_value c_t_findings) sz) := by
  refine met_W (by decide) (Nat.le_of_ble_eq_true rfl) ?_
  intro p e s m args below meth c A ls C hP hD hS hA hK hT hl
  obtain ⟨hx, hb, hr, hml, hown, hw, hlocks⟩ := id C
  have hl : lv_has ls 2 [(0, .ref h_t), (1, .int a1)] := hl
  rw [f_M_no] at hF
  refine lv_aload_n hx hb dX10_no_0 rfl (lv_at hl 0 rfl) ?_
  refine va_get (D := eD E) (ci := 8) (C := RX10) (T := TX10) (N := 18) (v := .ref h_t_findings) hx hb hw inX10 hown hK hP 0 rfl rfl 4 (by decide) (hw _ mw_885) (fun _ h9 => h9) rfl dX10_no_1 ?_
  refine lv_iload_n hx hb dX10_no_4 rfl (lv_at hl 1 rfl) ?_
  refine lv_dup2_11 hx hb dX10_no_5 rfl rfl ?_
  obtain ⟨r1, er1, hF⟩ := kb hF
  refine wa_iald hx hb hK hP 1 0 rfl rfl er1 dX10_no_6 ?_
  refine lv_iconst (v := (1 : Int32)) hx hb dX10_no_7 (by decide) ?_
  refine lv_iadd hx hb dX10_no_8 ?_
  obtain ⟨r2, er2, hF⟩ := kb hF
  refine wa_iast hx hb hK hP hD hS 1 0 rfl rfl er2 dX10_no_9 (fun H locs hP hD hS => ?_)
  have hP : va_P (eD E) vwCl (w_M_no E h_t h_t_findings x_t_s x_t_kept x_t_before x_t_shown x_t_worths x_t_steps x_t_tape x_t_bits x_t_longs x_t_cells x_t_between c_t_isKept c_t_most c_t_taped c_t_here c_t_fault c_t_value r2) H := hP
  have hD : va_D A (w_M_no E h_t h_t_findings x_t_s x_t_kept x_t_before x_t_shown x_t_worths x_t_steps x_t_tape x_t_bits x_t_longs x_t_cells x_t_between c_t_isKept c_t_most c_t_taped c_t_here c_t_fault c_t_value r2) := hD
  refine lv_ldc (v := (-1000000001 : Int32)) hx hb hown (hw _ mw_968) dX10_no_10 ?_
  refine lv_iload_n hx hb dX10_no_12 rfl (lv_at hl 1 rfl) ?_
  refine lv_isub hx hb dX10_no_13 ?_
  obtain rfl := Option.some.inj hF
  exact W.iret hx hb hr (fun t ht hW => ⟨⟨rfl, by rw [ht]; exact hP, hD⟩, hS.F ht⟩) hS.2.2 dX10_no_14
abbrev w_M_lay (E : kE) (h_p0 : Nat) (h_p1 : Nat)  (c_p0 : (Nat → Int32)) (c_p1 : (Nat → Int32)) : va_W := [(h_p0, .inl (eI E, 65, .inl c_p0)), (h_p1, .inl (eI E, 65, .inl c_p1))]
set_option maxHeartbeats 4000000 in
set_option maxRecDepth 100000 in
theorem wk_M_lay_b2 {p : Program} {l : Launch} {e : Env} {s : State} {m : MethodId} {args : Array Value} {below : List Frame} {meth : Method} {c : Code} {A : Nat → Prop} (E : kE) (h_p0 : Nat) (h_p1 : Nat)  (c_p0 : (Nat → Int32))  {out : (Nat → Int32)} (C : kC RX10 cX10_lay 3 none p s m args meth c) (hA : ∀ q : Nat, s.heap.size ≤ q → A q) (hK : va_K (eD E) vwCl (eT E) s) (hT : sT E A s s.heap)  :
    ∀ (n : Nat), ∀ (c_p1 : (Nat → Int32)) (v2 : Int32), f_M_lay_b2  c_p0 n c_p1 v2 = some out → ∀ (H : Heap) (locs : List Loc), va_P (eD E) vwCl (w_M_lay E h_p0 h_p1 c_p0 c_p1) H → va_D A (w_M_lay E h_p0 h_p1 c_p0 c_p1) → va_S A s.heap H locs → ∀ (ls : Array Slot), lv_has ls 3 [(0, .ref h_p0), (1, .ref h_p1), (2, .int v2)] → W p l e (rm 1) s m args below meth c H locs 0 0 (MQ below (qW none E (w_M_lay E h_p0 h_p1 c_p0 out) A) args s 0 0 A) (F0 m 2 ls []) := by
  obtain ⟨hx, hb, hr, hml, hown, hw, hlocks⟩ := id C
  intro n
  induction n with
  | zero =>
    intro c_p1 v2 hF
    exact absurd (show (none : Option ((Nat → Int32))) = some out from hF) nofun
  | succ n ih =>
    intro c_p1 v2 hF H locs hP hD hS ls hl
    rw [f_M_lay_b2] at hF
    refine lv_iload_n hx hb dX10_lay_2 rfl (lv_at hl 2 rfl) ?_
    refine lv_bipush (v := (65 : Int32)) hx hb dX10_lay_3 (by decide) ?_
    refine lv_icmp_ge (tgt := 20) hx hb dX10_lay_5 (by decide) (fun q1 => ?_) (fun q1 => ?_)
    · have hF := kp hF q1
      obtain rfl := Option.some.inj hF
      exact W.vret hx hb hr (fun t ht hW => ⟨⟨rfl, by rw [ht]; exact hP, hD⟩, hS.F ht⟩) hS.2.2 dX10_lay_20
    · have hF := kn hF q1
      refine lv_aload_n hx hb dX10_lay_8 rfl (lv_at hl 1 rfl) ?_
      refine lv_iload_n hx hb dX10_lay_9 rfl (lv_at hl 2 rfl) ?_
      refine lv_aload_n hx hb dX10_lay_10 rfl (lv_at hl 0 rfl) ?_
      refine lv_iload_n hx hb dX10_lay_11 rfl (lv_at hl 2 rfl) ?_
      obtain ⟨r2, er2, hF⟩ := kb hF
      refine wa_iald hx hb hK hP 0 0 rfl rfl er2 dX10_lay_12 ?_
      obtain ⟨r3, er3, hF⟩ := kb hF
      refine wa_iast hx hb hK hP hD hS 1 0 rfl rfl er3 dX10_lay_13 (fun H locs hP hD hS => ?_)
      have hP : va_P (eD E) vwCl (w_M_lay E h_p0 h_p1 c_p0 r3) H := hP
      have hD : va_D A (w_M_lay E h_p0 h_p1 c_p0 r3) := hD
      refine lv_iinc (v := (v2 + (1))) (lv' := [(2, .int (v2 + (1))), (0, .ref h_p0), (1, .ref h_p1)]) hx hb dX10_lay_14 hl (k := 2) rfl rfl (by decide) rfl (fun ls hl => ?_)
      refine lv_goto (tgt := 2) hx hb dX10_lay_17 (by decide) ?_
      exact ih r3 (v2 + (1)) hF _ _ hP hD hS _ (lv_sub hl [1, 2, 0] rfl)
set_option maxHeartbeats 4000000 in
set_option maxRecDepth 100000 in
theorem k_M_lay (l : Launch) (E : kE) (h_p0 : Nat) (h_p1 : Nat)  (sz : Nat) (c_p0 : (Nat → Int32)) (c_p1 : (Nat → Int32))  (out : (Nat → Int32)) (hF : f_M_lay c_p0 c_p1  = some out) : Met l yX10_lay (Cond.code yX10_lay cX10_lay 3 none :: wG) (rm 1) (pW E (w_M_lay E h_p0 h_p1 c_p0 c_p1) sz [.ref h_p0, .ref h_p1]) (qW none E (w_M_lay E h_p0 h_p1 c_p0 out) (va_A (w_M_lay E h_p0 h_p1 c_p0 c_p1) sz)) 0 0 (va_A (w_M_lay E h_p0 h_p1 c_p0 c_p1) sz) := by
  refine met_W (by decide) (Nat.le_of_ble_eq_true rfl) ?_
  intro p e s m args below meth c A ls C hP hD hS hA hK hT hl
  obtain ⟨hx, hb, hr, hml, hown, hw, hlocks⟩ := id C
  have hl : lv_has ls 3 [(0, .ref h_p0), (1, .ref h_p1)] := hl
  rw [f_M_lay] at hF
  refine lv_iconst (v := (0 : Int32)) hx hb dX10_lay_0 (by decide) ?_
  refine lv_istore_n (lv' := [(2, .int (0 : Int32)), (0, .ref h_p0), (1, .ref h_p1)]) hx hb dX10_lay_1 rfl hl (by decide) rfl (fun ls hl => ?_)
  exact wk_M_lay_b2 E h_p0 h_p1 c_p0  C hA  hK hT  5000 c_p1 (0 : Int32) hF _ _ hP hD hS _ (lv_sub hl [1, 2, 0] rfl)
abbrev w_M_puts (E : kE) (h_t : Nat) (h_t_s : Nat) (x_t_kept : Nat) (x_t_before : Nat) (x_t_findings : Nat) (x_t_shown : Nat) (x_t_worths : Nat) (x_t_steps : Nat) (x_t_tape : Nat) (x_t_bits : Nat) (x_t_longs : Nat) (x_t_cells : Nat) (x_t_between : Nat) (c_t_isKept : Int32) (c_t_most : Int32) (c_t_taped : Int32) (c_t_here : Int32) (c_t_fault : Int32) (c_t_value : Int32) (c_t_s : (Nat → Int32)) : va_W := [(h_t, .inr (8, [.ref h_t_s, .ref x_t_kept, .ref x_t_before, .int c_t_isKept, .ref x_t_findings, .ref x_t_shown, .int c_t_most, .ref x_t_worths, .ref x_t_steps, .ref x_t_tape, .int c_t_taped, .int c_t_here, .int c_t_fault, .int c_t_value, .ref x_t_bits, .ref x_t_longs, .ref x_t_cells, .ref x_t_between])), (h_t_s, .inl (eI E, 65, .inl c_t_s))]
set_option maxHeartbeats 4000000 in
set_option maxRecDepth 100000 in
theorem k_M_puts (l : Launch) (E : kE) (h_t : Nat) (h_t_s : Nat) (x_t_kept : Nat) (x_t_before : Nat) (x_t_findings : Nat) (x_t_shown : Nat) (x_t_worths : Nat) (x_t_steps : Nat) (x_t_tape : Nat) (x_t_bits : Nat) (x_t_longs : Nat) (x_t_cells : Nat) (x_t_between : Nat) (sz : Nat) (c_t_isKept : Int32) (c_t_most : Int32) (c_t_taped : Int32) (c_t_here : Int32) (c_t_fault : Int32) (c_t_value : Int32) (c_t_s : (Nat → Int32)) (a1 : Int32) (a2 : Int32) (out : Int32 × (Nat → Int32)) (hF : f_M_puts c_t_s a1 a2 = some out) : Met l yX10_puts (Cond.code yX10_puts cX10_puts 4 (some .int) :: wG) (rm 1) (pW E (w_M_puts E h_t h_t_s x_t_kept x_t_before x_t_findings x_t_shown x_t_worths x_t_steps x_t_tape x_t_bits x_t_longs x_t_cells x_t_between c_t_isKept c_t_most c_t_taped c_t_here c_t_fault c_t_value c_t_s) sz [.ref h_t, .int a1, .int a2]) (qW (some (.int out.1)) E (w_M_puts E h_t h_t_s x_t_kept x_t_before x_t_findings x_t_shown x_t_worths x_t_steps x_t_tape x_t_bits x_t_longs x_t_cells x_t_between c_t_isKept c_t_most c_t_taped c_t_here c_t_fault c_t_value out.2) (va_A (w_M_puts E h_t h_t_s x_t_kept x_t_before x_t_findings x_t_shown x_t_worths x_t_steps x_t_tape x_t_bits x_t_longs x_t_cells x_t_between c_t_isKept c_t_most c_t_taped c_t_here c_t_fault c_t_value c_t_s) sz)) 0 0 (va_A (w_M_puts E h_t h_t_s x_t_kept x_t_before x_t_findings x_t_shown x_t_worths x_t_steps x_t_tape x_t_bits x_t_longs x_t_cells x_t_between c_t_isKept c_t_most c_t_taped c_t_here c_t_fault c_t_value c_t_s) sz) := by
  refine met_W (by decide) (Nat.le_of_ble_eq_true rfl) ?_
  intro p e s m args below meth c A ls C hP hD hS hA hK hT hl
  obtain ⟨hx, hb, hr, hml, hown, hw, hlocks⟩ := id C
  have hl : lv_has ls 4 [(0, .ref h_t), (1, .int a1), (2, .int a2)] := hl
  rw [f_M_puts] at hF
  refine lv_aload_n hx hb dX10_puts_0 rfl (lv_at hl 0 rfl) ?_
  refine va_get (D := eD E) (ci := 8) (C := RX10) (T := TX10) (N := 18) (v := .ref h_t_s) hx hb hw inX10 hown hK hP 0 rfl rfl 0 (by decide) (hw _ mw_881) (fun _ h9 => h9) rfl dX10_puts_1 ?_
  refine lv_iload_n hx hb dX10_puts_4 rfl (lv_at hl 1 rfl) ?_
  obtain ⟨r1, er1, hF⟩ := kb hF
  refine wa_iald hx hb hK hP 1 0 rfl rfl er1 dX10_puts_5 ?_
  refine lv_istore_n (lv' := [(3, .int r1), (0, .ref h_t), (1, .int a1), (2, .int a2)]) hx hb dX10_puts_6 rfl hl (by decide) rfl (fun ls hl => ?_)
  refine lv_aload_n hx hb dX10_puts_7 rfl (lv_at hl 1 rfl) ?_
  refine va_get (D := eD E) (ci := 8) (C := RX10) (T := TX10) (N := 18) (v := .ref h_t_s) hx hb hw inX10 hown hK hP 0 rfl rfl 0 (by decide) (hw _ mw_881) (fun _ h9 => h9) rfl dX10_puts_8 ?_
  refine lv_iload_n hx hb dX10_puts_11 rfl (lv_at hl 2 rfl) ?_
  refine lv_iload_n hx hb dX10_puts_12 rfl (lv_at hl 3 rfl) ?_
  obtain ⟨r2, er2, hF⟩ := kb hF
  refine wa_iast hx hb hK hP hD hS 1 0 rfl rfl er2 dX10_puts_13 (fun H locs hP hD hS => ?_)
  have hP : va_P (eD E) vwCl (w_M_puts E h_t h_t_s x_t_kept x_t_before x_t_findings x_t_shown x_t_worths x_t_steps x_t_tape x_t_bits x_t_longs x_t_cells x_t_between c_t_isKept c_t_most c_t_taped c_t_here c_t_fault c_t_value r2) H := hP
  have hD : va_D A (w_M_puts E h_t h_t_s x_t_kept x_t_before x_t_findings x_t_shown x_t_worths x_t_steps x_t_tape x_t_bits x_t_longs x_t_cells x_t_between c_t_isKept c_t_most c_t_taped c_t_here c_t_fault c_t_value r2) := hD
  refine lv_iload_n hx hb dX10_puts_14 rfl (lv_at hl 0 rfl) ?_
  obtain rfl := Option.some.inj hF
  exact W.iret hx hb hr (fun t ht hW => ⟨⟨rfl, by rw [ht]; exact hP, hD⟩, hS.F ht⟩) hS.2.2 dX10_puts_15
abbrev w_M_isForm (E : kE)    : va_W := []
set_option maxHeartbeats 4000000 in
set_option maxRecDepth 100000 in
theorem k_M_isForm (l : Launch) (E : kE)    (a0 : Int32) (out : Int32) (hF : f_M_isForm  a0 = some out) : Met l yX10_isForm (Cond.code yX10_isForm cX10_isForm 1 (some .boolean) :: wG) (rm 2) (pR E (w_M_isForm E ) [.int a0]) (qR (.int out)) 0 0 (fun _ => False) := by
  refine met_R (by decide) (Nat.le_of_ble_eq_true rfl) ?_
  intro p e s m args below meth c ls C hP hK hT hl
  obtain ⟨hx, hb, hr, hml, hown, hw, hlocks⟩ := id C
  have hS : va_S (fun _ => False) s.heap s.heap [] := va_S.rf
  have hl : lv_has ls 1 [(0, .int a0)] := hl
  rw [f_M_isForm] at hF
  refine lv_iload_n hx hb dX10_isForm_0 rfl (lv_at hl 0 rfl) ?_
  refine lv_iconst (v := (0 : Int32)) hx hb dX10_isForm_1 (by decide) ?_
  refine lv_sipush (v := (4095 : Int32)) hx hb dX10_isForm_2 (by decide) ?_
  obtain ⟨r1, er1, hF⟩ := kb hF
  refine kRS (rest := []) C (k_M_in l E a0 (0 : Int32) (4095 : Int32) r1 er1) fn_M_in mw_943 ⟨Nat.le_of_ble_eq_true rfl, Nat.le_of_ble_eq_true rfl⟩ hK hT hS hP [] rfl rfl rfl hl (Nat.le_of_ble_eq_true rfl) dX10_isForm_5 ?_
  obtain ⟨b2, eb2, hF⟩ := kb hF
  obtain ⟨eeb2, hnb2⟩ := bl_some eb2
  subst eeb2
  obtain rfl := Option.some.inj hF
  exact W.zret (ty := .boolean) hx hb hr hnb2 (fun t ht hW => ⟨rfl, ht⟩) nofun dX10_isForm_8
abbrev w_M_isPoint (E : kE)    : va_W := []
set_option maxHeartbeats 4000000 in
set_option maxRecDepth 100000 in
theorem k_M_isPoint (l : Launch) (E : kE)    (a0 : Int32) (out : Int32) (hF : f_M_isPoint  a0 = some out) : Met l yX10_isPoint (Cond.code yX10_isPoint cX10_isPoint 1 (some .boolean) :: wG) (rm 2) (pR E (w_M_isPoint E ) [.int a0]) (qR (.int out)) 0 0 (fun _ => False) := by
  refine met_R (by decide) (Nat.le_of_ble_eq_true rfl) ?_
  intro p e s m args below meth c ls C hP hK hT hl
  obtain ⟨hx, hb, hr, hml, hown, hw, hlocks⟩ := id C
  have hS : va_S (fun _ => False) s.heap s.heap [] := va_S.rf
  have hl : lv_has ls 1 [(0, .int a0)] := hl
  rw [f_M_isPoint] at hF
  refine lv_iload_n hx hb dX10_isPoint_0 rfl (lv_at hl 0 rfl) ?_
  refine lv_iconst (v := (0 : Int32)) hx hb dX10_isPoint_1 (by decide) ?_
  refine lv_bipush (v := (8 : Int32)) hx hb dX10_isPoint_2 (by decide) ?_
  obtain ⟨r1, er1, hF⟩ := kb hF
  refine kRS (rest := []) C (k_M_in l E a0 (0 : Int32) (8 : Int32) r1 er1) fn_M_in mw_943 ⟨Nat.le_of_ble_eq_true rfl, Nat.le_of_ble_eq_true rfl⟩ hK hT hS hP [] rfl rfl rfl hl (Nat.le_of_ble_eq_true rfl) dX10_isPoint_4 ?_
  obtain ⟨b2, eb2, hF⟩ := kb hF
  obtain ⟨eeb2, hnb2⟩ := bl_some eb2
  subst eeb2
  obtain rfl := Option.some.inj hF
  exact W.zret (ty := .boolean) hx hb hr hnb2 (fun t ht hW => ⟨rfl, ht⟩) nofun dX10_isPoint_7
abbrev w_M_isSign (E : kE)    : va_W := []
set_option maxHeartbeats 4000000 in
set_option maxRecDepth 100000 in
theorem k_M_isSign (l : Launch) (E : kE)    (a0 : Int32) (out : Int32) (hF : f_M_isSign  a0 = some out) : Met l yX10_isSign (Cond.code yX10_isSign cX10_isSign 1 (some .boolean) :: wG) (rm 2) (pR E (w_M_isSign E ) [.int a0]) (qR (.int out)) 0 0 (fun _ => False) := by
  refine met_R (by decide) (Nat.le_of_ble_eq_true rfl) ?_
  intro p e s m args below meth c ls C hP hK hT hl
  obtain ⟨hx, hb, hr, hml, hown, hw, hlocks⟩ := id C
  have hS : va_S (fun _ => False) s.heap s.heap [] := va_S.rf
  have hl : lv_has ls 1 [(0, .int a0)] := hl
  rw [f_M_isSign] at hF
  refine lv_iload_n hx hb dX10_isSign_0 rfl (lv_at hl 0 rfl) ?_
  refine lv_iconst (v := (0 : Int32)) hx hb dX10_isSign_1 (by decide) ?_
  refine lv_bipush (v := (25 : Int32)) hx hb dX10_isSign_2 (by decide) ?_
  obtain ⟨r1, er1, hF⟩ := kb hF
  refine kRS (rest := []) C (k_M_in l E a0 (0 : Int32) (25 : Int32) r1 er1) fn_M_in mw_943 ⟨Nat.le_of_ble_eq_true rfl, Nat.le_of_ble_eq_true rfl⟩ hK hT hS hP [] rfl rfl rfl hl (Nat.le_of_ble_eq_true rfl) dX10_isSign_4 ?_
  obtain ⟨b2, eb2, hF⟩ := kb hF
  obtain ⟨eeb2, hnb2⟩ := bl_some eb2
  subst eeb2
  obtain rfl := Option.some.inj hF
  exact W.zret (ty := .boolean) hx hb hr hnb2 (fun t ht hW => ⟨rfl, ht⟩) nofun dX10_isSign_7
abbrev w_M_isKind (E : kE)    : va_W := []
set_option maxHeartbeats 4000000 in
set_option maxRecDepth 100000 in
theorem k_M_isKind (l : Launch) (E : kE)    (a0 : Int32) (out : Int32) (hF : f_M_isKind  a0 = some out) : Met l yX10_isKind (Cond.code yX10_isKind cX10_isKind 1 (some .boolean) :: wG) (rm 2) (pR E (w_M_isKind E ) [.int a0]) (qR (.int out)) 0 0 (fun _ => False) := by
  refine met_R (by decide) (Nat.le_of_ble_eq_true rfl) ?_
  intro p e s m args below meth c ls C hP hK hT hl
  obtain ⟨hx, hb, hr, hml, hown, hw, hlocks⟩ := id C
  have hS : va_S (fun _ => False) s.heap s.heap [] := va_S.rf
  have hl : lv_has ls 1 [(0, .int a0)] := hl
  rw [f_M_isKind] at hF
  refine lv_iload_n hx hb dX10_isKind_0 rfl (lv_at hl 0 rfl) ?_
  refine lv_iconst (v := (0 : Int32)) hx hb dX10_isKind_1 (by decide) ?_
  refine lv_iconst (v := (5 : Int32)) hx hb dX10_isKind_2 (by decide) ?_
  obtain ⟨r1, er1, hF⟩ := kb hF
  refine kRS (rest := []) C (k_M_in l E a0 (0 : Int32) (5 : Int32) r1 er1) fn_M_in mw_943 ⟨Nat.le_of_ble_eq_true rfl, Nat.le_of_ble_eq_true rfl⟩ hK hT hS hP [] rfl rfl rfl hl (Nat.le_of_ble_eq_true rfl) dX10_isKind_3 ?_
  obtain ⟨b2, eb2, hF⟩ := kb hF
  obtain ⟨eeb2, hnb2⟩ := bl_some eb2
  subst eeb2
  obtain rfl := Option.some.inj hF
  exact W.zret (ty := .boolean) hx hb hr hnb2 (fun t ht hW => ⟨rfl, ht⟩) nofun dX10_isKind_6
abbrev w_M_isLetter (E : kE) (h_t : Nat) (h_t_s : Nat) (x_t_kept : Nat) (x_t_before : Nat) (x_t_findings : Nat) (x_t_shown : Nat) (x_t_worths : Nat) (x_t_steps : Nat) (x_t_tape : Nat) (x_t_bits : Nat) (x_t_longs : Nat) (x_t_cells : Nat) (x_t_between : Nat) (c_t_isKept : Int32) (c_t_most : Int32) (c_t_taped : Int32) (c_t_here : Int32) (c_t_fault : Int32) (c_t_value : Int32) (c_t_s : (Nat → Int32)) : va_W := [(h_t, .inr (8, [.ref h_t_s, .ref x_t_kept, .ref x_t_before, .int c_t_isKept, .ref x_t_findings, .ref x_t_shown, .int c_t_most, .ref x_t_worths, .ref x_t_steps, .ref x_t_tape, .int c_t_taped, .int c_t_here, .int c_t_fault, .int c_t_value, .ref x_t_bits, .ref x_t_longs, .ref x_t_cells, .ref x_t_between])), (h_t_s, .inl (eI E, 65, .inl c_t_s))]
set_option maxHeartbeats 4000000 in
set_option maxRecDepth 100000 in
theorem k_M_isLetter (l : Launch) (E : kE) (h_t : Nat) (h_t_s : Nat) (x_t_kept : Nat) (x_t_before : Nat) (x_t_findings : Nat) (x_t_shown : Nat) (x_t_worths : Nat) (x_t_steps : Nat) (x_t_tape : Nat) (x_t_bits : Nat) (x_t_longs : Nat) (x_t_cells : Nat) (x_t_between : Nat) (c_t_isKept : Int32) (c_t_most : Int32) (c_t_taped : Int32) (c_t_here : Int32) (c_t_fault : Int32) (c_t_value : Int32) (c_t_s : (Nat → Int32)) (a1 : Int32) (out : Int32) (hF : f_M_isLetter c_t_s a1 = some out) : Met l yX10_isLetter (Cond.code yX10_isLetter cX10_isLetter 2 (some .boolean) :: wG) (rm 2) (pR E (w_M_isLetter E h_t h_t_s x_t_kept x_t_before x_t_findings x_t_shown x_t_worths x_t_steps x_t_tape x_t_bits x_t_longs x_t_cells x_t_between c_t_isKept c_t_most c_t_taped c_t_here c_t_fault c_t_value c_t_s) [.ref h_t, .int a1]) (qR (.int out)) 0 0 (fun _ => False) := by
  refine met_R (by decide) (Nat.le_of_ble_eq_true rfl) ?_
  intro p e s m args below meth c ls C hP hK hT hl
  obtain ⟨hx, hb, hr, hml, hown, hw, hlocks⟩ := id C
  have hS : va_S (fun _ => False) s.heap s.heap [] := va_S.rf
  have hl : lv_has ls 2 [(0, .ref h_t), (1, .int a1)] := hl
  rw [f_M_isLetter] at hF
  refine lv_iload_n hx hb dX10_isLetter_0 rfl (lv_at hl 1 rfl) ?_
  refine lv_iconst (v := (0 : Int32)) hx hb dX10_isLetter_1 (by decide) ?_
  refine lv_aload_n hx hb dX10_isLetter_2 rfl (lv_at hl 0 rfl) ?_
  refine va_get (D := eD E) (ci := 8) (C := RX10) (T := TX10) (N := 18) (v := .ref h_t_s) hx hb hw inX10 hown hK hP 0 rfl rfl 0 (by decide) (hw _ mw_881) (fun _ h9 => h9) rfl dX10_isLetter_3 ?_
  refine lv_iconst (v := (2 : Int32)) hx hb dX10_isLetter_6 (by decide) ?_
  obtain ⟨r1, er1, hF⟩ := kb hF
  refine wa_iald hx hb hK hP 1 0 rfl rfl er1 dX10_isLetter_7 ?_
  refine lv_iconst (v := (1 : Int32)) hx hb dX10_isLetter_8 (by decide) ?_
  refine lv_isub hx hb dX10_isLetter_9 ?_
  obtain ⟨r2, er2, hF⟩ := kb hF
  refine kRS (rest := []) C (k_M_in l E a1 (0 : Int32) (r1 - (1 : Int32)) r2 er2) fn_M_in mw_943 ⟨Nat.le_of_ble_eq_true rfl, Nat.le_of_ble_eq_true rfl⟩ hK hT hS hP [] rfl rfl rfl hl (Nat.le_of_ble_eq_true rfl) dX10_isLetter_10 ?_
  obtain ⟨b3, eb3, hF⟩ := kb hF
  obtain ⟨eeb3, hnb3⟩ := bl_some eb3
  subst eeb3
  obtain rfl := Option.some.inj hF
  exact W.zret (ty := .boolean) hx hb hr hnb3 (fun t ht hW => ⟨rfl, ht⟩) nofun dX10_isLetter_13
abbrev w_M_at (E : kE) (h_t : Nat) (x_t_s : Nat) (x_t_kept : Nat) (x_t_before : Nat) (x_t_findings : Nat) (x_t_shown : Nat) (x_t_worths : Nat) (x_t_steps : Nat) (x_t_tape : Nat) (x_t_bits : Nat) (x_t_longs : Nat) (x_t_cells : Nat) (x_t_between : Nat) (c_t_isKept : Int32) (c_t_most : Int32) (c_t_taped : Int32) (c_t_here : Int32) (c_t_fault : Int32) (c_t_value : Int32) : va_W := [(h_t, .inr (8, [.ref x_t_s, .ref x_t_kept, .ref x_t_before, .int c_t_isKept, .ref x_t_findings, .ref x_t_shown, .int c_t_most, .ref x_t_worths, .ref x_t_steps, .ref x_t_tape, .int c_t_taped, .int c_t_here, .int c_t_fault, .int c_t_value, .ref x_t_bits, .ref x_t_longs, .ref x_t_cells, .ref x_t_between]))]
set_option maxHeartbeats 4000000 in
set_option maxRecDepth 100000 in
theorem k_M_at (l : Launch) (E : kE) (h_t : Nat) (x_t_s : Nat) (x_t_kept : Nat) (x_t_before : Nat) (x_t_findings : Nat) (x_t_shown : Nat) (x_t_worths : Nat) (x_t_steps : Nat) (x_t_tape : Nat) (x_t_bits : Nat) (x_t_longs : Nat) (x_t_cells : Nat) (x_t_between : Nat) (c_t_isKept : Int32) (c_t_most : Int32) (c_t_taped : Int32) (c_t_here : Int32) (c_t_fault : Int32) (c_t_value : Int32) (a1 : Int32) (a2 : Int32) (out : Int32) (hF : f_M_at  a1 a2 = some out) : Met l yX10_at (Cond.code yX10_at cX10_at 3 (some .int) :: wG) (rm 1) (pR E (w_M_at E h_t x_t_s x_t_kept x_t_before x_t_findings x_t_shown x_t_worths x_t_steps x_t_tape x_t_bits x_t_longs x_t_cells x_t_between c_t_isKept c_t_most c_t_taped c_t_here c_t_fault c_t_value) [.ref h_t, .int a1, .int a2]) (qR (.int out)) 0 0 (fun _ => False) := by
  refine met_R (by decide) (Nat.le_of_ble_eq_true rfl) ?_
  intro p e s m args below meth c ls C hP hK hT hl
  obtain ⟨hx, hb, hr, hml, hown, hw, hlocks⟩ := id C
  have hS : va_S (fun _ => False) s.heap s.heap [] := va_S.rf
  have hl : lv_has ls 3 [(0, .ref h_t), (1, .int a1), (2, .int a2)] := hl
  rw [f_M_at] at hF
  refine lv_bipush (v := (29 : Int32)) hx hb dX10_at_0 (by decide) ?_
  refine lv_iconst (v := (3 : Int32)) hx hb dX10_at_2 (by decide) ?_
  refine lv_iload_n hx hb dX10_at_3 rfl (lv_at hl 1 rfl) ?_
  refine lv_imul hx hb dX10_at_4 ?_
  refine lv_iadd hx hb dX10_at_5 ?_
  refine lv_iload_n hx hb dX10_at_6 rfl (lv_at hl 2 rfl) ?_
  refine lv_iadd hx hb dX10_at_7 ?_
  obtain rfl := Option.some.inj hF
  exact W.iret hx hb hr (fun t ht hW => ⟨rfl, ht⟩) nofun dX10_at_8
abbrev w_M_oneEnd (E : kE)    : va_W := []
set_option maxHeartbeats 4000000 in
set_option maxRecDepth 100000 in
theorem k_M_oneEnd (l : Launch) (E : kE)    (a0 : Int32) (out : Int32) (hF : f_M_oneEnd  a0 = some out) : Met l yX10_oneEnd (Cond.code yX10_oneEnd cX10_oneEnd 1 (some .int) :: wG) (rm 1) (pR E (w_M_oneEnd E ) [.int a0]) (qR (.int out)) 0 0 (fun _ => False) := by
  refine met_R (by decide) (Nat.le_of_ble_eq_true rfl) ?_
  intro p e s m args below meth c ls C hP hK hT hl
  obtain ⟨hx, hb, hr, hml, hown, hw, hlocks⟩ := id C
  have hS : va_S (fun _ => False) s.heap s.heap [] := va_S.rf
  have hl : lv_has ls 1 [(0, .int a0)] := hl
  rw [f_M_oneEnd] at hF
  refine lv_iload_n hx hb dX10_oneEnd_0 rfl (lv_at hl 0 rfl) ?_
  refine lv_bipush (v := (6 : Int32)) hx hb dX10_oneEnd_1 (by decide) ?_
  refine lv_icmp_ge (tgt := 18) hx hb dX10_oneEnd_3 (by decide) (fun q1 => ?_) (fun q1 => ?_)
  · have hF := kp hF q1
    refine lv_iload_n hx hb dX10_oneEnd_18 rfl (lv_at hl 0 rfl) ?_
    refine lv_bipush (v := (6 : Int32)) hx hb dX10_oneEnd_19 (by decide) ?_
    refine lv_isub hx hb dX10_oneEnd_21 ?_
    obtain rfl := Option.some.inj hF
    exact W.iret hx hb hr (fun t ht hW => ⟨rfl, ht⟩) nofun dX10_oneEnd_22
  · have hF := kn hF q1
    refine lv_iconst (v := (3 : Int32)) hx hb dX10_oneEnd_6 (by decide) ?_
    refine lv_iload_n hx hb dX10_oneEnd_7 rfl (lv_at hl 0 rfl) ?_
    refine lv_iconst (v := (2 : Int32)) hx hb dX10_oneEnd_8 (by decide) ?_
    refine lv_idiv hx hb dX10_oneEnd_9 (by decide) ?_
    refine lv_imul hx hb dX10_oneEnd_10 ?_
    refine lv_iload_n hx hb dX10_oneEnd_11 rfl (lv_at hl 0 rfl) ?_
    refine lv_iconst (v := (2 : Int32)) hx hb dX10_oneEnd_12 (by decide) ?_
    refine lv_irem hx hb dX10_oneEnd_13 (by decide) ?_
    refine lv_iadd hx hb dX10_oneEnd_14 ?_
    refine lv_goto (tgt := 22) hx hb dX10_oneEnd_15 (by decide) ?_
    obtain rfl := Option.some.inj hF
    exact W.iret hx hb hr (fun t ht hW => ⟨rfl, ht⟩) nofun dX10_oneEnd_22
abbrev w_M_otherEnd (E : kE)    : va_W := []
set_option maxHeartbeats 4000000 in
set_option maxRecDepth 100000 in
theorem k_M_otherEnd (l : Launch) (E : kE)    (a0 : Int32) (out : Int32) (hF : f_M_otherEnd  a0 = some out) : Met l yX10_otherEnd (Cond.code yX10_otherEnd cX10_otherEnd 1 (some .int) :: wG) (rm 2) (pR E (w_M_otherEnd E ) [.int a0]) (qR (.int out)) 0 0 (fun _ => False) := by
  refine met_R (by decide) (Nat.le_of_ble_eq_true rfl) ?_
  intro p e s m args below meth c ls C hP hK hT hl
  obtain ⟨hx, hb, hr, hml, hown, hw, hlocks⟩ := id C
  have hS : va_S (fun _ => False) s.heap s.heap [] := va_S.rf
  have hl : lv_has ls 1 [(0, .int a0)] := hl
  rw [f_M_otherEnd] at hF
  refine lv_iload_n hx hb dX10_otherEnd_0 rfl (lv_at hl 0 rfl) ?_
  refine lv_bipush (v := (6 : Int32)) hx hb dX10_otherEnd_1 (by decide) ?_
  refine lv_icmp_ge (tgt := 15) hx hb dX10_otherEnd_3 (by decide) (fun q1 => ?_) (fun q1 => ?_)
  · have hF := kp hF q1
    refine lv_iload_n hx hb dX10_otherEnd_15 rfl (lv_at hl 0 rfl) ?_
    refine lv_iconst (v := (3 : Int32)) hx hb dX10_otherEnd_16 (by decide) ?_
    refine lv_isub hx hb dX10_otherEnd_17 ?_
    obtain rfl := Option.some.inj hF
    exact W.iret hx hb hr (fun t ht hW => ⟨rfl, ht⟩) nofun dX10_otherEnd_18
  · have hF := kn hF q1
    refine lv_iload_n hx hb dX10_otherEnd_6 rfl (lv_at hl 0 rfl) ?_
    obtain ⟨r2, er2, hF⟩ := kb hF
    refine kRS (rest := []) C (k_M_oneEnd l E a0 r2 er2) fn_M_oneEnd mw_958 ⟨Nat.le_of_ble_eq_true rfl, Nat.le_of_ble_eq_true rfl⟩ hK hT hS hP [] rfl rfl rfl hl (Nat.le_of_ble_eq_true rfl) dX10_otherEnd_7 ?_
    refine lv_iconst (v := (1 : Int32)) hx hb dX10_otherEnd_10 (by decide) ?_
    refine lv_iadd hx hb dX10_otherEnd_11 ?_
    refine lv_goto (tgt := 18) hx hb dX10_otherEnd_12 (by decide) ?_
    obtain rfl := Option.some.inj hF
    exact W.iret hx hb hr (fun t ht hW => ⟨rfl, ht⟩) nofun dX10_otherEnd_18
abbrev w_M_has (E : kE)    : va_W := []
set_option maxHeartbeats 4000000 in
set_option maxRecDepth 100000 in
theorem k_M_has (l : Launch) (E : kE)    (a0 : Int32) (a1 : Int32) (out : Int32) (hF : f_M_has  a0 a1 = some out) : Met l yX10_has (Cond.code yX10_has cX10_has 2 (some .boolean) :: wG) (rm 1) (pR E (w_M_has E ) [.int a0, .int a1]) (qR (.int out)) 0 0 (fun _ => False) := by
  refine met_R (by decide) (Nat.le_of_ble_eq_true rfl) ?_
  intro p e s m args below meth c ls C hP hK hT hl
  obtain ⟨hx, hb, hr, hml, hown, hw, hlocks⟩ := id C
  have hS : va_S (fun _ => False) s.heap s.heap [] := va_S.rf
  have hl : lv_has ls 2 [(0, .int a0), (1, .int a1)] := hl
  rw [f_M_has] at hF
  refine lv_iload_n hx hb dX10_has_0 rfl (lv_at hl 0 rfl) ?_
  refine lv_iconst (v := (1 : Int32)) hx hb dX10_has_1 (by decide) ?_
  refine lv_iload_n hx hb dX10_has_2 rfl (lv_at hl 1 rfl) ?_
  refine lv_ishl hx hb dX10_has_3 ?_
  refine lv_iand hx hb dX10_has_4 ?_
  refine lv_if_eq (tgt := 12) hx hb dX10_has_5 (by decide) (fun q1 => ?_) (fun q1 => ?_)
  · have hF := kp hF q1
    refine lv_iconst (v := (0 : Int32)) hx hb dX10_has_12 (by decide) ?_
    obtain rfl := Option.some.inj hF
    exact W.zret (ty := .boolean) hx hb hr rfl (fun t ht hW => ⟨rfl, ht⟩) nofun dX10_has_13
  · have hF := kn hF q1
    refine lv_iconst (v := (1 : Int32)) hx hb dX10_has_8 (by decide) ?_
    refine lv_goto (tgt := 13) hx hb dX10_has_9 (by decide) ?_
    obtain rfl := Option.some.inj hF
    exact W.zret (ty := .boolean) hx hb hr rfl (fun t ht hW => ⟨rfl, ht⟩) nofun dX10_has_13
abbrev w_M_ends (E : kE)    : va_W := []
set_option maxHeartbeats 4000000 in
set_option maxRecDepth 100000 in
theorem wk_M_ends_b16 {p : Program} {l : Launch} {e : Env} {s : State} {m : MethodId} {args : Array Value} {below : List Frame} {meth : Method} {c : Code} (E : kE)    (a0 : Int32) (a1 : Int32) {out : Int32} (C : kC RX10 cX10_ends 2 (some .boolean) p s m args meth c) (hP : va_P (eD E) vwCl (w_M_ends E ) s.heap) (hK : va_K (eD E) vwCl (eT E) s) (hT : sT E (fun _ => False) s s.heap)  :
    f_M_ends_b16  a0 a1  = some out → ∀ (ls : Array Slot), lv_has ls 2 [] → W p l e (rm 3) s m args below meth c s.heap [] 0 0 (MQ below (qR (.int out)) args s 0 0 (fun _ => False)) (F0 m 16 ls []) := by
  obtain ⟨hx, hb, hr, hml, hown, hw, hlocks⟩ := id C
  have hS : va_S (fun _ => False) s.heap s.heap [] := va_S.rf
  intro  hF ls hl
  rw [f_M_ends_b16] at hF
  refine lv_iconst (v := (1 : Int32)) hx hb dX10_ends_16 (by decide) ?_
  refine lv_goto (tgt := 21) hx hb dX10_ends_17 (by decide) ?_
  obtain rfl := Option.some.inj hF
  exact W.zret (ty := .boolean) hx hb hr rfl (fun t ht hW => ⟨rfl, ht⟩) nofun dX10_ends_21
set_option maxHeartbeats 4000000 in
set_option maxRecDepth 100000 in
theorem k_M_ends (l : Launch) (E : kE)    (a0 : Int32) (a1 : Int32) (out : Int32) (hF : f_M_ends  a0 a1 = some out) : Met l yX10_ends (Cond.code yX10_ends cX10_ends 2 (some .boolean) :: wG) (rm 3) (pR E (w_M_ends E ) [.int a0, .int a1]) (qR (.int out)) 0 0 (fun _ => False) := by
  refine met_R (by decide) (Nat.le_of_ble_eq_true rfl) ?_
  intro p e s m args below meth c ls C hP hK hT hl
  obtain ⟨hx, hb, hr, hml, hown, hw, hlocks⟩ := id C
  have hS : va_S (fun _ => False) s.heap s.heap [] := va_S.rf
  have hl : lv_has ls 2 [(0, .int a0), (1, .int a1)] := hl
  rw [f_M_ends] at hF
  refine lv_iload_n hx hb dX10_ends_0 rfl (lv_at hl 0 rfl) ?_
  obtain ⟨r1, er1, hF⟩ := kb hF
  refine kRS (rest := []) C (k_M_oneEnd l E a0 r1 er1) fn_M_oneEnd mw_958 ⟨Nat.le_of_ble_eq_true rfl, Nat.le_of_ble_eq_true rfl⟩ hK hT hS hP [] rfl rfl rfl hl (Nat.le_of_ble_eq_true rfl) dX10_ends_1 ?_
  refine lv_iload_n hx hb dX10_ends_4 rfl (lv_at hl 1 rfl) ?_
  refine lv_icmp_eq (tgt := 16) hx hb dX10_ends_5 (by decide) (fun q2 => ?_) (fun q2 => ?_)
  · have hF := kp hF q2
    exact wk_M_ends_b16 E  a0 a1 C hP  hK hT   hF _ (lv_sub hl [] rfl)
  · have hF := kn hF q2
    refine lv_iload_n hx hb dX10_ends_8 rfl (lv_at hl 0 rfl) ?_
    obtain ⟨r3, er3, hF⟩ := kb hF
    refine kRS (rest := []) C (k_M_otherEnd l E a0 r3 er3) fn_M_otherEnd mw_961 ⟨Nat.le_of_ble_eq_true rfl, Nat.le_of_ble_eq_true rfl⟩ hK hT hS hP [] rfl rfl rfl hl (Nat.le_of_ble_eq_true rfl) dX10_ends_9 ?_
    refine lv_iload_n hx hb dX10_ends_12 rfl (lv_at hl 1 rfl) ?_
    refine lv_icmp_ne (tgt := 20) hx hb dX10_ends_13 (by decide) (fun q4 => ?_) (fun q4 => ?_)
    · have hF := kn hF q4
      refine lv_iconst (v := (0 : Int32)) hx hb dX10_ends_20 (by decide) ?_
      obtain rfl := Option.some.inj hF
      exact W.zret (ty := .boolean) hx hb hr rfl (fun t ht hW => ⟨rfl, ht⟩) nofun dX10_ends_21
    · have hF := kp hF q4
      exact wk_M_ends_b16 E  a0 a1 C hP  hK hT   hF _ (lv_sub hl [] rfl)
abbrev w_M_ones (E : kE)    : va_W := []
set_option maxHeartbeats 4000000 in
set_option maxRecDepth 100000 in
theorem wk_M_ones_b4 {p : Program} {l : Launch} {e : Env} {s : State} {m : MethodId} {args : Array Value} {below : List Frame} {meth : Method} {c : Code} (E : kE)    (a0 : Int32) {out : Int32} (C : kC RX10 cX10_ones 3 (some .int) p s m args meth c) (hP : va_P (eD E) vwCl (w_M_ones E ) s.heap) (hK : va_K (eD E) vwCl (eT E) s) (hT : sT E (fun _ => False) s s.heap)  :
    ∀ (n : Nat), ∀ (v1 : Int32) (v2 : Int32), f_M_ones_b4  a0 n v1 v2 = some out → ∀ (ls : Array Slot), lv_has ls 3 [(1, .int v1), (2, .int v2)] → W p l e (rm 1) s m args below meth c s.heap [] 0 0 (MQ below (qR (.int out)) args s 0 0 (fun _ => False)) (F0 m 4 ls []) := by
  obtain ⟨hx, hb, hr, hml, hown, hw, hlocks⟩ := id C
  have hS : va_S (fun _ => False) s.heap s.heap [] := va_S.rf
  intro n
  induction n with
  | zero =>
    intro v1 v2 hF
    exact absurd (show (none : Option (Int32)) = some out from hF) nofun
  | succ n ih =>
    intro v1 v2 hF ls hl
    rw [f_M_ones_b4] at hF
    refine lv_iload_n hx hb dX10_ones_4 rfl (lv_at hl 1 rfl) ?_
    refine lv_if_eq (tgt := 20) hx hb dX10_ones_5 (by decide) (fun q1 => ?_) (fun q1 => ?_)
    · have hF := kp hF q1
      refine lv_iload_n hx hb dX10_ones_20 rfl (lv_at hl 0 rfl) ?_
      obtain rfl := Option.some.inj hF
      exact W.iret hx hb hr (fun t ht hW => ⟨rfl, ht⟩) nofun dX10_ones_21
    · have hF := kn hF q1
      refine lv_iinc (v := (v1 + (1))) (lv' := [(1, .int (v1 + (1))), (2, .int v2)]) hx hb dX10_ones_8 hl (k := 0) rfl rfl (by decide) rfl (fun ls hl => ?_)
      refine lv_iload_n hx hb dX10_ones_11 rfl (lv_at hl 1 rfl) ?_
      refine lv_iload_n hx hb dX10_ones_12 rfl (lv_at hl 1 rfl) ?_
      refine lv_iconst (v := (1 : Int32)) hx hb dX10_ones_13 (by decide) ?_
      refine lv_isub hx hb dX10_ones_14 ?_
      refine lv_iand hx hb dX10_ones_15 ?_
      refine lv_istore_n (lv' := [(2, .int (v2 &&& (v2 - (1 : Int32)))), (1, .int (v1 + (1)))]) hx hb dX10_ones_16 rfl hl (by decide) rfl (fun ls hl => ?_)
      refine lv_goto (tgt := 4) hx hb dX10_ones_17 (by decide) ?_
      exact ih (v1 + (1)) (v2 &&& (v2 - (1 : Int32))) hF _ (lv_sub hl [1, 0] rfl)
set_option maxHeartbeats 4000000 in
set_option maxRecDepth 100000 in
theorem k_M_ones (l : Launch) (E : kE)    (a0 : Int32) (out : Int32) (hF : f_M_ones  a0 = some out) : Met l yX10_ones (Cond.code yX10_ones cX10_ones 3 (some .int) :: wG) (rm 1) (pR E (w_M_ones E ) [.int a0]) (qR (.int out)) 0 0 (fun _ => False) := by
  refine met_R (by decide) (Nat.le_of_ble_eq_true rfl) ?_
  intro p e s m args below meth c ls C hP hK hT hl
  obtain ⟨hx, hb, hr, hml, hown, hw, hlocks⟩ := id C
  have hS : va_S (fun _ => False) s.heap s.heap [] := va_S.rf
  have hl : lv_has ls 3 [(0, .int a0)] := hl
  rw [f_M_ones] at hF
  refine lv_iconst (v := (0 : Int32)) hx hb dX10_ones_0 (by decide) ?_
  refine lv_istore_n (lv' := [(1, .int (0 : Int32)), (0, .int a0)]) hx hb dX10_ones_1 rfl hl (by decide) rfl (fun ls hl => ?_)
  refine lv_iload_n hx hb dX10_ones_2 rfl (lv_at hl 1 rfl) ?_
  refine lv_istore_n (lv' := [(2, .int a0), (1, .int (0 : Int32)), (0, .int a0)]) hx hb dX10_ones_3 rfl hl (by decide) rfl (fun ls hl => ?_)
  exact wk_M_ones_b4 E  a0 C hP  hK hT  5000 (0 : Int32) a0 hF _ (lv_sub hl [1, 0] rfl)
abbrev w_M_degree (E : kE)    : va_W := []
set_option maxHeartbeats 4000000 in
set_option maxRecDepth 100000 in
theorem wk_M_degree_b32 {p : Program} {l : Launch} {e : Env} {s : State} {m : MethodId} {args : Array Value} {below : List Frame} {meth : Method} {c : Code} (E : kE)    (a0 : Int32) (a1 : Int32) {out : Int32} (C : kC RX10 cX10_degree 4 (some .int) p s m args meth c) (hP : va_P (eD E) vwCl (w_M_degree E ) s.heap) (hK : va_K (eD E) vwCl (eT E) s) (hT : sT E (fun _ => False) s s.heap) (k4 : Int32 → Int32 → Option (Int32)) (hk4 : ∀ (v2 : Int32) (v3 : Int32), k4 v2 v3 = some out → ∀ (ls : Array Slot), lv_has ls 4 [(0, .int a0), (1, .int a1), (2, .int v2), (3, .int v3)] → W p l e (rm 4) s m args below meth c s.heap [] 0 0 (MQ below (qR (.int out)) args s 0 0 (fun _ => False)) (F0 m 4 ls [])) :
    ∀ (v3 : Int32) (s0 : Int32) (s1 : Int32), f_M_degree_b32 k4 a0 a1 v3 s0 s1 = some out → ∀ (ls : Array Slot), lv_has ls 4 [(0, .int a0), (1, .int a1), (3, .int v3)] → W p l e (rm 4) s m args below meth c s.heap [] 0 0 (MQ below (qR (.int out)) args s 0 0 (fun _ => False)) (F0 m 32 ls [.int s0, .int s1]) := by
  obtain ⟨hx, hb, hr, hml, hown, hw, hlocks⟩ := id C
  have hS : va_S (fun _ => False) s.heap s.heap [] := va_S.rf
  intro v3 s0 s1 hF ls hl
  rw [f_M_degree_b32] at hF
  refine lv_iadd hx hb dX10_degree_32 ?_
  refine lv_istore_n (lv' := [(2, .int (s1 + s0)), (0, .int a0), (1, .int a1), (3, .int v3)]) hx hb dX10_degree_33 rfl hl (by decide) rfl (fun ls hl => ?_)
  refine lv_iinc (v := (v3 + (1))) (lv' := [(3, .int (v3 + (1))), (2, .int (s1 + s0)), (0, .int a0), (1, .int a1)]) hx hb dX10_degree_34 hl (k := 3) rfl rfl (by decide) rfl (fun ls hl => ?_)
  refine lv_goto (tgt := 4) hx hb dX10_degree_37 (by decide) ?_
  exact hk4 (s1 + s0) (v3 + (1)) hF _ (lv_sub hl [2, 3, 1, 0] rfl)
set_option maxHeartbeats 4000000 in
set_option maxRecDepth 100000 in
theorem wk_M_degree_b4 {p : Program} {l : Launch} {e : Env} {s : State} {m : MethodId} {args : Array Value} {below : List Frame} {meth : Method} {c : Code} (E : kE)    (a0 : Int32) (a1 : Int32) {out : Int32} (C : kC RX10 cX10_degree 4 (some .int) p s m args meth c) (hP : va_P (eD E) vwCl (w_M_degree E ) s.heap) (hK : va_K (eD E) vwCl (eT E) s) (hT : sT E (fun _ => False) s s.heap)  :
    ∀ (n : Nat), ∀ (v2 : Int32) (v3 : Int32), f_M_degree_b4  a0 a1 n v2 v3 = some out → ∀ (ls : Array Slot), lv_has ls 4 [(0, .int a0), (1, .int a1), (2, .int v2), (3, .int v3)] → W p l e (rm 4) s m args below meth c s.heap [] 0 0 (MQ below (qR (.int out)) args s 0 0 (fun _ => False)) (F0 m 4 ls []) := by
  obtain ⟨hx, hb, hr, hml, hown, hw, hlocks⟩ := id C
  have hS : va_S (fun _ => False) s.heap s.heap [] := va_S.rf
  intro n
  induction n with
  | zero =>
    intro v2 v3 hF
    exact absurd (show (none : Option (Int32)) = some out from hF) nofun
  | succ n ih =>
    intro v2 v3 hF ls hl
    rw [f_M_degree_b4] at hF
    refine lv_iload_n hx hb dX10_degree_4 rfl (lv_at hl 3 rfl) ?_
    refine lv_bipush (v := (12 : Int32)) hx hb dX10_degree_5 (by decide) ?_
    refine lv_icmp_ge (tgt := 40) hx hb dX10_degree_7 (by decide) (fun q1 => ?_) (fun q1 => ?_)
    · have hF := kp hF q1
      refine lv_iload_n hx hb dX10_degree_40 rfl (lv_at hl 2 rfl) ?_
      obtain rfl := Option.some.inj hF
      exact W.iret hx hb hr (fun t ht hW => ⟨rfl, ht⟩) nofun dX10_degree_41
    · have hF := kn hF q1
      refine lv_iload_n hx hb dX10_degree_10 rfl (lv_at hl 2 rfl) ?_
      refine lv_iload_n hx hb dX10_degree_11 rfl (lv_at hl 0 rfl) ?_
      refine lv_iload_n hx hb dX10_degree_12 rfl (lv_at hl 3 rfl) ?_
      obtain ⟨r2, er2, hF⟩ := kb hF
      refine kRS (rest := [.int v2]) C (k_M_has l E a0 v3 r2 er2) fn_M_has mw_952 ⟨Nat.le_of_ble_eq_true rfl, Nat.le_of_ble_eq_true rfl⟩ hK hT hS hP [] rfl rfl rfl hl (Nat.le_of_ble_eq_true rfl) dX10_degree_13 ?_
      refine lv_if_eq (tgt := 31) hx hb dX10_degree_16 (by decide) (fun q3 => ?_) (fun q3 => ?_)
      · have hF := kp hF q3
        refine lv_iconst (v := (0 : Int32)) hx hb dX10_degree_31 (by decide) ?_
        exact wk_M_degree_b32 E  a0 a1 C hP  hK hT (f_M_degree_b4  a0 a1 n) ih v3 (0 : Int32) v2 hF _ (lv_sub hl [0, 1, 3] rfl)
      · have hF := kn hF q3
        refine lv_iload_n hx hb dX10_degree_19 rfl (lv_at hl 3 rfl) ?_
        refine lv_iload_n hx hb dX10_degree_20 rfl (lv_at hl 1 rfl) ?_
        obtain ⟨r4, er4, hF⟩ := kb hF
        refine kRS (rest := [.int v2]) C (k_M_ends l E v3 a1 r4 er4) fn_M_ends mw_955 ⟨Nat.le_of_ble_eq_true rfl, Nat.le_of_ble_eq_true rfl⟩ hK hT hS hP [] rfl rfl rfl hl (Nat.le_of_ble_eq_true rfl) dX10_degree_21 ?_
        refine lv_if_eq (tgt := 31) hx hb dX10_degree_24 (by decide) (fun q5 => ?_) (fun q5 => ?_)
        · have hF := kp hF q5
          refine lv_iconst (v := (0 : Int32)) hx hb dX10_degree_31 (by decide) ?_
          exact wk_M_degree_b32 E  a0 a1 C hP  hK hT (f_M_degree_b4  a0 a1 n) ih v3 (0 : Int32) v2 hF _ (lv_sub hl [0, 1, 3] rfl)
        · have hF := kn hF q5
          refine lv_iconst (v := (1 : Int32)) hx hb dX10_degree_27 (by decide) ?_
          refine lv_goto (tgt := 32) hx hb dX10_degree_28 (by decide) ?_
          exact wk_M_degree_b32 E  a0 a1 C hP  hK hT (f_M_degree_b4  a0 a1 n) ih v3 (1 : Int32) v2 hF _ (lv_sub hl [0, 1, 3] rfl)
set_option maxHeartbeats 4000000 in
set_option maxRecDepth 100000 in
theorem k_M_degree (l : Launch) (E : kE)    (a0 : Int32) (a1 : Int32) (out : Int32) (hF : f_M_degree  a0 a1 = some out) : Met l yX10_degree (Cond.code yX10_degree cX10_degree 4 (some .int) :: wG) (rm 4) (pR E (w_M_degree E ) [.int a0, .int a1]) (qR (.int out)) 0 0 (fun _ => False) := by
  refine met_R (by decide) (Nat.le_of_ble_eq_true rfl) ?_
  intro p e s m args below meth c ls C hP hK hT hl
  obtain ⟨hx, hb, hr, hml, hown, hw, hlocks⟩ := id C
  have hS : va_S (fun _ => False) s.heap s.heap [] := va_S.rf
  have hl : lv_has ls 4 [(0, .int a0), (1, .int a1)] := hl
  rw [f_M_degree] at hF
  refine lv_iconst (v := (0 : Int32)) hx hb dX10_degree_0 (by decide) ?_
  refine lv_istore_n (lv' := [(2, .int (0 : Int32)), (0, .int a0), (1, .int a1)]) hx hb dX10_degree_1 rfl hl (by decide) rfl (fun ls hl => ?_)
  refine lv_iconst (v := (0 : Int32)) hx hb dX10_degree_2 (by decide) ?_
  refine lv_istore_n (lv' := [(3, .int (0 : Int32)), (2, .int (0 : Int32)), (0, .int a0), (1, .int a1)]) hx hb dX10_degree_3 rfl hl (by decide) rfl (fun ls hl => ?_)
  exact wk_M_degree_b4 E  a0 a1 C hP  hK hT  5000 (0 : Int32) (0 : Int32) hF _ (lv_sub hl [2, 3, 1, 0] rfl)
abbrev w_M_odds (E : kE)    : va_W := []
set_option maxHeartbeats 4000000 in
set_option maxRecDepth 100000 in
theorem wk_M_odds_b4 {p : Program} {l : Launch} {e : Env} {s : State} {m : MethodId} {args : Array Value} {below : List Frame} {meth : Method} {c : Code} (E : kE)    (a0 : Int32) {out : Int32} (C : kC RX10 cX10_odds 3 (some .int) p s m args meth c) (hP : va_P (eD E) vwCl (w_M_odds E ) s.heap) (hK : va_K (eD E) vwCl (eT E) s) (hT : sT E (fun _ => False) s s.heap)  :
    ∀ (n : Nat), ∀ (v1 : Int32) (v2 : Int32), f_M_odds_b4  a0 n v1 v2 = some out → ∀ (ls : Array Slot), lv_has ls 3 [(0, .int a0), (1, .int v1), (2, .int v2)] → W p l e (rm 5) s m args below meth c s.heap [] 0 0 (MQ below (qR (.int out)) args s 0 0 (fun _ => False)) (F0 m 4 ls []) := by
  obtain ⟨hx, hb, hr, hml, hown, hw, hlocks⟩ := id C
  have hS : va_S (fun _ => False) s.heap s.heap [] := va_S.rf
  intro n
  induction n with
  | zero =>
    intro v1 v2 hF
    exact absurd (show (none : Option (Int32)) = some out from hF) nofun
  | succ n ih =>
    intro v1 v2 hF ls hl
    rw [f_M_odds_b4] at hF
    refine lv_iload_n hx hb dX10_odds_4 rfl (lv_at hl 2 rfl) ?_
    refine lv_bipush (v := (9 : Int32)) hx hb dX10_odds_5 (by decide) ?_
    refine lv_icmp_ge (tgt := 28) hx hb dX10_odds_7 (by decide) (fun q1 => ?_) (fun q1 => ?_)
    · have hF := kp hF q1
      refine lv_iload_n hx hb dX10_odds_28 rfl (lv_at hl 1 rfl) ?_
      obtain rfl := Option.some.inj hF
      exact W.iret hx hb hr (fun t ht hW => ⟨rfl, ht⟩) nofun dX10_odds_29
    · have hF := kn hF q1
      refine lv_iload_n hx hb dX10_odds_10 rfl (lv_at hl 1 rfl) ?_
      refine lv_iload_n hx hb dX10_odds_11 rfl (lv_at hl 0 rfl) ?_
      refine lv_iload_n hx hb dX10_odds_12 rfl (lv_at hl 2 rfl) ?_
      obtain ⟨r2, er2, hF⟩ := kb hF
      refine kRS (rest := [.int v1]) C (k_M_degree l E a0 v2 r2 er2) fn_M_degree mw_949 ⟨Nat.le_of_ble_eq_true rfl, Nat.le_of_ble_eq_true rfl⟩ hK hT hS hP [] rfl rfl rfl hl (Nat.le_of_ble_eq_true rfl) dX10_odds_13 ?_
      refine lv_iconst (v := (1 : Int32)) hx hb dX10_odds_16 (by decide) ?_
      refine lv_iand hx hb dX10_odds_17 ?_
      refine lv_iload_n hx hb dX10_odds_18 rfl (lv_at hl 2 rfl) ?_
      refine lv_ishl hx hb dX10_odds_19 ?_
      refine lv_ior hx hb dX10_odds_20 ?_
      refine lv_istore_n (lv' := [(1, .int (v1 ||| ((r2 &&& (1 : Int32)) <<< (v2 &&& 31)))), (0, .int a0), (2, .int v2)]) hx hb dX10_odds_21 rfl hl (by decide) rfl (fun ls hl => ?_)
      refine lv_iinc (v := (v2 + (1))) (lv' := [(2, .int (v2 + (1))), (1, .int (v1 ||| ((r2 &&& (1 : Int32)) <<< (v2 &&& 31)))), (0, .int a0)]) hx hb dX10_odds_22 hl (k := 2) rfl rfl (by decide) rfl (fun ls hl => ?_)
      refine lv_goto (tgt := 4) hx hb dX10_odds_25 (by decide) ?_
      exact ih (v1 ||| ((r2 &&& (1 : Int32)) <<< (v2 &&& 31))) (v2 + (1)) hF _ (lv_sub hl [2, 1, 0] rfl)
set_option maxHeartbeats 4000000 in
set_option maxRecDepth 100000 in
theorem k_M_odds (l : Launch) (E : kE)    (a0 : Int32) (out : Int32) (hF : f_M_odds  a0 = some out) : Met l yX10_odds (Cond.code yX10_odds cX10_odds 3 (some .int) :: wG) (rm 5) (pR E (w_M_odds E ) [.int a0]) (qR (.int out)) 0 0 (fun _ => False) := by
  refine met_R (by decide) (Nat.le_of_ble_eq_true rfl) ?_
  intro p e s m args below meth c ls C hP hK hT hl
  obtain ⟨hx, hb, hr, hml, hown, hw, hlocks⟩ := id C
  have hS : va_S (fun _ => False) s.heap s.heap [] := va_S.rf
  have hl : lv_has ls 3 [(0, .int a0)] := hl
  rw [f_M_odds] at hF
  refine lv_iconst (v := (0 : Int32)) hx hb dX10_odds_0 (by decide) ?_
  refine lv_istore_n (lv' := [(1, .int (0 : Int32)), (0, .int a0)]) hx hb dX10_odds_1 rfl hl (by decide) rfl (fun ls hl => ?_)
  refine lv_iconst (v := (0 : Int32)) hx hb dX10_odds_2 (by decide) ?_
  refine lv_istore_n (lv' := [(2, .int (0 : Int32)), (1, .int (0 : Int32)), (0, .int a0)]) hx hb dX10_odds_3 rfl hl (by decide) rfl (fun ls hl => ?_)
  exact wk_M_odds_b4 E  a0 C hP  hK hT  5000 (0 : Int32) (0 : Int32) hF _ (lv_sub hl [2, 1, 0] rfl)
abbrev w_M_pieceOf (E : kE)    : va_W := []
set_option maxHeartbeats 4000000 in
set_option maxRecDepth 100000 in
theorem wk_M_pieceOf_b83 {p : Program} {l : Launch} {e : Env} {s : State} {m : MethodId} {args : Array Value} {below : List Frame} {meth : Method} {c : Code} (E : kE)    (a0 : Int32) (a1 : Int32) {out : Int32} (C : kC RX10 cX10_pieceOf 6 (some .int) p s m args meth c) (hP : va_P (eD E) vwCl (w_M_pieceOf E ) s.heap) (hK : va_K (eD E) vwCl (eT E) s) (hT : sT E (fun _ => False) s s.heap) (k6 : Int32 → Int32 → Option (Int32)) (hk6 : ∀ (v2 : Int32) (v3 : Int32), k6 v2 v3 = some out → ∀ (ls : Array Slot), lv_has ls 6 [(0, .int a0), (2, .int v2), (3, .int v3)] → W p l e (rm 5) s m args below meth c s.heap [] 0 0 (MQ below (qR (.int out)) args s 0 0 (fun _ => False)) (F0 m 6 ls [])) (k15 : Int32 → Int32 → Int32 → Option (Int32)) (hk15 : ∀ (v2 : Int32) (v3 : Int32) (v4 : Int32), k15 v2 v3 v4 = some out → ∀ (ls : Array Slot), lv_has ls 6 [(0, .int a0), (2, .int v2), (3, .int v3), (4, .int v4)] → W p l e (rm 5) s m args below meth c s.heap [] 0 0 (MQ below (qR (.int out)) args s 0 0 (fun _ => False)) (F0 m 15 ls [])) :
    ∀ (v3 : Int32) (v4 : Int32) (v5 : Int32) (s0 : Int32) (s1 : Int32), f_M_pieceOf_b83 k6 k15 a0 a1 v3 v4 v5 s0 s1 = some out → ∀ (ls : Array Slot), lv_has ls 6 [(0, .int a0), (3, .int v3), (4, .int v4), (5, .int v5)] → W p l e (rm 5) s m args below meth c s.heap [] 0 0 (MQ below (qR (.int out)) args s 0 0 (fun _ => False)) (F0 m 83 ls [.int s0, .int s1]) := by
  obtain ⟨hx, hb, hr, hml, hown, hw, hlocks⟩ := id C
  have hS : va_S (fun _ => False) s.heap s.heap [] := va_S.rf
  intro v3 v4 v5 s0 s1 hF ls hl
  rw [f_M_pieceOf_b83] at hF
  refine lv_ior hx hb dX10_pieceOf_83 ?_
  refine lv_istore_n (lv' := [(2, .int (s1 ||| s0)), (0, .int a0), (3, .int v3), (4, .int v4), (5, .int v5)]) hx hb dX10_pieceOf_84 rfl hl (by decide) rfl (fun ls hl => ?_)
  refine lv_iload_n hx hb dX10_pieceOf_85 rfl (lv_at hl 2 rfl) ?_
  refine lv_iload hx hb dX10_pieceOf_86 (lv_at hl 4 rfl) ?_
  refine lv_ior hx hb dX10_pieceOf_88 ?_
  refine lv_istore_n (lv' := [(3, .int (v3 ||| v5)), (2, .int (s1 ||| s0)), (0, .int a0), (4, .int v4), (5, .int v5)]) hx hb dX10_pieceOf_89 rfl hl (by decide) rfl (fun ls hl => ?_)
  refine lv_iinc (v := (v4 + (1))) (lv' := [(4, .int (v4 + (1))), (3, .int (v3 ||| v5)), (2, .int (s1 ||| s0)), (0, .int a0), (5, .int v5)]) hx hb dX10_pieceOf_90 hl (k := 3) rfl rfl (by decide) rfl (fun ls hl => ?_)
  refine lv_goto (tgt := 15) hx hb dX10_pieceOf_93 (by decide) ?_
  exact hk15 (s1 ||| s0) (v3 ||| v5) (v4 + (1)) hF _ (lv_sub hl [3, 2, 1, 0] rfl)
set_option maxHeartbeats 4000000 in
set_option maxRecDepth 100000 in
theorem wk_M_pieceOf_b67 {p : Program} {l : Launch} {e : Env} {s : State} {m : MethodId} {args : Array Value} {below : List Frame} {meth : Method} {c : Code} (E : kE)    (a0 : Int32) (a1 : Int32) {out : Int32} (C : kC RX10 cX10_pieceOf 6 (some .int) p s m args meth c) (hP : va_P (eD E) vwCl (w_M_pieceOf E ) s.heap) (hK : va_K (eD E) vwCl (eT E) s) (hT : sT E (fun _ => False) s s.heap) (k6 : Int32 → Int32 → Option (Int32)) (hk6 : ∀ (v2 : Int32) (v3 : Int32), k6 v2 v3 = some out → ∀ (ls : Array Slot), lv_has ls 6 [(0, .int a0), (2, .int v2), (3, .int v3)] → W p l e (rm 5) s m args below meth c s.heap [] 0 0 (MQ below (qR (.int out)) args s 0 0 (fun _ => False)) (F0 m 6 ls [])) (k15 : Int32 → Int32 → Int32 → Option (Int32)) (hk15 : ∀ (v2 : Int32) (v3 : Int32) (v4 : Int32), k15 v2 v3 v4 = some out → ∀ (ls : Array Slot), lv_has ls 6 [(0, .int a0), (2, .int v2), (3, .int v3), (4, .int v4)] → W p l e (rm 5) s m args below meth c s.heap [] 0 0 (MQ below (qR (.int out)) args s 0 0 (fun _ => False)) (F0 m 15 ls [])) :
    ∀ (v2 : Int32) (v3 : Int32) (v4 : Int32) (s0 : Int32), f_M_pieceOf_b67 k6 k15 a0 a1 v2 v3 v4 s0 = some out → ∀ (ls : Array Slot), lv_has ls 6 [(0, .int a0), (2, .int v2), (3, .int v3), (4, .int v4)] → W p l e (rm 5) s m args below meth c s.heap [] 0 0 (MQ below (qR (.int out)) args s 0 0 (fun _ => False)) (F0 m 67 ls [.int s0]) := by
  obtain ⟨hx, hb, hr, hml, hown, hw, hlocks⟩ := id C
  have hS : va_S (fun _ => False) s.heap s.heap [] := va_S.rf
  intro v2 v3 v4 s0 hF ls hl
  rw [f_M_pieceOf_b67] at hF
  refine lv_istore (lv' := [(5, .int s0), (0, .int a0), (2, .int v2), (3, .int v3), (4, .int v4)]) hx hb dX10_pieceOf_67 hl (by decide) rfl (fun ls hl => ?_)
  refine lv_iload_n hx hb dX10_pieceOf_69 rfl (lv_at hl 2 rfl) ?_
  refine lv_iload hx hb dX10_pieceOf_70 (lv_at hl 0 rfl) ?_
  refine lv_if_eq (tgt := 82) hx hb dX10_pieceOf_72 (by decide) (fun q1 => ?_) (fun q1 => ?_)
  · have hF := kp hF q1
    refine lv_iconst (v := (0 : Int32)) hx hb dX10_pieceOf_82 (by decide) ?_
    exact wk_M_pieceOf_b83 E  a0 a1 C hP  hK hT k6 hk6 k15 hk15 v3 v4 s0 (0 : Int32) v2 hF _ (lv_sub hl [1, 3, 4, 0] rfl)
  · have hF := kn hF q1
    refine lv_iconst (v := (1 : Int32)) hx hb dX10_pieceOf_75 (by decide) ?_
    refine lv_iload hx hb dX10_pieceOf_76 (lv_at hl 4 rfl) ?_
    refine lv_ishl hx hb dX10_pieceOf_78 ?_
    refine lv_goto (tgt := 83) hx hb dX10_pieceOf_79 (by decide) ?_
    exact wk_M_pieceOf_b83 E  a0 a1 C hP  hK hT k6 hk6 k15 hk15 v3 v4 s0 ((1 : Int32) <<< (v4 &&& 31)) v2 hF _ (lv_sub hl [1, 3, 4, 0] rfl)
set_option maxHeartbeats 4000000 in
set_option maxRecDepth 100000 in
theorem wk_M_pieceOf_b15 {p : Program} {l : Launch} {e : Env} {s : State} {m : MethodId} {args : Array Value} {below : List Frame} {meth : Method} {c : Code} (E : kE)    (a0 : Int32) (a1 : Int32) {out : Int32} (C : kC RX10 cX10_pieceOf 6 (some .int) p s m args meth c) (hP : va_P (eD E) vwCl (w_M_pieceOf E ) s.heap) (hK : va_K (eD E) vwCl (eT E) s) (hT : sT E (fun _ => False) s s.heap) (k6 : Int32 → Int32 → Option (Int32)) (hk6 : ∀ (v2 : Int32) (v3 : Int32), k6 v2 v3 = some out → ∀ (ls : Array Slot), lv_has ls 6 [(0, .int a0), (2, .int v2), (3, .int v3)] → W p l e (rm 5) s m args below meth c s.heap [] 0 0 (MQ below (qR (.int out)) args s 0 0 (fun _ => False)) (F0 m 6 ls [])) :
    ∀ (n : Nat), ∀ (v2 : Int32) (v3 : Int32) (v4 : Int32), f_M_pieceOf_b15 k6 a0 a1 n v2 v3 v4 = some out → ∀ (ls : Array Slot), lv_has ls 6 [(0, .int a0), (2, .int v2), (3, .int v3), (4, .int v4)] → W p l e (rm 5) s m args below meth c s.heap [] 0 0 (MQ below (qR (.int out)) args s 0 0 (fun _ => False)) (F0 m 15 ls []) := by
  obtain ⟨hx, hb, hr, hml, hown, hw, hlocks⟩ := id C
  have hS : va_S (fun _ => False) s.heap s.heap [] := va_S.rf
  intro n
  induction n with
  | zero =>
    intro v2 v3 v4 hF
    exact absurd (show (none : Option (Int32)) = some out from hF) nofun
  | succ n ih =>
    intro v2 v3 v4 hF ls hl
    rw [f_M_pieceOf_b15] at hF
    refine lv_iload hx hb dX10_pieceOf_15 (lv_at hl 3 rfl) ?_
    refine lv_bipush (v := (12 : Int32)) hx hb dX10_pieceOf_17 (by decide) ?_
    refine lv_icmp_ge (tgt := 96) hx hb dX10_pieceOf_19 (by decide) (fun q2 => ?_) (fun q2 => ?_)
    · have hF := kp hF q2
      refine lv_goto (tgt := 6) hx hb dX10_pieceOf_96 (by decide) ?_
      exact hk6 v2 v3 hF _ (lv_sub hl [0, 1, 2] rfl)
    · have hF := kn hF q2
      refine lv_iload_n hx hb dX10_pieceOf_22 rfl (lv_at hl 0 rfl) ?_
      refine lv_iload hx hb dX10_pieceOf_23 (lv_at hl 3 rfl) ?_
      obtain ⟨r3, er3, hF⟩ := kb hF
      refine kRS (rest := []) C (k_M_has l E a0 v4 r3 er3) fn_M_has mw_952 ⟨Nat.le_of_ble_eq_true rfl, Nat.le_of_ble_eq_true rfl⟩ hK hT hS hP [] rfl rfl rfl hl (Nat.le_of_ble_eq_true rfl) dX10_pieceOf_25 ?_
      refine lv_if_eq (tgt := 66) hx hb dX10_pieceOf_28 (by decide) (fun q4 => ?_) (fun q4 => ?_)
      · have hF := kp hF q4
        refine lv_iconst (v := (0 : Int32)) hx hb dX10_pieceOf_66 (by decide) ?_
        exact wk_M_pieceOf_b67 E  a0 a1 C hP  hK hT k6 hk6 (f_M_pieceOf_b15 k6 a0 a1 n) ih v2 v3 v4 (0 : Int32) hF _ (lv_sub hl [0, 1, 2, 3] rfl)
      · have hF := kn hF q4
        refine lv_iload_n hx hb dX10_pieceOf_31 rfl (lv_at hl 1 rfl) ?_
        refine lv_iload hx hb dX10_pieceOf_32 (lv_at hl 3 rfl) ?_
        obtain ⟨r5, er5, hF⟩ := kb hF
        refine kRS (rest := []) C (k_M_has l E v2 v4 r5 er5) fn_M_has mw_952 ⟨Nat.le_of_ble_eq_true rfl, Nat.le_of_ble_eq_true rfl⟩ hK hT hS hP [] rfl rfl rfl hl (Nat.le_of_ble_eq_true rfl) dX10_pieceOf_34 ?_
        refine lv_if_ne (tgt := 66) hx hb dX10_pieceOf_37 (by decide) (fun q6 => ?_) (fun q6 => ?_)
        · have hF := kn hF q6
          refine lv_iconst (v := (0 : Int32)) hx hb dX10_pieceOf_66 (by decide) ?_
          exact wk_M_pieceOf_b67 E  a0 a1 C hP  hK hT k6 hk6 (f_M_pieceOf_b15 k6 a0 a1 n) ih v2 v3 v4 (0 : Int32) hF _ (lv_sub hl [0, 1, 2, 3] rfl)
        · have hF := kp hF q6
          refine lv_iload_n hx hb dX10_pieceOf_40 rfl (lv_at hl 1 rfl) ?_
          refine lv_iload hx hb dX10_pieceOf_41 (lv_at hl 3 rfl) ?_
          obtain ⟨r7, er7, hF⟩ := kb hF
          refine kRS (rest := [.int v2]) C (k_M_oneEnd l E v4 r7 er7) fn_M_oneEnd mw_958 ⟨Nat.le_of_ble_eq_true rfl, Nat.le_of_ble_eq_true rfl⟩ hK hT hS hP [] rfl rfl rfl hl (Nat.le_of_ble_eq_true rfl) dX10_pieceOf_43 ?_
          obtain ⟨r8, er8, hF⟩ := kb hF
          refine kRS (rest := []) C (k_M_degree l E v2 r7 r8 er8) fn_M_degree mw_949 ⟨Nat.le_of_ble_eq_true rfl, Nat.le_of_ble_eq_true rfl⟩ hK hT hS hP [] rfl rfl rfl hl (Nat.le_of_ble_eq_true rfl) dX10_pieceOf_46 ?_
          refine lv_iload_n hx hb dX10_pieceOf_49 rfl (lv_at hl 1 rfl) ?_
          refine lv_iload hx hb dX10_pieceOf_50 (lv_at hl 3 rfl) ?_
          obtain ⟨r9, er9, hF⟩ := kb hF
          refine kRS (rest := [.int v2, .int r8]) C (k_M_otherEnd l E v4 r9 er9) fn_M_otherEnd mw_961 ⟨Nat.le_of_ble_eq_true rfl, Nat.le_of_ble_eq_true rfl⟩ hK hT hS hP [] rfl rfl rfl hl (Nat.le_of_ble_eq_true rfl) dX10_pieceOf_52 ?_
          obtain ⟨r10, er10, hF⟩ := kb hF
          refine kRS (rest := [.int r8]) C (k_M_degree l E v2 r9 r10 er10) fn_M_degree mw_949 ⟨Nat.le_of_ble_eq_true rfl, Nat.le_of_ble_eq_true rfl⟩ hK hT hS hP [] rfl rfl rfl hl (Nat.le_of_ble_eq_true rfl) dX10_pieceOf_55 ?_
          refine lv_iadd hx hb dX10_pieceOf_58 ?_
          refine lv_if_le (tgt := 66) hx hb dX10_pieceOf_59 (by decide) (fun q11 => ?_) (fun q11 => ?_)
          · have hF := kp hF q11
            refine lv_iconst (v := (0 : Int32)) hx hb dX10_pieceOf_66 (by decide) ?_
            exact wk_M_pieceOf_b67 E  a0 a1 C hP  hK hT k6 hk6 (f_M_pieceOf_b15 k6 a0 a1 n) ih v2 v3 v4 (0 : Int32) hF _ (lv_sub hl [0, 1, 2, 3] rfl)
          · have hF := kn hF q11
            refine lv_iconst (v := (1 : Int32)) hx hb dX10_pieceOf_62 (by decide) ?_
            refine lv_goto (tgt := 67) hx hb dX10_pieceOf_63 (by decide) ?_
            exact wk_M_pieceOf_b67 E  a0 a1 C hP  hK hT k6 hk6 (f_M_pieceOf_b15 k6 a0 a1 n) ih v2 v3 v4 (1 : Int32) hF _ (lv_sub hl [0, 1, 2, 3] rfl)
set_option maxHeartbeats 4000000 in
set_option maxRecDepth 100000 in
theorem wk_M_pieceOf_b6 {p : Program} {l : Launch} {e : Env} {s : State} {m : MethodId} {args : Array Value} {below : List Frame} {meth : Method} {c : Code} (E : kE)    (a0 : Int32) (a1 : Int32) {out : Int32} (C : kC RX10 cX10_pieceOf 6 (some .int) p s m args meth c) (hP : va_P (eD E) vwCl (w_M_pieceOf E ) s.heap) (hK : va_K (eD E) vwCl (eT E) s) (hT : sT E (fun _ => False) s s.heap)  :
    ∀ (n : Nat), ∀ (v2 : Int32) (v3 : Int32), f_M_pieceOf_b6  a0 a1 n v2 v3 = some out → ∀ (ls : Array Slot), lv_has ls 6 [(0, .int a0), (2, .int v2), (3, .int v3)] → W p l e (rm 5) s m args below meth c s.heap [] 0 0 (MQ below (qR (.int out)) args s 0 0 (fun _ => False)) (F0 m 6 ls []) := by
  obtain ⟨hx, hb, hr, hml, hown, hw, hlocks⟩ := id C
  have hS : va_S (fun _ => False) s.heap s.heap [] := va_S.rf
  intro n
  induction n with
  | zero =>
    intro v2 v3 hF
    exact absurd (show (none : Option (Int32)) = some out from hF) nofun
  | succ n ih =>
    intro v2 v3 hF ls hl
    rw [f_M_pieceOf_b6] at hF
    refine lv_iload_n hx hb dX10_pieceOf_6 rfl (lv_at hl 2 rfl) ?_
    refine lv_if_eq (tgt := 99) hx hb dX10_pieceOf_7 (by decide) (fun q12 => ?_) (fun q12 => ?_)
    · have hF := kp hF q12
      refine lv_iload_n hx hb dX10_pieceOf_99 rfl (lv_at hl 1 rfl) ?_
      obtain rfl := Option.some.inj hF
      exact W.iret hx hb hr (fun t ht hW => ⟨rfl, ht⟩) nofun dX10_pieceOf_100
    · have hF := kn hF q12
      refine lv_iconst (v := (0 : Int32)) hx hb dX10_pieceOf_10 (by decide) ?_
      refine lv_istore_n (lv' := [(3, .int (0 : Int32)), (0, .int a0), (2, .int v2)]) hx hb dX10_pieceOf_11 rfl hl (by decide) rfl (fun ls hl => ?_)
      refine lv_iconst (v := (0 : Int32)) hx hb dX10_pieceOf_12 (by decide) ?_
      refine lv_istore (lv' := [(4, .int (0 : Int32)), (3, .int (0 : Int32)), (0, .int a0), (2, .int v2)]) hx hb dX10_pieceOf_13 hl (by decide) rfl (fun ls hl => ?_)
      exact wk_M_pieceOf_b15 E  a0 a1 C hP  hK hT (f_M_pieceOf_b6  a0 a1 n) ih 5000 v2 (0 : Int32) (0 : Int32) hF _ (lv_sub hl [2, 3, 1, 0] rfl)
set_option maxHeartbeats 4000000 in
set_option maxRecDepth 100000 in
theorem k_M_pieceOf (l : Launch) (E : kE)    (a0 : Int32) (a1 : Int32) (out : Int32) (hF : f_M_pieceOf  a0 a1 = some out) : Met l yX10_pieceOf (Cond.code yX10_pieceOf cX10_pieceOf 6 (some .int) :: wG) (rm 5) (pR E (w_M_pieceOf E ) [.int a0, .int a1]) (qR (.int out)) 0 0 (fun _ => False) := by
  refine met_R (by decide) (Nat.le_of_ble_eq_true rfl) ?_
  intro p e s m args below meth c ls C hP hK hT hl
  obtain ⟨hx, hb, hr, hml, hown, hw, hlocks⟩ := id C
  have hS : va_S (fun _ => False) s.heap s.heap [] := va_S.rf
  have hl : lv_has ls 6 [(0, .int a0), (1, .int a1)] := hl
  rw [f_M_pieceOf] at hF
  refine lv_iconst (v := (1 : Int32)) hx hb dX10_pieceOf_0 (by decide) ?_
  refine lv_iload_n hx hb dX10_pieceOf_1 rfl (lv_at hl 1 rfl) ?_
  refine lv_ishl hx hb dX10_pieceOf_2 ?_
  refine lv_istore_n (lv' := [(2, .int ((1 : Int32) <<< (a1 &&& 31))), (0, .int a0), (1, .int a1)]) hx hb dX10_pieceOf_3 rfl hl (by decide) rfl (fun ls hl => ?_)
  refine lv_iconst (v := (1 : Int32)) hx hb dX10_pieceOf_4 (by decide) ?_
  refine lv_istore_n (lv' := [(3, .int (1 : Int32)), (2, .int ((1 : Int32) <<< (a1 &&& 31))), (0, .int a0), (1, .int a1)]) hx hb dX10_pieceOf_5 rfl hl (by decide) rfl (fun ls hl => ?_)
  exact wk_M_pieceOf_b6 E  a0 a1 C hP  hK hT  5000 ((1 : Int32) <<< (a1 &&& 31)) (1 : Int32) hF _ (lv_sub hl [2, 1, 0] rfl)
abbrev w_M_least (E : kE)    : va_W := []
set_option maxHeartbeats 4000000 in
set_option maxRecDepth 100000 in
theorem wk_M_least_b2 {p : Program} {l : Launch} {e : Env} {s : State} {m : MethodId} {args : Array Value} {below : List Frame} {meth : Method} {c : Code} (E : kE)    (a0 : Int32) {out : Int32} (C : kC RX10 cX10_least 2 (some .int) p s m args meth c) (hP : va_P (eD E) vwCl (w_M_least E ) s.heap) (hK : va_K (eD E) vwCl (eT E) s) (hT : sT E (fun _ => False) s s.heap)  :
    ∀ (n : Nat), ∀ (v1 : Int32), f_M_least_b2  a0 n v1 = some out → ∀ (ls : Array Slot), lv_has ls 2 [(0, .int a0), (1, .int v1)] → W p l e (rm 2) s m args below meth c s.heap [] 0 0 (MQ below (qR (.int out)) args s 0 0 (fun _ => False)) (F0 m 2 ls []) := by
  obtain ⟨hx, hb, hr, hml, hown, hw, hlocks⟩ := id C
  have hS : va_S (fun _ => False) s.heap s.heap [] := va_S.rf
  intro n
  induction n with
  | zero =>
    intro v1 hF
    exact absurd (show (none : Option (Int32)) = some out from hF) nofun
  | succ n ih =>
    intro v1 hF ls hl
    rw [f_M_least_b2] at hF
    refine lv_iload_n hx hb dX10_least_2 rfl (lv_at hl 0 rfl) ?_
    refine lv_iload_n hx hb dX10_least_3 rfl (lv_at hl 1 rfl) ?_
    obtain ⟨r1, er1, hF⟩ := kb hF
    refine kRS (rest := []) C (k_M_has l E a0 v1 r1 er1) fn_M_has mw_952 ⟨Nat.le_of_ble_eq_true rfl, Nat.le_of_ble_eq_true rfl⟩ hK hT hS hP [] rfl rfl rfl hl (Nat.le_of_ble_eq_true rfl) dX10_least_4 ?_
    refine lv_if_ne (tgt := 16) hx hb dX10_least_7 (by decide) (fun q2 => ?_) (fun q2 => ?_)
    · have hF := kn hF q2
      refine lv_iload_n hx hb dX10_least_16 rfl (lv_at hl 1 rfl) ?_
      obtain rfl := Option.some.inj hF
      exact W.iret hx hb hr (fun t ht hW => ⟨rfl, ht⟩) nofun dX10_least_17
    · have hF := kp hF q2
      refine lv_iinc (v := (v1 + (1))) (lv' := [(1, .int (v1 + (1))), (0, .int a0)]) hx hb dX10_least_10 hl (k := 1) rfl rfl (by decide) rfl (fun ls hl => ?_)
      refine lv_goto (tgt := 2) hx hb dX10_least_13 (by decide) ?_
      exact ih (v1 + (1)) hF _ (lv_sub hl [1, 0] rfl)
set_option maxHeartbeats 4000000 in
set_option maxRecDepth 100000 in
theorem k_M_least (l : Launch) (E : kE)    (a0 : Int32) (out : Int32) (hF : f_M_least  a0 = some out) : Met l yX10_least (Cond.code yX10_least cX10_least 2 (some .int) :: wG) (rm 2) (pR E (w_M_least E ) [.int a0]) (qR (.int out)) 0 0 (fun _ => False) := by
  refine met_R (by decide) (Nat.le_of_ble_eq_true rfl) ?_
  intro p e s m args below meth c ls C hP hK hT hl
  obtain ⟨hx, hb, hr, hml, hown, hw, hlocks⟩ := id C
  have hS : va_S (fun _ => False) s.heap s.heap [] := va_S.rf
  have hl : lv_has ls 2 [(0, .int a0)] := hl
  rw [f_M_least] at hF
  refine lv_iconst (v := (0 : Int32)) hx hb dX10_least_0 (by decide) ?_
  refine lv_istore_n (lv' := [(1, .int (0 : Int32)), (0, .int a0)]) hx hb dX10_least_1 rfl hl (by decide) rfl (fun ls hl => ?_)
  exact wk_M_least_b2 E  a0 C hP  hK hT  5000 (0 : Int32) hF _ (lv_sub hl [1, 0] rfl)
abbrev w_M_piecesOf (E : kE)    : va_W := []
set_option maxHeartbeats 4000000 in
set_option maxRecDepth 100000 in
theorem wk_M_piecesOf_b4 {p : Program} {l : Launch} {e : Env} {s : State} {m : MethodId} {args : Array Value} {below : List Frame} {meth : Method} {c : Code} (E : kE)    (a0 : Int32) {out : Int32} (C : kC RX10 cX10_piecesOf 3 (some .int) p s m args meth c) (hP : va_P (eD E) vwCl (w_M_piecesOf E ) s.heap) (hK : va_K (eD E) vwCl (eT E) s) (hT : sT E (fun _ => False) s s.heap)  :
    ∀ (n : Nat), ∀ (v1 : Int32) (v2 : Int32), f_M_piecesOf_b4  a0 n v1 v2 = some out → ∀ (ls : Array Slot), lv_has ls 3 [(0, .int a0), (1, .int v1), (2, .int v2)] → W p l e (rm 6) s m args below meth c s.heap [] 0 0 (MQ below (qR (.int out)) args s 0 0 (fun _ => False)) (F0 m 4 ls []) := by
  obtain ⟨hx, hb, hr, hml, hown, hw, hlocks⟩ := id C
  have hS : va_S (fun _ => False) s.heap s.heap [] := va_S.rf
  intro n
  induction n with
  | zero =>
    intro v1 v2 hF
    exact absurd (show (none : Option (Int32)) = some out from hF) nofun
  | succ n ih =>
    intro v1 v2 hF ls hl
    rw [f_M_piecesOf_b4] at hF
    refine lv_iload_n hx hb dX10_piecesOf_4 rfl (lv_at hl 2 rfl) ?_
    refine lv_if_eq (tgt := 27) hx hb dX10_piecesOf_5 (by decide) (fun q1 => ?_) (fun q1 => ?_)
    · have hF := kp hF q1
      refine lv_iload_n hx hb dX10_piecesOf_27 rfl (lv_at hl 1 rfl) ?_
      obtain rfl := Option.some.inj hF
      exact W.iret hx hb hr (fun t ht hW => ⟨rfl, ht⟩) nofun dX10_piecesOf_28
    · have hF := kn hF q1
      refine lv_iload_n hx hb dX10_piecesOf_8 rfl (lv_at hl 2 rfl) ?_
      refine lv_iload_n hx hb dX10_piecesOf_9 rfl (lv_at hl 0 rfl) ?_
      refine lv_iload_n hx hb dX10_piecesOf_10 rfl (lv_at hl 2 rfl) ?_
      obtain ⟨r2, er2, hF⟩ := kb hF
      refine kRS (rest := [.int a0, .int v2]) C (k_M_least l E v2 r2 er2) fn_M_least mw_976 ⟨Nat.le_of_ble_eq_true rfl, Nat.le_of_ble_eq_true rfl⟩ hK hT hS hP [] rfl rfl rfl hl (Nat.le_of_ble_eq_true rfl) dX10_piecesOf_11 ?_
      obtain ⟨r3, er3, hF⟩ := kb hF
      refine kRS (rest := [.int v2]) C (k_M_pieceOf l E a0 r2 r3 er3) fn_M_pieceOf mw_979 ⟨Nat.le_of_ble_eq_true rfl, Nat.le_of_ble_eq_true rfl⟩ hK hT hS hP [] rfl rfl rfl hl (Nat.le_of_ble_eq_true rfl) dX10_piecesOf_14 ?_
      refine lv_iconst (v := (-1 : Int32)) hx hb dX10_piecesOf_17 (by decide) ?_
      refine lv_ixor hx hb dX10_piecesOf_18 ?_
      refine lv_iand hx hb dX10_piecesOf_19 ?_
      refine lv_istore_n (lv' := [(2, .int (v2 &&& (r3 ^^^ (-1 : Int32)))), (0, .int a0), (1, .int v1)]) hx hb dX10_piecesOf_20 rfl hl (by decide) rfl (fun ls hl => ?_)
      refine lv_iinc (v := (v1 + (1))) (lv' := [(1, .int (v1 + (1))), (2, .int (v2 &&& (r3 ^^^ (-1 : Int32)))), (0, .int a0)]) hx hb dX10_piecesOf_21 hl (k := 2) rfl rfl (by decide) rfl (fun ls hl => ?_)
      refine lv_goto (tgt := 4) hx hb dX10_piecesOf_24 (by decide) ?_
      exact ih (v1 + (1)) (v2 &&& (r3 ^^^ (-1 : Int32))) hF _ (lv_sub hl [2, 0, 1] rfl)
set_option maxHeartbeats 4000000 in
set_option maxRecDepth 100000 in
theorem k_M_piecesOf (l : Launch) (E : kE)    (a0 : Int32) (out : Int32) (hF : f_M_piecesOf  a0 = some out) : Met l yX10_piecesOf (Cond.code yX10_piecesOf cX10_piecesOf 3 (some .int) :: wG) (rm 6) (pR E (w_M_piecesOf E ) [.int a0]) (qR (.int out)) 0 0 (fun _ => False) := by
  refine met_R (by decide) (Nat.le_of_ble_eq_true rfl) ?_
  intro p e s m args below meth c ls C hP hK hT hl
  obtain ⟨hx, hb, hr, hml, hown, hw, hlocks⟩ := id C
  have hS : va_S (fun _ => False) s.heap s.heap [] := va_S.rf
  have hl : lv_has ls 3 [(0, .int a0)] := hl
  rw [f_M_piecesOf] at hF
  refine lv_iconst (v := (0 : Int32)) hx hb dX10_piecesOf_0 (by decide) ?_
  refine lv_istore_n (lv' := [(1, .int (0 : Int32)), (0, .int a0)]) hx hb dX10_piecesOf_1 rfl hl (by decide) rfl (fun ls hl => ?_)
  refine lv_iload_n hx hb dX10_piecesOf_2 rfl (lv_at hl 1 rfl) ?_
  refine lv_istore_n (lv' := [(2, .int a0), (1, .int (0 : Int32)), (0, .int a0)]) hx hb dX10_piecesOf_3 rfl hl (by decide) rfl (fun ls hl => ?_)
  exact wk_M_piecesOf_b4 E  a0 C hP  hK hT  5000 (0 : Int32) a0 hF _ (lv_sub hl [2, 1, 0] rfl)
abbrev w_M_linesOf (E : kE)    : va_W := []
set_option maxHeartbeats 4000000 in
set_option maxRecDepth 100000 in
theorem wk_M_linesOf_b41 {p : Program} {l : Launch} {e : Env} {s : State} {m : MethodId} {args : Array Value} {below : List Frame} {meth : Method} {c : Code} (E : kE)    (a0 : Int32) {out : Int32} (C : kC RX10 cX10_linesOf 5 (some .int) p s m args meth c) (hP : va_P (eD E) vwCl (w_M_linesOf E ) s.heap) (hK : va_K (eD E) vwCl (eT E) s) (hT : sT E (fun _ => False) s s.heap) (k4 : Int32 → Int32 → Option (Int32)) (hk4 : ∀ (v1 : Int32) (v2 : Int32), k4 v1 v2 = some out → ∀ (ls : Array Slot), lv_has ls 5 [(0, .int a0), (1, .int v1), (2, .int v2)] → W p l e (rm 6) s m args below meth c s.heap [] 0 0 (MQ below (qR (.int out)) args s 0 0 (fun _ => False)) (F0 m 4 ls [])) :
    ∀ (v2 : Int32) (v3 : Int32) (s0 : Int32) (s1 : Int32), f_M_linesOf_b41 k4 a0 v2 v3 s0 s1 = some out → ∀ (ls : Array Slot), lv_has ls 5 [(0, .int a0), (2, .int v2), (3, .int v3)] → W p l e (rm 6) s m args below meth c s.heap [] 0 0 (MQ below (qR (.int out)) args s 0 0 (fun _ => False)) (F0 m 41 ls [.int s0, .int s1]) := by
  obtain ⟨hx, hb, hr, hml, hown, hw, hlocks⟩ := id C
  have hS : va_S (fun _ => False) s.heap s.heap [] := va_S.rf
  intro v2 v3 s0 s1 hF ls hl
  rw [f_M_linesOf_b41] at hF
  refine lv_iadd hx hb dX10_linesOf_41 ?_
  refine lv_istore_n (lv' := [(1, .int (s1 + s0)), (0, .int a0), (2, .int v2), (3, .int v3)]) hx hb dX10_linesOf_42 rfl hl (by decide) rfl (fun ls hl => ?_)
  refine lv_iload_n hx hb dX10_linesOf_43 rfl (lv_at hl 2 rfl) ?_
  refine lv_iload_n hx hb dX10_linesOf_44 rfl (lv_at hl 3 rfl) ?_
  refine lv_iconst (v := (-1 : Int32)) hx hb dX10_linesOf_45 (by decide) ?_
  refine lv_ixor hx hb dX10_linesOf_46 ?_
  refine lv_iand hx hb dX10_linesOf_47 ?_
  refine lv_istore_n (lv' := [(2, .int (v2 &&& (v3 ^^^ (-1 : Int32)))), (1, .int (s1 + s0)), (0, .int a0), (3, .int v3)]) hx hb dX10_linesOf_48 rfl hl (by decide) rfl (fun ls hl => ?_)
  refine lv_goto (tgt := 4) hx hb dX10_linesOf_49 (by decide) ?_
  exact hk4 (s1 + s0) (v2 &&& (v3 ^^^ (-1 : Int32))) hF _ (lv_sub hl [2, 1, 0] rfl)
set_option maxHeartbeats 4000000 in
set_option maxRecDepth 100000 in
theorem wk_M_linesOf_b4 {p : Program} {l : Launch} {e : Env} {s : State} {m : MethodId} {args : Array Value} {below : List Frame} {meth : Method} {c : Code} (E : kE)    (a0 : Int32) {out : Int32} (C : kC RX10 cX10_linesOf 5 (some .int) p s m args meth c) (hP : va_P (eD E) vwCl (w_M_linesOf E ) s.heap) (hK : va_K (eD E) vwCl (eT E) s) (hT : sT E (fun _ => False) s s.heap)  :
    ∀ (n : Nat), ∀ (v1 : Int32) (v2 : Int32), f_M_linesOf_b4  a0 n v1 v2 = some out → ∀ (ls : Array Slot), lv_has ls 5 [(0, .int a0), (1, .int v1), (2, .int v2)] → W p l e (rm 6) s m args below meth c s.heap [] 0 0 (MQ below (qR (.int out)) args s 0 0 (fun _ => False)) (F0 m 4 ls []) := by
  obtain ⟨hx, hb, hr, hml, hown, hw, hlocks⟩ := id C
  have hS : va_S (fun _ => False) s.heap s.heap [] := va_S.rf
  intro n
  induction n with
  | zero =>
    intro v1 v2 hF
    exact absurd (show (none : Option (Int32)) = some out from hF) nofun
  | succ n ih =>
    intro v1 v2 hF ls hl
    rw [f_M_linesOf_b4] at hF
    refine lv_iload_n hx hb dX10_linesOf_4 rfl (lv_at hl 2 rfl) ?_
    refine lv_if_eq (tgt := 52) hx hb dX10_linesOf_5 (by decide) (fun q1 => ?_) (fun q1 => ?_)
    · have hF := kp hF q1
      refine lv_iload_n hx hb dX10_linesOf_52 rfl (lv_at hl 1 rfl) ?_
      obtain rfl := Option.some.inj hF
      exact W.iret hx hb hr (fun t ht hW => ⟨rfl, ht⟩) nofun dX10_linesOf_53
    · have hF := kn hF q1
      refine lv_iload_n hx hb dX10_linesOf_8 rfl (lv_at hl 0 rfl) ?_
      refine lv_iload_n hx hb dX10_linesOf_9 rfl (lv_at hl 2 rfl) ?_
      obtain ⟨r2, er2, hF⟩ := kb hF
      refine kRS (rest := [.int a0]) C (k_M_least l E v2 r2 er2) fn_M_least mw_976 ⟨Nat.le_of_ble_eq_true rfl, Nat.le_of_ble_eq_true rfl⟩ hK hT hS hP [] rfl rfl rfl hl (Nat.le_of_ble_eq_true rfl) dX10_linesOf_10 ?_
      obtain ⟨r3, er3, hF⟩ := kb hF
      refine kRS (rest := []) C (k_M_pieceOf l E a0 r2 r3 er3) fn_M_pieceOf mw_979 ⟨Nat.le_of_ble_eq_true rfl, Nat.le_of_ble_eq_true rfl⟩ hK hT hS hP [] rfl rfl rfl hl (Nat.le_of_ble_eq_true rfl) dX10_linesOf_13 ?_
      refine lv_istore_n (lv' := [(3, .int r3), (0, .int a0), (1, .int v1), (2, .int v2)]) hx hb dX10_linesOf_16 rfl hl (by decide) rfl (fun ls hl => ?_)
      refine lv_iload_n hx hb dX10_linesOf_17 rfl (lv_at hl 0 rfl) ?_
      obtain ⟨r4, er4, hF⟩ := kb hF
      refine kRS (rest := []) C (k_M_odds l E r3 r4 er4) fn_M_odds mw_946 ⟨Nat.le_of_ble_eq_true rfl, Nat.le_of_ble_eq_true rfl⟩ hK hT hS hP [] rfl rfl rfl hl (Nat.le_of_ble_eq_true rfl) dX10_linesOf_18 ?_
      obtain ⟨r5, er5, hF⟩ := kb hF
      refine kRS (rest := []) C (k_M_ones l E r4 r5 er5) fn_M_ones mw_989 ⟨Nat.le_of_ble_eq_true rfl, Nat.le_of_ble_eq_true rfl⟩ hK hT hS hP [] rfl rfl rfl hl (Nat.le_of_ble_eq_true rfl) dX10_linesOf_21 ?_
      refine lv_iconst (v := (2 : Int32)) hx hb dX10_linesOf_24 (by decide) ?_
      refine lv_idiv hx hb dX10_linesOf_25 (by decide) ?_
      refine lv_istore (lv' := [(4, .int (r5 / (2 : Int32))), (3, .int r3), (0, .int a0), (1, .int v1), (2, .int v2)]) hx hb dX10_linesOf_26 hl (by decide) rfl (fun ls hl => ?_)
      refine lv_iload_n hx hb dX10_linesOf_28 rfl (lv_at hl 3 rfl) ?_
      refine lv_iload hx hb dX10_linesOf_29 (lv_at hl 0 rfl) ?_
      refine lv_iconst (v := (1 : Int32)) hx hb dX10_linesOf_31 (by decide) ?_
      refine lv_icmp_le (tgt := 40) hx hb dX10_linesOf_32 (by decide) (fun q6 => ?_) (fun q6 => ?_)
      · have hF := kp hF q6
        refine lv_iconst (v := (1 : Int32)) hx hb dX10_linesOf_40 (by decide) ?_
        exact wk_M_linesOf_b41 E  a0 C hP  hK hT (f_M_linesOf_b4  a0 n) ih v2 r3 (1 : Int32) v1 hF _ (lv_sub hl [2, 4, 1] rfl)
      · have hF := kn hF q6
        refine lv_iload hx hb dX10_linesOf_35 (lv_at hl 0 rfl) ?_
        refine lv_goto (tgt := 41) hx hb dX10_linesOf_37 (by decide) ?_
        exact wk_M_linesOf_b41 E  a0 C hP  hK hT (f_M_linesOf_b4  a0 n) ih v2 r3 (r5 / (2 : Int32)) v1 hF _ (lv_sub hl [2, 4, 1] rfl)
set_option maxHeartbeats 4000000 in
set_option maxRecDepth 100000 in
theorem k_M_linesOf (l : Launch) (E : kE)    (a0 : Int32) (out : Int32) (hF : f_M_linesOf  a0 = some out) : Met l yX10_linesOf (Cond.code yX10_linesOf cX10_linesOf 5 (some .int) :: wG) (rm 6) (pR E (w_M_linesOf E ) [.int a0]) (qR (.int out)) 0 0 (fun _ => False) := by
  refine met_R (by decide) (Nat.le_of_ble_eq_true rfl) ?_
  intro p e s m args below meth c ls C hP hK hT hl
  obtain ⟨hx, hb, hr, hml, hown, hw, hlocks⟩ := id C
  have hS : va_S (fun _ => False) s.heap s.heap [] := va_S.rf
  have hl : lv_has ls 5 [(0, .int a0)] := hl
  rw [f_M_linesOf] at hF
  refine lv_iconst (v := (0 : Int32)) hx hb dX10_linesOf_0 (by decide) ?_
  refine lv_istore_n (lv' := [(1, .int (0 : Int32)), (0, .int a0)]) hx hb dX10_linesOf_1 rfl hl (by decide) rfl (fun ls hl => ?_)
  refine lv_iload_n hx hb dX10_linesOf_2 rfl (lv_at hl 1 rfl) ?_
  refine lv_istore_n (lv' := [(2, .int a0), (1, .int (0 : Int32)), (0, .int a0)]) hx hb dX10_linesOf_3 rfl hl (by decide) rfl (fun ls hl => ?_)
  exact wk_M_linesOf_b4 E  a0 C hP  hK hT  5000 (0 : Int32) a0 hF _ (lv_sub hl [2, 1, 0] rfl)
abbrev w_M_straysOf (E : kE)    : va_W := []
set_option maxHeartbeats 4000000 in
set_option maxRecDepth 100000 in
theorem k_M_straysOf (l : Launch) (E : kE)    (a0 : Int32) (out : Int32) (hF : f_M_straysOf  a0 = some out) : Met l yX10_straysOf (Cond.code yX10_straysOf cX10_straysOf 1 (some .int) :: wG) (rm 7) (pR E (w_M_straysOf E ) [.int a0]) (qR (.int out)) 0 0 (fun _ => False) := by
  refine met_R (by decide) (Nat.le_of_ble_eq_true rfl) ?_
  intro p e s m args below meth c ls C hP hK hT hl
  obtain ⟨hx, hb, hr, hml, hown, hw, hlocks⟩ := id C
  have hS : va_S (fun _ => False) s.heap s.heap [] := va_S.rf
  have hl : lv_has ls 1 [(0, .int a0)] := hl
  rw [f_M_straysOf] at hF
  refine lv_iload_n hx hb dX10_straysOf_0 rfl (lv_at hl 0 rfl) ?_
  refine lv_if_ne (tgt := 8) hx hb dX10_straysOf_1 (by decide) (fun q1 => ?_) (fun q1 => ?_)
  · have hF := kn hF q1
    refine lv_iload_n hx hb dX10_straysOf_8 rfl (lv_at hl 0 rfl) ?_
    obtain ⟨r2, er2, hF⟩ := kb hF
    refine kRS (rest := []) C (k_M_linesOf l E a0 r2 er2) fn_M_linesOf mw_986 ⟨Nat.le_of_ble_eq_true rfl, Nat.le_of_ble_eq_true rfl⟩ hK hT hS hP [] rfl rfl rfl hl (Nat.le_of_ble_eq_true rfl) dX10_straysOf_9 ?_
    refine lv_iconst (v := (1 : Int32)) hx hb dX10_straysOf_12 (by decide) ?_
    refine lv_isub hx hb dX10_straysOf_13 ?_
    obtain rfl := Option.some.inj hF
    exact W.iret hx hb hr (fun t ht hW => ⟨rfl, ht⟩) nofun dX10_straysOf_14
  · have hF := kp hF q1
    refine lv_iconst (v := (0 : Int32)) hx hb dX10_straysOf_4 (by decide) ?_
    refine lv_goto (tgt := 14) hx hb dX10_straysOf_5 (by decide) ?_
    obtain rfl := Option.some.inj hF
    exact W.iret hx hb hr (fun t ht hW => ⟨rfl, ht⟩) nofun dX10_straysOf_14
abbrev w_M_odd (E : kE) (h_t : Nat) (h_t_findings : Nat) (x_t_s : Nat) (x_t_kept : Nat) (x_t_before : Nat) (x_t_shown : Nat) (x_t_worths : Nat) (x_t_steps : Nat) (x_t_tape : Nat) (x_t_bits : Nat) (x_t_longs : Nat) (x_t_cells : Nat) (x_t_between : Nat) (c_t_isKept : Int32) (c_t_most : Int32) (c_t_taped : Int32) (c_t_here : Int32) (c_t_fault : Int32) (c_t_value : Int32) (c_t_findings : (Nat → Int32)) : va_W := [(h_t, .inr (8, [.ref x_t_s, .ref x_t_kept, .ref x_t_before, .int c_t_isKept, .ref h_t_findings, .ref x_t_shown, .int c_t_most, .ref x_t_worths, .ref x_t_steps, .ref x_t_tape, .int c_t_taped, .int c_t_here, .int c_t_fault, .int c_t_value, .ref x_t_bits, .ref x_t_longs, .ref x_t_cells, .ref x_t_between])), (h_t_findings, .inl (eI E, 7, .inl c_t_findings))]
set_option maxHeartbeats 4000000 in
set_option maxRecDepth 100000 in
theorem k_M_odd (l : Launch) (E : kE) (h_t : Nat) (h_t_findings : Nat) (x_t_s : Nat) (x_t_kept : Nat) (x_t_before : Nat) (x_t_shown : Nat) (x_t_worths : Nat) (x_t_steps : Nat) (x_t_tape : Nat) (x_t_bits : Nat) (x_t_longs : Nat) (x_t_cells : Nat) (x_t_between : Nat) (sz : Nat) (c_t_isKept : Int32) (c_t_most : Int32) (c_t_taped : Int32) (c_t_here : Int32) (c_t_fault : Int32) (c_t_value : Int32) (c_t_findings : (Nat → Int32)) (a1 : Int32) (out : Int32 × (Nat → Int32)) (hF : f_M_odd c_t_findings a1 = some out) : Met l yX10_odd (Cond.code yX10_odd cX10_odd 2 (some .int) :: wG) (rm 6) (pW E (w_M_odd E h_t h_t_findings x_t_s x_t_kept x_t_before x_t_shown x_t_worths x_t_steps x_t_tape x_t_bits x_t_longs x_t_cells x_t_between c_t_isKept c_t_most c_t_taped c_t_here c_t_fault c_t_value c_t_findings) sz [.ref h_t, .int a1]) (qW (some (.int out.1)) E (w_M_odd E h_t h_t_findings x_t_s x_t_kept x_t_before x_t_shown x_t_worths x_t_steps x_t_tape x_t_bits x_t_longs x_t_cells x_t_between c_t_isKept c_t_most c_t_taped c_t_here c_t_fault c_t_value out.2) (va_A (w_M_odd E h_t h_t_findings x_t_s x_t_kept x_t_before x_t_shown x_t_worths x_t_steps x_t_tape x_t_bits x_t_longs x_t_cells x_t_between c_t_isKept c_t_most c_t_taped c_t_here c_t_fault c_t_value c_t_findings) sz)) 0 0 (va_A (w_M_odd E h_t h_t_findings x_t_s x_t_kept x_t_before x_t_shown x_t_worths x_t_steps x_t_tape x_t_bits x_t_longs x_t_cells x_t_between c_t_isKept c_t_most c_t_taped c_t_here c_t_fault c_t_value c_t_findings) sz) := by
  refine met_W (by decide) (Nat.le_of_ble_eq_true rfl) ?_
  intro p e s m args below meth c A ls C hP hD hS hA hK hT hl
  obtain ⟨hx, hb, hr, hml, hown, hw, hlocks⟩ := id C
  have hl : lv_has ls 2 [(0, .ref h_t), (1, .int a1)] := hl
  rw [f_M_odd] at hF
  refine lv_iload_n hx hb dX10_odd_0 rfl (lv_at hl 1 rfl) ?_
  obtain ⟨r1, er1, hF⟩ := kb hF
  refine kRS (rest := []) C (k_M_isForm l E a1 r1 er1) fn_M_isForm mw_940 ⟨Nat.le_of_ble_eq_true rfl, Nat.le_of_ble_eq_true rfl⟩ hK hT hS hP [] rfl rfl rfl hl (Nat.le_of_ble_eq_true rfl) dX10_odd_1 ?_
  refine lv_if_eq (tgt := 14) hx hb dX10_odd_4 (by decide) (fun q2 => ?_) (fun q2 => ?_)
  · have hF := kp hF q2
    refine lv_aload_n hx hb dX10_odd_14 rfl (lv_at hl 0 rfl) ?_
    refine lv_iconst (v := (0 : Int32)) hx hb dX10_odd_15 (by decide) ?_
    obtain ⟨r3, er3, hF⟩ := kb hF
    refine kWV (rest := []) (Wr := []) (Wn := (w_M_odd E h_t h_t_findings x_t_s x_t_kept x_t_before x_t_shown x_t_worths x_t_steps x_t_tape x_t_bits x_t_longs x_t_cells x_t_between c_t_isKept c_t_most c_t_taped c_t_here c_t_fault c_t_value r3.2)) C (k_M_no l E h_t h_t_findings x_t_s x_t_kept x_t_before x_t_shown x_t_worths x_t_steps x_t_tape x_t_bits x_t_longs x_t_cells x_t_between s.heap.size c_t_isKept c_t_most c_t_taped c_t_here c_t_fault c_t_value c_t_findings (0 : Int32) r3 er3) fn_M_no mw_964 ⟨Nat.le_of_ble_eq_true rfl, Nat.le_of_ble_eq_true rfl⟩ hK hT hS hA (va_recv hK hP (ci := 8) (q0 := 0) rfl rfl) hP hD [0, 1] rfl (by decide) [] rfl (by decide) (by decide) [0, 1] rfl (by decide) rfl rfl hl (Nat.le_of_ble_eq_true rfl) dX10_odd_16 (fun H locs hP hD hS => ?_)
    refine W.eq (g2 := F0 m 19 ls [.int r3.1]) rfl ?_
    obtain rfl := Option.some.inj hF
    exact W.iret hx hb hr (fun t ht hW => ⟨⟨rfl, by rw [ht]; exact hP, hD⟩, hS.F ht⟩) hS.2.2 dX10_odd_19
  · have hF := kn hF q2
    refine lv_iload_n hx hb dX10_odd_7 rfl (lv_at hl 1 rfl) ?_
    obtain ⟨r4, er4, hF⟩ := kb hF
    refine kRS (rest := []) C (k_M_odds l E a1 r4 er4) fn_M_odds mw_946 ⟨Nat.le_of_ble_eq_true rfl, Nat.le_of_ble_eq_true rfl⟩ hK hT hS hP [] rfl rfl rfl hl (Nat.le_of_ble_eq_true rfl) dX10_odd_8 ?_
    refine lv_goto (tgt := 19) hx hb dX10_odd_11 (by decide) ?_
    obtain rfl := Option.some.inj hF
    exact W.iret hx hb hr (fun t ht hW => ⟨⟨rfl, by rw [ht]; exact hP, hD⟩, hS.F ht⟩) hS.2.2 dX10_odd_19
abbrev w_M_pieces (E : kE) (h_t : Nat) (h_t_findings : Nat) (x_t_s : Nat) (x_t_kept : Nat) (x_t_before : Nat) (x_t_shown : Nat) (x_t_worths : Nat) (x_t_steps : Nat) (x_t_tape : Nat) (x_t_bits : Nat) (x_t_longs : Nat) (x_t_cells : Nat) (x_t_between : Nat) (c_t_isKept : Int32) (c_t_most : Int32) (c_t_taped : Int32) (c_t_here : Int32) (c_t_fault : Int32) (c_t_value : Int32) (c_t_findings : (Nat → Int32)) : va_W := [(h_t, .inr (8, [.ref x_t_s, .ref x_t_kept, .ref x_t_before, .int c_t_isKept, .ref h_t_findings, .ref x_t_shown, .int c_t_most, .ref x_t_worths, .ref x_t_steps, .ref x_t_tape, .int c_t_taped, .int c_t_here, .int c_t_fault, .int c_t_value, .ref x_t_bits, .ref x_t_longs, .ref x_t_cells, .ref x_t_between])), (h_t_findings, .inl (eI E, 7, .inl c_t_findings))]
set_option maxHeartbeats 4000000 in
set_option maxRecDepth 100000 in
theorem k_M_pieces (l : Launch) (E : kE) (h_t : Nat) (h_t_findings : Nat) (x_t_s : Nat) (x_t_kept : Nat) (x_t_before : Nat) (x_t_shown : Nat) (x_t_worths : Nat) (x_t_steps : Nat) (x_t_tape : Nat) (x_t_bits : Nat) (x_t_longs : Nat) (x_t_cells : Nat) (x_t_between : Nat) (sz : Nat) (c_t_isKept : Int32) (c_t_most : Int32) (c_t_taped : Int32) (c_t_here : Int32) (c_t_fault : Int32) (c_t_value : Int32) (c_t_findings : (Nat → Int32)) (a1 : Int32) (out : Int32 × (Nat → Int32)) (hF : f_M_pieces c_t_findings a1 = some out) : Met l yX10_pieces (Cond.code yX10_pieces cX10_pieces 2 (some .int) :: wG) (rm 7) (pW E (w_M_pieces E h_t h_t_findings x_t_s x_t_kept x_t_before x_t_shown x_t_worths x_t_steps x_t_tape x_t_bits x_t_longs x_t_cells x_t_between c_t_isKept c_t_most c_t_taped c_t_here c_t_fault c_t_value c_t_findings) sz [.ref h_t, .int a1]) (qW (some (.int out.1)) E (w_M_pieces E h_t h_t_findings x_t_s x_t_kept x_t_before x_t_shown x_t_worths x_t_steps x_t_tape x_t_bits x_t_longs x_t_cells x_t_between c_t_isKept c_t_most c_t_taped c_t_here c_t_fault c_t_value out.2) (va_A (w_M_pieces E h_t h_t_findings x_t_s x_t_kept x_t_before x_t_shown x_t_worths x_t_steps x_t_tape x_t_bits x_t_longs x_t_cells x_t_between c_t_isKept c_t_most c_t_taped c_t_here c_t_fault c_t_value c_t_findings) sz)) 0 0 (va_A (w_M_pieces E h_t h_t_findings x_t_s x_t_kept x_t_before x_t_shown x_t_worths x_t_steps x_t_tape x_t_bits x_t_longs x_t_cells x_t_between c_t_isKept c_t_most c_t_taped c_t_here c_t_fault c_t_value c_t_findings) sz) := by
  refine met_W (by decide) (Nat.le_of_ble_eq_true rfl) ?_
  intro p e s m args below meth c A ls C hP hD hS hA hK hT hl
  obtain ⟨hx, hb, hr, hml, hown, hw, hlocks⟩ := id C
  have hl : lv_has ls 2 [(0, .ref h_t), (1, .int a1)] := hl
  rw [f_M_pieces] at hF
  refine lv_iload_n hx hb dX10_pieces_0 rfl (lv_at hl 1 rfl) ?_
  obtain ⟨r1, er1, hF⟩ := kb hF
  refine kRS (rest := []) C (k_M_isForm l E a1 r1 er1) fn_M_isForm mw_940 ⟨Nat.le_of_ble_eq_true rfl, Nat.le_of_ble_eq_true rfl⟩ hK hT hS hP [] rfl rfl rfl hl (Nat.le_of_ble_eq_true rfl) dX10_pieces_1 ?_
  refine lv_if_eq (tgt := 14) hx hb dX10_pieces_4 (by decide) (fun q2 => ?_) (fun q2 => ?_)
  · have hF := kp hF q2
    refine lv_aload_n hx hb dX10_pieces_14 rfl (lv_at hl 0 rfl) ?_
    refine lv_iconst (v := (0 : Int32)) hx hb dX10_pieces_15 (by decide) ?_
    obtain ⟨r3, er3, hF⟩ := kb hF
    refine kWV (rest := []) (Wr := []) (Wn := (w_M_pieces E h_t h_t_findings x_t_s x_t_kept x_t_before x_t_shown x_t_worths x_t_steps x_t_tape x_t_bits x_t_longs x_t_cells x_t_between c_t_isKept c_t_most c_t_taped c_t_here c_t_fault c_t_value r3.2)) C (k_M_no l E h_t h_t_findings x_t_s x_t_kept x_t_before x_t_shown x_t_worths x_t_steps x_t_tape x_t_bits x_t_longs x_t_cells x_t_between s.heap.size c_t_isKept c_t_most c_t_taped c_t_here c_t_fault c_t_value c_t_findings (0 : Int32) r3 er3) fn_M_no mw_964 ⟨Nat.le_of_ble_eq_true rfl, Nat.le_of_ble_eq_true rfl⟩ hK hT hS hA (va_recv hK hP (ci := 8) (q0 := 0) rfl rfl) hP hD [0, 1] rfl (by decide) [] rfl (by decide) (by decide) [0, 1] rfl (by decide) rfl rfl hl (Nat.le_of_ble_eq_true rfl) dX10_pieces_16 (fun H locs hP hD hS => ?_)
    refine W.eq (g2 := F0 m 19 ls [.int r3.1]) rfl ?_
    obtain rfl := Option.some.inj hF
    exact W.iret hx hb hr (fun t ht hW => ⟨⟨rfl, by rw [ht]; exact hP, hD⟩, hS.F ht⟩) hS.2.2 dX10_pieces_19
  · have hF := kn hF q2
    refine lv_iload_n hx hb dX10_pieces_7 rfl (lv_at hl 1 rfl) ?_
    obtain ⟨r4, er4, hF⟩ := kb hF
    refine kRS (rest := []) C (k_M_piecesOf l E a1 r4 er4) fn_M_piecesOf mw_973 ⟨Nat.le_of_ble_eq_true rfl, Nat.le_of_ble_eq_true rfl⟩ hK hT hS hP [] rfl rfl rfl hl (Nat.le_of_ble_eq_true rfl) dX10_pieces_8 ?_
    refine lv_goto (tgt := 19) hx hb dX10_pieces_11 (by decide) ?_
    obtain rfl := Option.some.inj hF
    exact W.iret hx hb hr (fun t ht hW => ⟨⟨rfl, by rw [ht]; exact hP, hD⟩, hS.F ht⟩) hS.2.2 dX10_pieces_19
abbrev w_M_lines (E : kE) (h_t : Nat) (h_t_findings : Nat) (x_t_s : Nat) (x_t_kept : Nat) (x_t_before : Nat) (x_t_shown : Nat) (x_t_worths : Nat) (x_t_steps : Nat) (x_t_tape : Nat) (x_t_bits : Nat) (x_t_longs : Nat) (x_t_cells : Nat) (x_t_between : Nat) (c_t_isKept : Int32) (c_t_most : Int32) (c_t_taped : Int32) (c_t_here : Int32) (c_t_fault : Int32) (c_t_value : Int32) (c_t_findings : (Nat → Int32)) : va_W := [(h_t, .inr (8, [.ref x_t_s, .ref x_t_kept, .ref x_t_before, .int c_t_isKept, .ref h_t_findings, .ref x_t_shown, .int c_t_most, .ref x_t_worths, .ref x_t_steps, .ref x_t_tape, .int c_t_taped, .int c_t_here, .int c_t_fault, .int c_t_value, .ref x_t_bits, .ref x_t_longs, .ref x_t_cells, .ref x_t_between])), (h_t_findings, .inl (eI E, 7, .inl c_t_findings))]
set_option maxHeartbeats 4000000 in
set_option maxRecDepth 100000 in
theorem k_M_lines (l : Launch) (E : kE) (h_t : Nat) (h_t_findings : Nat) (x_t_s : Nat) (x_t_kept : Nat) (x_t_before : Nat) (x_t_shown : Nat) (x_t_worths : Nat) (x_t_steps : Nat) (x_t_tape : Nat) (x_t_bits : Nat) (x_t_longs : Nat) (x_t_cells : Nat) (x_t_between : Nat) (sz : Nat) (c_t_isKept : Int32) (c_t_most : Int32) (c_t_taped : Int32) (c_t_here : Int32) (c_t_fault : Int32) (c_t_value : Int32) (c_t_findings : (Nat → Int32)) (a1 : Int32) (out : Int32 × (Nat → Int32)) (hF : f_M_lines c_t_findings a1 = some out) : Met l yX10_lines (Cond.code yX10_lines cX10_lines 2 (some .int) :: wG) (rm 7) (pW E (w_M_lines E h_t h_t_findings x_t_s x_t_kept x_t_before x_t_shown x_t_worths x_t_steps x_t_tape x_t_bits x_t_longs x_t_cells x_t_between c_t_isKept c_t_most c_t_taped c_t_here c_t_fault c_t_value c_t_findings) sz [.ref h_t, .int a1]) (qW (some (.int out.1)) E (w_M_lines E h_t h_t_findings x_t_s x_t_kept x_t_before x_t_shown x_t_worths x_t_steps x_t_tape x_t_bits x_t_longs x_t_cells x_t_between c_t_isKept c_t_most c_t_taped c_t_here c_t_fault c_t_value out.2) (va_A (w_M_lines E h_t h_t_findings x_t_s x_t_kept x_t_before x_t_shown x_t_worths x_t_steps x_t_tape x_t_bits x_t_longs x_t_cells x_t_between c_t_isKept c_t_most c_t_taped c_t_here c_t_fault c_t_value c_t_findings) sz)) 0 0 (va_A (w_M_lines E h_t h_t_findings x_t_s x_t_kept x_t_before x_t_shown x_t_worths x_t_steps x_t_tape x_t_bits x_t_longs x_t_cells x_t_between c_t_isKept c_t_most c_t_taped c_t_here c_t_fault c_t_value c_t_findings) sz) := by
  refine met_W (by decide) (Nat.le_of_ble_eq_true rfl) ?_
  intro p e s m args below meth c A ls C hP hD hS hA hK hT hl
  obtain ⟨hx, hb, hr, hml, hown, hw, hlocks⟩ := id C
  have hl : lv_has ls 2 [(0, .ref h_t), (1, .int a1)] := hl
  rw [f_M_lines] at hF
  refine lv_iload_n hx hb dX10_lines_0 rfl (lv_at hl 1 rfl) ?_
  obtain ⟨r1, er1, hF⟩ := kb hF
  refine kRS (rest := []) C (k_M_isForm l E a1 r1 er1) fn_M_isForm mw_940 ⟨Nat.le_of_ble_eq_true rfl, Nat.le_of_ble_eq_true rfl⟩ hK hT hS hP [] rfl rfl rfl hl (Nat.le_of_ble_eq_true rfl) dX10_lines_1 ?_
  refine lv_if_eq (tgt := 14) hx hb dX10_lines_4 (by decide) (fun q2 => ?_) (fun q2 => ?_)
  · have hF := kp hF q2
    refine lv_aload_n hx hb dX10_lines_14 rfl (lv_at hl 0 rfl) ?_
    refine lv_iconst (v := (0 : Int32)) hx hb dX10_lines_15 (by decide) ?_
    obtain ⟨r3, er3, hF⟩ := kb hF
    refine kWV (rest := []) (Wr := []) (Wn := (w_M_lines E h_t h_t_findings x_t_s x_t_kept x_t_before x_t_shown x_t_worths x_t_steps x_t_tape x_t_bits x_t_longs x_t_cells x_t_between c_t_isKept c_t_most c_t_taped c_t_here c_t_fault c_t_value r3.2)) C (k_M_no l E h_t h_t_findings x_t_s x_t_kept x_t_before x_t_shown x_t_worths x_t_steps x_t_tape x_t_bits x_t_longs x_t_cells x_t_between s.heap.size c_t_isKept c_t_most c_t_taped c_t_here c_t_fault c_t_value c_t_findings (0 : Int32) r3 er3) fn_M_no mw_964 ⟨Nat.le_of_ble_eq_true rfl, Nat.le_of_ble_eq_true rfl⟩ hK hT hS hA (va_recv hK hP (ci := 8) (q0 := 0) rfl rfl) hP hD [0, 1] rfl (by decide) [] rfl (by decide) (by decide) [0, 1] rfl (by decide) rfl rfl hl (Nat.le_of_ble_eq_true rfl) dX10_lines_16 (fun H locs hP hD hS => ?_)
    refine W.eq (g2 := F0 m 19 ls [.int r3.1]) rfl ?_
    obtain rfl := Option.some.inj hF
    exact W.iret hx hb hr (fun t ht hW => ⟨⟨rfl, by rw [ht]; exact hP, hD⟩, hS.F ht⟩) hS.2.2 dX10_lines_19
  · have hF := kn hF q2
    refine lv_iload_n hx hb dX10_lines_7 rfl (lv_at hl 1 rfl) ?_
    obtain ⟨r4, er4, hF⟩ := kb hF
    refine kRS (rest := []) C (k_M_linesOf l E a1 r4 er4) fn_M_linesOf mw_986 ⟨Nat.le_of_ble_eq_true rfl, Nat.le_of_ble_eq_true rfl⟩ hK hT hS hP [] rfl rfl rfl hl (Nat.le_of_ble_eq_true rfl) dX10_lines_8 ?_
    refine lv_goto (tgt := 19) hx hb dX10_lines_11 (by decide) ?_
    obtain rfl := Option.some.inj hF
    exact W.iret hx hb hr (fun t ht hW => ⟨⟨rfl, by rw [ht]; exact hP, hD⟩, hS.F ht⟩) hS.2.2 dX10_lines_19
abbrev w_M_strays (E : kE) (h_t : Nat) (h_t_findings : Nat) (x_t_s : Nat) (x_t_kept : Nat) (x_t_before : Nat) (x_t_shown : Nat) (x_t_worths : Nat) (x_t_steps : Nat) (x_t_tape : Nat) (x_t_bits : Nat) (x_t_longs : Nat) (x_t_cells : Nat) (x_t_between : Nat) (c_t_isKept : Int32) (c_t_most : Int32) (c_t_taped : Int32) (c_t_here : Int32) (c_t_fault : Int32) (c_t_value : Int32) (c_t_findings : (Nat → Int32)) : va_W := [(h_t, .inr (8, [.ref x_t_s, .ref x_t_kept, .ref x_t_before, .int c_t_isKept, .ref h_t_findings, .ref x_t_shown, .int c_t_most, .ref x_t_worths, .ref x_t_steps, .ref x_t_tape, .int c_t_taped, .int c_t_here, .int c_t_fault, .int c_t_value, .ref x_t_bits, .ref x_t_longs, .ref x_t_cells, .ref x_t_between])), (h_t_findings, .inl (eI E, 7, .inl c_t_findings))]
set_option maxHeartbeats 4000000 in
set_option maxRecDepth 100000 in
theorem k_M_strays (l : Launch) (E : kE) (h_t : Nat) (h_t_findings : Nat) (x_t_s : Nat) (x_t_kept : Nat) (x_t_before : Nat) (x_t_shown : Nat) (x_t_worths : Nat) (x_t_steps : Nat) (x_t_tape : Nat) (x_t_bits : Nat) (x_t_longs : Nat) (x_t_cells : Nat) (x_t_between : Nat) (sz : Nat) (c_t_isKept : Int32) (c_t_most : Int32) (c_t_taped : Int32) (c_t_here : Int32) (c_t_fault : Int32) (c_t_value : Int32) (c_t_findings : (Nat → Int32)) (a1 : Int32) (out : Int32 × (Nat → Int32)) (hF : f_M_strays c_t_findings a1 = some out) : Met l yX10_strays (Cond.code yX10_strays cX10_strays 2 (some .int) :: wG) (rm 8) (pW E (w_M_strays E h_t h_t_findings x_t_s x_t_kept x_t_before x_t_shown x_t_worths x_t_steps x_t_tape x_t_bits x_t_longs x_t_cells x_t_between c_t_isKept c_t_most c_t_taped c_t_here c_t_fault c_t_value c_t_findings) sz [.ref h_t, .int a1]) (qW (some (.int out.1)) E (w_M_strays E h_t h_t_findings x_t_s x_t_kept x_t_before x_t_shown x_t_worths x_t_steps x_t_tape x_t_bits x_t_longs x_t_cells x_t_between c_t_isKept c_t_most c_t_taped c_t_here c_t_fault c_t_value out.2) (va_A (w_M_strays E h_t h_t_findings x_t_s x_t_kept x_t_before x_t_shown x_t_worths x_t_steps x_t_tape x_t_bits x_t_longs x_t_cells x_t_between c_t_isKept c_t_most c_t_taped c_t_here c_t_fault c_t_value c_t_findings) sz)) 0 0 (va_A (w_M_strays E h_t h_t_findings x_t_s x_t_kept x_t_before x_t_shown x_t_worths x_t_steps x_t_tape x_t_bits x_t_longs x_t_cells x_t_between c_t_isKept c_t_most c_t_taped c_t_here c_t_fault c_t_value c_t_findings) sz) := by
  refine met_W (by decide) (Nat.le_of_ble_eq_true rfl) ?_
  intro p e s m args below meth c A ls C hP hD hS hA hK hT hl
  obtain ⟨hx, hb, hr, hml, hown, hw, hlocks⟩ := id C
  have hl : lv_has ls 2 [(0, .ref h_t), (1, .int a1)] := hl
  rw [f_M_strays] at hF
  refine lv_iload_n hx hb dX10_strays_0 rfl (lv_at hl 1 rfl) ?_
  obtain ⟨r1, er1, hF⟩ := kb hF
  refine kRS (rest := []) C (k_M_isForm l E a1 r1 er1) fn_M_isForm mw_940 ⟨Nat.le_of_ble_eq_true rfl, Nat.le_of_ble_eq_true rfl⟩ hK hT hS hP [] rfl rfl rfl hl (Nat.le_of_ble_eq_true rfl) dX10_strays_1 ?_
  refine lv_if_eq (tgt := 14) hx hb dX10_strays_4 (by decide) (fun q2 => ?_) (fun q2 => ?_)
  · have hF := kp hF q2
    refine lv_aload_n hx hb dX10_strays_14 rfl (lv_at hl 0 rfl) ?_
    refine lv_iconst (v := (0 : Int32)) hx hb dX10_strays_15 (by decide) ?_
    obtain ⟨r3, er3, hF⟩ := kb hF
    refine kWV (rest := []) (Wr := []) (Wn := (w_M_strays E h_t h_t_findings x_t_s x_t_kept x_t_before x_t_shown x_t_worths x_t_steps x_t_tape x_t_bits x_t_longs x_t_cells x_t_between c_t_isKept c_t_most c_t_taped c_t_here c_t_fault c_t_value r3.2)) C (k_M_no l E h_t h_t_findings x_t_s x_t_kept x_t_before x_t_shown x_t_worths x_t_steps x_t_tape x_t_bits x_t_longs x_t_cells x_t_between s.heap.size c_t_isKept c_t_most c_t_taped c_t_here c_t_fault c_t_value c_t_findings (0 : Int32) r3 er3) fn_M_no mw_964 ⟨Nat.le_of_ble_eq_true rfl, Nat.le_of_ble_eq_true rfl⟩ hK hT hS hA (va_recv hK hP (ci := 8) (q0 := 0) rfl rfl) hP hD [0, 1] rfl (by decide) [] rfl (by decide) (by decide) [0, 1] rfl (by decide) rfl rfl hl (Nat.le_of_ble_eq_true rfl) dX10_strays_16 (fun H locs hP hD hS => ?_)
    refine W.eq (g2 := F0 m 19 ls [.int r3.1]) rfl ?_
    obtain rfl := Option.some.inj hF
    exact W.iret hx hb hr (fun t ht hW => ⟨⟨rfl, by rw [ht]; exact hP, hD⟩, hS.F ht⟩) hS.2.2 dX10_strays_19
  · have hF := kn hF q2
    refine lv_iload_n hx hb dX10_strays_7 rfl (lv_at hl 1 rfl) ?_
    obtain ⟨r4, er4, hF⟩ := kb hF
    refine kRS (rest := []) C (k_M_straysOf l E a1 r4 er4) fn_M_straysOf mw_996 ⟨Nat.le_of_ble_eq_true rfl, Nat.le_of_ble_eq_true rfl⟩ hK hT hS hP [] rfl rfl rfl hl (Nat.le_of_ble_eq_true rfl) dX10_strays_8 ?_
    refine lv_goto (tgt := 19) hx hb dX10_strays_11 (by decide) ?_
    obtain rfl := Option.some.inj hF
    exact W.iret hx hb hr (fun t ht hW => ⟨⟨rfl, by rw [ht]; exact hP, hD⟩, hS.F ht⟩) hS.2.2 dX10_strays_19
abbrev w_M_waysFrom (E : kE)    : va_W := []
set_option maxHeartbeats 4000000 in
set_option maxRecDepth 100000 in
theorem wk_M_waysFrom_b11 {p : Program} {l : Launch} {e : Env} {s : State} {m : MethodId} {args : Array Value} {below : List Frame} {meth : Method} {c : Code} (E : kE) {d : Nat} (rec : Int32 → Int32 → Option (Int64)) (hrec : ∀ (E : kE) (a0 : Int32) (a1 : Int32) (out : Int64), rec a0 a1 = some out → Met l yX10_waysFrom (Cond.code yX10_waysFrom cX10_waysFrom 5 (some .long) :: wG) (rm (d + 5)) (pR E [] [.int a0, .int a1]) (qR (.long out)) 0 0 (fun _ => False))    (a0 : Int32) (a1 : Int32) {out : Int64} (C : kC RX10 cX10_waysFrom 5 (some .long) p s m args meth c) (hP : va_P (eD E) vwCl (w_M_waysFrom E ) s.heap) (hK : va_K (eD E) vwCl (eT E) s) (hT : sT E (fun _ => False) s s.heap)  :
    ∀ (n : Nat), ∀ (v2 : Int64) (v4 : Int32), f_M_waysFrom_b11  rec a0 a1 n v2 v4 = some out → ∀ (ls : Array Slot), lv_has ls 5 [(0, .int a0), (1, .int a1), (2, .long v2), (4, .int v4)] → W p l e (rm (d + 6)) s m args below meth c s.heap [] 0 0 (MQ below (qR (.long out)) args s 0 0 (fun _ => False)) (F0 m 11 ls []) := by
  obtain ⟨hx, hb, hr, hml, hown, hw, hlocks⟩ := id C
  have hS : va_S (fun _ => False) s.heap s.heap [] := va_S.rf
  intro n
  induction n with
  | zero =>
    intro v2 v4 hF
    exact absurd (show (none : Option (Int64)) = some out from hF) nofun
  | succ n ih =>
    intro v2 v4 hF ls hl
    rw [f_M_waysFrom_b11] at hF
    refine lv_iload hx hb dX10_waysFrom_11 (lv_at hl 3 rfl) ?_
    refine lv_bipush (v := (12 : Int32)) hx hb dX10_waysFrom_13 (by decide) ?_
    refine lv_icmp_ge (tgt := 69) hx hb dX10_waysFrom_15 (by decide) (fun q1 => ?_) (fun q1 => ?_)
    · have hF := kp hF q1
      refine lv_lload_n hx hb dX10_waysFrom_69 rfl (lv_at hl 2 rfl) ?_
      obtain rfl := Option.some.inj hF
      exact W.lret hx hb hr (fun t ht hW => ⟨rfl, ht⟩) nofun dX10_waysFrom_70
    · have hF := kn hF q1
      refine lv_iload_n hx hb dX10_waysFrom_18 rfl (lv_at hl 0 rfl) ?_
      refine lv_iload hx hb dX10_waysFrom_19 (lv_at hl 3 rfl) ?_
      obtain ⟨r2, er2, hF⟩ := kb hF
      refine kRS (rest := []) C (k_M_has l E a0 v4 r2 er2) fn_M_has mw_952 ⟨by simp only [rm]; omega, by simp only [rm]; omega⟩ hK hT hS hP [] rfl rfl rfl hl (Nat.le_of_ble_eq_true rfl) dX10_waysFrom_21 ?_
      refine lv_if_eq (tgt := 63) hx hb dX10_waysFrom_24 (by decide) (fun q3 => ?_) (fun q3 => ?_)
      · have hF := kp hF q3
        refine lv_iinc (v := (v4 + (1))) (lv' := [(4, .int (v4 + (1))), (0, .int a0), (1, .int a1), (2, .long v2)]) hx hb dX10_waysFrom_63 hl (k := 3) rfl rfl (by decide) rfl (fun ls hl => ?_)
        refine lv_goto (tgt := 11) hx hb dX10_waysFrom_66 (by decide) ?_
        exact ih v2 (v4 + (1)) hF _ (lv_sub hl [1, 2, 3, 0] rfl)
      · have hF := kn hF q3
        refine lv_iload hx hb dX10_waysFrom_27 (lv_at hl 3 rfl) ?_
        refine lv_iload_n hx hb dX10_waysFrom_29 rfl (lv_at hl 1 rfl) ?_
        obtain ⟨r4, er4, hF⟩ := kb hF
        refine kRS (rest := []) C (k_M_ends l E v4 a1 r4 er4) fn_M_ends mw_955 ⟨by simp only [rm]; omega, by simp only [rm]; omega⟩ hK hT hS hP [] rfl rfl rfl hl (Nat.le_of_ble_eq_true rfl) dX10_waysFrom_30 ?_
        refine lv_if_eq (tgt := 63) hx hb dX10_waysFrom_33 (by decide) (fun q5 => ?_) (fun q5 => ?_)
        · have hF := kp hF q5
          refine lv_iinc (v := (v4 + (1))) (lv' := [(4, .int (v4 + (1))), (0, .int a0), (1, .int a1), (2, .long v2)]) hx hb dX10_waysFrom_63 hl (k := 3) rfl rfl (by decide) rfl (fun ls hl => ?_)
          refine lv_goto (tgt := 11) hx hb dX10_waysFrom_66 (by decide) ?_
          exact ih v2 (v4 + (1)) hF _ (lv_sub hl [1, 2, 3, 0] rfl)
        · have hF := kn hF q5
          refine lv_lload_n hx hb dX10_waysFrom_36 rfl (lv_at hl 2 rfl) ?_
          refine lv_iload_n hx hb dX10_waysFrom_37 rfl (lv_at hl 0 rfl) ?_
          refine lv_iconst (v := (1 : Int32)) hx hb dX10_waysFrom_38 (by decide) ?_
          refine lv_iload hx hb dX10_waysFrom_39 (lv_at hl 3 rfl) ?_
          refine lv_ishl hx hb dX10_waysFrom_41 ?_
          refine lv_iconst (v := (-1 : Int32)) hx hb dX10_waysFrom_42 (by decide) ?_
          refine lv_ixor hx hb dX10_waysFrom_43 ?_
          refine lv_iand hx hb dX10_waysFrom_44 ?_
          refine lv_iload hx hb dX10_waysFrom_45 (lv_at hl 3 rfl) ?_
          obtain ⟨r6, er6, hF⟩ := kb hF
          refine kRS (rest := [.int (a0 &&& (((1 : Int32) <<< (v4 &&& 31)) ^^^ (-1 : Int32))), .long v2]) C (k_M_oneEnd l E v4 r6 er6) fn_M_oneEnd mw_958 ⟨by simp only [rm]; omega, by simp only [rm]; omega⟩ hK hT hS hP [] rfl rfl rfl hl (Nat.le_of_ble_eq_true rfl) dX10_waysFrom_47 ?_
          refine lv_iload hx hb dX10_waysFrom_50 (lv_at hl 3 rfl) ?_
          obtain ⟨r7, er7, hF⟩ := kb hF
          refine kRS (rest := [.int r6, .int (a0 &&& (((1 : Int32) <<< (v4 &&& 31)) ^^^ (-1 : Int32))), .long v2]) C (k_M_otherEnd l E v4 r7 er7) fn_M_otherEnd mw_961 ⟨by simp only [rm]; omega, by simp only [rm]; omega⟩ hK hT hS hP [] rfl rfl rfl hl (Nat.le_of_ble_eq_true rfl) dX10_waysFrom_52 ?_
          refine lv_iadd hx hb dX10_waysFrom_55 ?_
          refine lv_iload_n hx hb dX10_waysFrom_56 rfl (lv_at hl 1 rfl) ?_
          refine lv_isub hx hb dX10_waysFrom_57 ?_
          obtain ⟨r8, er8, hF⟩ := kb hF
          refine kRS (rest := [.long v2]) C (hrec E (a0 &&& (((1 : Int32) <<< (v4 &&& 31)) ^^^ (-1 : Int32))) ((r6 + r7) - a1) r8 er8) fn_M_waysFrom mw_1006 ⟨by simp only [rm]; omega, by simp only [rm]; omega⟩ hK hT hS hP [] rfl rfl rfl hl (Nat.le_of_ble_eq_true rfl) dX10_waysFrom_58 ?_
          refine lv_ladd hx hb dX10_waysFrom_61 ?_
          refine lv_lstore_n (lv' := [(2, .long (v2 + r8)), (0, .int a0), (1, .int a1), (4, .int v4)]) hx hb dX10_waysFrom_62 rfl hl (by decide) rfl (fun ls hl => ?_)
          refine lv_iinc (v := (v4 + (1))) (lv' := [(4, .int (v4 + (1))), (2, .long (v2 + r8)), (0, .int a0), (1, .int a1)]) hx hb dX10_waysFrom_63 hl (k := 3) rfl rfl (by decide) rfl (fun ls hl => ?_)
          refine lv_goto (tgt := 11) hx hb dX10_waysFrom_66 (by decide) ?_
          exact ih (v2 + r8) (v4 + (1)) hF _ (lv_sub hl [2, 3, 1, 0] rfl)
set_option maxHeartbeats 4000000 in
set_option maxRecDepth 100000 in
theorem kr_M_waysFrom (l : Launch) : ∀ (d : Nat) (E : kE) (a0 : Int32) (a1 : Int32) (out : Int64), f_M_waysFrom d a0 a1 = some out → Met l yX10_waysFrom (Cond.code yX10_waysFrom cX10_waysFrom 5 (some .long) :: wG) (rm (d + 5)) (pR E [] [.int a0, .int a1]) (qR (.long out)) 0 0 (fun _ => False) := by
  intro d
  induction d with
  | zero =>
    intro E a0 a1 out hF
    exact absurd (show (none : Option (Int64)) = some out from hF) nofun
  | succ d hrec =>
    intro E a0 a1 out hF
    rw [f_M_waysFrom] at hF
    generalize hrr : f_M_waysFrom d = rec at hF hrec
    rw [f_M_waysFrom_e] at hF
    refine met_R (by decide) (Nat.le_of_ble_eq_true rfl) ?_
    intro p e s m args below meth c ls C hP hK hT hl
    obtain ⟨hx, hb, hr, hml, hown, hw, hlocks⟩ := id C
    have hS : va_S (fun _ => False) s.heap s.heap [] := va_S.rf
    have hl : lv_has ls 5 [(0, .int a0), (1, .int a1)] := hl
    refine lv_iload_n hx hb dX10_waysFrom_0 rfl (lv_at hl 0 rfl) ?_
    refine lv_if_ne (tgt := 6) hx hb dX10_waysFrom_1 (by decide) (fun q9 => ?_) (fun q9 => ?_)
    · have hF := kn hF q9
      refine lv_lconst (v := (0 : Int64)) hx hb dX10_waysFrom_6 (by decide) ?_
      refine lv_lstore_n (lv' := [(2, .long (0 : Int64)), (0, .int a0), (1, .int a1)]) hx hb dX10_waysFrom_7 rfl hl (by decide) rfl (fun ls hl => ?_)
      refine lv_iconst (v := (0 : Int32)) hx hb dX10_waysFrom_8 (by decide) ?_
      refine lv_istore (lv' := [(4, .int (0 : Int32)), (2, .long (0 : Int64)), (0, .int a0), (1, .int a1)]) hx hb dX10_waysFrom_9 hl (by decide) rfl (fun ls hl => ?_)
      exact wk_M_waysFrom_b11 E rec hrec  a0 a1 C hP  hK hT  5000 (0 : Int64) (0 : Int32) hF _ (lv_sub hl [2, 3, 1, 0] rfl)
    · have hF := kp hF q9
      refine lv_lconst (v := (1 : Int64)) hx hb dX10_waysFrom_4 (by decide) ?_
      obtain rfl := Option.some.inj hF
      exact W.lret hx hb hr (fun t ht hW => ⟨rfl, ht⟩) nofun dX10_waysFrom_5
theorem k_M_waysFrom (l : Launch) (E : kE) (a0 : Int32) (a1 : Int32) (out : Int64) (hF : f_M_waysFrom 14 a0 a1 = some out) : Met l yX10_waysFrom (Cond.code yX10_waysFrom cX10_waysFrom 5 (some .long) :: wG) (rm 19) (pR E [] [.int a0, .int a1]) (qR (.long out)) 0 0 (fun _ => False) := kr_M_waysFrom l 14 E a0 a1 out hF
abbrev w_M_ways (E : kE) (h_t : Nat) (h_t_findings : Nat) (x_t_s : Nat) (x_t_kept : Nat) (x_t_before : Nat) (x_t_shown : Nat) (x_t_worths : Nat) (x_t_steps : Nat) (x_t_tape : Nat) (x_t_bits : Nat) (x_t_longs : Nat) (x_t_cells : Nat) (x_t_between : Nat) (c_t_isKept : Int32) (c_t_most : Int32) (c_t_taped : Int32) (c_t_here : Int32) (c_t_fault : Int32) (c_t_value : Int32) (c_t_findings : (Nat → Int32)) : va_W := [(h_t, .inr (8, [.ref x_t_s, .ref x_t_kept, .ref x_t_before, .int c_t_isKept, .ref h_t_findings, .ref x_t_shown, .int c_t_most, .ref x_t_worths, .ref x_t_steps, .ref x_t_tape, .int c_t_taped, .int c_t_here, .int c_t_fault, .int c_t_value, .ref x_t_bits, .ref x_t_longs, .ref x_t_cells, .ref x_t_between])), (h_t_findings, .inl (eI E, 7, .inl c_t_findings))]
set_option maxHeartbeats 4000000 in
set_option maxRecDepth 100000 in
theorem wk_M_ways_b22 {p : Program} {l : Launch} {e : Env} {s : State} {m : MethodId} {args : Array Value} {below : List Frame} {meth : Method} {c : Code} {A : Nat → Prop} (E : kE) (h_t : Nat) (h_t_findings : Nat) (x_t_s : Nat) (x_t_kept : Nat) (x_t_before : Nat) (x_t_shown : Nat) (x_t_worths : Nat) (x_t_steps : Nat) (x_t_tape : Nat) (x_t_bits : Nat) (x_t_longs : Nat) (x_t_cells : Nat) (x_t_between : Nat) (c_t_isKept : Int32) (c_t_most : Int32) (c_t_taped : Int32) (c_t_here : Int32) (c_t_fault : Int32) (c_t_value : Int32) (a1 : Int32) (a2 : Int32) {out : Int64 × (Nat → Int32)} (C : kC RX10 cX10_ways 3 (some .long) p s m args meth c) (hA : ∀ q : Nat, s.heap.size ≤ q → A q) (hK : va_K (eD E) vwCl (eT E) s) (hT : sT E A s s.heap)  :
    ∀ (c_t_findings : (Nat → Int32)), f_M_ways_b22  a1 a2 c_t_findings = some out → ∀ (H : Heap) (locs : List Loc), va_P (eD E) vwCl (w_M_ways E h_t h_t_findings x_t_s x_t_kept x_t_before x_t_shown x_t_worths x_t_steps x_t_tape x_t_bits x_t_longs x_t_cells x_t_between c_t_isKept c_t_most c_t_taped c_t_here c_t_fault c_t_value c_t_findings) H → va_D A (w_M_ways E h_t h_t_findings x_t_s x_t_kept x_t_before x_t_shown x_t_worths x_t_steps x_t_tape x_t_bits x_t_longs x_t_cells x_t_between c_t_isKept c_t_most c_t_taped c_t_here c_t_fault c_t_value c_t_findings) → va_S A s.heap H locs → ∀ (ls : Array Slot), lv_has ls 3 [(0, .ref h_t)] → W p l e (rm 20) s m args below meth c H locs 0 0 (MQ below (qW (some (.long out.1)) E (w_M_ways E h_t h_t_findings x_t_s x_t_kept x_t_before x_t_shown x_t_worths x_t_steps x_t_tape x_t_bits x_t_longs x_t_cells x_t_between c_t_isKept c_t_most c_t_taped c_t_here c_t_fault c_t_value out.2) A) args s 0 0 A) (F0 m 22 ls []) := by
  obtain ⟨hx, hb, hr, hml, hown, hw, hlocks⟩ := id C
  intro c_t_findings hF H locs hP hD hS ls hl
  rw [f_M_ways_b22] at hF
  refine lv_aload_n hx hb dX10_ways_22 rfl (lv_at hl 0 rfl) ?_
  refine lv_iconst (v := (0 : Int32)) hx hb dX10_ways_23 (by decide) ?_
  obtain ⟨r1, er1, hF⟩ := kb hF
  refine kWV (rest := []) (Wr := []) (Wn := (w_M_ways E h_t h_t_findings x_t_s x_t_kept x_t_before x_t_shown x_t_worths x_t_steps x_t_tape x_t_bits x_t_longs x_t_cells x_t_between c_t_isKept c_t_most c_t_taped c_t_here c_t_fault c_t_value r1.2)) C (k_M_no l E h_t h_t_findings x_t_s x_t_kept x_t_before x_t_shown x_t_worths x_t_steps x_t_tape x_t_bits x_t_longs x_t_cells x_t_between H.size c_t_isKept c_t_most c_t_taped c_t_here c_t_fault c_t_value c_t_findings (0 : Int32) r1 er1) fn_M_no mw_964 ⟨Nat.le_of_ble_eq_true rfl, Nat.le_of_ble_eq_true rfl⟩ hK hT hS hA (va_recv hK hP (ci := 8) (q0 := 0) rfl rfl) hP hD [0, 1] rfl (by decide) [] rfl (by decide) (by decide) [0, 1] rfl (by decide) rfl rfl hl (Nat.le_of_ble_eq_true rfl) dX10_ways_24 (fun H locs hP hD hS => ?_)
  refine W.eq (g2 := F0 m 27 ls [.int r1.1]) rfl ?_
  refine lv_i2l (v := r1.1.toInt64) hx hb dX10_ways_27 rfl ?_
  obtain rfl := Option.some.inj hF
  exact W.lret hx hb hr (fun t ht hW => ⟨⟨rfl, by rw [ht]; exact hP, hD⟩, hS.F ht⟩) hS.2.2 dX10_ways_28
set_option maxHeartbeats 4000000 in
set_option maxRecDepth 100000 in
theorem k_M_ways (l : Launch) (E : kE) (h_t : Nat) (h_t_findings : Nat) (x_t_s : Nat) (x_t_kept : Nat) (x_t_before : Nat) (x_t_shown : Nat) (x_t_worths : Nat) (x_t_steps : Nat) (x_t_tape : Nat) (x_t_bits : Nat) (x_t_longs : Nat) (x_t_cells : Nat) (x_t_between : Nat) (sz : Nat) (c_t_isKept : Int32) (c_t_most : Int32) (c_t_taped : Int32) (c_t_here : Int32) (c_t_fault : Int32) (c_t_value : Int32) (c_t_findings : (Nat → Int32)) (a1 : Int32) (a2 : Int32) (out : Int64 × (Nat → Int32)) (hF : f_M_ways c_t_findings a1 a2 = some out) : Met l yX10_ways (Cond.code yX10_ways cX10_ways 3 (some .long) :: wG) (rm 20) (pW E (w_M_ways E h_t h_t_findings x_t_s x_t_kept x_t_before x_t_shown x_t_worths x_t_steps x_t_tape x_t_bits x_t_longs x_t_cells x_t_between c_t_isKept c_t_most c_t_taped c_t_here c_t_fault c_t_value c_t_findings) sz [.ref h_t, .int a1, .int a2]) (qW (some (.long out.1)) E (w_M_ways E h_t h_t_findings x_t_s x_t_kept x_t_before x_t_shown x_t_worths x_t_steps x_t_tape x_t_bits x_t_longs x_t_cells x_t_between c_t_isKept c_t_most c_t_taped c_t_here c_t_fault c_t_value out.2) (va_A (w_M_ways E h_t h_t_findings x_t_s x_t_kept x_t_before x_t_shown x_t_worths x_t_steps x_t_tape x_t_bits x_t_longs x_t_cells x_t_between c_t_isKept c_t_most c_t_taped c_t_here c_t_fault c_t_value c_t_findings) sz)) 0 0 (va_A (w_M_ways E h_t h_t_findings x_t_s x_t_kept x_t_before x_t_shown x_t_worths x_t_steps x_t_tape x_t_bits x_t_longs x_t_cells x_t_between c_t_isKept c_t_most c_t_taped c_t_here c_t_fault c_t_value c_t_findings) sz) := by
  refine met_W (by decide) (Nat.le_of_ble_eq_true rfl) ?_
  intro p e s m args below meth c A ls C hP hD hS hA hK hT hl
  obtain ⟨hx, hb, hr, hml, hown, hw, hlocks⟩ := id C
  have hl : lv_has ls 3 [(0, .ref h_t), (1, .int a1), (2, .int a2)] := hl
  rw [f_M_ways] at hF
  refine lv_iload_n hx hb dX10_ways_0 rfl (lv_at hl 1 rfl) ?_
  obtain ⟨r2, er2, hF⟩ := kb hF
  refine kRS (rest := []) C (k_M_isForm l E a1 r2 er2) fn_M_isForm mw_940 ⟨Nat.le_of_ble_eq_true rfl, Nat.le_of_ble_eq_true rfl⟩ hK hT hS hP [] rfl rfl rfl hl (Nat.le_of_ble_eq_true rfl) dX10_ways_1 ?_
  refine lv_if_eq (tgt := 22) hx hb dX10_ways_4 (by decide) (fun q3 => ?_) (fun q3 => ?_)
  · have hF := kp hF q3
    exact wk_M_ways_b22 E h_t h_t_findings x_t_s x_t_kept x_t_before x_t_shown x_t_worths x_t_steps x_t_tape x_t_bits x_t_longs x_t_cells x_t_between c_t_isKept c_t_most c_t_taped c_t_here c_t_fault c_t_value a1 a2 C hA  hK hT  c_t_findings hF _ _ hP hD hS _ (lv_sub hl [0] rfl)
  · have hF := kn hF q3
    refine lv_iload_n hx hb dX10_ways_7 rfl (lv_at hl 2 rfl) ?_
    obtain ⟨r4, er4, hF⟩ := kb hF
    refine kRS (rest := []) C (k_M_isPoint l E a2 r4 er4) fn_M_isPoint mw_1003 ⟨Nat.le_of_ble_eq_true rfl, Nat.le_of_ble_eq_true rfl⟩ hK hT hS hP [] rfl rfl rfl hl (Nat.le_of_ble_eq_true rfl) dX10_ways_8 ?_
    refine lv_if_eq (tgt := 22) hx hb dX10_ways_11 (by decide) (fun q5 => ?_) (fun q5 => ?_)
    · have hF := kp hF q5
      exact wk_M_ways_b22 E h_t h_t_findings x_t_s x_t_kept x_t_before x_t_shown x_t_worths x_t_steps x_t_tape x_t_bits x_t_longs x_t_cells x_t_between c_t_isKept c_t_most c_t_taped c_t_here c_t_fault c_t_value a1 a2 C hA  hK hT  c_t_findings hF _ _ hP hD hS _ (lv_sub hl [0] rfl)
    · have hF := kn hF q5
      refine lv_iload_n hx hb dX10_ways_14 rfl (lv_at hl 1 rfl) ?_
      refine lv_iload_n hx hb dX10_ways_15 rfl (lv_at hl 2 rfl) ?_
      obtain ⟨r6, er6, hF⟩ := kb hF
      refine kRS (rest := []) C (k_M_waysFrom l E a1 a2 r6 er6) fn_M_waysFrom mw_1006 ⟨Nat.le_of_ble_eq_true rfl, Nat.le_of_ble_eq_true rfl⟩ hK hT hS hP [] rfl rfl rfl hl (Nat.le_of_ble_eq_true rfl) dX10_ways_16 ?_
      refine lv_goto (tgt := 28) hx hb dX10_ways_19 (by decide) ?_
      obtain rfl := Option.some.inj hF
      exact W.lret hx hb hr (fun t ht hW => ⟨⟨rfl, by rw [ht]; exact hP, hD⟩, hS.F ht⟩) hS.2.2 dX10_ways_28
abbrev w_M_nextStroke (E : kE)    : va_W := []
set_option maxHeartbeats 4000000 in
set_option maxRecDepth 100000 in
theorem wk_M_nextStroke_b2 {p : Program} {l : Launch} {e : Env} {s : State} {m : MethodId} {args : Array Value} {below : List Frame} {meth : Method} {c : Code} (E : kE)    (a0 : Int32) (a1 : Int32) {out : Int32} (C : kC RX10 cX10_nextStroke 3 (some .int) p s m args meth c) (hP : va_P (eD E) vwCl (w_M_nextStroke E ) s.heap) (hK : va_K (eD E) vwCl (eT E) s) (hT : sT E (fun _ => False) s s.heap)  :
    ∀ (n : Nat), ∀ (v2 : Int32), f_M_nextStroke_b2  a0 a1 n v2 = some out → ∀ (ls : Array Slot), lv_has ls 3 [(0, .int a0), (1, .int a1), (2, .int v2)] → W p l e (rm 20) s m args below meth c s.heap [] 0 0 (MQ below (qR (.int out)) args s 0 0 (fun _ => False)) (F0 m 2 ls []) := by
  obtain ⟨hx, hb, hr, hml, hown, hw, hlocks⟩ := id C
  have hS : va_S (fun _ => False) s.heap s.heap [] := va_S.rf
  intro n
  induction n with
  | zero =>
    intro v2 hF
    exact absurd (show (none : Option (Int32)) = some out from hF) nofun
  | succ n ih =>
    intro v2 hF ls hl
    rw [f_M_nextStroke_b2] at hF
    refine lv_iload_n hx hb dX10_nextStroke_2 rfl (lv_at hl 0 rfl) ?_
    refine lv_iload_n hx hb dX10_nextStroke_3 rfl (lv_at hl 2 rfl) ?_
    obtain ⟨r1, er1, hF⟩ := kb hF
    refine kRS (rest := []) C (k_M_has l E a0 v2 r1 er1) fn_M_has mw_952 ⟨Nat.le_of_ble_eq_true rfl, Nat.le_of_ble_eq_true rfl⟩ hK hT hS hP [] rfl rfl rfl hl (Nat.le_of_ble_eq_true rfl) dX10_nextStroke_4 ?_
    refine lv_if_eq (tgt := 44) hx hb dX10_nextStroke_7 (by decide) (fun q2 => ?_) (fun q2 => ?_)
    · have hF := kp hF q2
      refine lv_iinc (v := (v2 + (1))) (lv' := [(2, .int (v2 + (1))), (0, .int a0), (1, .int a1)]) hx hb dX10_nextStroke_44 hl (k := 2) rfl rfl (by decide) rfl (fun ls hl => ?_)
      refine lv_goto (tgt := 2) hx hb dX10_nextStroke_47 (by decide) ?_
      exact ih (v2 + (1)) hF _ (lv_sub hl [1, 2, 0] rfl)
    · have hF := kn hF q2
      refine lv_iload_n hx hb dX10_nextStroke_10 rfl (lv_at hl 2 rfl) ?_
      refine lv_iload_n hx hb dX10_nextStroke_11 rfl (lv_at hl 1 rfl) ?_
      obtain ⟨r3, er3, hF⟩ := kb hF
      refine kRS (rest := []) C (k_M_ends l E v2 a1 r3 er3) fn_M_ends mw_955 ⟨Nat.le_of_ble_eq_true rfl, Nat.le_of_ble_eq_true rfl⟩ hK hT hS hP [] rfl rfl rfl hl (Nat.le_of_ble_eq_true rfl) dX10_nextStroke_12 ?_
      refine lv_if_eq (tgt := 44) hx hb dX10_nextStroke_15 (by decide) (fun q4 => ?_) (fun q4 => ?_)
      · have hF := kp hF q4
        refine lv_iinc (v := (v2 + (1))) (lv' := [(2, .int (v2 + (1))), (0, .int a0), (1, .int a1)]) hx hb dX10_nextStroke_44 hl (k := 2) rfl rfl (by decide) rfl (fun ls hl => ?_)
        refine lv_goto (tgt := 2) hx hb dX10_nextStroke_47 (by decide) ?_
        exact ih (v2 + (1)) hF _ (lv_sub hl [1, 2, 0] rfl)
      · have hF := kn hF q4
        refine lv_iload_n hx hb dX10_nextStroke_18 rfl (lv_at hl 0 rfl) ?_
        refine lv_iconst (v := (1 : Int32)) hx hb dX10_nextStroke_19 (by decide) ?_
        refine lv_iload_n hx hb dX10_nextStroke_20 rfl (lv_at hl 2 rfl) ?_
        refine lv_ishl hx hb dX10_nextStroke_21 ?_
        refine lv_iconst (v := (-1 : Int32)) hx hb dX10_nextStroke_22 (by decide) ?_
        refine lv_ixor hx hb dX10_nextStroke_23 ?_
        refine lv_iand hx hb dX10_nextStroke_24 ?_
        refine lv_iload_n hx hb dX10_nextStroke_25 rfl (lv_at hl 2 rfl) ?_
        obtain ⟨r5, er5, hF⟩ := kb hF
        refine kRS (rest := [.int (a0 &&& (((1 : Int32) <<< (v2 &&& 31)) ^^^ (-1 : Int32)))]) C (k_M_oneEnd l E v2 r5 er5) fn_M_oneEnd mw_958 ⟨Nat.le_of_ble_eq_true rfl, Nat.le_of_ble_eq_true rfl⟩ hK hT hS hP [] rfl rfl rfl hl (Nat.le_of_ble_eq_true rfl) dX10_nextStroke_26 ?_
        refine lv_iload_n hx hb dX10_nextStroke_29 rfl (lv_at hl 2 rfl) ?_
        obtain ⟨r6, er6, hF⟩ := kb hF
        refine kRS (rest := [.int r5, .int (a0 &&& (((1 : Int32) <<< (v2 &&& 31)) ^^^ (-1 : Int32)))]) C (k_M_otherEnd l E v2 r6 er6) fn_M_otherEnd mw_961 ⟨Nat.le_of_ble_eq_true rfl, Nat.le_of_ble_eq_true rfl⟩ hK hT hS hP [] rfl rfl rfl hl (Nat.le_of_ble_eq_true rfl) dX10_nextStroke_30 ?_
        refine lv_iadd hx hb dX10_nextStroke_33 ?_
        refine lv_iload_n hx hb dX10_nextStroke_34 rfl (lv_at hl 1 rfl) ?_
        refine lv_isub hx hb dX10_nextStroke_35 ?_
        obtain ⟨r7, er7, hF⟩ := kb hF
        refine kRS (rest := []) C (k_M_waysFrom l E (a0 &&& (((1 : Int32) <<< (v2 &&& 31)) ^^^ (-1 : Int32))) ((r5 + r6) - a1) r7 er7) fn_M_waysFrom mw_1006 ⟨Nat.le_of_ble_eq_true rfl, Nat.le_of_ble_eq_true rfl⟩ hK hT hS hP [] rfl rfl rfl hl (Nat.le_of_ble_eq_true rfl) dX10_nextStroke_36 ?_
        refine lv_lconst (v := (0 : Int64)) hx hb dX10_nextStroke_39 (by decide) ?_
        refine W.lcmp hx hb dX10_nextStroke_40 ?_
        refine lv_if_ne (tgt := 50) hx hb dX10_nextStroke_41 (by decide) (fun q8 => ?_) (fun q8 => ?_)
        · have hF := kn hF q8
          refine lv_iload_n hx hb dX10_nextStroke_50 rfl (lv_at hl 2 rfl) ?_
          obtain rfl := Option.some.inj hF
          exact W.iret hx hb hr (fun t ht hW => ⟨rfl, ht⟩) nofun dX10_nextStroke_51
        · have hF := kp hF q8
          refine lv_iinc (v := (v2 + (1))) (lv' := [(2, .int (v2 + (1))), (0, .int a0), (1, .int a1)]) hx hb dX10_nextStroke_44 hl (k := 2) rfl rfl (by decide) rfl (fun ls hl => ?_)
          refine lv_goto (tgt := 2) hx hb dX10_nextStroke_47 (by decide) ?_
          exact ih (v2 + (1)) hF _ (lv_sub hl [1, 2, 0] rfl)
set_option maxHeartbeats 4000000 in
set_option maxRecDepth 100000 in
theorem k_M_nextStroke (l : Launch) (E : kE)    (a0 : Int32) (a1 : Int32) (out : Int32) (hF : f_M_nextStroke  a0 a1 = some out) : Met l yX10_nextStroke (Cond.code yX10_nextStroke cX10_nextStroke 3 (some .int) :: wG) (rm 20) (pR E (w_M_nextStroke E ) [.int a0, .int a1]) (qR (.int out)) 0 0 (fun _ => False) := by
  refine met_R (by decide) (Nat.le_of_ble_eq_true rfl) ?_
  intro p e s m args below meth c ls C hP hK hT hl
  obtain ⟨hx, hb, hr, hml, hown, hw, hlocks⟩ := id C
  have hS : va_S (fun _ => False) s.heap s.heap [] := va_S.rf
  have hl : lv_has ls 3 [(0, .int a0), (1, .int a1)] := hl
  rw [f_M_nextStroke] at hF
  refine lv_iconst (v := (0 : Int32)) hx hb dX10_nextStroke_0 (by decide) ?_
  refine lv_istore_n (lv' := [(2, .int (0 : Int32)), (0, .int a0), (1, .int a1)]) hx hb dX10_nextStroke_1 rfl hl (by decide) rfl (fun ls hl => ?_)
  exact wk_M_nextStroke_b2 E  a0 a1 C hP  hK hT  5000 (0 : Int32) hF _ (lv_sub hl [1, 2, 0] rfl)
abbrev w_M_ith (E : kE) (h_t : Nat) (h_t_findings : Nat) (x_t_s : Nat) (x_t_kept : Nat) (x_t_before : Nat) (x_t_shown : Nat) (x_t_worths : Nat) (x_t_steps : Nat) (x_t_tape : Nat) (x_t_bits : Nat) (x_t_longs : Nat) (x_t_cells : Nat) (x_t_between : Nat) (c_t_isKept : Int32) (c_t_most : Int32) (c_t_taped : Int32) (c_t_here : Int32) (c_t_fault : Int32) (c_t_value : Int32) (c_t_findings : (Nat → Int32)) : va_W := [(h_t, .inr (8, [.ref x_t_s, .ref x_t_kept, .ref x_t_before, .int c_t_isKept, .ref h_t_findings, .ref x_t_shown, .int c_t_most, .ref x_t_worths, .ref x_t_steps, .ref x_t_tape, .int c_t_taped, .int c_t_here, .int c_t_fault, .int c_t_value, .ref x_t_bits, .ref x_t_longs, .ref x_t_cells, .ref x_t_between])), (h_t_findings, .inl (eI E, 7, .inl c_t_findings))]
set_option maxHeartbeats 4000000 in
set_option maxRecDepth 100000 in
theorem wk_M_ith_b24 {p : Program} {l : Launch} {e : Env} {s : State} {m : MethodId} {args : Array Value} {below : List Frame} {meth : Method} {c : Code} {A : Nat → Prop} (E : kE) (h_t : Nat) (h_t_findings : Nat) (x_t_s : Nat) (x_t_kept : Nat) (x_t_before : Nat) (x_t_shown : Nat) (x_t_worths : Nat) (x_t_steps : Nat) (x_t_tape : Nat) (x_t_bits : Nat) (x_t_longs : Nat) (x_t_cells : Nat) (x_t_between : Nat) (c_t_isKept : Int32) (c_t_most : Int32) (c_t_taped : Int32) (c_t_here : Int32) (c_t_fault : Int32) (c_t_value : Int32) (a1 : Int32) (a2 : Int32) (a3 : Int32) {out : Int32 × (Nat → Int32)} (C : kC RX10 cX10_ith 8 (some .int) p s m args meth c) (hA : ∀ q : Nat, s.heap.size ≤ q → A q) (hK : va_K (eD E) vwCl (eT E) s) (hT : sT E A s s.heap)  :
    ∀ (c_t_findings : (Nat → Int32)), f_M_ith_b24  a1 a2 a3 c_t_findings = some out → ∀ (H : Heap) (locs : List Loc), va_P (eD E) vwCl (w_M_ith E h_t h_t_findings x_t_s x_t_kept x_t_before x_t_shown x_t_worths x_t_steps x_t_tape x_t_bits x_t_longs x_t_cells x_t_between c_t_isKept c_t_most c_t_taped c_t_here c_t_fault c_t_value c_t_findings) H → va_D A (w_M_ith E h_t h_t_findings x_t_s x_t_kept x_t_before x_t_shown x_t_worths x_t_steps x_t_tape x_t_bits x_t_longs x_t_cells x_t_between c_t_isKept c_t_most c_t_taped c_t_here c_t_fault c_t_value c_t_findings) → va_S A s.heap H locs → ∀ (ls : Array Slot), lv_has ls 8 [(0, .ref h_t)] → W p l e (rm 21) s m args below meth c H locs 0 0 (MQ below (qW (some (.int out.1)) E (w_M_ith E h_t h_t_findings x_t_s x_t_kept x_t_before x_t_shown x_t_worths x_t_steps x_t_tape x_t_bits x_t_longs x_t_cells x_t_between c_t_isKept c_t_most c_t_taped c_t_here c_t_fault c_t_value out.2) A) args s 0 0 A) (F0 m 24 ls []) := by
  obtain ⟨hx, hb, hr, hml, hown, hw, hlocks⟩ := id C
  intro c_t_findings hF H locs hP hD hS ls hl
  rw [f_M_ith_b24] at hF
  refine lv_aload_n hx hb dX10_ith_24 rfl (lv_at hl 0 rfl) ?_
  refine lv_iconst (v := (0 : Int32)) hx hb dX10_ith_25 (by decide) ?_
  obtain ⟨r1, er1, hF⟩ := kb hF
  refine kWV (rest := []) (Wr := []) (Wn := (w_M_ith E h_t h_t_findings x_t_s x_t_kept x_t_before x_t_shown x_t_worths x_t_steps x_t_tape x_t_bits x_t_longs x_t_cells x_t_between c_t_isKept c_t_most c_t_taped c_t_here c_t_fault c_t_value r1.2)) C (k_M_no l E h_t h_t_findings x_t_s x_t_kept x_t_before x_t_shown x_t_worths x_t_steps x_t_tape x_t_bits x_t_longs x_t_cells x_t_between H.size c_t_isKept c_t_most c_t_taped c_t_here c_t_fault c_t_value c_t_findings (0 : Int32) r1 er1) fn_M_no mw_964 ⟨Nat.le_of_ble_eq_true rfl, Nat.le_of_ble_eq_true rfl⟩ hK hT hS hA (va_recv hK hP (ci := 8) (q0 := 0) rfl rfl) hP hD [0, 1] rfl (by decide) [] rfl (by decide) (by decide) [0, 1] rfl (by decide) rfl rfl hl (Nat.le_of_ble_eq_true rfl) dX10_ith_26 (fun H locs hP hD hS => ?_)
  refine W.eq (g2 := F0 m 29 ls [.int r1.1]) rfl ?_
  obtain rfl := Option.some.inj hF
  exact W.iret hx hb hr (fun t ht hW => ⟨⟨rfl, by rw [ht]; exact hP, hD⟩, hS.F ht⟩) hS.2.2 dX10_ith_29
set_option maxHeartbeats 4000000 in
set_option maxRecDepth 100000 in
theorem wk_M_ith_b48 {p : Program} {l : Launch} {e : Env} {s : State} {m : MethodId} {args : Array Value} {below : List Frame} {meth : Method} {c : Code} {A : Nat → Prop} (E : kE) (h_t : Nat) (h_t_findings : Nat) (x_t_s : Nat) (x_t_kept : Nat) (x_t_before : Nat) (x_t_shown : Nat) (x_t_worths : Nat) (x_t_steps : Nat) (x_t_tape : Nat) (x_t_bits : Nat) (x_t_longs : Nat) (x_t_cells : Nat) (x_t_between : Nat) (c_t_isKept : Int32) (c_t_most : Int32) (c_t_taped : Int32) (c_t_here : Int32) (c_t_fault : Int32) (c_t_value : Int32) (a1 : Int32) (a2 : Int32) (a3 : Int32) {out : Int32 × (Nat → Int32)} (C : kC RX10 cX10_ith 8 (some .int) p s m args meth c) (hA : ∀ q : Nat, s.heap.size ≤ q → A q) (hK : va_K (eD E) vwCl (eT E) s) (hT : sT E A s s.heap)  :
    ∀ (c_t_findings : (Nat → Int32)), f_M_ith_b48  a1 a2 a3 c_t_findings = some out → ∀ (H : Heap) (locs : List Loc), va_P (eD E) vwCl (w_M_ith E h_t h_t_findings x_t_s x_t_kept x_t_before x_t_shown x_t_worths x_t_steps x_t_tape x_t_bits x_t_longs x_t_cells x_t_between c_t_isKept c_t_most c_t_taped c_t_here c_t_fault c_t_value c_t_findings) H → va_D A (w_M_ith E h_t h_t_findings x_t_s x_t_kept x_t_before x_t_shown x_t_worths x_t_steps x_t_tape x_t_bits x_t_longs x_t_cells x_t_between c_t_isKept c_t_most c_t_taped c_t_here c_t_fault c_t_value c_t_findings) → va_S A s.heap H locs → ∀ (ls : Array Slot), lv_has ls 8 [(0, .ref h_t)] → W p l e (rm 21) s m args below meth c H locs 0 0 (MQ below (qW (some (.int out.1)) E (w_M_ith E h_t h_t_findings x_t_s x_t_kept x_t_before x_t_shown x_t_worths x_t_steps x_t_tape x_t_bits x_t_longs x_t_cells x_t_between c_t_isKept c_t_most c_t_taped c_t_here c_t_fault c_t_value out.2) A) args s 0 0 A) (F0 m 48 ls []) := by
  obtain ⟨hx, hb, hr, hml, hown, hw, hlocks⟩ := id C
  intro c_t_findings hF H locs hP hD hS ls hl
  rw [f_M_ith_b48] at hF
  refine lv_aload_n hx hb dX10_ith_48 rfl (lv_at hl 0 rfl) ?_
  refine lv_iconst (v := (3 : Int32)) hx hb dX10_ith_49 (by decide) ?_
  obtain ⟨r2, er2, hF⟩ := kb hF
  refine kWV (rest := []) (Wr := []) (Wn := (w_M_ith E h_t h_t_findings x_t_s x_t_kept x_t_before x_t_shown x_t_worths x_t_steps x_t_tape x_t_bits x_t_longs x_t_cells x_t_between c_t_isKept c_t_most c_t_taped c_t_here c_t_fault c_t_value r2.2)) C (k_M_no l E h_t h_t_findings x_t_s x_t_kept x_t_before x_t_shown x_t_worths x_t_steps x_t_tape x_t_bits x_t_longs x_t_cells x_t_between H.size c_t_isKept c_t_most c_t_taped c_t_here c_t_fault c_t_value c_t_findings (3 : Int32) r2 er2) fn_M_no mw_964 ⟨Nat.le_of_ble_eq_true rfl, Nat.le_of_ble_eq_true rfl⟩ hK hT hS hA (va_recv hK hP (ci := 8) (q0 := 0) rfl rfl) hP hD [0, 1] rfl (by decide) [] rfl (by decide) (by decide) [0, 1] rfl (by decide) rfl rfl hl (Nat.le_of_ble_eq_true rfl) dX10_ith_50 (fun H locs hP hD hS => ?_)
  refine W.eq (g2 := F0 m 53 ls [.int r2.1]) rfl ?_
  obtain rfl := Option.some.inj hF
  exact W.iret hx hb hr (fun t ht hW => ⟨⟨rfl, by rw [ht]; exact hP, hD⟩, hS.F ht⟩) hS.2.2 dX10_ith_53
set_option maxHeartbeats 4000000 in
set_option maxRecDepth 100000 in
theorem wk_M_ith_b72 {p : Program} {l : Launch} {e : Env} {s : State} {m : MethodId} {args : Array Value} {below : List Frame} {meth : Method} {c : Code} {A : Nat → Prop} (E : kE) (h_t : Nat) (h_t_findings : Nat) (x_t_s : Nat) (x_t_kept : Nat) (x_t_before : Nat) (x_t_shown : Nat) (x_t_worths : Nat) (x_t_steps : Nat) (x_t_tape : Nat) (x_t_bits : Nat) (x_t_longs : Nat) (x_t_cells : Nat) (x_t_between : Nat) (c_t_isKept : Int32) (c_t_most : Int32) (c_t_taped : Int32) (c_t_here : Int32) (c_t_fault : Int32) (c_t_value : Int32) (a1 : Int32) (a2 : Int32) (a3 : Int32) {out : Int32 × (Nat → Int32)} (C : kC RX10 cX10_ith 8 (some .int) p s m args meth c) (hA : ∀ q : Nat, s.heap.size ≤ q → A q) (hK : va_K (eD E) vwCl (eT E) s) (hT : sT E A s s.heap)  :
    ∀ (n : Nat), ∀ (c_t_findings : (Nat → Int32)) (v4 : Int32) (v5 : Int32) (v6 : Int32) (v7 : Int32), f_M_ith_b72  a1 a2 a3 n c_t_findings v4 v5 v6 v7 = some out → ∀ (H : Heap) (locs : List Loc), va_P (eD E) vwCl (w_M_ith E h_t h_t_findings x_t_s x_t_kept x_t_before x_t_shown x_t_worths x_t_steps x_t_tape x_t_bits x_t_longs x_t_cells x_t_between c_t_isKept c_t_most c_t_taped c_t_here c_t_fault c_t_value c_t_findings) H → va_D A (w_M_ith E h_t h_t_findings x_t_s x_t_kept x_t_before x_t_shown x_t_worths x_t_steps x_t_tape x_t_bits x_t_longs x_t_cells x_t_between c_t_isKept c_t_most c_t_taped c_t_here c_t_fault c_t_value c_t_findings) → va_S A s.heap H locs → ∀ (ls : Array Slot), lv_has ls 8 [(3, .int a3), (4, .int v4), (5, .int v5), (6, .int v6), (7, .int v7)] → W p l e (rm 21) s m args below meth c H locs 0 0 (MQ below (qW (some (.int out.1)) E (w_M_ith E h_t h_t_findings x_t_s x_t_kept x_t_before x_t_shown x_t_worths x_t_steps x_t_tape x_t_bits x_t_longs x_t_cells x_t_between c_t_isKept c_t_most c_t_taped c_t_here c_t_fault c_t_value out.2) A) args s 0 0 A) (F0 m 72 ls []) := by
  obtain ⟨hx, hb, hr, hml, hown, hw, hlocks⟩ := id C
  intro n
  induction n with
  | zero =>
    intro c_t_findings v4 v5 v6 v7 hF
    exact absurd (show (none : Option (Int32 × (Nat → Int32))) = some out from hF) nofun
  | succ n ih =>
    intro c_t_findings v4 v5 v6 v7 hF H locs hP hD hS ls hl
    rw [f_M_ith_b72] at hF
    refine lv_iload hx hb dX10_ith_72 (lv_at hl 4 rfl) ?_
    refine lv_iload_n hx hb dX10_ith_74 rfl (lv_at hl 0 rfl) ?_
    refine lv_icmp_ge (tgt := 120) hx hb dX10_ith_75 (by decide) (fun q3 => ?_) (fun q3 => ?_)
    · have hF := kp hF q3
      refine lv_iload hx hb dX10_ith_120 (lv_at hl 3 rfl) ?_
      obtain rfl := Option.some.inj hF
      exact W.iret hx hb hr (fun t ht hW => ⟨⟨rfl, by rw [ht]; exact hP, hD⟩, hS.F ht⟩) hS.2.2 dX10_ith_122
    · have hF := kn hF q3
      refine lv_iload hx hb dX10_ith_78 (lv_at hl 1 rfl) ?_
      refine lv_iconst (v := (1 : Int32)) hx hb dX10_ith_80 (by decide) ?_
      refine lv_iload hx hb dX10_ith_81 (lv_at hl 3 rfl) ?_
      refine lv_ishl hx hb dX10_ith_83 ?_
      refine lv_iconst (v := (-1 : Int32)) hx hb dX10_ith_84 (by decide) ?_
      refine lv_ixor hx hb dX10_ith_85 ?_
      refine lv_iand hx hb dX10_ith_86 ?_
      refine lv_istore (lv' := [(4, .int (v4 &&& (((1 : Int32) <<< (v6 &&& 31)) ^^^ (-1 : Int32)))), (3, .int a3), (5, .int v5), (6, .int v6), (7, .int v7)]) hx hb dX10_ith_87 hl (by decide) rfl (fun ls hl => ?_)
      refine lv_iload hx hb dX10_ith_89 (lv_at hl 3 rfl) ?_
      obtain ⟨r4, er4, hF⟩ := kb hF
      refine kRS (rest := []) C (k_M_oneEnd l E v6 r4 er4) fn_M_oneEnd mw_958 ⟨Nat.le_of_ble_eq_true rfl, Nat.le_of_ble_eq_true rfl⟩ hK hT hS hP [] rfl rfl rfl hl (Nat.le_of_ble_eq_true rfl) dX10_ith_91 ?_
      refine lv_iload hx hb dX10_ith_94 (lv_at hl 3 rfl) ?_
      obtain ⟨r5, er5, hF⟩ := kb hF
      refine kRS (rest := [.int r4]) C (k_M_otherEnd l E v6 r5 er5) fn_M_otherEnd mw_961 ⟨Nat.le_of_ble_eq_true rfl, Nat.le_of_ble_eq_true rfl⟩ hK hT hS hP [] rfl rfl rfl hl (Nat.le_of_ble_eq_true rfl) dX10_ith_96 ?_
      refine lv_iadd hx hb dX10_ith_99 ?_
      refine lv_iload hx hb dX10_ith_100 (lv_at hl 2 rfl) ?_
      refine lv_isub hx hb dX10_ith_102 ?_
      refine lv_istore (lv' := [(5, .int ((r4 + r5) - v5)), (4, .int (v4 &&& (((1 : Int32) <<< (v6 &&& 31)) ^^^ (-1 : Int32)))), (3, .int a3), (6, .int v6), (7, .int v7)]) hx hb dX10_ith_103 hl (by decide) rfl (fun ls hl => ?_)
      refine lv_iload hx hb dX10_ith_105 (lv_at hl 1 rfl) ?_
      refine lv_iload hx hb dX10_ith_107 (lv_at hl 0 rfl) ?_
      obtain ⟨r6, er6, hF⟩ := kb hF
      refine kRS (rest := []) C (k_M_nextStroke l E (v4 &&& (((1 : Int32) <<< (v6 &&& 31)) ^^^ (-1 : Int32))) ((r4 + r5) - v5) r6 er6) fn_M_nextStroke mw_1013 ⟨Nat.le_of_ble_eq_true rfl, Nat.le_of_ble_eq_true rfl⟩ hK hT hS hP [] rfl rfl rfl hl (Nat.le_of_ble_eq_true rfl) dX10_ith_109 ?_
      refine lv_istore (lv' := [(6, .int r6), (5, .int ((r4 + r5) - v5)), (4, .int (v4 &&& (((1 : Int32) <<< (v6 &&& 31)) ^^^ (-1 : Int32)))), (3, .int a3), (7, .int v7)]) hx hb dX10_ith_112 hl (by decide) rfl (fun ls hl => ?_)
      refine lv_iinc (v := (v7 + (1))) (lv' := [(7, .int (v7 + (1))), (6, .int r6), (5, .int ((r4 + r5) - v5)), (4, .int (v4 &&& (((1 : Int32) <<< (v6 &&& 31)) ^^^ (-1 : Int32)))), (3, .int a3)]) hx hb dX10_ith_114 hl (k := 4) rfl rfl (by decide) rfl (fun ls hl => ?_)
      refine lv_goto (tgt := 72) hx hb dX10_ith_117 (by decide) ?_
      exact ih c_t_findings (v4 &&& (((1 : Int32) <<< (v6 &&& 31)) ^^^ (-1 : Int32))) ((r4 + r5) - v5) r6 (v7 + (1)) hF _ _ hP hD hS _ (lv_sub hl [4, 3, 2, 1, 0] rfl)
set_option maxHeartbeats 4000000 in
set_option maxRecDepth 100000 in
theorem k_M_ith (l : Launch) (E : kE) (h_t : Nat) (h_t_findings : Nat) (x_t_s : Nat) (x_t_kept : Nat) (x_t_before : Nat) (x_t_shown : Nat) (x_t_worths : Nat) (x_t_steps : Nat) (x_t_tape : Nat) (x_t_bits : Nat) (x_t_longs : Nat) (x_t_cells : Nat) (x_t_between : Nat) (sz : Nat) (c_t_isKept : Int32) (c_t_most : Int32) (c_t_taped : Int32) (c_t_here : Int32) (c_t_fault : Int32) (c_t_value : Int32) (c_t_findings : (Nat → Int32)) (a1 : Int32) (a2 : Int32) (a3 : Int32) (out : Int32 × (Nat → Int32)) (hF : f_M_ith c_t_findings a1 a2 a3 = some out) : Met l yX10_ith (Cond.code yX10_ith cX10_ith 8 (some .int) :: wG) (rm 21) (pW E (w_M_ith E h_t h_t_findings x_t_s x_t_kept x_t_before x_t_shown x_t_worths x_t_steps x_t_tape x_t_bits x_t_longs x_t_cells x_t_between c_t_isKept c_t_most c_t_taped c_t_here c_t_fault c_t_value c_t_findings) sz [.ref h_t, .int a1, .int a2, .int a3]) (qW (some (.int out.1)) E (w_M_ith E h_t h_t_findings x_t_s x_t_kept x_t_before x_t_shown x_t_worths x_t_steps x_t_tape x_t_bits x_t_longs x_t_cells x_t_between c_t_isKept c_t_most c_t_taped c_t_here c_t_fault c_t_value out.2) (va_A (w_M_ith E h_t h_t_findings x_t_s x_t_kept x_t_before x_t_shown x_t_worths x_t_steps x_t_tape x_t_bits x_t_longs x_t_cells x_t_between c_t_isKept c_t_most c_t_taped c_t_here c_t_fault c_t_value c_t_findings) sz)) 0 0 (va_A (w_M_ith E h_t h_t_findings x_t_s x_t_kept x_t_before x_t_shown x_t_worths x_t_steps x_t_tape x_t_bits x_t_longs x_t_cells x_t_between c_t_isKept c_t_most c_t_taped c_t_here c_t_fault c_t_value c_t_findings) sz) := by
  refine met_W (by decide) (Nat.le_of_ble_eq_true rfl) ?_
  intro p e s m args below meth c A ls C hP hD hS hA hK hT hl
  obtain ⟨hx, hb, hr, hml, hown, hw, hlocks⟩ := id C
  have hl : lv_has ls 8 [(0, .ref h_t), (1, .int a1), (2, .int a2), (3, .int a3)] := hl
  rw [f_M_ith] at hF
  refine lv_iload_n hx hb dX10_ith_0 rfl (lv_at hl 1 rfl) ?_
  obtain ⟨r7, er7, hF⟩ := kb hF
  refine kRS (rest := []) C (k_M_isForm l E a1 r7 er7) fn_M_isForm mw_940 ⟨Nat.le_of_ble_eq_true rfl, Nat.le_of_ble_eq_true rfl⟩ hK hT hS hP [] rfl rfl rfl hl (Nat.le_of_ble_eq_true rfl) dX10_ith_1 ?_
  refine lv_if_eq (tgt := 24) hx hb dX10_ith_4 (by decide) (fun q8 => ?_) (fun q8 => ?_)
  · have hF := kp hF q8
    exact wk_M_ith_b24 E h_t h_t_findings x_t_s x_t_kept x_t_before x_t_shown x_t_worths x_t_steps x_t_tape x_t_bits x_t_longs x_t_cells x_t_between c_t_isKept c_t_most c_t_taped c_t_here c_t_fault c_t_value a1 a2 a3 C hA  hK hT  c_t_findings hF _ _ hP hD hS _ (lv_sub hl [0] rfl)
  · have hF := kn hF q8
    refine lv_iload_n hx hb dX10_ith_7 rfl (lv_at hl 2 rfl) ?_
    obtain ⟨r9, er9, hF⟩ := kb hF
    refine kRS (rest := []) C (k_M_isPoint l E a2 r9 er9) fn_M_isPoint mw_1003 ⟨Nat.le_of_ble_eq_true rfl, Nat.le_of_ble_eq_true rfl⟩ hK hT hS hP [] rfl rfl rfl hl (Nat.le_of_ble_eq_true rfl) dX10_ith_8 ?_
    refine lv_if_eq (tgt := 24) hx hb dX10_ith_11 (by decide) (fun q10 => ?_) (fun q10 => ?_)
    · have hF := kp hF q10
      exact wk_M_ith_b24 E h_t h_t_findings x_t_s x_t_kept x_t_before x_t_shown x_t_worths x_t_steps x_t_tape x_t_bits x_t_longs x_t_cells x_t_between c_t_isKept c_t_most c_t_taped c_t_here c_t_fault c_t_value a1 a2 a3 C hA  hK hT  c_t_findings hF _ _ hP hD hS _ (lv_sub hl [0] rfl)
    · have hF := kn hF q10
      refine lv_iload_n hx hb dX10_ith_14 rfl (lv_at hl 3 rfl) ?_
      refine lv_iconst (v := (0 : Int32)) hx hb dX10_ith_15 (by decide) ?_
      refine lv_bipush (v := (11 : Int32)) hx hb dX10_ith_16 (by decide) ?_
      obtain ⟨r11, er11, hF⟩ := kb hF
      refine kRS (rest := []) C (k_M_in l E a3 (0 : Int32) (11 : Int32) r11 er11) fn_M_in mw_943 ⟨Nat.le_of_ble_eq_true rfl, Nat.le_of_ble_eq_true rfl⟩ hK hT hS hP [] rfl rfl rfl hl (Nat.le_of_ble_eq_true rfl) dX10_ith_18 ?_
      refine lv_if_ne (tgt := 30) hx hb dX10_ith_21 (by decide) (fun q12 => ?_) (fun q12 => ?_)
      · have hF := kn hF q12
        refine lv_iload_n hx hb dX10_ith_30 rfl (lv_at hl 1 rfl) ?_
        refine lv_iload_n hx hb dX10_ith_31 rfl (lv_at hl 2 rfl) ?_
        obtain ⟨r13, er13, hF⟩ := kb hF
        refine kRS (rest := []) C (k_M_waysFrom l E a1 a2 r13 er13) fn_M_waysFrom mw_1006 ⟨Nat.le_of_ble_eq_true rfl, Nat.le_of_ble_eq_true rfl⟩ hK hT hS hP [] rfl rfl rfl hl (Nat.le_of_ble_eq_true rfl) dX10_ith_32 ?_
        refine lv_lconst (v := (0 : Int64)) hx hb dX10_ith_35 (by decide) ?_
        refine W.lcmp hx hb dX10_ith_36 ?_
        refine lv_if_eq (tgt := 48) hx hb dX10_ith_37 (by decide) (fun q14 => ?_) (fun q14 => ?_)
        · have hF := kp hF q14
          exact wk_M_ith_b48 E h_t h_t_findings x_t_s x_t_kept x_t_before x_t_shown x_t_worths x_t_steps x_t_tape x_t_bits x_t_longs x_t_cells x_t_between c_t_isKept c_t_most c_t_taped c_t_here c_t_fault c_t_value a1 a2 a3 C hA  hK hT  c_t_findings hF _ _ hP hD hS _ (lv_sub hl [0] rfl)
        · have hF := kn hF q14
          refine lv_iload_n hx hb dX10_ith_40 rfl (lv_at hl 3 rfl) ?_
          refine lv_iload_n hx hb dX10_ith_41 rfl (lv_at hl 1 rfl) ?_
          obtain ⟨r15, er15, hF⟩ := kb hF
          refine kRS (rest := [.int a3]) C (k_M_ones l E a1 r15 er15) fn_M_ones mw_989 ⟨Nat.le_of_ble_eq_true rfl, Nat.le_of_ble_eq_true rfl⟩ hK hT hS hP [] rfl rfl rfl hl (Nat.le_of_ble_eq_true rfl) dX10_ith_42 ?_
          refine lv_icmp_lt (tgt := 54) hx hb dX10_ith_45 (by decide) (fun q16 => ?_) (fun q16 => ?_)
          · have hF := kp hF q16
            refine lv_iload_n hx hb dX10_ith_54 rfl (lv_at hl 1 rfl) ?_
            refine lv_istore (lv' := [(4, .int a1), (0, .ref h_t), (1, .int a1), (2, .int a2), (3, .int a3)]) hx hb dX10_ith_55 hl (by decide) rfl (fun ls hl => ?_)
            refine lv_iload_n hx hb dX10_ith_57 rfl (lv_at hl 3 rfl) ?_
            refine lv_istore (lv' := [(5, .int a2), (4, .int a1), (0, .ref h_t), (1, .int a1), (2, .int a2), (3, .int a3)]) hx hb dX10_ith_58 hl (by decide) rfl (fun ls hl => ?_)
            refine lv_iload hx hb dX10_ith_60 (lv_at hl 1 rfl) ?_
            refine lv_iload hx hb dX10_ith_62 (lv_at hl 0 rfl) ?_
            obtain ⟨r17, er17, hF⟩ := kb hF
            refine kRS (rest := []) C (k_M_nextStroke l E a1 a2 r17 er17) fn_M_nextStroke mw_1013 ⟨Nat.le_of_ble_eq_true rfl, Nat.le_of_ble_eq_true rfl⟩ hK hT hS hP [] rfl rfl rfl hl (Nat.le_of_ble_eq_true rfl) dX10_ith_64 ?_
            refine lv_istore (lv' := [(6, .int r17), (5, .int a2), (4, .int a1), (0, .ref h_t), (1, .int a1), (2, .int a2), (3, .int a3)]) hx hb dX10_ith_67 hl (by decide) rfl (fun ls hl => ?_)
            refine lv_iconst (v := (0 : Int32)) hx hb dX10_ith_69 (by decide) ?_
            refine lv_istore (lv' := [(7, .int (0 : Int32)), (6, .int r17), (5, .int a2), (4, .int a1), (0, .ref h_t), (1, .int a1), (2, .int a2), (3, .int a3)]) hx hb dX10_ith_70 hl (by decide) rfl (fun ls hl => ?_)
            exact wk_M_ith_b72 E h_t h_t_findings x_t_s x_t_kept x_t_before x_t_shown x_t_worths x_t_steps x_t_tape x_t_bits x_t_longs x_t_cells x_t_between c_t_isKept c_t_most c_t_taped c_t_here c_t_fault c_t_value a1 a2 a3 C hA  hK hT  5000 c_t_findings a1 a2 r17 (0 : Int32) hF _ _ hP hD hS _ (lv_sub hl [7, 3, 2, 1, 0] rfl)
          · have hF := kn hF q16
            exact wk_M_ith_b48 E h_t h_t_findings x_t_s x_t_kept x_t_before x_t_shown x_t_worths x_t_steps x_t_tape x_t_bits x_t_longs x_t_cells x_t_between c_t_isKept c_t_most c_t_taped c_t_here c_t_fault c_t_value a1 a2 a3 C hA  hK hT  c_t_findings hF _ _ hP hD hS _ (lv_sub hl [0] rfl)
      · have hF := kp hF q12
        exact wk_M_ith_b24 E h_t h_t_findings x_t_s x_t_kept x_t_before x_t_shown x_t_worths x_t_steps x_t_tape x_t_bits x_t_longs x_t_cells x_t_between c_t_isKept c_t_most c_t_taped c_t_here c_t_fault c_t_value a1 a2 a3 C hA  hK hT  c_t_findings hF _ _ hP hD hS _ (lv_sub hl [0] rfl)
abbrev w_M_again (E : kE) (h_t : Nat) (h_t_findings : Nat) (x_t_s : Nat) (x_t_kept : Nat) (x_t_before : Nat) (x_t_shown : Nat) (x_t_worths : Nat) (x_t_steps : Nat) (x_t_tape : Nat) (x_t_bits : Nat) (x_t_longs : Nat) (x_t_cells : Nat) (x_t_between : Nat) (c_t_isKept : Int32) (c_t_most : Int32) (c_t_taped : Int32) (c_t_here : Int32) (c_t_fault : Int32) (c_t_value : Int32) (c_t_findings : (Nat → Int32)) : va_W := [(h_t, .inr (8, [.ref x_t_s, .ref x_t_kept, .ref x_t_before, .int c_t_isKept, .ref h_t_findings, .ref x_t_shown, .int c_t_most, .ref x_t_worths, .ref x_t_steps, .ref x_t_tape, .int c_t_taped, .int c_t_here, .int c_t_fault, .int c_t_value, .ref x_t_bits, .ref x_t_longs, .ref x_t_cells, .ref x_t_between])), (h_t_findings, .inl (eI E, 7, .inl c_t_findings))]
set_option maxHeartbeats 4000000 in
set_option maxRecDepth 100000 in
theorem wk_M_again_b67 {p : Program} {l : Launch} {e : Env} {s : State} {m : MethodId} {args : Array Value} {below : List Frame} {meth : Method} {c : Code} {A : Nat → Prop} (E : kE) (h_t : Nat) (h_t_findings : Nat) (x_t_s : Nat) (x_t_kept : Nat) (x_t_before : Nat) (x_t_shown : Nat) (x_t_worths : Nat) (x_t_steps : Nat) (x_t_tape : Nat) (x_t_bits : Nat) (x_t_longs : Nat) (x_t_cells : Nat) (x_t_between : Nat) (c_t_isKept : Int32) (c_t_most : Int32) (c_t_taped : Int32) (c_t_here : Int32) (c_t_fault : Int32) (c_t_value : Int32) (a1 : Int32) {out : Int32 × (Nat → Int32)} (C : kC RX10 cX10_again 5 (some .int) p s m args meth c) (hA : ∀ q : Nat, s.heap.size ≤ q → A q) (hK : va_K (eD E) vwCl (eT E) s) (hT : sT E A s s.heap) (k38 : (Nat → Int32) → Int32 → Int32 → Int32 → Option (Int32 × (Nat → Int32))) (hk38 : ∀ (c_t_findings : (Nat → Int32)) (v2 : Int32) (v3 : Int32) (v4 : Int32), k38 c_t_findings v2 v3 v4 = some out → ∀ (H : Heap) (locs : List Loc), va_P (eD E) vwCl (w_M_again E h_t h_t_findings x_t_s x_t_kept x_t_before x_t_shown x_t_worths x_t_steps x_t_tape x_t_bits x_t_longs x_t_cells x_t_between c_t_isKept c_t_most c_t_taped c_t_here c_t_fault c_t_value c_t_findings) H → va_D A (w_M_again E h_t h_t_findings x_t_s x_t_kept x_t_before x_t_shown x_t_worths x_t_steps x_t_tape x_t_bits x_t_longs x_t_cells x_t_between c_t_isKept c_t_most c_t_taped c_t_here c_t_fault c_t_value c_t_findings) → va_S A s.heap H locs → ∀ (ls : Array Slot), lv_has ls 5 [(1, .int a1), (2, .int v2), (3, .int v3), (4, .int v4)] → W p l e (rm 7) s m args below meth c H locs 0 0 (MQ below (qW (some (.int out.1)) E (w_M_again E h_t h_t_findings x_t_s x_t_kept x_t_before x_t_shown x_t_worths x_t_steps x_t_tape x_t_bits x_t_longs x_t_cells x_t_between c_t_isKept c_t_most c_t_taped c_t_here c_t_fault c_t_value out.2) A) args s 0 0 A) (F0 m 38 ls [])) :
    ∀ (c_t_findings : (Nat → Int32)) (v2 : Int32) (v3 : Int32) (v4 : Int32), f_M_again_b67 k38 a1 c_t_findings v2 v3 v4 = some out → ∀ (H : Heap) (locs : List Loc), va_P (eD E) vwCl (w_M_again E h_t h_t_findings x_t_s x_t_kept x_t_before x_t_shown x_t_worths x_t_steps x_t_tape x_t_bits x_t_longs x_t_cells x_t_between c_t_isKept c_t_most c_t_taped c_t_here c_t_fault c_t_value c_t_findings) H → va_D A (w_M_again E h_t h_t_findings x_t_s x_t_kept x_t_before x_t_shown x_t_worths x_t_steps x_t_tape x_t_bits x_t_longs x_t_cells x_t_between c_t_isKept c_t_most c_t_taped c_t_here c_t_fault c_t_value c_t_findings) → va_S A s.heap H locs → ∀ (ls : Array Slot), lv_has ls 5 [(1, .int a1), (2, .int v2), (3, .int v3), (4, .int v4)] → W p l e (rm 7) s m args below meth c H locs 0 0 (MQ below (qW (some (.int out.1)) E (w_M_again E h_t h_t_findings x_t_s x_t_kept x_t_before x_t_shown x_t_worths x_t_steps x_t_tape x_t_bits x_t_longs x_t_cells x_t_between c_t_isKept c_t_most c_t_taped c_t_here c_t_fault c_t_value out.2) A) args s 0 0 A) (F0 m 67 ls []) := by
  obtain ⟨hx, hb, hr, hml, hown, hw, hlocks⟩ := id C
  intro c_t_findings v2 v3 v4 hF H locs hP hD hS ls hl
  rw [f_M_again_b67] at hF
  refine lv_iload hx hb dX10_again_67 (lv_at hl 3 rfl) ?_
  refine lv_iconst (v := (1 : Int32)) hx hb dX10_again_69 (by decide) ?_
  refine lv_isub hx hb dX10_again_70 ?_
  refine lv_iload_n hx hb dX10_again_71 rfl (lv_at hl 0 rfl) ?_
  refine lv_iand hx hb dX10_again_72 ?_
  refine lv_istore (lv' := [(4, .int ((v4 - (1 : Int32)) &&& a1)), (1, .int a1), (2, .int v2), (3, .int v3)]) hx hb dX10_again_73 hl (by decide) rfl (fun ls hl => ?_)
  refine lv_goto (tgt := 38) hx hb dX10_again_75 (by decide) ?_
  exact hk38 c_t_findings v2 v3 ((v4 - (1 : Int32)) &&& a1) hF _ _ hP hD hS _ (lv_sub hl [1, 2, 3, 0] rfl)
set_option maxHeartbeats 4000000 in
set_option maxRecDepth 100000 in
theorem wk_M_again_b38 {p : Program} {l : Launch} {e : Env} {s : State} {m : MethodId} {args : Array Value} {below : List Frame} {meth : Method} {c : Code} {A : Nat → Prop} (E : kE) (h_t : Nat) (h_t_findings : Nat) (x_t_s : Nat) (x_t_kept : Nat) (x_t_before : Nat) (x_t_shown : Nat) (x_t_worths : Nat) (x_t_steps : Nat) (x_t_tape : Nat) (x_t_bits : Nat) (x_t_longs : Nat) (x_t_cells : Nat) (x_t_between : Nat) (c_t_isKept : Int32) (c_t_most : Int32) (c_t_taped : Int32) (c_t_here : Int32) (c_t_fault : Int32) (c_t_value : Int32) (a1 : Int32) {out : Int32 × (Nat → Int32)} (C : kC RX10 cX10_again 5 (some .int) p s m args meth c) (hA : ∀ q : Nat, s.heap.size ≤ q → A q) (hK : va_K (eD E) vwCl (eT E) s) (hT : sT E A s s.heap)  :
    ∀ (n : Nat), ∀ (c_t_findings : (Nat → Int32)) (v2 : Int32) (v3 : Int32) (v4 : Int32), f_M_again_b38  a1 n c_t_findings v2 v3 v4 = some out → ∀ (H : Heap) (locs : List Loc), va_P (eD E) vwCl (w_M_again E h_t h_t_findings x_t_s x_t_kept x_t_before x_t_shown x_t_worths x_t_steps x_t_tape x_t_bits x_t_longs x_t_cells x_t_between c_t_isKept c_t_most c_t_taped c_t_here c_t_fault c_t_value c_t_findings) H → va_D A (w_M_again E h_t h_t_findings x_t_s x_t_kept x_t_before x_t_shown x_t_worths x_t_steps x_t_tape x_t_bits x_t_longs x_t_cells x_t_between c_t_isKept c_t_most c_t_taped c_t_here c_t_fault c_t_value c_t_findings) → va_S A s.heap H locs → ∀ (ls : Array Slot), lv_has ls 5 [(1, .int a1), (2, .int v2), (3, .int v3), (4, .int v4)] → W p l e (rm 7) s m args below meth c H locs 0 0 (MQ below (qW (some (.int out.1)) E (w_M_again E h_t h_t_findings x_t_s x_t_kept x_t_before x_t_shown x_t_worths x_t_steps x_t_tape x_t_bits x_t_longs x_t_cells x_t_between c_t_isKept c_t_most c_t_taped c_t_here c_t_fault c_t_value out.2) A) args s 0 0 A) (F0 m 38 ls []) := by
  obtain ⟨hx, hb, hr, hml, hown, hw, hlocks⟩ := id C
  intro n
  induction n with
  | zero =>
    intro c_t_findings v2 v3 v4 hF
    exact absurd (show (none : Option (Int32 × (Nat → Int32))) = some out from hF) nofun
  | succ n ih =>
    intro c_t_findings v2 v3 v4 hF H locs hP hD hS ls hl
    rw [f_M_again_b38] at hF
    refine lv_iload hx hb dX10_again_38 (lv_at hl 3 rfl) ?_
    refine lv_if_le (tgt := 78) hx hb dX10_again_40 (by decide) (fun q1 => ?_) (fun q1 => ?_)
    · have hF := kp hF q1
      refine lv_iload_n hx hb dX10_again_78 rfl (lv_at hl 1 rfl) ?_
      refine lv_if_ne (tgt := 86) hx hb dX10_again_79 (by decide) (fun q2 => ?_) (fun q2 => ?_)
      · have hF := kn hF q2
        refine lv_iload_n hx hb dX10_again_86 rfl (lv_at hl 2 rfl) ?_
        obtain rfl := Option.some.inj hF
        exact W.iret hx hb hr (fun t ht hW => ⟨⟨rfl, by rw [ht]; exact hP, hD⟩, hS.F ht⟩) hS.2.2 dX10_again_87
      · have hF := kp hF q2
        refine lv_iconst (v := (0 : Int32)) hx hb dX10_again_82 (by decide) ?_
        refine lv_goto (tgt := 87) hx hb dX10_again_83 (by decide) ?_
        obtain rfl := Option.some.inj hF
        exact W.iret hx hb hr (fun t ht hW => ⟨⟨rfl, by rw [ht]; exact hP, hD⟩, hS.F ht⟩) hS.2.2 dX10_again_87
    · have hF := kn hF q1
      refine lv_iload hx hb dX10_again_43 (lv_at hl 3 rfl) ?_
      obtain ⟨r3, er3, hF⟩ := kb hF
      refine kRS (rest := []) C (k_M_ones l E v4 r3 er3) fn_M_ones mw_989 ⟨Nat.le_of_ble_eq_true rfl, Nat.le_of_ble_eq_true rfl⟩ hK hT hS hP [] rfl rfl rfl hl (Nat.le_of_ble_eq_true rfl) dX10_again_45 ?_
      refine lv_iload_n hx hb dX10_again_48 rfl (lv_at hl 2 rfl) ?_
      refine lv_icmp_ge (tgt := 67) hx hb dX10_again_49 (by decide) (fun q4 => ?_) (fun q4 => ?_)
      · have hF := kp hF q4
        exact wk_M_again_b67 E h_t h_t_findings x_t_s x_t_kept x_t_before x_t_shown x_t_worths x_t_steps x_t_tape x_t_bits x_t_longs x_t_cells x_t_between c_t_isKept c_t_most c_t_taped c_t_here c_t_fault c_t_value a1 C hA  hK hT (f_M_again_b38  a1 n) ih c_t_findings v2 v3 v4 hF _ _ hP hD hS _ (lv_sub hl [0, 1, 2, 3] rfl)
      · have hF := kn hF q4
        refine lv_iload hx hb dX10_again_52 (lv_at hl 3 rfl) ?_
        obtain ⟨r5, er5, hF⟩ := kb hF
        refine kRS (rest := []) C (k_M_odds l E v4 r5 er5) fn_M_odds mw_946 ⟨Nat.le_of_ble_eq_true rfl, Nat.le_of_ble_eq_true rfl⟩ hK hT hS hP [] rfl rfl rfl hl (Nat.le_of_ble_eq_true rfl) dX10_again_54 ?_
        refine lv_iload_n hx hb dX10_again_57 rfl (lv_at hl 1 rfl) ?_
        refine lv_icmp_ne (tgt := 67) hx hb dX10_again_58 (by decide) (fun q6 => ?_) (fun q6 => ?_)
        · have hF := kn hF q6
          exact wk_M_again_b67 E h_t h_t_findings x_t_s x_t_kept x_t_before x_t_shown x_t_worths x_t_steps x_t_tape x_t_bits x_t_longs x_t_cells x_t_between c_t_isKept c_t_most c_t_taped c_t_here c_t_fault c_t_value a1 C hA  hK hT (f_M_again_b38  a1 n) ih c_t_findings v2 v3 v4 hF _ _ hP hD hS _ (lv_sub hl [0, 1, 2, 3] rfl)
        · have hF := kp hF q6
          refine lv_iload hx hb dX10_again_61 (lv_at hl 3 rfl) ?_
          obtain ⟨r7, er7, hF⟩ := kb hF
          refine kRS (rest := []) C (k_M_ones l E v4 r7 er7) fn_M_ones mw_989 ⟨Nat.le_of_ble_eq_true rfl, Nat.le_of_ble_eq_true rfl⟩ hK hT hS hP [] rfl rfl rfl hl (Nat.le_of_ble_eq_true rfl) dX10_again_63 ?_
          refine lv_istore_n (lv' := [(3, .int r7), (1, .int a1), (2, .int v2), (4, .int v4)]) hx hb dX10_again_66 rfl hl (by decide) rfl (fun ls hl => ?_)
          exact wk_M_again_b67 E h_t h_t_findings x_t_s x_t_kept x_t_before x_t_shown x_t_worths x_t_steps x_t_tape x_t_bits x_t_longs x_t_cells x_t_between c_t_isKept c_t_most c_t_taped c_t_here c_t_fault c_t_value a1 C hA  hK hT (f_M_again_b38  a1 n) ih c_t_findings v2 r7 v4 hF _ _ hP hD hS _ (lv_sub hl [1, 2, 0, 3] rfl)
set_option maxHeartbeats 4000000 in
set_option maxRecDepth 100000 in
theorem k_M_again (l : Launch) (E : kE) (h_t : Nat) (h_t_findings : Nat) (x_t_s : Nat) (x_t_kept : Nat) (x_t_before : Nat) (x_t_shown : Nat) (x_t_worths : Nat) (x_t_steps : Nat) (x_t_tape : Nat) (x_t_bits : Nat) (x_t_longs : Nat) (x_t_cells : Nat) (x_t_between : Nat) (sz : Nat) (c_t_isKept : Int32) (c_t_most : Int32) (c_t_taped : Int32) (c_t_here : Int32) (c_t_fault : Int32) (c_t_value : Int32) (c_t_findings : (Nat → Int32)) (a1 : Int32) (out : Int32 × (Nat → Int32)) (hF : f_M_again c_t_findings a1 = some out) : Met l yX10_again (Cond.code yX10_again cX10_again 5 (some .int) :: wG) (rm 7) (pW E (w_M_again E h_t h_t_findings x_t_s x_t_kept x_t_before x_t_shown x_t_worths x_t_steps x_t_tape x_t_bits x_t_longs x_t_cells x_t_between c_t_isKept c_t_most c_t_taped c_t_here c_t_fault c_t_value c_t_findings) sz [.ref h_t, .int a1]) (qW (some (.int out.1)) E (w_M_again E h_t h_t_findings x_t_s x_t_kept x_t_before x_t_shown x_t_worths x_t_steps x_t_tape x_t_bits x_t_longs x_t_cells x_t_between c_t_isKept c_t_most c_t_taped c_t_here c_t_fault c_t_value out.2) (va_A (w_M_again E h_t h_t_findings x_t_s x_t_kept x_t_before x_t_shown x_t_worths x_t_steps x_t_tape x_t_bits x_t_longs x_t_cells x_t_between c_t_isKept c_t_most c_t_taped c_t_here c_t_fault c_t_value c_t_findings) sz)) 0 0 (va_A (w_M_again E h_t h_t_findings x_t_s x_t_kept x_t_before x_t_shown x_t_worths x_t_steps x_t_tape x_t_bits x_t_longs x_t_cells x_t_between c_t_isKept c_t_most c_t_taped c_t_here c_t_fault c_t_value c_t_findings) sz) := by
  refine met_W (by decide) (Nat.le_of_ble_eq_true rfl) ?_
  intro p e s m args below meth c A ls C hP hD hS hA hK hT hl
  obtain ⟨hx, hb, hr, hml, hown, hw, hlocks⟩ := id C
  have hl : lv_has ls 5 [(0, .ref h_t), (1, .int a1)] := hl
  rw [f_M_again] at hF
  refine lv_iload_n hx hb dX10_again_0 rfl (lv_at hl 1 rfl) ?_
  obtain ⟨r8, er8, hF⟩ := kb hF
  refine kRS (rest := []) C (k_M_isForm l E a1 r8 er8) fn_M_isForm mw_940 ⟨Nat.le_of_ble_eq_true rfl, Nat.le_of_ble_eq_true rfl⟩ hK hT hS hP [] rfl rfl rfl hl (Nat.le_of_ble_eq_true rfl) dX10_again_1 ?_
  refine lv_if_ne (tgt := 13) hx hb dX10_again_4 (by decide) (fun q9 => ?_) (fun q9 => ?_)
  · have hF := kn hF q9
    refine lv_iload_n hx hb dX10_again_13 rfl (lv_at hl 1 rfl) ?_
    obtain ⟨r10, er10, hF⟩ := kb hF
    refine kRS (rest := []) C (k_M_piecesOf l E a1 r10 er10) fn_M_piecesOf mw_973 ⟨Nat.le_of_ble_eq_true rfl, Nat.le_of_ble_eq_true rfl⟩ hK hT hS hP [] rfl rfl rfl hl (Nat.le_of_ble_eq_true rfl) dX10_again_14 ?_
    refine lv_iconst (v := (1 : Int32)) hx hb dX10_again_17 (by decide) ?_
    refine lv_icmp_le (tgt := 27) hx hb dX10_again_18 (by decide) (fun q11 => ?_) (fun q11 => ?_)
    · have hF := kp hF q11
      refine lv_iload_n hx hb dX10_again_27 rfl (lv_at hl 1 rfl) ?_
      obtain ⟨r12, er12, hF⟩ := kb hF
      refine kRS (rest := []) C (k_M_odds l E a1 r12 er12) fn_M_odds mw_946 ⟨Nat.le_of_ble_eq_true rfl, Nat.le_of_ble_eq_true rfl⟩ hK hT hS hP [] rfl rfl rfl hl (Nat.le_of_ble_eq_true rfl) dX10_again_28 ?_
      refine lv_istore_n (lv' := [(2, .int r12), (0, .ref h_t), (1, .int a1)]) hx hb dX10_again_31 rfl hl (by decide) rfl (fun ls hl => ?_)
      refine lv_bipush (v := (12 : Int32)) hx hb dX10_again_32 (by decide) ?_
      refine lv_istore_n (lv' := [(3, .int (12 : Int32)), (2, .int r12), (0, .ref h_t), (1, .int a1)]) hx hb dX10_again_34 rfl hl (by decide) rfl (fun ls hl => ?_)
      refine lv_iload_n hx hb dX10_again_35 rfl (lv_at hl 3 rfl) ?_
      refine lv_istore (lv' := [(4, .int a1), (3, .int (12 : Int32)), (2, .int r12), (0, .ref h_t), (1, .int a1)]) hx hb dX10_again_36 hl (by decide) rfl (fun ls hl => ?_)
      exact wk_M_again_b38 E h_t h_t_findings x_t_s x_t_kept x_t_before x_t_shown x_t_worths x_t_steps x_t_tape x_t_bits x_t_longs x_t_cells x_t_between c_t_isKept c_t_most c_t_taped c_t_here c_t_fault c_t_value a1 C hA  hK hT  5000 c_t_findings r12 (12 : Int32) a1 hF _ _ hP hD hS _ (lv_sub hl [4, 2, 1, 0] rfl)
    · have hF := kn hF q11
      refine lv_aload_n hx hb dX10_again_21 rfl (lv_at hl 0 rfl) ?_
      refine lv_iconst (v := (3 : Int32)) hx hb dX10_again_22 (by decide) ?_
      obtain ⟨r13, er13, hF⟩ := kb hF
      refine kWV (rest := []) (Wr := []) (Wn := (w_M_again E h_t h_t_findings x_t_s x_t_kept x_t_before x_t_shown x_t_worths x_t_steps x_t_tape x_t_bits x_t_longs x_t_cells x_t_between c_t_isKept c_t_most c_t_taped c_t_here c_t_fault c_t_value r13.2)) C (k_M_no l E h_t h_t_findings x_t_s x_t_kept x_t_before x_t_shown x_t_worths x_t_steps x_t_tape x_t_bits x_t_longs x_t_cells x_t_between s.heap.size c_t_isKept c_t_most c_t_taped c_t_here c_t_fault c_t_value c_t_findings (3 : Int32) r13 er13) fn_M_no mw_964 ⟨Nat.le_of_ble_eq_true rfl, Nat.le_of_ble_eq_true rfl⟩ hK hT hS hA (va_recv hK hP (ci := 8) (q0 := 0) rfl rfl) hP hD [0, 1] rfl (by decide) [] rfl (by decide) (by decide) [0, 1] rfl (by decide) rfl rfl hl (Nat.le_of_ble_eq_true rfl) dX10_again_23 (fun H locs hP hD hS => ?_)
      refine W.eq (g2 := F0 m 26 ls [.int r13.1]) rfl ?_
      obtain rfl := Option.some.inj hF
      exact W.iret hx hb hr (fun t ht hW => ⟨⟨rfl, by rw [ht]; exact hP, hD⟩, hS.F ht⟩) hS.2.2 dX10_again_26
  · have hF := kp hF q9
    refine lv_aload_n hx hb dX10_again_7 rfl (lv_at hl 0 rfl) ?_
    refine lv_iconst (v := (0 : Int32)) hx hb dX10_again_8 (by decide) ?_
    obtain ⟨r14, er14, hF⟩ := kb hF
    refine kWV (rest := []) (Wr := []) (Wn := (w_M_again E h_t h_t_findings x_t_s x_t_kept x_t_before x_t_shown x_t_worths x_t_steps x_t_tape x_t_bits x_t_longs x_t_cells x_t_between c_t_isKept c_t_most c_t_taped c_t_here c_t_fault c_t_value r14.2)) C (k_M_no l E h_t h_t_findings x_t_s x_t_kept x_t_before x_t_shown x_t_worths x_t_steps x_t_tape x_t_bits x_t_longs x_t_cells x_t_between s.heap.size c_t_isKept c_t_most c_t_taped c_t_here c_t_fault c_t_value c_t_findings (0 : Int32) r14 er14) fn_M_no mw_964 ⟨Nat.le_of_ble_eq_true rfl, Nat.le_of_ble_eq_true rfl⟩ hK hT hS hA (va_recv hK hP (ci := 8) (q0 := 0) rfl rfl) hP hD [0, 1] rfl (by decide) [] rfl (by decide) (by decide) [0, 1] rfl (by decide) rfl rfl hl (Nat.le_of_ble_eq_true rfl) dX10_again_9 (fun H locs hP hD hS => ?_)
    refine W.eq (g2 := F0 m 12 ls [.int r14.1]) rfl ?_
    obtain rfl := Option.some.inj hF
    exact W.iret hx hb hr (fun t ht hW => ⟨⟨rfl, by rw [ht]; exact hP, hD⟩, hS.F ht⟩) hS.2.2 dX10_again_12
abbrev w_M_quarter (E : kE)    : va_W := []
set_option maxHeartbeats 4000000 in
set_option maxRecDepth 100000 in
theorem k_M_quarter (l : Launch) (E : kE)    (a0 : Int32) (out : Int32) (hF : f_M_quarter  a0 = some out) : Met l yX10_quarter (Cond.code yX10_quarter cX10_quarter 1 (some .int) :: wG) (rm 1) (pR E (w_M_quarter E ) [.int a0]) (qR (.int out)) 0 0 (fun _ => False) := by
  refine met_R (by decide) (Nat.le_of_ble_eq_true rfl) ?_
  intro p e s m args below meth c ls C hP hK hT hl
  obtain ⟨hx, hb, hr, hml, hown, hw, hlocks⟩ := id C
  have hS : va_S (fun _ => False) s.heap s.heap [] := va_S.rf
  have hl : lv_has ls 1 [(0, .int a0)] := hl
  rw [f_M_quarter] at hF
  refine lv_iconst (v := (3 : Int32)) hx hb dX10_quarter_0 (by decide) ?_
  refine lv_iload_n hx hb dX10_quarter_1 rfl (lv_at hl 0 rfl) ?_
  refine lv_iconst (v := (3 : Int32)) hx hb dX10_quarter_2 (by decide) ?_
  refine lv_irem hx hb dX10_quarter_3 (by decide) ?_
  refine lv_imul hx hb dX10_quarter_4 ?_
  refine lv_iconst (v := (2 : Int32)) hx hb dX10_quarter_5 (by decide) ?_
  refine lv_iadd hx hb dX10_quarter_6 ?_
  refine lv_iload_n hx hb dX10_quarter_7 rfl (lv_at hl 0 rfl) ?_
  refine lv_iconst (v := (3 : Int32)) hx hb dX10_quarter_8 (by decide) ?_
  refine lv_idiv hx hb dX10_quarter_9 (by decide) ?_
  refine lv_isub hx hb dX10_quarter_10 ?_
  obtain rfl := Option.some.inj hF
  exact W.iret hx hb hr (fun t ht hW => ⟨rfl, ht⟩) nofun dX10_quarter_11
abbrev w_M_strokeOf (E : kE)    : va_W := []
set_option maxHeartbeats 4000000 in
set_option maxRecDepth 100000 in
theorem wk_M_strokeOf_b2 {p : Program} {l : Launch} {e : Env} {s : State} {m : MethodId} {args : Array Value} {below : List Frame} {meth : Method} {c : Code} (E : kE)    (a0 : Int32) (a1 : Int32) {out : Int32} (C : kC RX10 cX10_strokeOf 3 (some .int) p s m args meth c) (hP : va_P (eD E) vwCl (w_M_strokeOf E ) s.heap) (hK : va_K (eD E) vwCl (eT E) s) (hT : sT E (fun _ => False) s s.heap)  :
    ∀ (n : Nat), ∀ (v2 : Int32), f_M_strokeOf_b2  a0 a1 n v2 = some out → ∀ (ls : Array Slot), lv_has ls 3 [(0, .int a0), (1, .int a1), (2, .int v2)] → W p l e (rm 4) s m args below meth c s.heap [] 0 0 (MQ below (qR (.int out)) args s 0 0 (fun _ => False)) (F0 m 2 ls []) := by
  obtain ⟨hx, hb, hr, hml, hown, hw, hlocks⟩ := id C
  have hS : va_S (fun _ => False) s.heap s.heap [] := va_S.rf
  intro n
  induction n with
  | zero =>
    intro v2 hF
    exact absurd (show (none : Option (Int32)) = some out from hF) nofun
  | succ n ih =>
    intro v2 hF ls hl
    rw [f_M_strokeOf_b2] at hF
    refine lv_iload_n hx hb dX10_strokeOf_2 rfl (lv_at hl 2 rfl) ?_
    refine lv_iload_n hx hb dX10_strokeOf_3 rfl (lv_at hl 0 rfl) ?_
    obtain ⟨r1, er1, hF⟩ := kb hF
    refine kRS (rest := []) C (k_M_ends l E v2 a0 r1 er1) fn_M_ends mw_955 ⟨Nat.le_of_ble_eq_true rfl, Nat.le_of_ble_eq_true rfl⟩ hK hT hS hP [] rfl rfl rfl hl (Nat.le_of_ble_eq_true rfl) dX10_strokeOf_4 ?_
    refine lv_if_eq (tgt := 18) hx hb dX10_strokeOf_7 (by decide) (fun q2 => ?_) (fun q2 => ?_)
    · have hF := kp hF q2
      refine lv_iinc (v := (v2 + (1))) (lv' := [(2, .int (v2 + (1))), (0, .int a0), (1, .int a1)]) hx hb dX10_strokeOf_18 hl (k := 2) rfl rfl (by decide) rfl (fun ls hl => ?_)
      refine lv_goto (tgt := 2) hx hb dX10_strokeOf_21 (by decide) ?_
      exact ih (v2 + (1)) hF _ (lv_sub hl [1, 2, 0] rfl)
    · have hF := kn hF q2
      refine lv_iload_n hx hb dX10_strokeOf_10 rfl (lv_at hl 2 rfl) ?_
      refine lv_iload_n hx hb dX10_strokeOf_11 rfl (lv_at hl 1 rfl) ?_
      obtain ⟨r3, er3, hF⟩ := kb hF
      refine kRS (rest := []) C (k_M_ends l E v2 a1 r3 er3) fn_M_ends mw_955 ⟨Nat.le_of_ble_eq_true rfl, Nat.le_of_ble_eq_true rfl⟩ hK hT hS hP [] rfl rfl rfl hl (Nat.le_of_ble_eq_true rfl) dX10_strokeOf_12 ?_
      refine lv_if_ne (tgt := 24) hx hb dX10_strokeOf_15 (by decide) (fun q4 => ?_) (fun q4 => ?_)
      · have hF := kn hF q4
        refine lv_iload_n hx hb dX10_strokeOf_24 rfl (lv_at hl 2 rfl) ?_
        obtain rfl := Option.some.inj hF
        exact W.iret hx hb hr (fun t ht hW => ⟨rfl, ht⟩) nofun dX10_strokeOf_25
      · have hF := kp hF q4
        refine lv_iinc (v := (v2 + (1))) (lv' := [(2, .int (v2 + (1))), (0, .int a0), (1, .int a1)]) hx hb dX10_strokeOf_18 hl (k := 2) rfl rfl (by decide) rfl (fun ls hl => ?_)
        refine lv_goto (tgt := 2) hx hb dX10_strokeOf_21 (by decide) ?_
        exact ih (v2 + (1)) hF _ (lv_sub hl [1, 2, 0] rfl)
set_option maxHeartbeats 4000000 in
set_option maxRecDepth 100000 in
theorem k_M_strokeOf (l : Launch) (E : kE)    (a0 : Int32) (a1 : Int32) (out : Int32) (hF : f_M_strokeOf  a0 a1 = some out) : Met l yX10_strokeOf (Cond.code yX10_strokeOf cX10_strokeOf 3 (some .int) :: wG) (rm 4) (pR E (w_M_strokeOf E ) [.int a0, .int a1]) (qR (.int out)) 0 0 (fun _ => False) := by
  refine met_R (by decide) (Nat.le_of_ble_eq_true rfl) ?_
  intro p e s m args below meth c ls C hP hK hT hl
  obtain ⟨hx, hb, hr, hml, hown, hw, hlocks⟩ := id C
  have hS : va_S (fun _ => False) s.heap s.heap [] := va_S.rf
  have hl : lv_has ls 3 [(0, .int a0), (1, .int a1)] := hl
  rw [f_M_strokeOf] at hF
  refine lv_iconst (v := (0 : Int32)) hx hb dX10_strokeOf_0 (by decide) ?_
  refine lv_istore_n (lv' := [(2, .int (0 : Int32)), (0, .int a0), (1, .int a1)]) hx hb dX10_strokeOf_1 rfl hl (by decide) rfl (fun ls hl => ?_)
  exact wk_M_strokeOf_b2 E  a0 a1 C hP  hK hT  5000 (0 : Int32) hF _ (lv_sub hl [1, 2, 0] rfl)
abbrev w_M_turned (E : kE) (h_t : Nat) (h_t_findings : Nat) (x_t_s : Nat) (x_t_kept : Nat) (x_t_before : Nat) (x_t_shown : Nat) (x_t_worths : Nat) (x_t_steps : Nat) (x_t_tape : Nat) (x_t_bits : Nat) (x_t_longs : Nat) (x_t_cells : Nat) (x_t_between : Nat) (c_t_isKept : Int32) (c_t_most : Int32) (c_t_taped : Int32) (c_t_here : Int32) (c_t_fault : Int32) (c_t_value : Int32) (c_t_findings : (Nat → Int32)) : va_W := [(h_t, .inr (8, [.ref x_t_s, .ref x_t_kept, .ref x_t_before, .int c_t_isKept, .ref h_t_findings, .ref x_t_shown, .int c_t_most, .ref x_t_worths, .ref x_t_steps, .ref x_t_tape, .int c_t_taped, .int c_t_here, .int c_t_fault, .int c_t_value, .ref x_t_bits, .ref x_t_longs, .ref x_t_cells, .ref x_t_between])), (h_t_findings, .inl (eI E, 7, .inl c_t_findings))]
set_option maxHeartbeats 4000000 in
set_option maxRecDepth 100000 in
theorem wk_M_turned_b16 {p : Program} {l : Launch} {e : Env} {s : State} {m : MethodId} {args : Array Value} {below : List Frame} {meth : Method} {c : Code} {A : Nat → Prop} (E : kE) (h_t : Nat) (h_t_findings : Nat) (x_t_s : Nat) (x_t_kept : Nat) (x_t_before : Nat) (x_t_shown : Nat) (x_t_worths : Nat) (x_t_steps : Nat) (x_t_tape : Nat) (x_t_bits : Nat) (x_t_longs : Nat) (x_t_cells : Nat) (x_t_between : Nat) (c_t_isKept : Int32) (c_t_most : Int32) (c_t_taped : Int32) (c_t_here : Int32) (c_t_fault : Int32) (c_t_value : Int32) (a1 : Int32) (a2 : Int32) {out : Int32 × (Nat → Int32)} (C : kC RX10 cX10_turned 7 (some .int) p s m args meth c) (hA : ∀ q : Nat, s.heap.size ≤ q → A q) (hK : va_K (eD E) vwCl (eT E) s) (hT : sT E A s s.heap)  :
    ∀ (c_t_findings : (Nat → Int32)), f_M_turned_b16  a1 a2 c_t_findings = some out → ∀ (H : Heap) (locs : List Loc), va_P (eD E) vwCl (w_M_turned E h_t h_t_findings x_t_s x_t_kept x_t_before x_t_shown x_t_worths x_t_steps x_t_tape x_t_bits x_t_longs x_t_cells x_t_between c_t_isKept c_t_most c_t_taped c_t_here c_t_fault c_t_value c_t_findings) H → va_D A (w_M_turned E h_t h_t_findings x_t_s x_t_kept x_t_before x_t_shown x_t_worths x_t_steps x_t_tape x_t_bits x_t_longs x_t_cells x_t_between c_t_isKept c_t_most c_t_taped c_t_here c_t_fault c_t_value c_t_findings) → va_S A s.heap H locs → ∀ (ls : Array Slot), lv_has ls 7 [(0, .ref h_t)] → W p l e (rm 5) s m args below meth c H locs 0 0 (MQ below (qW (some (.int out.1)) E (w_M_turned E h_t h_t_findings x_t_s x_t_kept x_t_before x_t_shown x_t_worths x_t_steps x_t_tape x_t_bits x_t_longs x_t_cells x_t_between c_t_isKept c_t_most c_t_taped c_t_here c_t_fault c_t_value out.2) A) args s 0 0 A) (F0 m 16 ls []) := by
  obtain ⟨hx, hb, hr, hml, hown, hw, hlocks⟩ := id C
  intro c_t_findings hF H locs hP hD hS ls hl
  rw [f_M_turned_b16] at hF
  refine lv_aload_n hx hb dX10_turned_16 rfl (lv_at hl 0 rfl) ?_
  refine lv_iconst (v := (0 : Int32)) hx hb dX10_turned_17 (by decide) ?_
  obtain ⟨r1, er1, hF⟩ := kb hF
  refine kWV (rest := []) (Wr := []) (Wn := (w_M_turned E h_t h_t_findings x_t_s x_t_kept x_t_before x_t_shown x_t_worths x_t_steps x_t_tape x_t_bits x_t_longs x_t_cells x_t_between c_t_isKept c_t_most c_t_taped c_t_here c_t_fault c_t_value r1.2)) C (k_M_no l E h_t h_t_findings x_t_s x_t_kept x_t_before x_t_shown x_t_worths x_t_steps x_t_tape x_t_bits x_t_longs x_t_cells x_t_between H.size c_t_isKept c_t_most c_t_taped c_t_here c_t_fault c_t_value c_t_findings (0 : Int32) r1 er1) fn_M_no mw_964 ⟨Nat.le_of_ble_eq_true rfl, Nat.le_of_ble_eq_true rfl⟩ hK hT hS hA (va_recv hK hP (ci := 8) (q0 := 0) rfl rfl) hP hD [0, 1] rfl (by decide) [] rfl (by decide) (by decide) [0, 1] rfl (by decide) rfl rfl hl (Nat.le_of_ble_eq_true rfl) dX10_turned_18 (fun H locs hP hD hS => ?_)
  refine W.eq (g2 := F0 m 21 ls [.int r1.1]) rfl ?_
  obtain rfl := Option.some.inj hF
  exact W.iret hx hb hr (fun t ht hW => ⟨⟨rfl, by rw [ht]; exact hP, hD⟩, hS.F ht⟩) hS.2.2 dX10_turned_21
set_option maxHeartbeats 4000000 in
set_option maxRecDepth 100000 in
theorem wk_M_turned_b82 {p : Program} {l : Launch} {e : Env} {s : State} {m : MethodId} {args : Array Value} {below : List Frame} {meth : Method} {c : Code} {A : Nat → Prop} (E : kE) (h_t : Nat) (h_t_findings : Nat) (x_t_s : Nat) (x_t_kept : Nat) (x_t_before : Nat) (x_t_shown : Nat) (x_t_worths : Nat) (x_t_steps : Nat) (x_t_tape : Nat) (x_t_bits : Nat) (x_t_longs : Nat) (x_t_cells : Nat) (x_t_between : Nat) (c_t_isKept : Int32) (c_t_most : Int32) (c_t_taped : Int32) (c_t_here : Int32) (c_t_fault : Int32) (c_t_value : Int32) (a1 : Int32) (a2 : Int32) {out : Int32 × (Nat → Int32)} (C : kC RX10 cX10_turned 7 (some .int) p s m args meth c) (hA : ∀ q : Nat, s.heap.size ≤ q → A q) (hK : va_K (eD E) vwCl (eT E) s) (hT : sT E A s s.heap) (k27 : (Nat → Int32) → Int32 → Int32 → Option (Int32 × (Nat → Int32))) (hk27 : ∀ (c_t_findings : (Nat → Int32)) (v3 : Int32) (v4 : Int32), k27 c_t_findings v3 v4 = some out → ∀ (H : Heap) (locs : List Loc), va_P (eD E) vwCl (w_M_turned E h_t h_t_findings x_t_s x_t_kept x_t_before x_t_shown x_t_worths x_t_steps x_t_tape x_t_bits x_t_longs x_t_cells x_t_between c_t_isKept c_t_most c_t_taped c_t_here c_t_fault c_t_value c_t_findings) H → va_D A (w_M_turned E h_t h_t_findings x_t_s x_t_kept x_t_before x_t_shown x_t_worths x_t_steps x_t_tape x_t_bits x_t_longs x_t_cells x_t_between c_t_isKept c_t_most c_t_taped c_t_here c_t_fault c_t_value c_t_findings) → va_S A s.heap H locs → ∀ (ls : Array Slot), lv_has ls 7 [(2, .int a2), (3, .int v3), (4, .int v4)] → W p l e (rm 5) s m args below meth c H locs 0 0 (MQ below (qW (some (.int out.1)) E (w_M_turned E h_t h_t_findings x_t_s x_t_kept x_t_before x_t_shown x_t_worths x_t_steps x_t_tape x_t_bits x_t_longs x_t_cells x_t_between c_t_isKept c_t_most c_t_taped c_t_here c_t_fault c_t_value out.2) A) args s 0 0 A) (F0 m 27 ls [])) (k39 : (Nat → Int32) → Int32 → Int32 → Int32 → Int32 → Option (Int32 × (Nat → Int32))) (hk39 : ∀ (c_t_findings : (Nat → Int32)) (v3 : Int32) (v4 : Int32) (v5 : Int32) (v6 : Int32), k39 c_t_findings v3 v4 v5 v6 = some out → ∀ (H : Heap) (locs : List Loc), va_P (eD E) vwCl (w_M_turned E h_t h_t_findings x_t_s x_t_kept x_t_before x_t_shown x_t_worths x_t_steps x_t_tape x_t_bits x_t_longs x_t_cells x_t_between c_t_isKept c_t_most c_t_taped c_t_here c_t_fault c_t_value c_t_findings) H → va_D A (w_M_turned E h_t h_t_findings x_t_s x_t_kept x_t_before x_t_shown x_t_worths x_t_steps x_t_tape x_t_bits x_t_longs x_t_cells x_t_between c_t_isKept c_t_most c_t_taped c_t_here c_t_fault c_t_value c_t_findings) → va_S A s.heap H locs → ∀ (ls : Array Slot), lv_has ls 7 [(2, .int a2), (3, .int v3), (4, .int v4), (5, .int v5), (6, .int v6)] → W p l e (rm 5) s m args below meth c H locs 0 0 (MQ below (qW (some (.int out.1)) E (w_M_turned E h_t h_t_findings x_t_s x_t_kept x_t_before x_t_shown x_t_worths x_t_steps x_t_tape x_t_bits x_t_longs x_t_cells x_t_between c_t_isKept c_t_most c_t_taped c_t_here c_t_fault c_t_value out.2) A) args s 0 0 A) (F0 m 39 ls [])) :
    ∀ (c_t_findings : (Nat → Int32)) (v3 : Int32) (v4 : Int32) (v6 : Int32) (s0 : Int32) (s1 : Int32), f_M_turned_b82 k27 k39 a1 a2 c_t_findings v3 v4 v6 s0 s1 = some out → ∀ (H : Heap) (locs : List Loc), va_P (eD E) vwCl (w_M_turned E h_t h_t_findings x_t_s x_t_kept x_t_before x_t_shown x_t_worths x_t_steps x_t_tape x_t_bits x_t_longs x_t_cells x_t_between c_t_isKept c_t_most c_t_taped c_t_here c_t_fault c_t_value c_t_findings) H → va_D A (w_M_turned E h_t h_t_findings x_t_s x_t_kept x_t_before x_t_shown x_t_worths x_t_steps x_t_tape x_t_bits x_t_longs x_t_cells x_t_between c_t_isKept c_t_most c_t_taped c_t_here c_t_fault c_t_value c_t_findings) → va_S A s.heap H locs → ∀ (ls : Array Slot), lv_has ls 7 [(2, .int a2), (3, .int v3), (4, .int v4), (6, .int v6)] → W p l e (rm 5) s m args below meth c H locs 0 0 (MQ below (qW (some (.int out.1)) E (w_M_turned E h_t h_t_findings x_t_s x_t_kept x_t_before x_t_shown x_t_worths x_t_steps x_t_tape x_t_bits x_t_longs x_t_cells x_t_between c_t_isKept c_t_most c_t_taped c_t_here c_t_fault c_t_value out.2) A) args s 0 0 A) (F0 m 82 ls [.int s0, .int s1]) := by
  obtain ⟨hx, hb, hr, hml, hown, hw, hlocks⟩ := id C
  intro c_t_findings v3 v4 v6 s0 s1 hF H locs hP hD hS ls hl
  rw [f_M_turned_b82] at hF
  refine lv_ior hx hb dX10_turned_82 ?_
  refine lv_istore (lv' := [(5, .int (s1 ||| s0)), (2, .int a2), (3, .int v3), (4, .int v4), (6, .int v6)]) hx hb dX10_turned_83 hl (by decide) rfl (fun ls hl => ?_)
  refine lv_iinc (v := (v6 + (1))) (lv' := [(6, .int (v6 + (1))), (5, .int (s1 ||| s0)), (2, .int a2), (3, .int v3), (4, .int v4)]) hx hb dX10_turned_85 hl (k := 4) rfl rfl (by decide) rfl (fun ls hl => ?_)
  refine lv_goto (tgt := 39) hx hb dX10_turned_88 (by decide) ?_
  exact hk39 c_t_findings v3 v4 (s1 ||| s0) (v6 + (1)) hF _ _ hP hD hS _ (lv_sub hl [2, 3, 4, 1, 0] rfl)
set_option maxHeartbeats 4000000 in
set_option maxRecDepth 100000 in
theorem wk_M_turned_b39 {p : Program} {l : Launch} {e : Env} {s : State} {m : MethodId} {args : Array Value} {below : List Frame} {meth : Method} {c : Code} {A : Nat → Prop} (E : kE) (h_t : Nat) (h_t_findings : Nat) (x_t_s : Nat) (x_t_kept : Nat) (x_t_before : Nat) (x_t_shown : Nat) (x_t_worths : Nat) (x_t_steps : Nat) (x_t_tape : Nat) (x_t_bits : Nat) (x_t_longs : Nat) (x_t_cells : Nat) (x_t_between : Nat) (c_t_isKept : Int32) (c_t_most : Int32) (c_t_taped : Int32) (c_t_here : Int32) (c_t_fault : Int32) (c_t_value : Int32) (a1 : Int32) (a2 : Int32) {out : Int32 × (Nat → Int32)} (C : kC RX10 cX10_turned 7 (some .int) p s m args meth c) (hA : ∀ q : Nat, s.heap.size ≤ q → A q) (hK : va_K (eD E) vwCl (eT E) s) (hT : sT E A s s.heap) (k27 : (Nat → Int32) → Int32 → Int32 → Option (Int32 × (Nat → Int32))) (hk27 : ∀ (c_t_findings : (Nat → Int32)) (v3 : Int32) (v4 : Int32), k27 c_t_findings v3 v4 = some out → ∀ (H : Heap) (locs : List Loc), va_P (eD E) vwCl (w_M_turned E h_t h_t_findings x_t_s x_t_kept x_t_before x_t_shown x_t_worths x_t_steps x_t_tape x_t_bits x_t_longs x_t_cells x_t_between c_t_isKept c_t_most c_t_taped c_t_here c_t_fault c_t_value c_t_findings) H → va_D A (w_M_turned E h_t h_t_findings x_t_s x_t_kept x_t_before x_t_shown x_t_worths x_t_steps x_t_tape x_t_bits x_t_longs x_t_cells x_t_between c_t_isKept c_t_most c_t_taped c_t_here c_t_fault c_t_value c_t_findings) → va_S A s.heap H locs → ∀ (ls : Array Slot), lv_has ls 7 [(2, .int a2), (3, .int v3), (4, .int v4)] → W p l e (rm 5) s m args below meth c H locs 0 0 (MQ below (qW (some (.int out.1)) E (w_M_turned E h_t h_t_findings x_t_s x_t_kept x_t_before x_t_shown x_t_worths x_t_steps x_t_tape x_t_bits x_t_longs x_t_cells x_t_between c_t_isKept c_t_most c_t_taped c_t_here c_t_fault c_t_value out.2) A) args s 0 0 A) (F0 m 27 ls [])) :
    ∀ (n : Nat), ∀ (c_t_findings : (Nat → Int32)) (v3 : Int32) (v4 : Int32) (v5 : Int32) (v6 : Int32), f_M_turned_b39 k27 a1 a2 n c_t_findings v3 v4 v5 v6 = some out → ∀ (H : Heap) (locs : List Loc), va_P (eD E) vwCl (w_M_turned E h_t h_t_findings x_t_s x_t_kept x_t_before x_t_shown x_t_worths x_t_steps x_t_tape x_t_bits x_t_longs x_t_cells x_t_between c_t_isKept c_t_most c_t_taped c_t_here c_t_fault c_t_value c_t_findings) H → va_D A (w_M_turned E h_t h_t_findings x_t_s x_t_kept x_t_before x_t_shown x_t_worths x_t_steps x_t_tape x_t_bits x_t_longs x_t_cells x_t_between c_t_isKept c_t_most c_t_taped c_t_here c_t_fault c_t_value c_t_findings) → va_S A s.heap H locs → ∀ (ls : Array Slot), lv_has ls 7 [(2, .int a2), (3, .int v3), (4, .int v4), (5, .int v5), (6, .int v6)] → W p l e (rm 5) s m args below meth c H locs 0 0 (MQ below (qW (some (.int out.1)) E (w_M_turned E h_t h_t_findings x_t_s x_t_kept x_t_before x_t_shown x_t_worths x_t_steps x_t_tape x_t_bits x_t_longs x_t_cells x_t_between c_t_isKept c_t_most c_t_taped c_t_here c_t_fault c_t_value out.2) A) args s 0 0 A) (F0 m 39 ls []) := by
  obtain ⟨hx, hb, hr, hml, hown, hw, hlocks⟩ := id C
  intro n
  induction n with
  | zero =>
    intro c_t_findings v3 v4 v5 v6 hF
    exact absurd (show (none : Option (Int32 × (Nat → Int32))) = some out from hF) nofun
  | succ n ih =>
    intro c_t_findings v3 v4 v5 v6 hF H locs hP hD hS ls hl
    rw [f_M_turned_b39] at hF
    refine lv_iload hx hb dX10_turned_39 (lv_at hl 4 rfl) ?_
    refine lv_bipush (v := (12 : Int32)) hx hb dX10_turned_41 (by decide) ?_
    refine lv_icmp_ge (tgt := 91) hx hb dX10_turned_43 (by decide) (fun q2 => ?_) (fun q2 => ?_)
    · have hF := kp hF q2
      refine lv_iload hx hb dX10_turned_91 (lv_at hl 3 rfl) ?_
      refine lv_istore_n (lv' := [(3, .int v5), (2, .int a2), (4, .int v4), (5, .int v5), (6, .int v6)]) hx hb dX10_turned_93 rfl hl (by decide) rfl (fun ls hl => ?_)
      refine lv_iinc (v := (v4 + (1))) (lv' := [(4, .int (v4 + (1))), (3, .int v5), (2, .int a2), (5, .int v5), (6, .int v6)]) hx hb dX10_turned_94 hl (k := 2) rfl rfl (by decide) rfl (fun ls hl => ?_)
      refine lv_goto (tgt := 27) hx hb dX10_turned_97 (by decide) ?_
      exact hk27 c_t_findings v5 (v4 + (1)) hF _ _ hP hD hS _ (lv_sub hl [2, 1, 0] rfl)
    · have hF := kn hF q2
      refine lv_iload hx hb dX10_turned_46 (lv_at hl 3 rfl) ?_
      refine lv_iload_n hx hb dX10_turned_48 rfl (lv_at hl 1 rfl) ?_
      refine lv_iload hx hb dX10_turned_49 (lv_at hl 4 rfl) ?_
      obtain ⟨r3, er3, hF⟩ := kb hF
      refine kRS (rest := [.int v5]) C (k_M_has l E v3 v6 r3 er3) fn_M_has mw_952 ⟨Nat.le_of_ble_eq_true rfl, Nat.le_of_ble_eq_true rfl⟩ hK hT hS hP [] rfl rfl rfl hl (Nat.le_of_ble_eq_true rfl) dX10_turned_51 ?_
      refine lv_if_eq (tgt := 81) hx hb dX10_turned_54 (by decide) (fun q4 => ?_) (fun q4 => ?_)
      · have hF := kp hF q4
        refine lv_iconst (v := (0 : Int32)) hx hb dX10_turned_81 (by decide) ?_
        exact wk_M_turned_b82 E h_t h_t_findings x_t_s x_t_kept x_t_before x_t_shown x_t_worths x_t_steps x_t_tape x_t_bits x_t_longs x_t_cells x_t_between c_t_isKept c_t_most c_t_taped c_t_here c_t_fault c_t_value a1 a2 C hA  hK hT k27 hk27 (f_M_turned_b39 k27 a1 a2 n) ih c_t_findings v3 v4 v6 (0 : Int32) v5 hF _ _ hP hD hS _ (lv_sub hl [0, 1, 2, 4] rfl)
      · have hF := kn hF q4
        refine lv_iconst (v := (1 : Int32)) hx hb dX10_turned_57 (by decide) ?_
        refine lv_iload hx hb dX10_turned_58 (lv_at hl 4 rfl) ?_
        obtain ⟨r5, er5, hF⟩ := kb hF
        refine kRS (rest := [.int (1 : Int32), .int v5]) C (k_M_oneEnd l E v6 r5 er5) fn_M_oneEnd mw_958 ⟨Nat.le_of_ble_eq_true rfl, Nat.le_of_ble_eq_true rfl⟩ hK hT hS hP [] rfl rfl rfl hl (Nat.le_of_ble_eq_true rfl) dX10_turned_60 ?_
        obtain ⟨r6, er6, hF⟩ := kb hF
        refine kRS (rest := [.int (1 : Int32), .int v5]) C (k_M_quarter l E r5 r6 er6) fn_M_quarter mw_1024 ⟨Nat.le_of_ble_eq_true rfl, Nat.le_of_ble_eq_true rfl⟩ hK hT hS hP [] rfl rfl rfl hl (Nat.le_of_ble_eq_true rfl) dX10_turned_63 ?_
        refine lv_iload hx hb dX10_turned_66 (lv_at hl 4 rfl) ?_
        obtain ⟨r7, er7, hF⟩ := kb hF
        refine kRS (rest := [.int r6, .int (1 : Int32), .int v5]) C (k_M_otherEnd l E v6 r7 er7) fn_M_otherEnd mw_961 ⟨Nat.le_of_ble_eq_true rfl, Nat.le_of_ble_eq_true rfl⟩ hK hT hS hP [] rfl rfl rfl hl (Nat.le_of_ble_eq_true rfl) dX10_turned_68 ?_
        obtain ⟨r8, er8, hF⟩ := kb hF
        refine kRS (rest := [.int r6, .int (1 : Int32), .int v5]) C (k_M_quarter l E r7 r8 er8) fn_M_quarter mw_1024 ⟨Nat.le_of_ble_eq_true rfl, Nat.le_of_ble_eq_true rfl⟩ hK hT hS hP [] rfl rfl rfl hl (Nat.le_of_ble_eq_true rfl) dX10_turned_71 ?_
        obtain ⟨r9, er9, hF⟩ := kb hF
        refine kRS (rest := [.int (1 : Int32), .int v5]) C (k_M_strokeOf l E r6 r8 r9 er9) fn_M_strokeOf mw_1027 ⟨Nat.le_of_ble_eq_true rfl, Nat.le_of_ble_eq_true rfl⟩ hK hT hS hP [] rfl rfl rfl hl (Nat.le_of_ble_eq_true rfl) dX10_turned_74 ?_
        refine lv_ishl hx hb dX10_turned_77 ?_
        refine lv_goto (tgt := 82) hx hb dX10_turned_78 (by decide) ?_
        exact wk_M_turned_b82 E h_t h_t_findings x_t_s x_t_kept x_t_before x_t_shown x_t_worths x_t_steps x_t_tape x_t_bits x_t_longs x_t_cells x_t_between c_t_isKept c_t_most c_t_taped c_t_here c_t_fault c_t_value a1 a2 C hA  hK hT k27 hk27 (f_M_turned_b39 k27 a1 a2 n) ih c_t_findings v3 v4 v6 ((1 : Int32) <<< (r9 &&& 31)) v5 hF _ _ hP hD hS _ (lv_sub hl [0, 1, 2, 4] rfl)
set_option maxHeartbeats 4000000 in
set_option maxRecDepth 100000 in
theorem wk_M_turned_b27 {p : Program} {l : Launch} {e : Env} {s : State} {m : MethodId} {args : Array Value} {below : List Frame} {meth : Method} {c : Code} {A : Nat → Prop} (E : kE) (h_t : Nat) (h_t_findings : Nat) (x_t_s : Nat) (x_t_kept : Nat) (x_t_before : Nat) (x_t_shown : Nat) (x_t_worths : Nat) (x_t_steps : Nat) (x_t_tape : Nat) (x_t_bits : Nat) (x_t_longs : Nat) (x_t_cells : Nat) (x_t_between : Nat) (c_t_isKept : Int32) (c_t_most : Int32) (c_t_taped : Int32) (c_t_here : Int32) (c_t_fault : Int32) (c_t_value : Int32) (a1 : Int32) (a2 : Int32) {out : Int32 × (Nat → Int32)} (C : kC RX10 cX10_turned 7 (some .int) p s m args meth c) (hA : ∀ q : Nat, s.heap.size ≤ q → A q) (hK : va_K (eD E) vwCl (eT E) s) (hT : sT E A s s.heap)  :
    ∀ (n : Nat), ∀ (c_t_findings : (Nat → Int32)) (v3 : Int32) (v4 : Int32), f_M_turned_b27  a1 a2 n c_t_findings v3 v4 = some out → ∀ (H : Heap) (locs : List Loc), va_P (eD E) vwCl (w_M_turned E h_t h_t_findings x_t_s x_t_kept x_t_before x_t_shown x_t_worths x_t_steps x_t_tape x_t_bits x_t_longs x_t_cells x_t_between c_t_isKept c_t_most c_t_taped c_t_here c_t_fault c_t_value c_t_findings) H → va_D A (w_M_turned E h_t h_t_findings x_t_s x_t_kept x_t_before x_t_shown x_t_worths x_t_steps x_t_tape x_t_bits x_t_longs x_t_cells x_t_between c_t_isKept c_t_most c_t_taped c_t_here c_t_fault c_t_value c_t_findings) → va_S A s.heap H locs → ∀ (ls : Array Slot), lv_has ls 7 [(2, .int a2), (3, .int v3), (4, .int v4)] → W p l e (rm 5) s m args below meth c H locs 0 0 (MQ below (qW (some (.int out.1)) E (w_M_turned E h_t h_t_findings x_t_s x_t_kept x_t_before x_t_shown x_t_worths x_t_steps x_t_tape x_t_bits x_t_longs x_t_cells x_t_between c_t_isKept c_t_most c_t_taped c_t_here c_t_fault c_t_value out.2) A) args s 0 0 A) (F0 m 27 ls []) := by
  obtain ⟨hx, hb, hr, hml, hown, hw, hlocks⟩ := id C
  intro n
  induction n with
  | zero =>
    intro c_t_findings v3 v4 hF
    exact absurd (show (none : Option (Int32 × (Nat → Int32))) = some out from hF) nofun
  | succ n ih =>
    intro c_t_findings v3 v4 hF H locs hP hD hS ls hl
    rw [f_M_turned_b27] at hF
    refine lv_iload hx hb dX10_turned_27 (lv_at hl 2 rfl) ?_
    refine lv_iload_n hx hb dX10_turned_29 rfl (lv_at hl 0 rfl) ?_
    refine lv_icmp_ge (tgt := 100) hx hb dX10_turned_30 (by decide) (fun q10 => ?_) (fun q10 => ?_)
    · have hF := kp hF q10
      refine lv_iload_n hx hb dX10_turned_100 rfl (lv_at hl 1 rfl) ?_
      obtain rfl := Option.some.inj hF
      exact W.iret hx hb hr (fun t ht hW => ⟨⟨rfl, by rw [ht]; exact hP, hD⟩, hS.F ht⟩) hS.2.2 dX10_turned_101
    · have hF := kn hF q10
      refine lv_iconst (v := (0 : Int32)) hx hb dX10_turned_33 (by decide) ?_
      refine lv_istore (lv' := [(5, .int (0 : Int32)), (2, .int a2), (3, .int v3), (4, .int v4)]) hx hb dX10_turned_34 hl (by decide) rfl (fun ls hl => ?_)
      refine lv_iconst (v := (0 : Int32)) hx hb dX10_turned_36 (by decide) ?_
      refine lv_istore (lv' := [(6, .int (0 : Int32)), (5, .int (0 : Int32)), (2, .int a2), (3, .int v3), (4, .int v4)]) hx hb dX10_turned_37 hl (by decide) rfl (fun ls hl => ?_)
      exact wk_M_turned_b39 E h_t h_t_findings x_t_s x_t_kept x_t_before x_t_shown x_t_worths x_t_steps x_t_tape x_t_bits x_t_longs x_t_cells x_t_between c_t_isKept c_t_most c_t_taped c_t_here c_t_fault c_t_value a1 a2 C hA  hK hT (f_M_turned_b27  a1 a2 n) ih 5000 c_t_findings v3 v4 (0 : Int32) (0 : Int32) hF _ _ hP hD hS _ (lv_sub hl [2, 3, 4, 1, 0] rfl)
set_option maxHeartbeats 4000000 in
set_option maxRecDepth 100000 in
theorem k_M_turned (l : Launch) (E : kE) (h_t : Nat) (h_t_findings : Nat) (x_t_s : Nat) (x_t_kept : Nat) (x_t_before : Nat) (x_t_shown : Nat) (x_t_worths : Nat) (x_t_steps : Nat) (x_t_tape : Nat) (x_t_bits : Nat) (x_t_longs : Nat) (x_t_cells : Nat) (x_t_between : Nat) (sz : Nat) (c_t_isKept : Int32) (c_t_most : Int32) (c_t_taped : Int32) (c_t_here : Int32) (c_t_fault : Int32) (c_t_value : Int32) (c_t_findings : (Nat → Int32)) (a1 : Int32) (a2 : Int32) (out : Int32 × (Nat → Int32)) (hF : f_M_turned c_t_findings a1 a2 = some out) : Met l yX10_turned (Cond.code yX10_turned cX10_turned 7 (some .int) :: wG) (rm 5) (pW E (w_M_turned E h_t h_t_findings x_t_s x_t_kept x_t_before x_t_shown x_t_worths x_t_steps x_t_tape x_t_bits x_t_longs x_t_cells x_t_between c_t_isKept c_t_most c_t_taped c_t_here c_t_fault c_t_value c_t_findings) sz [.ref h_t, .int a1, .int a2]) (qW (some (.int out.1)) E (w_M_turned E h_t h_t_findings x_t_s x_t_kept x_t_before x_t_shown x_t_worths x_t_steps x_t_tape x_t_bits x_t_longs x_t_cells x_t_between c_t_isKept c_t_most c_t_taped c_t_here c_t_fault c_t_value out.2) (va_A (w_M_turned E h_t h_t_findings x_t_s x_t_kept x_t_before x_t_shown x_t_worths x_t_steps x_t_tape x_t_bits x_t_longs x_t_cells x_t_between c_t_isKept c_t_most c_t_taped c_t_here c_t_fault c_t_value c_t_findings) sz)) 0 0 (va_A (w_M_turned E h_t h_t_findings x_t_s x_t_kept x_t_before x_t_shown x_t_worths x_t_steps x_t_tape x_t_bits x_t_longs x_t_cells x_t_between c_t_isKept c_t_most c_t_taped c_t_here c_t_fault c_t_value c_t_findings) sz) := by
  refine met_W (by decide) (Nat.le_of_ble_eq_true rfl) ?_
  intro p e s m args below meth c A ls C hP hD hS hA hK hT hl
  obtain ⟨hx, hb, hr, hml, hown, hw, hlocks⟩ := id C
  have hl : lv_has ls 7 [(0, .ref h_t), (1, .int a1), (2, .int a2)] := hl
  rw [f_M_turned] at hF
  refine lv_iload_n hx hb dX10_turned_0 rfl (lv_at hl 1 rfl) ?_
  obtain ⟨r11, er11, hF⟩ := kb hF
  refine kRS (rest := []) C (k_M_isForm l E a1 r11 er11) fn_M_isForm mw_940 ⟨Nat.le_of_ble_eq_true rfl, Nat.le_of_ble_eq_true rfl⟩ hK hT hS hP [] rfl rfl rfl hl (Nat.le_of_ble_eq_true rfl) dX10_turned_1 ?_
  refine lv_if_eq (tgt := 16) hx hb dX10_turned_4 (by decide) (fun q12 => ?_) (fun q12 => ?_)
  · have hF := kp hF q12
    exact wk_M_turned_b16 E h_t h_t_findings x_t_s x_t_kept x_t_before x_t_shown x_t_worths x_t_steps x_t_tape x_t_bits x_t_longs x_t_cells x_t_between c_t_isKept c_t_most c_t_taped c_t_here c_t_fault c_t_value a1 a2 C hA  hK hT  c_t_findings hF _ _ hP hD hS _ (lv_sub hl [0] rfl)
  · have hF := kn hF q12
    refine lv_iload_n hx hb dX10_turned_7 rfl (lv_at hl 2 rfl) ?_
    refine lv_iconst (v := (0 : Int32)) hx hb dX10_turned_8 (by decide) ?_
    refine lv_iconst (v := (3 : Int32)) hx hb dX10_turned_9 (by decide) ?_
    obtain ⟨r13, er13, hF⟩ := kb hF
    refine kRS (rest := []) C (k_M_in l E a2 (0 : Int32) (3 : Int32) r13 er13) fn_M_in mw_943 ⟨Nat.le_of_ble_eq_true rfl, Nat.le_of_ble_eq_true rfl⟩ hK hT hS hP [] rfl rfl rfl hl (Nat.le_of_ble_eq_true rfl) dX10_turned_10 ?_
    refine lv_if_ne (tgt := 22) hx hb dX10_turned_13 (by decide) (fun q14 => ?_) (fun q14 => ?_)
    · have hF := kn hF q14
      refine lv_iload_n hx hb dX10_turned_22 rfl (lv_at hl 1 rfl) ?_
      refine lv_istore_n (lv' := [(3, .int a1), (0, .ref h_t), (1, .int a1), (2, .int a2)]) hx hb dX10_turned_23 rfl hl (by decide) rfl (fun ls hl => ?_)
      refine lv_iconst (v := (0 : Int32)) hx hb dX10_turned_24 (by decide) ?_
      refine lv_istore (lv' := [(4, .int (0 : Int32)), (3, .int a1), (0, .ref h_t), (1, .int a1), (2, .int a2)]) hx hb dX10_turned_25 hl (by decide) rfl (fun ls hl => ?_)
      exact wk_M_turned_b27 E h_t h_t_findings x_t_s x_t_kept x_t_before x_t_shown x_t_worths x_t_steps x_t_tape x_t_bits x_t_longs x_t_cells x_t_between c_t_isKept c_t_most c_t_taped c_t_here c_t_fault c_t_value a1 a2 C hA  hK hT  5000 c_t_findings a1 (0 : Int32) hF _ _ hP hD hS _ (lv_sub hl [4, 1, 0] rfl)
    · have hF := kp hF q14
      exact wk_M_turned_b16 E h_t h_t_findings x_t_s x_t_kept x_t_before x_t_shown x_t_worths x_t_steps x_t_tape x_t_bits x_t_longs x_t_cells x_t_between c_t_isKept c_t_most c_t_taped c_t_here c_t_fault c_t_value a1 a2 C hA  hK hT  c_t_findings hF _ _ hP hD hS _ (lv_sub hl [0] rfl)
