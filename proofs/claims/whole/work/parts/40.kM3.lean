abbrev w_M_turn (E : kE) (h_t : Nat) (h_t_findings : Nat) (h_t_s : Nat) (x_t_kept : Nat) (x_t_before : Nat) (x_t_shown : Nat) (x_t_worths : Nat) (x_t_steps : Nat) (x_t_tape : Nat) (x_t_bits : Nat) (x_t_longs : Nat) (x_t_cells : Nat) (x_t_between : Nat) (c_t_isKept : Int32) (c_t_most : Int32) (c_t_taped : Int32) (c_t_here : Int32) (c_t_fault : Int32) (c_t_value : Int32) (c_t_findings : (Nat → Int32)) (c_t_s : (Nat → Int32)) : va_W := [(h_t, .inr (8, [.ref h_t_s, .ref x_t_kept, .ref x_t_before, .int c_t_isKept, .ref h_t_findings, .ref x_t_shown, .int c_t_most, .ref x_t_worths, .ref x_t_steps, .ref x_t_tape, .int c_t_taped, .int c_t_here, .int c_t_fault, .int c_t_value, .ref x_t_bits, .ref x_t_longs, .ref x_t_cells, .ref x_t_between])), (h_t_findings, .inl (eI E, 7, .inl c_t_findings)), (h_t_s, .inl (eI E, 65, .inl c_t_s))]
set_option maxHeartbeats 4000000 in
set_option maxRecDepth 100000 in
theorem wk_M_turn_b29 {p : Program} {l : Launch} {e : Env} {s : State} {m : MethodId} {args : Array Value} {below : List Frame} {meth : Method} {c : Code} {A : Nat → Prop} (E : kE) (h_t : Nat) (h_t_findings : Nat) (h_t_s : Nat) (x_t_kept : Nat) (x_t_before : Nat) (x_t_shown : Nat) (x_t_worths : Nat) (x_t_steps : Nat) (x_t_tape : Nat) (x_t_bits : Nat) (x_t_longs : Nat) (x_t_cells : Nat) (x_t_between : Nat) (c_t_isKept : Int32) (c_t_most : Int32) (c_t_taped : Int32) (c_t_here : Int32) (c_t_fault : Int32) (c_t_value : Int32) (a1 : Int32) (a2 : Int32) {out : Int32 × (Nat → Int32) × (Nat → Int32)} (C : kC RX10 cX10_turn 3 (some .int) p s m args meth c) (hA : ∀ q : Nat, s.heap.size ≤ q → A q) (hK : va_K (eD E) vwCl (eT E) s) (hT : sT E A s s.heap)  :
    ∀ (c_t_findings : (Nat → Int32)) (c_t_s : (Nat → Int32)), f_M_turn_b29  a1 a2 c_t_findings c_t_s = some out → ∀ (H : Heap) (locs : List Loc), va_P (eD E) vwCl (w_M_turn E h_t h_t_findings h_t_s x_t_kept x_t_before x_t_shown x_t_worths x_t_steps x_t_tape x_t_bits x_t_longs x_t_cells x_t_between c_t_isKept c_t_most c_t_taped c_t_here c_t_fault c_t_value c_t_findings c_t_s) H → va_D A (w_M_turn E h_t h_t_findings h_t_s x_t_kept x_t_before x_t_shown x_t_worths x_t_steps x_t_tape x_t_bits x_t_longs x_t_cells x_t_between c_t_isKept c_t_most c_t_taped c_t_here c_t_fault c_t_value c_t_findings c_t_s) → va_S A s.heap H locs → ∀ (ls : Array Slot), lv_has ls 3 [(0, .ref h_t)] → W p l e (rm 3) s m args below meth c H locs 0 0 (MQ below (qW (some (.int out.1)) E (w_M_turn E h_t h_t_findings h_t_s x_t_kept x_t_before x_t_shown x_t_worths x_t_steps x_t_tape x_t_bits x_t_longs x_t_cells x_t_between c_t_isKept c_t_most c_t_taped c_t_here c_t_fault c_t_value out.2.1 out.2.2) A) args s 0 0 A) (F0 m 29 ls []) := by
  obtain ⟨hx, hb, hr, hml, hown, hw, hlocks⟩ := id C
  intro c_t_findings c_t_s hF H locs hP hD hS ls hl
  rw [f_M_turn_b29] at hF
  refine lv_aload_n hx hb dX10_turn_29 rfl (lv_at hl 0 rfl) ?_
  refine lv_iconst (v := (0 : Int32)) hx hb dX10_turn_30 (by decide) ?_
  obtain ⟨r1, er1, hF⟩ := kb hF
  refine kWV (rest := []) (Wr := [(h_t_s, .inl (eI E, 65, .inl c_t_s))]) (Wn := (w_M_turn E h_t h_t_findings h_t_s x_t_kept x_t_before x_t_shown x_t_worths x_t_steps x_t_tape x_t_bits x_t_longs x_t_cells x_t_between c_t_isKept c_t_most c_t_taped c_t_here c_t_fault c_t_value r1.2 c_t_s)) C (k_M_no l E h_t h_t_findings h_t_s x_t_kept x_t_before x_t_shown x_t_worths x_t_steps x_t_tape x_t_bits x_t_longs x_t_cells x_t_between H.size c_t_isKept c_t_most c_t_taped c_t_here c_t_fault c_t_value c_t_findings (0 : Int32) r1 er1) fn_M_no mw_964 ⟨Nat.le_of_ble_eq_true rfl, Nat.le_of_ble_eq_true rfl⟩ hK hT hS hA (va_recv hK hP (ci := 8) (q0 := 0) rfl rfl) hP hD [0, 1] rfl (by decide) [2] rfl (by decide) (by decide) [1, 2, 0] rfl (by decide) rfl rfl hl (Nat.le_of_ble_eq_true rfl) dX10_turn_31 (fun H locs hP hD hS => ?_)
  refine W.eq (g2 := F0 m 34 ls [.int r1.1]) rfl ?_
  obtain rfl := Option.some.inj hF
  exact W.iret hx hb hr (fun t ht hW => ⟨⟨rfl, by rw [ht]; exact hP, hD⟩, hS.F ht⟩) hS.2.2 dX10_turn_34
set_option maxHeartbeats 4000000 in
set_option maxRecDepth 100000 in
theorem k_M_turn (l : Launch) (E : kE) (h_t : Nat) (h_t_findings : Nat) (h_t_s : Nat) (x_t_kept : Nat) (x_t_before : Nat) (x_t_shown : Nat) (x_t_worths : Nat) (x_t_steps : Nat) (x_t_tape : Nat) (x_t_bits : Nat) (x_t_longs : Nat) (x_t_cells : Nat) (x_t_between : Nat) (sz : Nat) (c_t_isKept : Int32) (c_t_most : Int32) (c_t_taped : Int32) (c_t_here : Int32) (c_t_fault : Int32) (c_t_value : Int32) (c_t_findings : (Nat → Int32)) (c_t_s : (Nat → Int32)) (a1 : Int32) (a2 : Int32) (out : Int32 × (Nat → Int32) × (Nat → Int32)) (hF : f_M_turn c_t_findings c_t_s a1 a2 = some out) : Met l yX10_turn (Cond.code yX10_turn cX10_turn 3 (some .int) :: wG) (rm 3) (pW E (w_M_turn E h_t h_t_findings h_t_s x_t_kept x_t_before x_t_shown x_t_worths x_t_steps x_t_tape x_t_bits x_t_longs x_t_cells x_t_between c_t_isKept c_t_most c_t_taped c_t_here c_t_fault c_t_value c_t_findings c_t_s) sz [.ref h_t, .int a1, .int a2]) (qW (some (.int out.1)) E (w_M_turn E h_t h_t_findings h_t_s x_t_kept x_t_before x_t_shown x_t_worths x_t_steps x_t_tape x_t_bits x_t_longs x_t_cells x_t_between c_t_isKept c_t_most c_t_taped c_t_here c_t_fault c_t_value out.2.1 out.2.2) (va_A (w_M_turn E h_t h_t_findings h_t_s x_t_kept x_t_before x_t_shown x_t_worths x_t_steps x_t_tape x_t_bits x_t_longs x_t_cells x_t_between c_t_isKept c_t_most c_t_taped c_t_here c_t_fault c_t_value c_t_findings c_t_s) sz)) 0 0 (va_A (w_M_turn E h_t h_t_findings h_t_s x_t_kept x_t_before x_t_shown x_t_worths x_t_steps x_t_tape x_t_bits x_t_longs x_t_cells x_t_between c_t_isKept c_t_most c_t_taped c_t_here c_t_fault c_t_value c_t_findings c_t_s) sz) := by
  refine met_W (by decide) (Nat.le_of_ble_eq_true rfl) ?_
  intro p e s m args below meth c A ls C hP hD hS hA hK hT hl
  obtain ⟨hx, hb, hr, hml, hown, hw, hlocks⟩ := id C
  have hl : lv_has ls 3 [(0, .ref h_t), (1, .int a1), (2, .int a2)] := hl
  rw [f_M_turn] at hF
  refine lv_aload_n hx hb dX10_turn_0 rfl (lv_at hl 0 rfl) ?_
  refine lv_iload_n hx hb dX10_turn_1 rfl (lv_at hl 1 rfl) ?_
  obtain ⟨r2, er2, hF⟩ := kb hF
  refine kRV (rest := []) C (k_M_isLetter l E h_t h_t_s x_t_kept x_t_before h_t_findings x_t_shown x_t_worths x_t_steps x_t_tape x_t_bits x_t_longs x_t_cells x_t_between c_t_isKept c_t_most c_t_taped c_t_here c_t_fault c_t_value c_t_s a1 r2 er2) fn_M_isLetter mw_1092 ⟨Nat.le_of_ble_eq_true rfl, Nat.le_of_ble_eq_true rfl⟩ hK hT hS (va_recv hK hP (ci := 8) (q0 := 0) rfl rfl) hP [0, 2] rfl rfl rfl hl (Nat.le_of_ble_eq_true rfl) dX10_turn_2 ?_
  refine lv_if_eq (tgt := 29) hx hb dX10_turn_5 (by decide) (fun q3 => ?_) (fun q3 => ?_)
  · have hF := kp hF q3
    exact wk_M_turn_b29 E h_t h_t_findings h_t_s x_t_kept x_t_before x_t_shown x_t_worths x_t_steps x_t_tape x_t_bits x_t_longs x_t_cells x_t_between c_t_isKept c_t_most c_t_taped c_t_here c_t_fault c_t_value a1 a2 C hA  hK hT  c_t_findings c_t_s hF _ _ hP hD hS _ (lv_sub hl [0] rfl)
  · have hF := kn hF q3
    refine lv_iload_n hx hb dX10_turn_8 rfl (lv_at hl 2 rfl) ?_
    obtain ⟨r4, er4, hF⟩ := kb hF
    refine kRS (rest := []) C (k_M_isKind l E a2 r4 er4) fn_M_isKind mw_1077 ⟨Nat.le_of_ble_eq_true rfl, Nat.le_of_ble_eq_true rfl⟩ hK hT hS hP [] rfl rfl rfl hl (Nat.le_of_ble_eq_true rfl) dX10_turn_9 ?_
    refine lv_if_eq (tgt := 29) hx hb dX10_turn_12 (by decide) (fun q5 => ?_) (fun q5 => ?_)
    · have hF := kp hF q5
      exact wk_M_turn_b29 E h_t h_t_findings h_t_s x_t_kept x_t_before x_t_shown x_t_worths x_t_steps x_t_tape x_t_bits x_t_longs x_t_cells x_t_between c_t_isKept c_t_most c_t_taped c_t_here c_t_fault c_t_value a1 a2 C hA  hK hT  c_t_findings c_t_s hF _ _ hP hD hS _ (lv_sub hl [0] rfl)
    · have hF := kn hF q5
      refine lv_aload_n hx hb dX10_turn_15 rfl (lv_at hl 0 rfl) ?_
      refine lv_aload_n hx hb dX10_turn_16 rfl (lv_at hl 0 rfl) ?_
      refine lv_iload_n hx hb dX10_turn_17 rfl (lv_at hl 1 rfl) ?_
      refine lv_iconst (v := (0 : Int32)) hx hb dX10_turn_18 (by decide) ?_
      obtain ⟨r6, er6, hF⟩ := kb hF
      refine kRV (rest := [.ref h_t]) C (k_M_at l E h_t h_t_s x_t_kept x_t_before h_t_findings x_t_shown x_t_worths x_t_steps x_t_tape x_t_bits x_t_longs x_t_cells x_t_between c_t_isKept c_t_most c_t_taped c_t_here c_t_fault c_t_value a1 (0 : Int32) r6 er6) fn_M_at mw_1084 ⟨Nat.le_of_ble_eq_true rfl, Nat.le_of_ble_eq_true rfl⟩ hK hT hS (va_recv hK hP (ci := 8) (q0 := 0) rfl rfl) hP [0] rfl rfl rfl hl (Nat.le_of_ble_eq_true rfl) dX10_turn_19 ?_
      refine lv_iload_n hx hb dX10_turn_22 rfl (lv_at hl 2 rfl) ?_
      obtain ⟨r7, er7, hF⟩ := kb hF
      refine kWV (rest := []) (Wr := [(h_t_findings, .inl (eI E, 7, .inl c_t_findings))]) (Wn := (w_M_turn E h_t h_t_findings h_t_s x_t_kept x_t_before x_t_shown x_t_worths x_t_steps x_t_tape x_t_bits x_t_longs x_t_cells x_t_between c_t_isKept c_t_most c_t_taped c_t_here c_t_fault c_t_value c_t_findings r7.2)) C (k_M_puts l E h_t h_t_s x_t_kept x_t_before h_t_findings x_t_shown x_t_worths x_t_steps x_t_tape x_t_bits x_t_longs x_t_cells x_t_between s.heap.size c_t_isKept c_t_most c_t_taped c_t_here c_t_fault c_t_value c_t_s r6 a2 r7 er7) fn_M_puts mw_1037 ⟨Nat.le_of_ble_eq_true rfl, Nat.le_of_ble_eq_true rfl⟩ hK hT hS hA (va_recv hK hP (ci := 8) (q0 := 0) rfl rfl) hP hD [0, 2] rfl (by decide) [1] rfl (by decide) (by decide) [1, 0, 2] rfl (by decide) rfl rfl hl (Nat.le_of_ble_eq_true rfl) dX10_turn_23 (fun H locs hP hD hS => ?_)
      refine W.eq (g2 := F0 m 26 ls [.int r7.1]) rfl ?_
      refine lv_goto (tgt := 34) hx hb dX10_turn_26 (by decide) ?_
      obtain rfl := Option.some.inj hF
      exact W.iret hx hb hr (fun t ht hW => ⟨⟨rfl, by rw [ht]; exact hP, hD⟩, hS.F ht⟩) hS.2.2 dX10_turn_34
abbrev w_M_isUnder (E : kE)    : va_W := []
set_option maxHeartbeats 4000000 in
set_option maxRecDepth 100000 in
theorem wk_M_isUnder_b29 {p : Program} {l : Launch} {e : Env} {s : State} {m : MethodId} {args : Array Value} {below : List Frame} {meth : Method} {c : Code} (E : kE)    (a0 : Int32) (a1 : Int32) {out : Int32} (C : kC RX10 cX10_isUnder 2 (some .boolean) p s m args meth c) (hP : va_P (eD E) vwCl (w_M_isUnder E ) s.heap) (hK : va_K (eD E) vwCl (eT E) s) (hT : sT E (fun _ => False) s s.heap)  :
    f_M_isUnder_b29  a0 a1  = some out → ∀ (ls : Array Slot), lv_has ls 2 [] → W p l e (rm 1) s m args below meth c s.heap [] 0 0 (MQ below (qR (.int out)) args s 0 0 (fun _ => False)) (F0 m 29 ls []) := by
  obtain ⟨hx, hb, hr, hml, hown, hw, hlocks⟩ := id C
  have hS : va_S (fun _ => False) s.heap s.heap [] := va_S.rf
  intro  hF ls hl
  rw [f_M_isUnder_b29] at hF
  refine lv_iconst (v := (1 : Int32)) hx hb dX10_isUnder_29 (by decide) ?_
  refine lv_goto (tgt := 34) hx hb dX10_isUnder_30 (by decide) ?_
  obtain rfl := Option.some.inj hF
  exact W.zret (ty := .boolean) hx hb hr rfl (fun t ht hW => ⟨rfl, ht⟩) nofun dX10_isUnder_34
set_option maxHeartbeats 4000000 in
set_option maxRecDepth 100000 in
theorem wk_M_isUnder_b19 {p : Program} {l : Launch} {e : Env} {s : State} {m : MethodId} {args : Array Value} {below : List Frame} {meth : Method} {c : Code} (E : kE)    (a0 : Int32) (a1 : Int32) {out : Int32} (C : kC RX10 cX10_isUnder 2 (some .boolean) p s m args meth c) (hP : va_P (eD E) vwCl (w_M_isUnder E ) s.heap) (hK : va_K (eD E) vwCl (eT E) s) (hT : sT E (fun _ => False) s s.heap)  :
    f_M_isUnder_b19  a0 a1  = some out → ∀ (ls : Array Slot), lv_has ls 2 [(0, .int a0), (1, .int a1)] → W p l e (rm 1) s m args below meth c s.heap [] 0 0 (MQ below (qR (.int out)) args s 0 0 (fun _ => False)) (F0 m 19 ls []) := by
  obtain ⟨hx, hb, hr, hml, hown, hw, hlocks⟩ := id C
  have hS : va_S (fun _ => False) s.heap s.heap [] := va_S.rf
  intro  hF ls hl
  rw [f_M_isUnder_b19] at hF
  refine lv_iload_n hx hb dX10_isUnder_19 rfl (lv_at hl 0 rfl) ?_
  refine lv_iconst (v := (5 : Int32)) hx hb dX10_isUnder_20 (by decide) ?_
  refine lv_icmp_ne (tgt := 33) hx hb dX10_isUnder_21 (by decide) (fun q1 => ?_) (fun q1 => ?_)
  · have hF := kn hF q1
    refine lv_iconst (v := (0 : Int32)) hx hb dX10_isUnder_33 (by decide) ?_
    obtain rfl := Option.some.inj hF
    exact W.zret (ty := .boolean) hx hb hr rfl (fun t ht hW => ⟨rfl, ht⟩) nofun dX10_isUnder_34
  · have hF := kp hF q1
    refine lv_iload_n hx hb dX10_isUnder_24 rfl (lv_at hl 1 rfl) ?_
    refine lv_iconst (v := (2 : Int32)) hx hb dX10_isUnder_25 (by decide) ?_
    refine lv_icmp_ne (tgt := 33) hx hb dX10_isUnder_26 (by decide) (fun q2 => ?_) (fun q2 => ?_)
    · have hF := kn hF q2
      refine lv_iconst (v := (0 : Int32)) hx hb dX10_isUnder_33 (by decide) ?_
      obtain rfl := Option.some.inj hF
      exact W.zret (ty := .boolean) hx hb hr rfl (fun t ht hW => ⟨rfl, ht⟩) nofun dX10_isUnder_34
    · have hF := kp hF q2
      exact wk_M_isUnder_b29 E  a0 a1 C hP  hK hT   hF _ (lv_sub hl [] rfl)
set_option maxHeartbeats 4000000 in
set_option maxRecDepth 100000 in
theorem k_M_isUnder (l : Launch) (E : kE)    (a0 : Int32) (a1 : Int32) (out : Int32) (hF : f_M_isUnder  a0 a1 = some out) : Met l yX10_isUnder (Cond.code yX10_isUnder cX10_isUnder 2 (some .boolean) :: wG) (rm 1) (pR E (w_M_isUnder E ) [.int a0, .int a1]) (qR (.int out)) 0 0 (fun _ => False) := by
  refine met_R (by decide) (Nat.le_of_ble_eq_true rfl) ?_
  intro p e s m args below meth c ls C hP hK hT hl
  obtain ⟨hx, hb, hr, hml, hown, hw, hlocks⟩ := id C
  have hS : va_S (fun _ => False) s.heap s.heap [] := va_S.rf
  have hl : lv_has ls 2 [(0, .int a0), (1, .int a1)] := hl
  rw [f_M_isUnder] at hF
  refine lv_iload_n hx hb dX10_isUnder_0 rfl (lv_at hl 1 rfl) ?_
  refine lv_if_eq (tgt := 29) hx hb dX10_isUnder_1 (by decide) (fun q3 => ?_) (fun q3 => ?_)
  · have hF := kp hF q3
    exact wk_M_isUnder_b29 E  a0 a1 C hP  hK hT   hF _ (lv_sub hl [] rfl)
  · have hF := kn hF q3
    refine lv_iload_n hx hb dX10_isUnder_4 rfl (lv_at hl 0 rfl) ?_
    refine lv_iload_n hx hb dX10_isUnder_5 rfl (lv_at hl 1 rfl) ?_
    refine lv_icmp_eq (tgt := 29) hx hb dX10_isUnder_6 (by decide) (fun q4 => ?_) (fun q4 => ?_)
    · have hF := kp hF q4
      exact wk_M_isUnder_b29 E  a0 a1 C hP  hK hT   hF _ (lv_sub hl [] rfl)
    · have hF := kn hF q4
      refine lv_iload_n hx hb dX10_isUnder_9 rfl (lv_at hl 0 rfl) ?_
      refine lv_iconst (v := (4 : Int32)) hx hb dX10_isUnder_10 (by decide) ?_
      refine lv_icmp_ne (tgt := 19) hx hb dX10_isUnder_11 (by decide) (fun q5 => ?_) (fun q5 => ?_)
      · have hF := kn hF q5
        exact wk_M_isUnder_b19 E  a0 a1 C hP  hK hT   hF _ (lv_sub hl [0, 1] rfl)
      · have hF := kp hF q5
        refine lv_iload_n hx hb dX10_isUnder_14 rfl (lv_at hl 1 rfl) ?_
        refine lv_iconst (v := (1 : Int32)) hx hb dX10_isUnder_15 (by decide) ?_
        refine lv_icmp_eq (tgt := 29) hx hb dX10_isUnder_16 (by decide) (fun q6 => ?_) (fun q6 => ?_)
        · have hF := kp hF q6
          exact wk_M_isUnder_b29 E  a0 a1 C hP  hK hT   hF _ (lv_sub hl [] rfl)
        · have hF := kn hF q6
          exact wk_M_isUnder_b19 E  a0 a1 C hP  hK hT   hF _ (lv_sub hl [0, 1] rfl)
abbrev w_M_as (E : kE) (h_t : Nat) (h_t_findings : Nat) (h_t_s : Nat) (x_t_kept : Nat) (x_t_before : Nat) (x_t_shown : Nat) (x_t_worths : Nat) (x_t_steps : Nat) (x_t_tape : Nat) (x_t_bits : Nat) (x_t_longs : Nat) (x_t_cells : Nat) (x_t_between : Nat) (c_t_isKept : Int32) (c_t_most : Int32) (c_t_taped : Int32) (c_t_here : Int32) (c_t_fault : Int32) (c_t_value : Int32) (c_t_findings : (Nat → Int32)) (c_t_s : (Nat → Int32)) : va_W := [(h_t, .inr (8, [.ref h_t_s, .ref x_t_kept, .ref x_t_before, .int c_t_isKept, .ref h_t_findings, .ref x_t_shown, .int c_t_most, .ref x_t_worths, .ref x_t_steps, .ref x_t_tape, .int c_t_taped, .int c_t_here, .int c_t_fault, .int c_t_value, .ref x_t_bits, .ref x_t_longs, .ref x_t_cells, .ref x_t_between])), (h_t_findings, .inl (eI E, 7, .inl c_t_findings)), (h_t_s, .inl (eI E, 65, .inl c_t_s))]
set_option maxHeartbeats 4000000 in
set_option maxRecDepth 100000 in
theorem wk_M_as_b15 {p : Program} {l : Launch} {e : Env} {s : State} {m : MethodId} {args : Array Value} {below : List Frame} {meth : Method} {c : Code} {A : Nat → Prop} (E : kE) (h_t : Nat) (h_t_findings : Nat) (h_t_s : Nat) (x_t_kept : Nat) (x_t_before : Nat) (x_t_shown : Nat) (x_t_worths : Nat) (x_t_steps : Nat) (x_t_tape : Nat) (x_t_bits : Nat) (x_t_longs : Nat) (x_t_cells : Nat) (x_t_between : Nat) (c_t_isKept : Int32) (c_t_most : Int32) (c_t_taped : Int32) (c_t_here : Int32) (c_t_fault : Int32) (c_t_value : Int32) (c_t_s : (Nat → Int32)) (a1 : Int32) (a2 : Int32) {out : Int32 × (Nat → Int32)} (C : kC RX10 cX10_as 3 (some .int) p s m args meth c) (hA : ∀ q : Nat, s.heap.size ≤ q → A q) (hK : va_K (eD E) vwCl (eT E) s) (hT : sT E A s s.heap)  :
    ∀ (c_t_findings : (Nat → Int32)), f_M_as_b15  c_t_s a1 a2 c_t_findings = some out → ∀ (H : Heap) (locs : List Loc), va_P (eD E) vwCl (w_M_as E h_t h_t_findings h_t_s x_t_kept x_t_before x_t_shown x_t_worths x_t_steps x_t_tape x_t_bits x_t_longs x_t_cells x_t_between c_t_isKept c_t_most c_t_taped c_t_here c_t_fault c_t_value c_t_findings c_t_s) H → va_D A (w_M_as E h_t h_t_findings h_t_s x_t_kept x_t_before x_t_shown x_t_worths x_t_steps x_t_tape x_t_bits x_t_longs x_t_cells x_t_between c_t_isKept c_t_most c_t_taped c_t_here c_t_fault c_t_value c_t_findings c_t_s) → va_S A s.heap H locs → ∀ (ls : Array Slot), lv_has ls 3 [(0, .ref h_t)] → W p l e (rm 3) s m args below meth c H locs 0 0 (MQ below (qW (some (.int out.1)) E (w_M_as E h_t h_t_findings h_t_s x_t_kept x_t_before x_t_shown x_t_worths x_t_steps x_t_tape x_t_bits x_t_longs x_t_cells x_t_between c_t_isKept c_t_most c_t_taped c_t_here c_t_fault c_t_value out.2 c_t_s) A) args s 0 0 A) (F0 m 15 ls []) := by
  obtain ⟨hx, hb, hr, hml, hown, hw, hlocks⟩ := id C
  intro c_t_findings hF H locs hP hD hS ls hl
  rw [f_M_as_b15] at hF
  refine lv_aload_n hx hb dX10_as_15 rfl (lv_at hl 0 rfl) ?_
  refine lv_iconst (v := (0 : Int32)) hx hb dX10_as_16 (by decide) ?_
  obtain ⟨r1, er1, hF⟩ := kb hF
  refine kWV (rest := []) (Wr := [(h_t_s, .inl (eI E, 65, .inl c_t_s))]) (Wn := (w_M_as E h_t h_t_findings h_t_s x_t_kept x_t_before x_t_shown x_t_worths x_t_steps x_t_tape x_t_bits x_t_longs x_t_cells x_t_between c_t_isKept c_t_most c_t_taped c_t_here c_t_fault c_t_value r1.2 c_t_s)) C (k_M_no l E h_t h_t_findings h_t_s x_t_kept x_t_before x_t_shown x_t_worths x_t_steps x_t_tape x_t_bits x_t_longs x_t_cells x_t_between H.size c_t_isKept c_t_most c_t_taped c_t_here c_t_fault c_t_value c_t_findings (0 : Int32) r1 er1) fn_M_no mw_964 ⟨Nat.le_of_ble_eq_true rfl, Nat.le_of_ble_eq_true rfl⟩ hK hT hS hA (va_recv hK hP (ci := 8) (q0 := 0) rfl rfl) hP hD [0, 1] rfl (by decide) [2] rfl (by decide) (by decide) [1, 2, 0] rfl (by decide) rfl rfl hl (Nat.le_of_ble_eq_true rfl) dX10_as_17 (fun H locs hP hD hS => ?_)
  refine W.eq (g2 := F0 m 20 ls [.int r1.1]) rfl ?_
  obtain rfl := Option.some.inj hF
  exact W.iret hx hb hr (fun t ht hW => ⟨⟨rfl, by rw [ht]; exact hP, hD⟩, hS.F ht⟩) hS.2.2 dX10_as_20
set_option maxHeartbeats 4000000 in
set_option maxRecDepth 100000 in
theorem k_M_as (l : Launch) (E : kE) (h_t : Nat) (h_t_findings : Nat) (h_t_s : Nat) (x_t_kept : Nat) (x_t_before : Nat) (x_t_shown : Nat) (x_t_worths : Nat) (x_t_steps : Nat) (x_t_tape : Nat) (x_t_bits : Nat) (x_t_longs : Nat) (x_t_cells : Nat) (x_t_between : Nat) (sz : Nat) (c_t_isKept : Int32) (c_t_most : Int32) (c_t_taped : Int32) (c_t_here : Int32) (c_t_fault : Int32) (c_t_value : Int32) (c_t_findings : (Nat → Int32)) (c_t_s : (Nat → Int32)) (a1 : Int32) (a2 : Int32) (out : Int32 × (Nat → Int32)) (hF : f_M_as c_t_findings c_t_s a1 a2 = some out) : Met l yX10_as (Cond.code yX10_as cX10_as 3 (some .int) :: wG) (rm 3) (pW E (w_M_as E h_t h_t_findings h_t_s x_t_kept x_t_before x_t_shown x_t_worths x_t_steps x_t_tape x_t_bits x_t_longs x_t_cells x_t_between c_t_isKept c_t_most c_t_taped c_t_here c_t_fault c_t_value c_t_findings c_t_s) sz [.ref h_t, .int a1, .int a2]) (qW (some (.int out.1)) E (w_M_as E h_t h_t_findings h_t_s x_t_kept x_t_before x_t_shown x_t_worths x_t_steps x_t_tape x_t_bits x_t_longs x_t_cells x_t_between c_t_isKept c_t_most c_t_taped c_t_here c_t_fault c_t_value out.2 c_t_s) (va_A (w_M_as E h_t h_t_findings h_t_s x_t_kept x_t_before x_t_shown x_t_worths x_t_steps x_t_tape x_t_bits x_t_longs x_t_cells x_t_between c_t_isKept c_t_most c_t_taped c_t_here c_t_fault c_t_value c_t_findings c_t_s) sz)) 0 0 (va_A (w_M_as E h_t h_t_findings h_t_s x_t_kept x_t_before x_t_shown x_t_worths x_t_steps x_t_tape x_t_bits x_t_longs x_t_cells x_t_between c_t_isKept c_t_most c_t_taped c_t_here c_t_fault c_t_value c_t_findings c_t_s) sz) := by
  refine met_W (by decide) (Nat.le_of_ble_eq_true rfl) ?_
  intro p e s m args below meth c A ls C hP hD hS hA hK hT hl
  obtain ⟨hx, hb, hr, hml, hown, hw, hlocks⟩ := id C
  have hl : lv_has ls 3 [(0, .ref h_t), (1, .int a1), (2, .int a2)] := hl
  rw [f_M_as] at hF
  refine lv_aload_n hx hb dX10_as_0 rfl (lv_at hl 0 rfl) ?_
  refine lv_iload_n hx hb dX10_as_1 rfl (lv_at hl 1 rfl) ?_
  obtain ⟨r2, er2, hF⟩ := kb hF
  refine kRV (rest := []) C (k_M_isLetter l E h_t h_t_s x_t_kept x_t_before h_t_findings x_t_shown x_t_worths x_t_steps x_t_tape x_t_bits x_t_longs x_t_cells x_t_between c_t_isKept c_t_most c_t_taped c_t_here c_t_fault c_t_value c_t_s a1 r2 er2) fn_M_isLetter mw_1092 ⟨Nat.le_of_ble_eq_true rfl, Nat.le_of_ble_eq_true rfl⟩ hK hT hS (va_recv hK hP (ci := 8) (q0 := 0) rfl rfl) hP [0, 2] rfl rfl rfl hl (Nat.le_of_ble_eq_true rfl) dX10_as_2 ?_
  refine lv_if_eq (tgt := 15) hx hb dX10_as_5 (by decide) (fun q3 => ?_) (fun q3 => ?_)
  · have hF := kp hF q3
    exact wk_M_as_b15 E h_t h_t_findings h_t_s x_t_kept x_t_before x_t_shown x_t_worths x_t_steps x_t_tape x_t_bits x_t_longs x_t_cells x_t_between c_t_isKept c_t_most c_t_taped c_t_here c_t_fault c_t_value c_t_s a1 a2 C hA  hK hT  c_t_findings hF _ _ hP hD hS _ (lv_sub hl [0] rfl)
  · have hF := kn hF q3
    refine lv_iload_n hx hb dX10_as_8 rfl (lv_at hl 2 rfl) ?_
    obtain ⟨r4, er4, hF⟩ := kb hF
    refine kRS (rest := []) C (k_M_isKind l E a2 r4 er4) fn_M_isKind mw_1077 ⟨Nat.le_of_ble_eq_true rfl, Nat.le_of_ble_eq_true rfl⟩ hK hT hS hP [] rfl rfl rfl hl (Nat.le_of_ble_eq_true rfl) dX10_as_9 ?_
    refine lv_if_ne (tgt := 21) hx hb dX10_as_12 (by decide) (fun q5 => ?_) (fun q5 => ?_)
    · have hF := kn hF q5
      refine lv_aload_n hx hb dX10_as_21 rfl (lv_at hl 0 rfl) ?_
      refine va_get (D := eD E) (ci := 8) (C := RX10) (T := TX10) (N := 18) (v := .ref h_t_s) hx hb hw inX10 hown hK hP 0 rfl rfl 0 (by decide) (hw _ mw_881) (fun _ h9 => h9) rfl dX10_as_22 ?_
      refine lv_aload_n hx hb dX10_as_25 rfl (lv_at hl 0 rfl) ?_
      refine lv_iload_n hx hb dX10_as_26 rfl (lv_at hl 1 rfl) ?_
      refine lv_iconst (v := (0 : Int32)) hx hb dX10_as_27 (by decide) ?_
      obtain ⟨r6, er6, hF⟩ := kb hF
      refine kRV (rest := [.ref h_t_s]) C (k_M_at l E h_t h_t_s x_t_kept x_t_before h_t_findings x_t_shown x_t_worths x_t_steps x_t_tape x_t_bits x_t_longs x_t_cells x_t_between c_t_isKept c_t_most c_t_taped c_t_here c_t_fault c_t_value a1 (0 : Int32) r6 er6) fn_M_at mw_1084 ⟨Nat.le_of_ble_eq_true rfl, Nat.le_of_ble_eq_true rfl⟩ hK hT hS (va_recv hK hP (ci := 8) (q0 := 0) rfl rfl) hP [0] rfl rfl rfl hl (Nat.le_of_ble_eq_true rfl) dX10_as_28 ?_
      obtain ⟨r7, er7, hF⟩ := kb hF
      refine wa_iald hx hb hK hP 2 0 rfl rfl er7 dX10_as_31 ?_
      refine lv_iload_n hx hb dX10_as_32 rfl (lv_at hl 2 rfl) ?_
      obtain ⟨r8, er8, hF⟩ := kb hF
      refine kRS (rest := []) C (k_M_isUnder l E r7 a2 r8 er8) fn_M_isUnder mw_1126 ⟨Nat.le_of_ble_eq_true rfl, Nat.le_of_ble_eq_true rfl⟩ hK hT hS hP [] rfl rfl rfl hl (Nat.le_of_ble_eq_true rfl) dX10_as_33 ?_
      refine lv_if_eq (tgt := 53) hx hb dX10_as_36 (by decide) (fun q9 => ?_) (fun q9 => ?_)
      · have hF := kp hF q9
        refine lv_aload_n hx hb dX10_as_53 rfl (lv_at hl 0 rfl) ?_
        refine lv_iconst (v := (2 : Int32)) hx hb dX10_as_54 (by decide) ?_
        obtain ⟨r10, er10, hF⟩ := kb hF
        refine kWV (rest := []) (Wr := [(h_t_s, .inl (eI E, 65, .inl c_t_s))]) (Wn := (w_M_as E h_t h_t_findings h_t_s x_t_kept x_t_before x_t_shown x_t_worths x_t_steps x_t_tape x_t_bits x_t_longs x_t_cells x_t_between c_t_isKept c_t_most c_t_taped c_t_here c_t_fault c_t_value r10.2 c_t_s)) C (k_M_no l E h_t h_t_findings h_t_s x_t_kept x_t_before x_t_shown x_t_worths x_t_steps x_t_tape x_t_bits x_t_longs x_t_cells x_t_between s.heap.size c_t_isKept c_t_most c_t_taped c_t_here c_t_fault c_t_value c_t_findings (2 : Int32) r10 er10) fn_M_no mw_964 ⟨Nat.le_of_ble_eq_true rfl, Nat.le_of_ble_eq_true rfl⟩ hK hT hS hA (va_recv hK hP (ci := 8) (q0 := 0) rfl rfl) hP hD [0, 1] rfl (by decide) [2] rfl (by decide) (by decide) [1, 2, 0] rfl (by decide) rfl rfl hl (Nat.le_of_ble_eq_true rfl) dX10_as_55 (fun H locs hP hD hS => ?_)
        refine W.eq (g2 := F0 m 58 ls [.int r10.1]) rfl ?_
        obtain rfl := Option.some.inj hF
        exact W.iret hx hb hr (fun t ht hW => ⟨⟨rfl, by rw [ht]; exact hP, hD⟩, hS.F ht⟩) hS.2.2 dX10_as_58
      · have hF := kn hF q9
        refine lv_aload_n hx hb dX10_as_39 rfl (lv_at hl 0 rfl) ?_
        refine va_get (D := eD E) (ci := 8) (C := RX10) (T := TX10) (N := 18) (v := .ref h_t_s) hx hb hw inX10 hown hK hP 0 rfl rfl 0 (by decide) (hw _ mw_881) (fun _ h9 => h9) rfl dX10_as_40 ?_
        refine lv_aload_n hx hb dX10_as_43 rfl (lv_at hl 0 rfl) ?_
        refine lv_iload_n hx hb dX10_as_44 rfl (lv_at hl 1 rfl) ?_
        refine lv_iconst (v := (2 : Int32)) hx hb dX10_as_45 (by decide) ?_
        obtain ⟨r11, er11, hF⟩ := kb hF
        refine kRV (rest := [.ref h_t_s]) C (k_M_at l E h_t h_t_s x_t_kept x_t_before h_t_findings x_t_shown x_t_worths x_t_steps x_t_tape x_t_bits x_t_longs x_t_cells x_t_between c_t_isKept c_t_most c_t_taped c_t_here c_t_fault c_t_value a1 (2 : Int32) r11 er11) fn_M_at mw_1084 ⟨Nat.le_of_ble_eq_true rfl, Nat.le_of_ble_eq_true rfl⟩ hK hT hS (va_recv hK hP (ci := 8) (q0 := 0) rfl rfl) hP [0] rfl rfl rfl hl (Nat.le_of_ble_eq_true rfl) dX10_as_46 ?_
        obtain ⟨r12, er12, hF⟩ := kb hF
        refine wa_iald hx hb hK hP 2 0 rfl rfl er12 dX10_as_49 ?_
        refine lv_goto (tgt := 58) hx hb dX10_as_50 (by decide) ?_
        obtain rfl := Option.some.inj hF
        exact W.iret hx hb hr (fun t ht hW => ⟨⟨rfl, by rw [ht]; exact hP, hD⟩, hS.F ht⟩) hS.2.2 dX10_as_58
    · have hF := kp hF q5
      exact wk_M_as_b15 E h_t h_t_findings h_t_s x_t_kept x_t_before x_t_shown x_t_worths x_t_steps x_t_tape x_t_bits x_t_longs x_t_cells x_t_between c_t_isKept c_t_most c_t_taped c_t_here c_t_fault c_t_value c_t_s a1 a2 C hA  hK hT  c_t_findings hF _ _ hP hD hS _ (lv_sub hl [0] rfl)
abbrev w_M_sun (E : kE) (h_t : Nat) (h_t_findings : Nat) (h_t_s : Nat) (x_t_kept : Nat) (x_t_before : Nat) (x_t_shown : Nat) (x_t_worths : Nat) (x_t_steps : Nat) (x_t_tape : Nat) (x_t_bits : Nat) (x_t_longs : Nat) (x_t_cells : Nat) (x_t_between : Nat) (c_t_isKept : Int32) (c_t_most : Int32) (c_t_taped : Int32) (c_t_here : Int32) (c_t_fault : Int32) (c_t_value : Int32) (c_t_findings : (Nat → Int32)) (c_t_s : (Nat → Int32)) : va_W := [(h_t, .inr (8, [.ref h_t_s, .ref x_t_kept, .ref x_t_before, .int c_t_isKept, .ref h_t_findings, .ref x_t_shown, .int c_t_most, .ref x_t_worths, .ref x_t_steps, .ref x_t_tape, .int c_t_taped, .int c_t_here, .int c_t_fault, .int c_t_value, .ref x_t_bits, .ref x_t_longs, .ref x_t_cells, .ref x_t_between])), (h_t_findings, .inl (eI E, 7, .inl c_t_findings)), (h_t_s, .inl (eI E, 65, .inl c_t_s))]
set_option maxHeartbeats 4000000 in
set_option maxRecDepth 100000 in
theorem k_M_sun (l : Launch) (E : kE) (h_t : Nat) (h_t_findings : Nat) (h_t_s : Nat) (x_t_kept : Nat) (x_t_before : Nat) (x_t_shown : Nat) (x_t_worths : Nat) (x_t_steps : Nat) (x_t_tape : Nat) (x_t_bits : Nat) (x_t_longs : Nat) (x_t_cells : Nat) (x_t_between : Nat) (sz : Nat) (c_t_isKept : Int32) (c_t_most : Int32) (c_t_taped : Int32) (c_t_here : Int32) (c_t_fault : Int32) (c_t_value : Int32) (c_t_findings : (Nat → Int32)) (c_t_s : (Nat → Int32)) (a1 : Int32) (out : Int32 × (Nat → Int32) × (Nat → Int32)) (hF : f_M_sun c_t_findings c_t_s a1 = some out) : Met l yX10_sun (Cond.code yX10_sun cX10_sun 2 (some .int) :: wG) (rm 3) (pW E (w_M_sun E h_t h_t_findings h_t_s x_t_kept x_t_before x_t_shown x_t_worths x_t_steps x_t_tape x_t_bits x_t_longs x_t_cells x_t_between c_t_isKept c_t_most c_t_taped c_t_here c_t_fault c_t_value c_t_findings c_t_s) sz [.ref h_t, .int a1]) (qW (some (.int out.1)) E (w_M_sun E h_t h_t_findings h_t_s x_t_kept x_t_before x_t_shown x_t_worths x_t_steps x_t_tape x_t_bits x_t_longs x_t_cells x_t_between c_t_isKept c_t_most c_t_taped c_t_here c_t_fault c_t_value out.2.1 out.2.2) (va_A (w_M_sun E h_t h_t_findings h_t_s x_t_kept x_t_before x_t_shown x_t_worths x_t_steps x_t_tape x_t_bits x_t_longs x_t_cells x_t_between c_t_isKept c_t_most c_t_taped c_t_here c_t_fault c_t_value c_t_findings c_t_s) sz)) 0 0 (va_A (w_M_sun E h_t h_t_findings h_t_s x_t_kept x_t_before x_t_shown x_t_worths x_t_steps x_t_tape x_t_bits x_t_longs x_t_cells x_t_between c_t_isKept c_t_most c_t_taped c_t_here c_t_fault c_t_value c_t_findings c_t_s) sz) := by
  refine met_W (by decide) (Nat.le_of_ble_eq_true rfl) ?_
  intro p e s m args below meth c A ls C hP hD hS hA hK hT hl
  obtain ⟨hx, hb, hr, hml, hown, hw, hlocks⟩ := id C
  have hl : lv_has ls 2 [(0, .ref h_t), (1, .int a1)] := hl
  rw [f_M_sun] at hF
  refine lv_iload_n hx hb dX10_sun_0 rfl (lv_at hl 1 rfl) ?_
  obtain ⟨r1, er1, hF⟩ := kb hF
  refine kRS (rest := []) C (k_M_isForm l E a1 r1 er1) fn_M_isForm mw_940 ⟨Nat.le_of_ble_eq_true rfl, Nat.le_of_ble_eq_true rfl⟩ hK hT hS hP [] rfl rfl rfl hl (Nat.le_of_ble_eq_true rfl) dX10_sun_1 ?_
  refine lv_if_eq (tgt := 16) hx hb dX10_sun_4 (by decide) (fun q2 => ?_) (fun q2 => ?_)
  · have hF := kp hF q2
    refine lv_aload_n hx hb dX10_sun_16 rfl (lv_at hl 0 rfl) ?_
    refine lv_iconst (v := (0 : Int32)) hx hb dX10_sun_17 (by decide) ?_
    obtain ⟨r3, er3, hF⟩ := kb hF
    refine kWV (rest := []) (Wr := [(h_t_s, .inl (eI E, 65, .inl c_t_s))]) (Wn := (w_M_sun E h_t h_t_findings h_t_s x_t_kept x_t_before x_t_shown x_t_worths x_t_steps x_t_tape x_t_bits x_t_longs x_t_cells x_t_between c_t_isKept c_t_most c_t_taped c_t_here c_t_fault c_t_value r3.2 c_t_s)) C (k_M_no l E h_t h_t_findings h_t_s x_t_kept x_t_before x_t_shown x_t_worths x_t_steps x_t_tape x_t_bits x_t_longs x_t_cells x_t_between s.heap.size c_t_isKept c_t_most c_t_taped c_t_here c_t_fault c_t_value c_t_findings (0 : Int32) r3 er3) fn_M_no mw_964 ⟨Nat.le_of_ble_eq_true rfl, Nat.le_of_ble_eq_true rfl⟩ hK hT hS hA (va_recv hK hP (ci := 8) (q0 := 0) rfl rfl) hP hD [0, 1] rfl (by decide) [2] rfl (by decide) (by decide) [1, 2, 0] rfl (by decide) rfl rfl hl (Nat.le_of_ble_eq_true rfl) dX10_sun_18 (fun H locs hP hD hS => ?_)
    refine W.eq (g2 := F0 m 21 ls [.int r3.1]) rfl ?_
    obtain rfl := Option.some.inj hF
    exact W.iret hx hb hr (fun t ht hW => ⟨⟨rfl, by rw [ht]; exact hP, hD⟩, hS.F ht⟩) hS.2.2 dX10_sun_21
  · have hF := kn hF q2
    refine lv_aload_n hx hb dX10_sun_7 rfl (lv_at hl 0 rfl) ?_
    refine lv_iconst (v := (1 : Int32)) hx hb dX10_sun_8 (by decide) ?_
    refine lv_iload_n hx hb dX10_sun_9 rfl (lv_at hl 1 rfl) ?_
    obtain ⟨r4, er4, hF⟩ := kb hF
    refine kWV (rest := []) (Wr := [(h_t_findings, .inl (eI E, 7, .inl c_t_findings))]) (Wn := (w_M_sun E h_t h_t_findings h_t_s x_t_kept x_t_before x_t_shown x_t_worths x_t_steps x_t_tape x_t_bits x_t_longs x_t_cells x_t_between c_t_isKept c_t_most c_t_taped c_t_here c_t_fault c_t_value c_t_findings r4.2)) C (k_M_puts l E h_t h_t_s x_t_kept x_t_before h_t_findings x_t_shown x_t_worths x_t_steps x_t_tape x_t_bits x_t_longs x_t_cells x_t_between s.heap.size c_t_isKept c_t_most c_t_taped c_t_here c_t_fault c_t_value c_t_s (1 : Int32) a1 r4 er4) fn_M_puts mw_1037 ⟨Nat.le_of_ble_eq_true rfl, Nat.le_of_ble_eq_true rfl⟩ hK hT hS hA (va_recv hK hP (ci := 8) (q0 := 0) rfl rfl) hP hD [0, 2] rfl (by decide) [1] rfl (by decide) (by decide) [1, 0, 2] rfl (by decide) rfl rfl hl (Nat.le_of_ble_eq_true rfl) dX10_sun_10 (fun H locs hP hD hS => ?_)
    refine W.eq (g2 := F0 m 13 ls [.int r4.1]) rfl ?_
    refine lv_goto (tgt := 21) hx hb dX10_sun_13 (by decide) ?_
    obtain rfl := Option.some.inj hF
    exact W.iret hx hb hr (fun t ht hW => ⟨⟨rfl, by rw [ht]; exact hP, hD⟩, hS.F ht⟩) hS.2.2 dX10_sun_21
abbrev w_M_hours (E : kE) (h_t : Nat) (h_t_findings : Nat) (h_t_s : Nat) (h_t_shown : Nat) (x_t_kept : Nat) (x_t_before : Nat) (x_t_worths : Nat) (x_t_steps : Nat) (x_t_tape : Nat) (x_t_bits : Nat) (x_t_longs : Nat) (x_t_cells : Nat) (x_t_between : Nat) (c_t_isKept : Int32) (c_t_most : Int32) (c_t_taped : Int32) (c_t_here : Int32) (c_t_fault : Int32) (c_t_value : Int32) (c_t_findings : (Nat → Int32)) (c_t_s : (Nat → Int32)) (c_t_shown : (Nat → Int32)) : va_W := [(h_t, .inr (8, [.ref h_t_s, .ref x_t_kept, .ref x_t_before, .int c_t_isKept, .ref h_t_findings, .ref h_t_shown, .int c_t_most, .ref x_t_worths, .ref x_t_steps, .ref x_t_tape, .int c_t_taped, .int c_t_here, .int c_t_fault, .int c_t_value, .ref x_t_bits, .ref x_t_longs, .ref x_t_cells, .ref x_t_between])), (h_t_findings, .inl (eI E, 7, .inl c_t_findings)), (h_t_s, .inl (eI E, 65, .inl c_t_s)), (h_t_shown, .inl (eI E, 12, .inl c_t_shown))]
set_option maxHeartbeats 4000000 in
set_option maxRecDepth 100000 in
theorem wk_M_hours_b109 {p : Program} {l : Launch} {e : Env} {s : State} {m : MethodId} {args : Array Value} {below : List Frame} {meth : Method} {c : Code} {A : Nat → Prop} (E : kE) (h_t : Nat) (h_t_findings : Nat) (h_t_s : Nat) (h_t_shown : Nat) (x_t_kept : Nat) (x_t_before : Nat) (x_t_worths : Nat) (x_t_steps : Nat) (x_t_tape : Nat) (x_t_bits : Nat) (x_t_longs : Nat) (x_t_cells : Nat) (x_t_between : Nat) (c_t_isKept : Int32) (c_t_most : Int32) (c_t_taped : Int32) (c_t_here : Int32) (c_t_fault : Int32) (c_t_value : Int32) (a1 : Int32) {out : Int32 × (Nat → Int32) × (Nat → Int32) × (Nat → Int32)} (C : kC RX10 cX10_hours 4 (some .int) p s m args meth c) (hA : ∀ q : Nat, s.heap.size ≤ q → A q) (hK : va_K (eD E) vwCl (eT E) s) (hT : sT E A s s.heap) (k79 : (Nat → Int32) → (Nat → Int32) → (Nat → Int32) → Int32 → Int32 → Option (Int32 × (Nat → Int32) × (Nat → Int32) × (Nat → Int32))) (hk79 : ∀ (c_t_findings : (Nat → Int32)) (c_t_s : (Nat → Int32)) (c_t_shown : (Nat → Int32)) (v2 : Int32) (v3 : Int32), k79 c_t_findings c_t_s c_t_shown v2 v3 = some out → ∀ (H : Heap) (locs : List Loc), va_P (eD E) vwCl (w_M_hours E h_t h_t_findings h_t_s h_t_shown x_t_kept x_t_before x_t_worths x_t_steps x_t_tape x_t_bits x_t_longs x_t_cells x_t_between c_t_isKept c_t_most c_t_taped c_t_here c_t_fault c_t_value c_t_findings c_t_s c_t_shown) H → va_D A (w_M_hours E h_t h_t_findings h_t_s h_t_shown x_t_kept x_t_before x_t_worths x_t_steps x_t_tape x_t_bits x_t_longs x_t_cells x_t_between c_t_isKept c_t_most c_t_taped c_t_here c_t_fault c_t_value c_t_findings c_t_s c_t_shown) → va_S A s.heap H locs → ∀ (ls : Array Slot), lv_has ls 4 [(0, .ref h_t), (2, .int v2), (3, .int v3)] → W p l e (rm 4) s m args below meth c H locs 0 0 (MQ below (qW (some (.int out.1)) E (w_M_hours E h_t h_t_findings h_t_s h_t_shown x_t_kept x_t_before x_t_worths x_t_steps x_t_tape x_t_bits x_t_longs x_t_cells x_t_between c_t_isKept c_t_most c_t_taped c_t_here c_t_fault c_t_value out.2.1 out.2.2.1 out.2.2.2) A) args s 0 0 A) (F0 m 79 ls [])) :
    ∀ (c_t_findings : (Nat → Int32)) (c_t_s : (Nat → Int32)) (c_t_shown : (Nat → Int32)) (v3 : Int32) (s0 : Int32) (s1 : Int32), f_M_hours_b109 k79 a1 c_t_findings c_t_s c_t_shown v3 s0 s1 = some out → ∀ (H : Heap) (locs : List Loc), va_P (eD E) vwCl (w_M_hours E h_t h_t_findings h_t_s h_t_shown x_t_kept x_t_before x_t_worths x_t_steps x_t_tape x_t_bits x_t_longs x_t_cells x_t_between c_t_isKept c_t_most c_t_taped c_t_here c_t_fault c_t_value c_t_findings c_t_s c_t_shown) H → va_D A (w_M_hours E h_t h_t_findings h_t_s h_t_shown x_t_kept x_t_before x_t_worths x_t_steps x_t_tape x_t_bits x_t_longs x_t_cells x_t_between c_t_isKept c_t_most c_t_taped c_t_here c_t_fault c_t_value c_t_findings c_t_s c_t_shown) → va_S A s.heap H locs → ∀ (ls : Array Slot), lv_has ls 4 [(0, .ref h_t), (3, .int v3)] → W p l e (rm 4) s m args below meth c H locs 0 0 (MQ below (qW (some (.int out.1)) E (w_M_hours E h_t h_t_findings h_t_s h_t_shown x_t_kept x_t_before x_t_worths x_t_steps x_t_tape x_t_bits x_t_longs x_t_cells x_t_between c_t_isKept c_t_most c_t_taped c_t_here c_t_fault c_t_value out.2.1 out.2.2.1 out.2.2.2) A) args s 0 0 A) (F0 m 109 ls [.int s0, .int s1]) := by
  obtain ⟨hx, hb, hr, hml, hown, hw, hlocks⟩ := id C
  intro c_t_findings c_t_s c_t_shown v3 s0 s1 hF H locs hP hD hS ls hl
  rw [f_M_hours_b109] at hF
  refine lv_iadd hx hb dX10_hours_109 ?_
  refine lv_istore_n (lv' := [(2, .int (s1 + s0)), (0, .ref h_t), (3, .int v3)]) hx hb dX10_hours_110 rfl hl (by decide) rfl (fun ls hl => ?_)
  refine lv_iinc (v := (v3 + (1))) (lv' := [(3, .int (v3 + (1))), (2, .int (s1 + s0)), (0, .ref h_t)]) hx hb dX10_hours_111 hl (k := 2) rfl rfl (by decide) rfl (fun ls hl => ?_)
  refine lv_goto (tgt := 79) hx hb dX10_hours_114 (by decide) ?_
  exact hk79 c_t_findings c_t_s c_t_shown (s1 + s0) (v3 + (1)) hF _ _ hP hD hS _ (lv_sub hl [2, 1, 0] rfl)
set_option maxHeartbeats 4000000 in
set_option maxRecDepth 100000 in
theorem wk_M_hours_b79 {p : Program} {l : Launch} {e : Env} {s : State} {m : MethodId} {args : Array Value} {below : List Frame} {meth : Method} {c : Code} {A : Nat → Prop} (E : kE) (h_t : Nat) (h_t_findings : Nat) (h_t_s : Nat) (h_t_shown : Nat) (x_t_kept : Nat) (x_t_before : Nat) (x_t_worths : Nat) (x_t_steps : Nat) (x_t_tape : Nat) (x_t_bits : Nat) (x_t_longs : Nat) (x_t_cells : Nat) (x_t_between : Nat) (c_t_isKept : Int32) (c_t_most : Int32) (c_t_taped : Int32) (c_t_here : Int32) (c_t_fault : Int32) (c_t_value : Int32) (a1 : Int32) {out : Int32 × (Nat → Int32) × (Nat → Int32) × (Nat → Int32)} (C : kC RX10 cX10_hours 4 (some .int) p s m args meth c) (hA : ∀ q : Nat, s.heap.size ≤ q → A q) (hK : va_K (eD E) vwCl (eT E) s) (hT : sT E A s s.heap)  :
    ∀ (n : Nat), ∀ (c_t_findings : (Nat → Int32)) (c_t_s : (Nat → Int32)) (c_t_shown : (Nat → Int32)) (v2 : Int32) (v3 : Int32), f_M_hours_b79  a1 n c_t_findings c_t_s c_t_shown v2 v3 = some out → ∀ (H : Heap) (locs : List Loc), va_P (eD E) vwCl (w_M_hours E h_t h_t_findings h_t_s h_t_shown x_t_kept x_t_before x_t_worths x_t_steps x_t_tape x_t_bits x_t_longs x_t_cells x_t_between c_t_isKept c_t_most c_t_taped c_t_here c_t_fault c_t_value c_t_findings c_t_s c_t_shown) H → va_D A (w_M_hours E h_t h_t_findings h_t_s h_t_shown x_t_kept x_t_before x_t_worths x_t_steps x_t_tape x_t_bits x_t_longs x_t_cells x_t_between c_t_isKept c_t_most c_t_taped c_t_here c_t_fault c_t_value c_t_findings c_t_s c_t_shown) → va_S A s.heap H locs → ∀ (ls : Array Slot), lv_has ls 4 [(0, .ref h_t), (2, .int v2), (3, .int v3)] → W p l e (rm 4) s m args below meth c H locs 0 0 (MQ below (qW (some (.int out.1)) E (w_M_hours E h_t h_t_findings h_t_s h_t_shown x_t_kept x_t_before x_t_worths x_t_steps x_t_tape x_t_bits x_t_longs x_t_cells x_t_between c_t_isKept c_t_most c_t_taped c_t_here c_t_fault c_t_value out.2.1 out.2.2.1 out.2.2.2) A) args s 0 0 A) (F0 m 79 ls []) := by
  obtain ⟨hx, hb, hr, hml, hown, hw, hlocks⟩ := id C
  intro n
  induction n with
  | zero =>
    intro c_t_findings c_t_s c_t_shown v2 v3 hF
    exact absurd (show (none : Option (Int32 × (Nat → Int32) × (Nat → Int32) × (Nat → Int32))) = some out from hF) nofun
  | succ n ih =>
    intro c_t_findings c_t_s c_t_shown v2 v3 hF H locs hP hD hS ls hl
    rw [f_M_hours_b79] at hF
    refine lv_iload_n hx hb dX10_hours_79 rfl (lv_at hl 2 rfl) ?_
    refine lv_aload_n hx hb dX10_hours_80 rfl (lv_at hl 0 rfl) ?_
    refine va_get (D := eD E) (ci := 8) (C := RX10) (T := TX10) (N := 18) (v := .ref h_t_s) hx hb hw inX10 hown hK hP 0 rfl rfl 0 (by decide) (hw _ mw_881) (fun _ h9 => h9) rfl dX10_hours_81 ?_
    refine lv_iconst (v := (2 : Int32)) hx hb dX10_hours_84 (by decide) ?_
    obtain ⟨r1, er1, hF⟩ := kb hF
    refine wa_iald hx hb hK hP 2 0 rfl rfl er1 dX10_hours_85 ?_
    refine lv_icmp_ge (tgt := 117) hx hb dX10_hours_86 (by decide) (fun q2 => ?_) (fun q2 => ?_)
    · have hF := kp hF q2
      refine lv_iload_n hx hb dX10_hours_117 rfl (lv_at hl 1 rfl) ?_
      obtain rfl := Option.some.inj hF
      exact W.iret hx hb hr (fun t ht hW => ⟨⟨rfl, by rw [ht]; exact hP, hD⟩, hS.F ht⟩) hS.2.2 dX10_hours_118
    · have hF := kn hF q2
      refine lv_iload_n hx hb dX10_hours_89 rfl (lv_at hl 1 rfl) ?_
      refine lv_aload_n hx hb dX10_hours_90 rfl (lv_at hl 0 rfl) ?_
      refine lv_iload_n hx hb dX10_hours_91 rfl (lv_at hl 2 rfl) ?_
      obtain ⟨r3, er3, hF⟩ := kb hF
      refine kRV (rest := [.int v2]) C (k_M_shows l E h_t h_t_s x_t_kept x_t_before h_t_findings h_t_shown x_t_worths x_t_steps x_t_tape x_t_bits x_t_longs x_t_cells x_t_between c_t_isKept c_t_most c_t_taped c_t_here c_t_fault c_t_value c_t_s v3 r3 er3) fn_M_shows mw_1103 ⟨Nat.le_of_ble_eq_true rfl, Nat.le_of_ble_eq_true rfl⟩ hK hT hS (va_recv hK hP (ci := 8) (q0 := 0) rfl rfl) hP [0, 2] rfl rfl rfl hl (Nat.le_of_ble_eq_true rfl) dX10_hours_92 ?_
      refine lv_aload_n hx hb dX10_hours_95 rfl (lv_at hl 0 rfl) ?_
      refine va_get (D := eD E) (ci := 8) (C := RX10) (T := TX10) (N := 18) (v := .ref h_t_shown) hx hb hw inX10 hown hK hP 0 rfl rfl 5 (by decide) (hw _ mw_886) (fun _ h9 => h9) rfl dX10_hours_96 ?_
      refine lv_iload_n hx hb dX10_hours_99 rfl (lv_at hl 2 rfl) ?_
      obtain ⟨r4, er4, hF⟩ := kb hF
      refine wa_iald hx hb hK hP 3 0 rfl rfl er4 dX10_hours_100 ?_
      refine lv_icmp_eq (tgt := 108) hx hb dX10_hours_101 (by decide) (fun q5 => ?_) (fun q5 => ?_)
      · have hF := kp hF q5
        refine lv_iconst (v := (0 : Int32)) hx hb dX10_hours_108 (by decide) ?_
        exact wk_M_hours_b109 E h_t h_t_findings h_t_s h_t_shown x_t_kept x_t_before x_t_worths x_t_steps x_t_tape x_t_bits x_t_longs x_t_cells x_t_between c_t_isKept c_t_most c_t_taped c_t_here c_t_fault c_t_value a1 C hA  hK hT (f_M_hours_b79  a1 n) ih c_t_findings c_t_s c_t_shown v3 (0 : Int32) v2 hF _ _ hP hD hS _ (lv_sub hl [0, 2] rfl)
      · have hF := kn hF q5
        refine lv_iconst (v := (1 : Int32)) hx hb dX10_hours_104 (by decide) ?_
        refine lv_goto (tgt := 109) hx hb dX10_hours_105 (by decide) ?_
        exact wk_M_hours_b109 E h_t h_t_findings h_t_s h_t_shown x_t_kept x_t_before x_t_worths x_t_steps x_t_tape x_t_bits x_t_longs x_t_cells x_t_between c_t_isKept c_t_most c_t_taped c_t_here c_t_fault c_t_value a1 C hA  hK hT (f_M_hours_b79  a1 n) ih c_t_findings c_t_s c_t_shown v3 (1 : Int32) v2 hF _ _ hP hD hS _ (lv_sub hl [0, 2] rfl)
set_option maxHeartbeats 4000000 in
set_option maxRecDepth 100000 in
theorem wk_M_hours_b38 {p : Program} {l : Launch} {e : Env} {s : State} {m : MethodId} {args : Array Value} {below : List Frame} {meth : Method} {c : Code} {A : Nat → Prop} (E : kE) (h_t : Nat) (h_t_findings : Nat) (h_t_s : Nat) (h_t_shown : Nat) (x_t_kept : Nat) (x_t_before : Nat) (x_t_worths : Nat) (x_t_steps : Nat) (x_t_tape : Nat) (x_t_bits : Nat) (x_t_longs : Nat) (x_t_cells : Nat) (x_t_between : Nat) (c_t_isKept : Int32) (c_t_most : Int32) (c_t_taped : Int32) (c_t_here : Int32) (c_t_fault : Int32) (c_t_value : Int32) (a1 : Int32) {out : Int32 × (Nat → Int32) × (Nat → Int32) × (Nat → Int32)} (C : kC RX10 cX10_hours 4 (some .int) p s m args meth c) (hA : ∀ q : Nat, s.heap.size ≤ q → A q) (hK : va_K (eD E) vwCl (eT E) s) (hT : sT E A s s.heap)  :
    ∀ (n : Nat), ∀ (c_t_findings : (Nat → Int32)) (c_t_s : (Nat → Int32)) (c_t_shown : (Nat → Int32)) (v2 : Int32), f_M_hours_b38  a1 n c_t_findings c_t_s c_t_shown v2 = some out → ∀ (H : Heap) (locs : List Loc), va_P (eD E) vwCl (w_M_hours E h_t h_t_findings h_t_s h_t_shown x_t_kept x_t_before x_t_worths x_t_steps x_t_tape x_t_bits x_t_longs x_t_cells x_t_between c_t_isKept c_t_most c_t_taped c_t_here c_t_fault c_t_value c_t_findings c_t_s c_t_shown) H → va_D A (w_M_hours E h_t h_t_findings h_t_s h_t_shown x_t_kept x_t_before x_t_worths x_t_steps x_t_tape x_t_bits x_t_longs x_t_cells x_t_between c_t_isKept c_t_most c_t_taped c_t_here c_t_fault c_t_value c_t_findings c_t_s c_t_shown) → va_S A s.heap H locs → ∀ (ls : Array Slot), lv_has ls 4 [(0, .ref h_t), (1, .int a1), (2, .int v2)] → W p l e (rm 4) s m args below meth c H locs 0 0 (MQ below (qW (some (.int out.1)) E (w_M_hours E h_t h_t_findings h_t_s h_t_shown x_t_kept x_t_before x_t_worths x_t_steps x_t_tape x_t_bits x_t_longs x_t_cells x_t_between c_t_isKept c_t_most c_t_taped c_t_here c_t_fault c_t_value out.2.1 out.2.2.1 out.2.2.2) A) args s 0 0 A) (F0 m 38 ls []) := by
  obtain ⟨hx, hb, hr, hml, hown, hw, hlocks⟩ := id C
  intro n
  induction n with
  | zero =>
    intro c_t_findings c_t_s c_t_shown v2 hF
    exact absurd (show (none : Option (Int32 × (Nat → Int32) × (Nat → Int32) × (Nat → Int32))) = some out from hF) nofun
  | succ n ih =>
    intro c_t_findings c_t_s c_t_shown v2 hF H locs hP hD hS ls hl
    rw [f_M_hours_b38] at hF
    refine lv_iload_n hx hb dX10_hours_38 rfl (lv_at hl 2 rfl) ?_
    refine lv_aload_n hx hb dX10_hours_39 rfl (lv_at hl 0 rfl) ?_
    refine va_get (D := eD E) (ci := 8) (C := RX10) (T := TX10) (N := 18) (v := .ref h_t_s) hx hb hw inX10 hown hK hP 0 rfl rfl 0 (by decide) (hw _ mw_881) (fun _ h9 => h9) rfl dX10_hours_40 ?_
    refine lv_iconst (v := (2 : Int32)) hx hb dX10_hours_43 (by decide) ?_
    obtain ⟨r6, er6, hF⟩ := kb hF
    refine wa_iald hx hb hK hP 2 0 rfl rfl er6 dX10_hours_44 ?_
    refine lv_icmp_ge (tgt := 65) hx hb dX10_hours_45 (by decide) (fun q7 => ?_) (fun q7 => ?_)
    · have hF := kp hF q7
      refine lv_aload_n hx hb dX10_hours_65 rfl (lv_at hl 0 rfl) ?_
      refine va_get (D := eD E) (ci := 8) (C := RX10) (T := TX10) (N := 18) (v := .ref h_t_s) hx hb hw inX10 hown hK hP 0 rfl rfl 0 (by decide) (hw _ mw_881) (fun _ h9 => h9) rfl dX10_hours_66 ?_
      refine lv_iconst (v := (0 : Int32)) hx hb dX10_hours_69 (by decide) ?_
      refine lv_dup2_11 hx hb dX10_hours_70 rfl rfl ?_
      obtain ⟨r8, er8, hF⟩ := kb hF
      refine wa_iald hx hb hK hP 2 0 rfl rfl er8 dX10_hours_71 ?_
      refine lv_iload_n hx hb dX10_hours_72 rfl (lv_at hl 1 rfl) ?_
      refine lv_iadd hx hb dX10_hours_73 ?_
      obtain ⟨r9, er9, hF⟩ := kb hF
      refine wa_iast hx hb hK hP hD hS 2 0 rfl rfl er9 dX10_hours_74 (fun H locs hP hD hS => ?_)
      have hP : va_P (eD E) vwCl (w_M_hours E h_t h_t_findings h_t_s h_t_shown x_t_kept x_t_before x_t_worths x_t_steps x_t_tape x_t_bits x_t_longs x_t_cells x_t_between c_t_isKept c_t_most c_t_taped c_t_here c_t_fault c_t_value c_t_findings r9 c_t_shown) H := hP
      have hD : va_D A (w_M_hours E h_t h_t_findings h_t_s h_t_shown x_t_kept x_t_before x_t_worths x_t_steps x_t_tape x_t_bits x_t_longs x_t_cells x_t_between c_t_isKept c_t_most c_t_taped c_t_here c_t_fault c_t_value c_t_findings r9 c_t_shown) := hD
      refine lv_iconst (v := (0 : Int32)) hx hb dX10_hours_75 (by decide) ?_
      refine lv_istore_n (lv' := [(2, .int (0 : Int32)), (0, .ref h_t), (1, .int a1)]) hx hb dX10_hours_76 rfl hl (by decide) rfl (fun ls hl => ?_)
      refine lv_iconst (v := (0 : Int32)) hx hb dX10_hours_77 (by decide) ?_
      refine lv_istore_n (lv' := [(3, .int (0 : Int32)), (2, .int (0 : Int32)), (0, .ref h_t), (1, .int a1)]) hx hb dX10_hours_78 rfl hl (by decide) rfl (fun ls hl => ?_)
      exact wk_M_hours_b79 E h_t h_t_findings h_t_s h_t_shown x_t_kept x_t_before x_t_worths x_t_steps x_t_tape x_t_bits x_t_longs x_t_cells x_t_between c_t_isKept c_t_most c_t_taped c_t_here c_t_fault c_t_value a1 C hA  hK hT  5000 c_t_findings r9 c_t_shown (0 : Int32) (0 : Int32) hF _ _ hP hD hS _ (lv_sub hl [2, 1, 0] rfl)
    · have hF := kn hF q7
      refine lv_aload_n hx hb dX10_hours_48 rfl (lv_at hl 0 rfl) ?_
      refine va_get (D := eD E) (ci := 8) (C := RX10) (T := TX10) (N := 18) (v := .ref h_t_shown) hx hb hw inX10 hown hK hP 0 rfl rfl 5 (by decide) (hw _ mw_886) (fun _ h9 => h9) rfl dX10_hours_49 ?_
      refine lv_iload_n hx hb dX10_hours_52 rfl (lv_at hl 2 rfl) ?_
      refine lv_aload_n hx hb dX10_hours_53 rfl (lv_at hl 0 rfl) ?_
      refine lv_iload_n hx hb dX10_hours_54 rfl (lv_at hl 2 rfl) ?_
      obtain ⟨r10, er10, hF⟩ := kb hF
      refine kRV (rest := [.int v2, .ref h_t_shown]) C (k_M_shows l E h_t h_t_s x_t_kept x_t_before h_t_findings h_t_shown x_t_worths x_t_steps x_t_tape x_t_bits x_t_longs x_t_cells x_t_between c_t_isKept c_t_most c_t_taped c_t_here c_t_fault c_t_value c_t_s v2 r10 er10) fn_M_shows mw_1103 ⟨Nat.le_of_ble_eq_true rfl, Nat.le_of_ble_eq_true rfl⟩ hK hT hS (va_recv hK hP (ci := 8) (q0 := 0) rfl rfl) hP [0, 2] rfl rfl rfl hl (Nat.le_of_ble_eq_true rfl) dX10_hours_55 ?_
      obtain ⟨r11, er11, hF⟩ := kb hF
      refine wa_iast hx hb hK hP hD hS 3 0 rfl rfl er11 dX10_hours_58 (fun H locs hP hD hS => ?_)
      have hP : va_P (eD E) vwCl (w_M_hours E h_t h_t_findings h_t_s h_t_shown x_t_kept x_t_before x_t_worths x_t_steps x_t_tape x_t_bits x_t_longs x_t_cells x_t_between c_t_isKept c_t_most c_t_taped c_t_here c_t_fault c_t_value c_t_findings c_t_s r11) H := hP
      have hD : va_D A (w_M_hours E h_t h_t_findings h_t_s h_t_shown x_t_kept x_t_before x_t_worths x_t_steps x_t_tape x_t_bits x_t_longs x_t_cells x_t_between c_t_isKept c_t_most c_t_taped c_t_here c_t_fault c_t_value c_t_findings c_t_s r11) := hD
      refine lv_iinc (v := (v2 + (1))) (lv' := [(2, .int (v2 + (1))), (0, .ref h_t), (1, .int a1)]) hx hb dX10_hours_59 hl (k := 2) rfl rfl (by decide) rfl (fun ls hl => ?_)
      refine lv_goto (tgt := 38) hx hb dX10_hours_62 (by decide) ?_
      exact ih c_t_findings c_t_s r11 (v2 + (1)) hF _ _ hP hD hS _ (lv_sub hl [1, 2, 0] rfl)
set_option maxHeartbeats 4000000 in
set_option maxRecDepth 100000 in
theorem k_M_hours (l : Launch) (E : kE) (h_t : Nat) (h_t_findings : Nat) (h_t_s : Nat) (h_t_shown : Nat) (x_t_kept : Nat) (x_t_before : Nat) (x_t_worths : Nat) (x_t_steps : Nat) (x_t_tape : Nat) (x_t_bits : Nat) (x_t_longs : Nat) (x_t_cells : Nat) (x_t_between : Nat) (sz : Nat) (c_t_isKept : Int32) (c_t_most : Int32) (c_t_taped : Int32) (c_t_here : Int32) (c_t_fault : Int32) (c_t_value : Int32) (c_t_findings : (Nat → Int32)) (c_t_s : (Nat → Int32)) (c_t_shown : (Nat → Int32)) (a1 : Int32) (out : Int32 × (Nat → Int32) × (Nat → Int32) × (Nat → Int32)) (hF : f_M_hours c_t_findings c_t_s c_t_shown a1 = some out) : Met l yX10_hours (Cond.code yX10_hours cX10_hours 4 (some .int) :: wG) (rm 4) (pW E (w_M_hours E h_t h_t_findings h_t_s h_t_shown x_t_kept x_t_before x_t_worths x_t_steps x_t_tape x_t_bits x_t_longs x_t_cells x_t_between c_t_isKept c_t_most c_t_taped c_t_here c_t_fault c_t_value c_t_findings c_t_s c_t_shown) sz [.ref h_t, .int a1]) (qW (some (.int out.1)) E (w_M_hours E h_t h_t_findings h_t_s h_t_shown x_t_kept x_t_before x_t_worths x_t_steps x_t_tape x_t_bits x_t_longs x_t_cells x_t_between c_t_isKept c_t_most c_t_taped c_t_here c_t_fault c_t_value out.2.1 out.2.2.1 out.2.2.2) (va_A (w_M_hours E h_t h_t_findings h_t_s h_t_shown x_t_kept x_t_before x_t_worths x_t_steps x_t_tape x_t_bits x_t_longs x_t_cells x_t_between c_t_isKept c_t_most c_t_taped c_t_here c_t_fault c_t_value c_t_findings c_t_s c_t_shown) sz)) 0 0 (va_A (w_M_hours E h_t h_t_findings h_t_s h_t_shown x_t_kept x_t_before x_t_worths x_t_steps x_t_tape x_t_bits x_t_longs x_t_cells x_t_between c_t_isKept c_t_most c_t_taped c_t_here c_t_fault c_t_value c_t_findings c_t_s c_t_shown) sz) := by
  refine met_W (by decide) (Nat.le_of_ble_eq_true rfl) ?_
  intro p e s m args below meth c A ls C hP hD hS hA hK hT hl
  obtain ⟨hx, hb, hr, hml, hown, hw, hlocks⟩ := id C
  have hl : lv_has ls 4 [(0, .ref h_t), (1, .int a1)] := hl
  rw [f_M_hours] at hF
  refine lv_iload_n hx hb dX10_hours_0 rfl (lv_at hl 1 rfl) ?_
  refine lv_iconst (v := (1 : Int32)) hx hb dX10_hours_1 (by decide) ?_
  refine lv_bipush (v := (99 : Int32)) hx hb dX10_hours_2 (by decide) ?_
  obtain ⟨r12, er12, hF⟩ := kb hF
  refine kRS (rest := []) C (k_M_in l E a1 (1 : Int32) (99 : Int32) r12 er12) fn_M_in mw_943 ⟨Nat.le_of_ble_eq_true rfl, Nat.le_of_ble_eq_true rfl⟩ hK hT hS hP [] rfl rfl rfl hl (Nat.le_of_ble_eq_true rfl) dX10_hours_4 ?_
  refine lv_if_ne (tgt := 16) hx hb dX10_hours_7 (by decide) (fun q13 => ?_) (fun q13 => ?_)
  · have hF := kn hF q13
    refine lv_aload_n hx hb dX10_hours_16 rfl (lv_at hl 0 rfl) ?_
    refine va_get (D := eD E) (ci := 8) (C := RX10) (T := TX10) (N := 18) (v := .ref h_t_s) hx hb hw inX10 hown hK hP 0 rfl rfl 0 (by decide) (hw _ mw_881) (fun _ h9 => h9) rfl dX10_hours_17 ?_
    refine lv_iconst (v := (0 : Int32)) hx hb dX10_hours_20 (by decide) ?_
    obtain ⟨r14, er14, hF⟩ := kb hF
    refine wa_iald hx hb hK hP 2 0 rfl rfl er14 dX10_hours_21 ?_
    refine lv_iload_n hx hb dX10_hours_22 rfl (lv_at hl 1 rfl) ?_
    refine lv_iadd hx hb dX10_hours_23 ?_
    refine lv_sipush (v := (999 : Int32)) hx hb dX10_hours_24 (by decide) ?_
    refine lv_icmp_le (tgt := 36) hx hb dX10_hours_27 (by decide) (fun q15 => ?_) (fun q15 => ?_)
    · have hF := kp hF q15
      refine lv_iconst (v := (0 : Int32)) hx hb dX10_hours_36 (by decide) ?_
      refine lv_istore_n (lv' := [(2, .int (0 : Int32)), (0, .ref h_t), (1, .int a1)]) hx hb dX10_hours_37 rfl hl (by decide) rfl (fun ls hl => ?_)
      exact wk_M_hours_b38 E h_t h_t_findings h_t_s h_t_shown x_t_kept x_t_before x_t_worths x_t_steps x_t_tape x_t_bits x_t_longs x_t_cells x_t_between c_t_isKept c_t_most c_t_taped c_t_here c_t_fault c_t_value a1 C hA  hK hT  5000 c_t_findings c_t_s c_t_shown (0 : Int32) hF _ _ hP hD hS _ (lv_sub hl [1, 2, 0] rfl)
    · have hF := kn hF q15
      refine lv_aload_n hx hb dX10_hours_30 rfl (lv_at hl 0 rfl) ?_
      refine lv_iconst (v := (4 : Int32)) hx hb dX10_hours_31 (by decide) ?_
      obtain ⟨r16, er16, hF⟩ := kb hF
      refine kWV (rest := []) (Wr := [(h_t_s, .inl (eI E, 65, .inl c_t_s)), (h_t_shown, .inl (eI E, 12, .inl c_t_shown))]) (Wn := (w_M_hours E h_t h_t_findings h_t_s h_t_shown x_t_kept x_t_before x_t_worths x_t_steps x_t_tape x_t_bits x_t_longs x_t_cells x_t_between c_t_isKept c_t_most c_t_taped c_t_here c_t_fault c_t_value r16.2 c_t_s c_t_shown)) C (k_M_no l E h_t h_t_findings h_t_s x_t_kept x_t_before h_t_shown x_t_worths x_t_steps x_t_tape x_t_bits x_t_longs x_t_cells x_t_between s.heap.size c_t_isKept c_t_most c_t_taped c_t_here c_t_fault c_t_value c_t_findings (4 : Int32) r16 er16) fn_M_no mw_964 ⟨Nat.le_of_ble_eq_true rfl, Nat.le_of_ble_eq_true rfl⟩ hK hT hS hA (va_recv hK hP (ci := 8) (q0 := 0) rfl rfl) hP hD [0, 1] rfl (by decide) [2, 3] rfl (by decide) (by decide) [2, 3, 0, 1] rfl (by decide) rfl rfl hl (Nat.le_of_ble_eq_true rfl) dX10_hours_32 (fun H locs hP hD hS => ?_)
      refine W.eq (g2 := F0 m 35 ls [.int r16.1]) rfl ?_
      obtain rfl := Option.some.inj hF
      exact W.iret hx hb hr (fun t ht hW => ⟨⟨rfl, by rw [ht]; exact hP, hD⟩, hS.F ht⟩) hS.2.2 dX10_hours_35
  · have hF := kp hF q13
    refine lv_aload_n hx hb dX10_hours_10 rfl (lv_at hl 0 rfl) ?_
    refine lv_iconst (v := (0 : Int32)) hx hb dX10_hours_11 (by decide) ?_
    obtain ⟨r17, er17, hF⟩ := kb hF
    refine kWV (rest := []) (Wr := [(h_t_s, .inl (eI E, 65, .inl c_t_s)), (h_t_shown, .inl (eI E, 12, .inl c_t_shown))]) (Wn := (w_M_hours E h_t h_t_findings h_t_s h_t_shown x_t_kept x_t_before x_t_worths x_t_steps x_t_tape x_t_bits x_t_longs x_t_cells x_t_between c_t_isKept c_t_most c_t_taped c_t_here c_t_fault c_t_value r17.2 c_t_s c_t_shown)) C (k_M_no l E h_t h_t_findings h_t_s x_t_kept x_t_before h_t_shown x_t_worths x_t_steps x_t_tape x_t_bits x_t_longs x_t_cells x_t_between s.heap.size c_t_isKept c_t_most c_t_taped c_t_here c_t_fault c_t_value c_t_findings (0 : Int32) r17 er17) fn_M_no mw_964 ⟨Nat.le_of_ble_eq_true rfl, Nat.le_of_ble_eq_true rfl⟩ hK hT hS hA (va_recv hK hP (ci := 8) (q0 := 0) rfl rfl) hP hD [0, 1] rfl (by decide) [2, 3] rfl (by decide) (by decide) [2, 3, 0, 1] rfl (by decide) rfl rfl hl (Nat.le_of_ble_eq_true rfl) dX10_hours_12 (fun H locs hP hD hS => ?_)
    refine W.eq (g2 := F0 m 15 ls [.int r17.1]) rfl ?_
    obtain rfl := Option.some.inj hF
    exact W.iret hx hb hr (fun t ht hW => ⟨⟨rfl, by rw [ht]; exact hP, hD⟩, hS.F ht⟩) hS.2.2 dX10_hours_15
abbrev w_M_isOther (E : kE) (h_t : Nat) (h_t_s : Nat) (x_t_kept : Nat) (x_t_before : Nat) (x_t_findings : Nat) (x_t_shown : Nat) (x_t_worths : Nat) (x_t_steps : Nat) (x_t_tape : Nat) (x_t_bits : Nat) (x_t_longs : Nat) (x_t_cells : Nat) (x_t_between : Nat) (c_t_isKept : Int32) (c_t_most : Int32) (c_t_taped : Int32) (c_t_here : Int32) (c_t_fault : Int32) (c_t_value : Int32) (c_t_s : (Nat → Int32)) : va_W := [(h_t, .inr (8, [.ref h_t_s, .ref x_t_kept, .ref x_t_before, .int c_t_isKept, .ref x_t_findings, .ref x_t_shown, .int c_t_most, .ref x_t_worths, .ref x_t_steps, .ref x_t_tape, .int c_t_taped, .int c_t_here, .int c_t_fault, .int c_t_value, .ref x_t_bits, .ref x_t_longs, .ref x_t_cells, .ref x_t_between])), (h_t_s, .inl (eI E, 65, .inl c_t_s))]
set_option maxHeartbeats 4000000 in
set_option maxRecDepth 100000 in
theorem k_M_isOther (l : Launch) (E : kE) (h_t : Nat) (h_t_s : Nat) (x_t_kept : Nat) (x_t_before : Nat) (x_t_findings : Nat) (x_t_shown : Nat) (x_t_worths : Nat) (x_t_steps : Nat) (x_t_tape : Nat) (x_t_bits : Nat) (x_t_longs : Nat) (x_t_cells : Nat) (x_t_between : Nat) (c_t_isKept : Int32) (c_t_most : Int32) (c_t_taped : Int32) (c_t_here : Int32) (c_t_fault : Int32) (c_t_value : Int32) (c_t_s : (Nat → Int32)) (a1 : Int32) (out : Int32) (hF : f_M_isOther c_t_s a1 = some out) : Met l yX10_isOther (Cond.code yX10_isOther cX10_isOther 2 (some .boolean) :: wG) (rm 4) (pR E (w_M_isOther E h_t h_t_s x_t_kept x_t_before x_t_findings x_t_shown x_t_worths x_t_steps x_t_tape x_t_bits x_t_longs x_t_cells x_t_between c_t_isKept c_t_most c_t_taped c_t_here c_t_fault c_t_value c_t_s) [.ref h_t, .int a1]) (qR (.int out)) 0 0 (fun _ => False) := by
  refine met_R (by decide) (Nat.le_of_ble_eq_true rfl) ?_
  intro p e s m args below meth c ls C hP hK hT hl
  obtain ⟨hx, hb, hr, hml, hown, hw, hlocks⟩ := id C
  have hS : va_S (fun _ => False) s.heap s.heap [] := va_S.rf
  have hl : lv_has ls 2 [(0, .ref h_t), (1, .int a1)] := hl
  rw [f_M_isOther] at hF
  refine lv_aload_n hx hb dX10_isOther_0 rfl (lv_at hl 0 rfl) ?_
  refine lv_aload_n hx hb dX10_isOther_1 rfl (lv_at hl 0 rfl) ?_
  refine lv_iload_n hx hb dX10_isOther_2 rfl (lv_at hl 1 rfl) ?_
  obtain ⟨r1, er1, hF⟩ := kb hF
  refine kRV (rest := [.ref h_t]) C (k_M_shows l E h_t h_t_s x_t_kept x_t_before x_t_findings x_t_shown x_t_worths x_t_steps x_t_tape x_t_bits x_t_longs x_t_cells x_t_between c_t_isKept c_t_most c_t_taped c_t_here c_t_fault c_t_value c_t_s a1 r1 er1) fn_M_shows mw_1103 ⟨Nat.le_of_ble_eq_true rfl, Nat.le_of_ble_eq_true rfl⟩ hK hT hS (va_recv hK hP (ci := 8) (q0 := 0) rfl rfl) hP [0, 1] rfl rfl rfl hl (Nat.le_of_ble_eq_true rfl) dX10_isOther_3 ?_
  obtain ⟨r2, er2, hF⟩ := kb hF
  refine kRV (rest := []) C (k_M_readAs l E h_t h_t_s x_t_kept x_t_before x_t_findings x_t_shown x_t_worths x_t_steps x_t_tape x_t_bits x_t_longs x_t_cells x_t_between c_t_isKept c_t_most c_t_taped c_t_here c_t_fault c_t_value c_t_s r1 r2 er2) fn_M_readAs mw_1049 ⟨Nat.le_of_ble_eq_true rfl, Nat.le_of_ble_eq_true rfl⟩ hK hT hS (va_recv hK hP (ci := 8) (q0 := 0) rfl rfl) hP [0, 1] rfl rfl rfl hl (Nat.le_of_ble_eq_true rfl) dX10_isOther_6 ?_
  refine lv_aload_n hx hb dX10_isOther_9 rfl (lv_at hl 0 rfl) ?_
  refine lv_aload_n hx hb dX10_isOther_10 rfl (lv_at hl 0 rfl) ?_
  refine va_get (D := eD E) (ci := 8) (C := RX10) (T := TX10) (N := 18) (v := .ref h_t_s) hx hb hw inX10 hown hK hP 0 rfl rfl 0 (by decide) (hw _ mw_881) (fun _ h9 => h9) rfl dX10_isOther_11 ?_
  refine lv_aload_n hx hb dX10_isOther_14 rfl (lv_at hl 0 rfl) ?_
  refine lv_iload_n hx hb dX10_isOther_15 rfl (lv_at hl 1 rfl) ?_
  refine lv_iconst (v := (1 : Int32)) hx hb dX10_isOther_16 (by decide) ?_
  obtain ⟨r3, er3, hF⟩ := kb hF
  refine kRV (rest := [.ref h_t_s, .ref h_t, .int r2]) C (k_M_at l E h_t h_t_s x_t_kept x_t_before x_t_findings x_t_shown x_t_worths x_t_steps x_t_tape x_t_bits x_t_longs x_t_cells x_t_between c_t_isKept c_t_most c_t_taped c_t_here c_t_fault c_t_value a1 (1 : Int32) r3 er3) fn_M_at mw_1084 ⟨Nat.le_of_ble_eq_true rfl, Nat.le_of_ble_eq_true rfl⟩ hK hT hS (va_recv hK hP (ci := 8) (q0 := 0) rfl rfl) hP [0] rfl rfl rfl hl (Nat.le_of_ble_eq_true rfl) dX10_isOther_17 ?_
  obtain ⟨r4, er4, hF⟩ := kb hF
  refine wa_iald hx hb hK hP 1 0 rfl rfl er4 dX10_isOther_20 ?_
  obtain ⟨r5, er5, hF⟩ := kb hF
  refine kRV (rest := [.int r2]) C (k_M_readAs l E h_t h_t_s x_t_kept x_t_before x_t_findings x_t_shown x_t_worths x_t_steps x_t_tape x_t_bits x_t_longs x_t_cells x_t_between c_t_isKept c_t_most c_t_taped c_t_here c_t_fault c_t_value c_t_s r4 r5 er5) fn_M_readAs mw_1049 ⟨Nat.le_of_ble_eq_true rfl, Nat.le_of_ble_eq_true rfl⟩ hK hT hS (va_recv hK hP (ci := 8) (q0 := 0) rfl rfl) hP [0, 1] rfl rfl rfl hl (Nat.le_of_ble_eq_true rfl) dX10_isOther_21 ?_
  refine lv_icmp_eq (tgt := 31) hx hb dX10_isOther_24 (by decide) (fun q6 => ?_) (fun q6 => ?_)
  · have hF := kp hF q6
    refine lv_iconst (v := (0 : Int32)) hx hb dX10_isOther_31 (by decide) ?_
    obtain rfl := Option.some.inj hF
    exact W.zret (ty := .boolean) hx hb hr rfl (fun t ht hW => ⟨rfl, ht⟩) nofun dX10_isOther_32
  · have hF := kn hF q6
    refine lv_iconst (v := (1 : Int32)) hx hb dX10_isOther_27 (by decide) ?_
    refine lv_goto (tgt := 32) hx hb dX10_isOther_28 (by decide) ?_
    obtain rfl := Option.some.inj hF
    exact W.zret (ty := .boolean) hx hb hr rfl (fun t ht hW => ⟨rfl, ht⟩) nofun dX10_isOther_32
abbrev w_M_now (E : kE) (h_t : Nat) (h_t_findings : Nat) (h_t_s : Nat) (x_t_kept : Nat) (x_t_before : Nat) (x_t_shown : Nat) (x_t_worths : Nat) (x_t_steps : Nat) (x_t_tape : Nat) (x_t_bits : Nat) (x_t_longs : Nat) (x_t_cells : Nat) (x_t_between : Nat) (c_t_isKept : Int32) (c_t_most : Int32) (c_t_taped : Int32) (c_t_here : Int32) (c_t_fault : Int32) (c_t_value : Int32) (c_t_findings : (Nat → Int32)) (c_t_s : (Nat → Int32)) : va_W := [(h_t, .inr (8, [.ref h_t_s, .ref x_t_kept, .ref x_t_before, .int c_t_isKept, .ref h_t_findings, .ref x_t_shown, .int c_t_most, .ref x_t_worths, .ref x_t_steps, .ref x_t_tape, .int c_t_taped, .int c_t_here, .int c_t_fault, .int c_t_value, .ref x_t_bits, .ref x_t_longs, .ref x_t_cells, .ref x_t_between])), (h_t_findings, .inl (eI E, 7, .inl c_t_findings)), (h_t_s, .inl (eI E, 65, .inl c_t_s))]
set_option maxHeartbeats 4000000 in
set_option maxRecDepth 100000 in
theorem wk_M_now_b60 {p : Program} {l : Launch} {e : Env} {s : State} {m : MethodId} {args : Array Value} {below : List Frame} {meth : Method} {c : Code} {A : Nat → Prop} (E : kE) (h_t : Nat) (h_t_findings : Nat) (h_t_s : Nat) (x_t_kept : Nat) (x_t_before : Nat) (x_t_shown : Nat) (x_t_worths : Nat) (x_t_steps : Nat) (x_t_tape : Nat) (x_t_bits : Nat) (x_t_longs : Nat) (x_t_cells : Nat) (x_t_between : Nat) (c_t_isKept : Int32) (c_t_most : Int32) (c_t_taped : Int32) (c_t_here : Int32) (c_t_fault : Int32) (c_t_value : Int32) (c_t_s : (Nat → Int32)) (a1 : Int32) {out : Int32 × (Nat → Int32)} (C : kC RX10 cX10_now 5 (some .int) p s m args meth c) (hA : ∀ q : Nat, s.heap.size ≤ q → A q) (hK : va_K (eD E) vwCl (eT E) s) (hT : sT E A s s.heap) (k22 : (Nat → Int32) → Int32 → Int32 → Int32 → Option (Int32 × (Nat → Int32))) (hk22 : ∀ (c_t_findings : (Nat → Int32)) (v2 : Int32) (v3 : Int32) (v4 : Int32), k22 c_t_findings v2 v3 v4 = some out → ∀ (H : Heap) (locs : List Loc), va_P (eD E) vwCl (w_M_now E h_t h_t_findings h_t_s x_t_kept x_t_before x_t_shown x_t_worths x_t_steps x_t_tape x_t_bits x_t_longs x_t_cells x_t_between c_t_isKept c_t_most c_t_taped c_t_here c_t_fault c_t_value c_t_findings c_t_s) H → va_D A (w_M_now E h_t h_t_findings h_t_s x_t_kept x_t_before x_t_shown x_t_worths x_t_steps x_t_tape x_t_bits x_t_longs x_t_cells x_t_between c_t_isKept c_t_most c_t_taped c_t_here c_t_fault c_t_value c_t_findings c_t_s) → va_S A s.heap H locs → ∀ (ls : Array Slot), lv_has ls 5 [(0, .ref h_t), (1, .int a1), (2, .int v2), (3, .int v3), (4, .int v4)] → W p l e (rm 10) s m args below meth c H locs 0 0 (MQ below (qW (some (.int out.1)) E (w_M_now E h_t h_t_findings h_t_s x_t_kept x_t_before x_t_shown x_t_worths x_t_steps x_t_tape x_t_bits x_t_longs x_t_cells x_t_between c_t_isKept c_t_most c_t_taped c_t_here c_t_fault c_t_value out.2 c_t_s) A) args s 0 0 A) (F0 m 22 ls [])) :
    ∀ (c_t_findings : (Nat → Int32)) (v2 : Int32) (v4 : Int32) (s0 : Int32) (s1 : Int32), f_M_now_b60 k22 c_t_s a1 c_t_findings v2 v4 s0 s1 = some out → ∀ (H : Heap) (locs : List Loc), va_P (eD E) vwCl (w_M_now E h_t h_t_findings h_t_s x_t_kept x_t_before x_t_shown x_t_worths x_t_steps x_t_tape x_t_bits x_t_longs x_t_cells x_t_between c_t_isKept c_t_most c_t_taped c_t_here c_t_fault c_t_value c_t_findings c_t_s) H → va_D A (w_M_now E h_t h_t_findings h_t_s x_t_kept x_t_before x_t_shown x_t_worths x_t_steps x_t_tape x_t_bits x_t_longs x_t_cells x_t_between c_t_isKept c_t_most c_t_taped c_t_here c_t_fault c_t_value c_t_findings c_t_s) → va_S A s.heap H locs → ∀ (ls : Array Slot), lv_has ls 5 [(0, .ref h_t), (1, .int a1), (2, .int v2), (4, .int v4)] → W p l e (rm 10) s m args below meth c H locs 0 0 (MQ below (qW (some (.int out.1)) E (w_M_now E h_t h_t_findings h_t_s x_t_kept x_t_before x_t_shown x_t_worths x_t_steps x_t_tape x_t_bits x_t_longs x_t_cells x_t_between c_t_isKept c_t_most c_t_taped c_t_here c_t_fault c_t_value out.2 c_t_s) A) args s 0 0 A) (F0 m 60 ls [.int s0, .int s1]) := by
  obtain ⟨hx, hb, hr, hml, hown, hw, hlocks⟩ := id C
  intro c_t_findings v2 v4 s0 s1 hF H locs hP hD hS ls hl
  rw [f_M_now_b60] at hF
  refine lv_ior hx hb dX10_now_60 ?_
  refine lv_istore_n (lv' := [(3, .int (s1 ||| s0)), (0, .ref h_t), (1, .int a1), (2, .int v2), (4, .int v4)]) hx hb dX10_now_61 rfl hl (by decide) rfl (fun ls hl => ?_)
  refine lv_iinc (v := (v4 + (1))) (lv' := [(4, .int (v4 + (1))), (3, .int (s1 ||| s0)), (0, .ref h_t), (1, .int a1), (2, .int v2)]) hx hb dX10_now_62 hl (k := 4) rfl rfl (by decide) rfl (fun ls hl => ?_)
  refine lv_goto (tgt := 22) hx hb dX10_now_65 (by decide) ?_
  exact hk22 c_t_findings v2 (s1 ||| s0) (v4 + (1)) hF _ _ hP hD hS _ (lv_sub hl [2, 3, 4, 1, 0] rfl)
set_option maxHeartbeats 4000000 in
set_option maxRecDepth 100000 in
theorem wk_M_now_b22 {p : Program} {l : Launch} {e : Env} {s : State} {m : MethodId} {args : Array Value} {below : List Frame} {meth : Method} {c : Code} {A : Nat → Prop} (E : kE) (h_t : Nat) (h_t_findings : Nat) (h_t_s : Nat) (x_t_kept : Nat) (x_t_before : Nat) (x_t_shown : Nat) (x_t_worths : Nat) (x_t_steps : Nat) (x_t_tape : Nat) (x_t_bits : Nat) (x_t_longs : Nat) (x_t_cells : Nat) (x_t_between : Nat) (c_t_isKept : Int32) (c_t_most : Int32) (c_t_taped : Int32) (c_t_here : Int32) (c_t_fault : Int32) (c_t_value : Int32) (c_t_s : (Nat → Int32)) (a1 : Int32) {out : Int32 × (Nat → Int32)} (C : kC RX10 cX10_now 5 (some .int) p s m args meth c) (hA : ∀ q : Nat, s.heap.size ≤ q → A q) (hK : va_K (eD E) vwCl (eT E) s) (hT : sT E A s s.heap)  :
    ∀ (n : Nat), ∀ (c_t_findings : (Nat → Int32)) (v2 : Int32) (v3 : Int32) (v4 : Int32), f_M_now_b22  c_t_s a1 n c_t_findings v2 v3 v4 = some out → ∀ (H : Heap) (locs : List Loc), va_P (eD E) vwCl (w_M_now E h_t h_t_findings h_t_s x_t_kept x_t_before x_t_shown x_t_worths x_t_steps x_t_tape x_t_bits x_t_longs x_t_cells x_t_between c_t_isKept c_t_most c_t_taped c_t_here c_t_fault c_t_value c_t_findings c_t_s) H → va_D A (w_M_now E h_t h_t_findings h_t_s x_t_kept x_t_before x_t_shown x_t_worths x_t_steps x_t_tape x_t_bits x_t_longs x_t_cells x_t_between c_t_isKept c_t_most c_t_taped c_t_here c_t_fault c_t_value c_t_findings c_t_s) → va_S A s.heap H locs → ∀ (ls : Array Slot), lv_has ls 5 [(0, .ref h_t), (1, .int a1), (2, .int v2), (3, .int v3), (4, .int v4)] → W p l e (rm 10) s m args below meth c H locs 0 0 (MQ below (qW (some (.int out.1)) E (w_M_now E h_t h_t_findings h_t_s x_t_kept x_t_before x_t_shown x_t_worths x_t_steps x_t_tape x_t_bits x_t_longs x_t_cells x_t_between c_t_isKept c_t_most c_t_taped c_t_here c_t_fault c_t_value out.2 c_t_s) A) args s 0 0 A) (F0 m 22 ls []) := by
  obtain ⟨hx, hb, hr, hml, hown, hw, hlocks⟩ := id C
  intro n
  induction n with
  | zero =>
    intro c_t_findings v2 v3 v4 hF
    exact absurd (show (none : Option (Int32 × (Nat → Int32))) = some out from hF) nofun
  | succ n ih =>
    intro c_t_findings v2 v3 v4 hF H locs hP hD hS ls hl
    rw [f_M_now_b22] at hF
    refine lv_iload hx hb dX10_now_22 (lv_at hl 4 rfl) ?_
    refine lv_aload_n hx hb dX10_now_24 rfl (lv_at hl 0 rfl) ?_
    refine va_get (D := eD E) (ci := 8) (C := RX10) (T := TX10) (N := 18) (v := .ref h_t_s) hx hb hw inX10 hown hK hP 0 rfl rfl 0 (by decide) (hw _ mw_881) (fun _ h9 => h9) rfl dX10_now_25 ?_
    refine lv_iconst (v := (2 : Int32)) hx hb dX10_now_28 (by decide) ?_
    obtain ⟨r1, er1, hF⟩ := kb hF
    refine wa_iald hx hb hK hP 2 0 rfl rfl er1 dX10_now_29 ?_
    refine lv_icmp_ge (tgt := 68) hx hb dX10_now_30 (by decide) (fun q2 => ?_) (fun q2 => ?_)
    · have hF := kp hF q2
      refine lv_iload_n hx hb dX10_now_68 rfl (lv_at hl 1 rfl) ?_
      refine lv_iconst (v := (2 : Int32)) hx hb dX10_now_69 (by decide) ?_
      refine lv_icmp_ge (tgt := 82) hx hb dX10_now_70 (by decide) (fun q3 => ?_) (fun q3 => ?_)
      · have hF := kp hF q3
        refine lv_iload_n hx hb dX10_now_82 rfl (lv_at hl 1 rfl) ?_
        refine lv_iconst (v := (2 : Int32)) hx hb dX10_now_83 (by decide) ?_
        refine lv_icmp_ne (tgt := 91) hx hb dX10_now_84 (by decide) (fun q4 => ?_) (fun q4 => ?_)
        · have hF := kn hF q4
          refine lv_iload_n hx hb dX10_now_91 rfl (lv_at hl 3 rfl) ?_
          obtain rfl := Option.some.inj hF
          exact W.iret hx hb hr (fun t ht hW => ⟨⟨rfl, by rw [ht]; exact hP, hD⟩, hS.F ht⟩) hS.2.2 dX10_now_92
        · have hF := kp hF q4
          refine lv_iload_n hx hb dX10_now_87 rfl (lv_at hl 2 rfl) ?_
          refine lv_goto (tgt := 92) hx hb dX10_now_88 (by decide) ?_
          obtain rfl := Option.some.inj hF
          exact W.iret hx hb hr (fun t ht hW => ⟨⟨rfl, by rw [ht]; exact hP, hD⟩, hS.F ht⟩) hS.2.2 dX10_now_92
      · have hF := kn hF q3
        refine lv_aload_n hx hb dX10_now_73 rfl (lv_at hl 0 rfl) ?_
        refine va_get (D := eD E) (ci := 8) (C := RX10) (T := TX10) (N := 18) (v := .ref h_t_s) hx hb hw inX10 hown hK hP 0 rfl rfl 0 (by decide) (hw _ mw_881) (fun _ h9 => h9) rfl dX10_now_74 ?_
        refine lv_iload_n hx hb dX10_now_77 rfl (lv_at hl 1 rfl) ?_
        obtain ⟨r5, er5, hF⟩ := kb hF
        refine wa_iald hx hb hK hP 2 0 rfl rfl er5 dX10_now_78 ?_
        refine lv_goto (tgt := 92) hx hb dX10_now_79 (by decide) ?_
        obtain rfl := Option.some.inj hF
        exact W.iret hx hb hr (fun t ht hW => ⟨⟨rfl, by rw [ht]; exact hP, hD⟩, hS.F ht⟩) hS.2.2 dX10_now_92
    · have hF := kn hF q2
      refine lv_iload_n hx hb dX10_now_33 rfl (lv_at hl 2 rfl) ?_
      refine lv_aload_n hx hb dX10_now_34 rfl (lv_at hl 0 rfl) ?_
      refine lv_iload hx hb dX10_now_35 (lv_at hl 4 rfl) ?_
      obtain ⟨r6, er6, hF⟩ := kb hF
      refine kRV (rest := [.int v2]) C (k_M_feet l E h_t h_t_s x_t_kept x_t_before h_t_findings x_t_shown x_t_worths x_t_steps x_t_tape x_t_bits x_t_longs x_t_cells x_t_between c_t_isKept c_t_most c_t_taped c_t_here c_t_fault c_t_value c_t_s v4 r6 er6) fn_M_feet mw_1107 ⟨Nat.le_of_ble_eq_true rfl, Nat.le_of_ble_eq_true rfl⟩ hK hT hS (va_recv hK hP (ci := 8) (q0 := 0) rfl rfl) hP [0, 2] rfl rfl rfl hl (Nat.le_of_ble_eq_true rfl) dX10_now_37 ?_
      refine lv_iadd hx hb dX10_now_40 ?_
      refine lv_istore_n (lv' := [(2, .int (v2 + r6)), (0, .ref h_t), (1, .int a1), (3, .int v3), (4, .int v4)]) hx hb dX10_now_41 rfl hl (by decide) rfl (fun ls hl => ?_)
      refine lv_iload_n hx hb dX10_now_42 rfl (lv_at hl 3 rfl) ?_
      refine lv_aload_n hx hb dX10_now_43 rfl (lv_at hl 1 rfl) ?_
      refine lv_iload hx hb dX10_now_44 (lv_at hl 4 rfl) ?_
      obtain ⟨r7, er7, hF⟩ := kb hF
      refine kRV (rest := [.int v3]) C (k_M_isOther l E h_t h_t_s x_t_kept x_t_before h_t_findings x_t_shown x_t_worths x_t_steps x_t_tape x_t_bits x_t_longs x_t_cells x_t_between c_t_isKept c_t_most c_t_taped c_t_here c_t_fault c_t_value c_t_s v4 r7 er7) fn_M_isOther mw_1141 ⟨Nat.le_of_ble_eq_true rfl, Nat.le_of_ble_eq_true rfl⟩ hK hT hS (va_recv hK hP (ci := 8) (q0 := 0) rfl rfl) hP [0, 2] rfl rfl rfl hl (Nat.le_of_ble_eq_true rfl) dX10_now_46 ?_
      refine lv_if_eq (tgt := 59) hx hb dX10_now_49 (by decide) (fun q8 => ?_) (fun q8 => ?_)
      · have hF := kp hF q8
        refine lv_iconst (v := (0 : Int32)) hx hb dX10_now_59 (by decide) ?_
        exact wk_M_now_b60 E h_t h_t_findings h_t_s x_t_kept x_t_before x_t_shown x_t_worths x_t_steps x_t_tape x_t_bits x_t_longs x_t_cells x_t_between c_t_isKept c_t_most c_t_taped c_t_here c_t_fault c_t_value c_t_s a1 C hA  hK hT (f_M_now_b22  c_t_s a1 n) ih c_t_findings (v2 + r6) v4 (0 : Int32) v3 hF _ _ hP hD hS _ (lv_sub hl [1, 2, 0, 4] rfl)
      · have hF := kn hF q8
        refine lv_iconst (v := (1 : Int32)) hx hb dX10_now_52 (by decide) ?_
        refine lv_iload hx hb dX10_now_53 (lv_at hl 4 rfl) ?_
        refine lv_ishl hx hb dX10_now_55 ?_
        refine lv_goto (tgt := 60) hx hb dX10_now_56 (by decide) ?_
        exact wk_M_now_b60 E h_t h_t_findings h_t_s x_t_kept x_t_before x_t_shown x_t_worths x_t_steps x_t_tape x_t_bits x_t_longs x_t_cells x_t_between c_t_isKept c_t_most c_t_taped c_t_here c_t_fault c_t_value c_t_s a1 C hA  hK hT (f_M_now_b22  c_t_s a1 n) ih c_t_findings (v2 + r6) v4 ((1 : Int32) <<< (v4 &&& 31)) v3 hF _ _ hP hD hS _ (lv_sub hl [1, 2, 0, 4] rfl)
set_option maxHeartbeats 4000000 in
set_option maxRecDepth 100000 in
theorem k_M_now (l : Launch) (E : kE) (h_t : Nat) (h_t_findings : Nat) (h_t_s : Nat) (x_t_kept : Nat) (x_t_before : Nat) (x_t_shown : Nat) (x_t_worths : Nat) (x_t_steps : Nat) (x_t_tape : Nat) (x_t_bits : Nat) (x_t_longs : Nat) (x_t_cells : Nat) (x_t_between : Nat) (sz : Nat) (c_t_isKept : Int32) (c_t_most : Int32) (c_t_taped : Int32) (c_t_here : Int32) (c_t_fault : Int32) (c_t_value : Int32) (c_t_findings : (Nat → Int32)) (c_t_s : (Nat → Int32)) (a1 : Int32) (out : Int32 × (Nat → Int32)) (hF : f_M_now c_t_findings c_t_s a1 = some out) : Met l yX10_now (Cond.code yX10_now cX10_now 5 (some .int) :: wG) (rm 10) (pW E (w_M_now E h_t h_t_findings h_t_s x_t_kept x_t_before x_t_shown x_t_worths x_t_steps x_t_tape x_t_bits x_t_longs x_t_cells x_t_between c_t_isKept c_t_most c_t_taped c_t_here c_t_fault c_t_value c_t_findings c_t_s) sz [.ref h_t, .int a1]) (qW (some (.int out.1)) E (w_M_now E h_t h_t_findings h_t_s x_t_kept x_t_before x_t_shown x_t_worths x_t_steps x_t_tape x_t_bits x_t_longs x_t_cells x_t_between c_t_isKept c_t_most c_t_taped c_t_here c_t_fault c_t_value out.2 c_t_s) (va_A (w_M_now E h_t h_t_findings h_t_s x_t_kept x_t_before x_t_shown x_t_worths x_t_steps x_t_tape x_t_bits x_t_longs x_t_cells x_t_between c_t_isKept c_t_most c_t_taped c_t_here c_t_fault c_t_value c_t_findings c_t_s) sz)) 0 0 (va_A (w_M_now E h_t h_t_findings h_t_s x_t_kept x_t_before x_t_shown x_t_worths x_t_steps x_t_tape x_t_bits x_t_longs x_t_cells x_t_between c_t_isKept c_t_most c_t_taped c_t_here c_t_fault c_t_value c_t_findings c_t_s) sz) := by
  refine met_W (by decide) (Nat.le_of_ble_eq_true rfl) ?_
  intro p e s m args below meth c A ls C hP hD hS hA hK hT hl
  obtain ⟨hx, hb, hr, hml, hown, hw, hlocks⟩ := id C
  have hl : lv_has ls 5 [(0, .ref h_t), (1, .int a1)] := hl
  rw [f_M_now] at hF
  refine lv_iload_n hx hb dX10_now_0 rfl (lv_at hl 1 rfl) ?_
  refine lv_iconst (v := (0 : Int32)) hx hb dX10_now_1 (by decide) ?_
  refine lv_iconst (v := (3 : Int32)) hx hb dX10_now_2 (by decide) ?_
  obtain ⟨r9, er9, hF⟩ := kb hF
  refine kRS (rest := []) C (k_M_in l E a1 (0 : Int32) (3 : Int32) r9 er9) fn_M_in mw_943 ⟨Nat.le_of_ble_eq_true rfl, Nat.le_of_ble_eq_true rfl⟩ hK hT hS hP [] rfl rfl rfl hl (Nat.le_of_ble_eq_true rfl) dX10_now_3 ?_
  refine lv_if_ne (tgt := 15) hx hb dX10_now_6 (by decide) (fun q10 => ?_) (fun q10 => ?_)
  · have hF := kn hF q10
    refine lv_iconst (v := (0 : Int32)) hx hb dX10_now_15 (by decide) ?_
    refine lv_istore_n (lv' := [(2, .int (0 : Int32)), (0, .ref h_t), (1, .int a1)]) hx hb dX10_now_16 rfl hl (by decide) rfl (fun ls hl => ?_)
    refine lv_iconst (v := (0 : Int32)) hx hb dX10_now_17 (by decide) ?_
    refine lv_istore_n (lv' := [(3, .int (0 : Int32)), (2, .int (0 : Int32)), (0, .ref h_t), (1, .int a1)]) hx hb dX10_now_18 rfl hl (by decide) rfl (fun ls hl => ?_)
    refine lv_iconst (v := (0 : Int32)) hx hb dX10_now_19 (by decide) ?_
    refine lv_istore (lv' := [(4, .int (0 : Int32)), (3, .int (0 : Int32)), (2, .int (0 : Int32)), (0, .ref h_t), (1, .int a1)]) hx hb dX10_now_20 hl (by decide) rfl (fun ls hl => ?_)
    exact wk_M_now_b22 E h_t h_t_findings h_t_s x_t_kept x_t_before x_t_shown x_t_worths x_t_steps x_t_tape x_t_bits x_t_longs x_t_cells x_t_between c_t_isKept c_t_most c_t_taped c_t_here c_t_fault c_t_value c_t_s a1 C hA  hK hT  5000 c_t_findings (0 : Int32) (0 : Int32) (0 : Int32) hF _ _ hP hD hS _ (lv_sub hl [3, 4, 2, 1, 0] rfl)
  · have hF := kp hF q10
    refine lv_aload_n hx hb dX10_now_9 rfl (lv_at hl 0 rfl) ?_
    refine lv_iconst (v := (0 : Int32)) hx hb dX10_now_10 (by decide) ?_
    obtain ⟨r11, er11, hF⟩ := kb hF
    refine kWV (rest := []) (Wr := [(h_t_s, .inl (eI E, 65, .inl c_t_s))]) (Wn := (w_M_now E h_t h_t_findings h_t_s x_t_kept x_t_before x_t_shown x_t_worths x_t_steps x_t_tape x_t_bits x_t_longs x_t_cells x_t_between c_t_isKept c_t_most c_t_taped c_t_here c_t_fault c_t_value r11.2 c_t_s)) C (k_M_no l E h_t h_t_findings h_t_s x_t_kept x_t_before x_t_shown x_t_worths x_t_steps x_t_tape x_t_bits x_t_longs x_t_cells x_t_between s.heap.size c_t_isKept c_t_most c_t_taped c_t_here c_t_fault c_t_value c_t_findings (0 : Int32) r11 er11) fn_M_no mw_964 ⟨Nat.le_of_ble_eq_true rfl, Nat.le_of_ble_eq_true rfl⟩ hK hT hS hA (va_recv hK hP (ci := 8) (q0 := 0) rfl rfl) hP hD [0, 1] rfl (by decide) [2] rfl (by decide) (by decide) [1, 2, 0] rfl (by decide) rfl rfl hl (Nat.le_of_ble_eq_true rfl) dX10_now_11 (fun H locs hP hD hS => ?_)
    refine W.eq (g2 := F0 m 14 ls [.int r11.1]) rfl ?_
    obtain rfl := Option.some.inj hF
    exact W.iret hx hb hr (fun t ht hW => ⟨⟨rfl, by rw [ht]; exact hP, hD⟩, hS.F ht⟩) hS.2.2 dX10_now_14
abbrev w_M_on (E : kE) (h_t : Nat) (h_t_findings : Nat) (h_t_s : Nat) (x_t_kept : Nat) (x_t_before : Nat) (x_t_shown : Nat) (x_t_worths : Nat) (x_t_steps : Nat) (x_t_tape : Nat) (x_t_bits : Nat) (x_t_longs : Nat) (x_t_cells : Nat) (x_t_between : Nat) (c_t_isKept : Int32) (c_t_most : Int32) (c_t_taped : Int32) (c_t_here : Int32) (c_t_fault : Int32) (c_t_value : Int32) (c_t_findings : (Nat → Int32)) (c_t_s : (Nat → Int32)) : va_W := [(h_t, .inr (8, [.ref h_t_s, .ref x_t_kept, .ref x_t_before, .int c_t_isKept, .ref h_t_findings, .ref x_t_shown, .int c_t_most, .ref x_t_worths, .ref x_t_steps, .ref x_t_tape, .int c_t_taped, .int c_t_here, .int c_t_fault, .int c_t_value, .ref x_t_bits, .ref x_t_longs, .ref x_t_cells, .ref x_t_between])), (h_t_findings, .inl (eI E, 7, .inl c_t_findings)), (h_t_s, .inl (eI E, 65, .inl c_t_s))]
set_option maxHeartbeats 4000000 in
set_option maxRecDepth 100000 in
theorem wk_M_on_b18 {p : Program} {l : Launch} {e : Env} {s : State} {m : MethodId} {args : Array Value} {below : List Frame} {meth : Method} {c : Code} {A : Nat → Prop} (E : kE) (h_t : Nat) (h_t_findings : Nat) (h_t_s : Nat) (x_t_kept : Nat) (x_t_before : Nat) (x_t_shown : Nat) (x_t_worths : Nat) (x_t_steps : Nat) (x_t_tape : Nat) (x_t_bits : Nat) (x_t_longs : Nat) (x_t_cells : Nat) (x_t_between : Nat) (c_t_isKept : Int32) (c_t_most : Int32) (c_t_taped : Int32) (c_t_here : Int32) (c_t_fault : Int32) (c_t_value : Int32) (a1 : Int32) (a2 : Int32) {out : Int32 × (Nat → Int32) × (Nat → Int32)} (C : kC RX10 cX10_on 4 (some .int) p s m args meth c) (hA : ∀ q : Nat, s.heap.size ≤ q → A q) (hK : va_K (eD E) vwCl (eT E) s) (hT : sT E A s s.heap)  :
    ∀ (c_t_findings : (Nat → Int32)) (c_t_s : (Nat → Int32)), f_M_on_b18  a1 a2 c_t_findings c_t_s = some out → ∀ (H : Heap) (locs : List Loc), va_P (eD E) vwCl (w_M_on E h_t h_t_findings h_t_s x_t_kept x_t_before x_t_shown x_t_worths x_t_steps x_t_tape x_t_bits x_t_longs x_t_cells x_t_between c_t_isKept c_t_most c_t_taped c_t_here c_t_fault c_t_value c_t_findings c_t_s) H → va_D A (w_M_on E h_t h_t_findings h_t_s x_t_kept x_t_before x_t_shown x_t_worths x_t_steps x_t_tape x_t_bits x_t_longs x_t_cells x_t_between c_t_isKept c_t_most c_t_taped c_t_here c_t_fault c_t_value c_t_findings c_t_s) → va_S A s.heap H locs → ∀ (ls : Array Slot), lv_has ls 4 [(0, .ref h_t)] → W p l e (rm 4) s m args below meth c H locs 0 0 (MQ below (qW (some (.int out.1)) E (w_M_on E h_t h_t_findings h_t_s x_t_kept x_t_before x_t_shown x_t_worths x_t_steps x_t_tape x_t_bits x_t_longs x_t_cells x_t_between c_t_isKept c_t_most c_t_taped c_t_here c_t_fault c_t_value out.2.1 out.2.2) A) args s 0 0 A) (F0 m 18 ls []) := by
  obtain ⟨hx, hb, hr, hml, hown, hw, hlocks⟩ := id C
  intro c_t_findings c_t_s hF H locs hP hD hS ls hl
  rw [f_M_on_b18] at hF
  refine lv_aload_n hx hb dX10_on_18 rfl (lv_at hl 0 rfl) ?_
  refine lv_iconst (v := (0 : Int32)) hx hb dX10_on_19 (by decide) ?_
  obtain ⟨r1, er1, hF⟩ := kb hF
  refine kWV (rest := []) (Wr := [(h_t_s, .inl (eI E, 65, .inl c_t_s))]) (Wn := (w_M_on E h_t h_t_findings h_t_s x_t_kept x_t_before x_t_shown x_t_worths x_t_steps x_t_tape x_t_bits x_t_longs x_t_cells x_t_between c_t_isKept c_t_most c_t_taped c_t_here c_t_fault c_t_value r1.2 c_t_s)) C (k_M_no l E h_t h_t_findings h_t_s x_t_kept x_t_before x_t_shown x_t_worths x_t_steps x_t_tape x_t_bits x_t_longs x_t_cells x_t_between H.size c_t_isKept c_t_most c_t_taped c_t_here c_t_fault c_t_value c_t_findings (0 : Int32) r1 er1) fn_M_no mw_964 ⟨Nat.le_of_ble_eq_true rfl, Nat.le_of_ble_eq_true rfl⟩ hK hT hS hA (va_recv hK hP (ci := 8) (q0 := 0) rfl rfl) hP hD [0, 1] rfl (by decide) [2] rfl (by decide) (by decide) [1, 2, 0] rfl (by decide) rfl rfl hl (Nat.le_of_ble_eq_true rfl) dX10_on_20 (fun H locs hP hD hS => ?_)
  refine W.eq (g2 := F0 m 23 ls [.int r1.1]) rfl ?_
  obtain rfl := Option.some.inj hF
  exact W.iret hx hb hr (fun t ht hW => ⟨⟨rfl, by rw [ht]; exact hP, hD⟩, hS.F ht⟩) hS.2.2 dX10_on_23
set_option maxHeartbeats 4000000 in
set_option maxRecDepth 100000 in
theorem k_M_on (l : Launch) (E : kE) (h_t : Nat) (h_t_findings : Nat) (h_t_s : Nat) (x_t_kept : Nat) (x_t_before : Nat) (x_t_shown : Nat) (x_t_worths : Nat) (x_t_steps : Nat) (x_t_tape : Nat) (x_t_bits : Nat) (x_t_longs : Nat) (x_t_cells : Nat) (x_t_between : Nat) (sz : Nat) (c_t_isKept : Int32) (c_t_most : Int32) (c_t_taped : Int32) (c_t_here : Int32) (c_t_fault : Int32) (c_t_value : Int32) (c_t_findings : (Nat → Int32)) (c_t_s : (Nat → Int32)) (a1 : Int32) (a2 : Int32) (out : Int32 × (Nat → Int32) × (Nat → Int32)) (hF : f_M_on c_t_findings c_t_s a1 a2 = some out) : Met l yX10_on (Cond.code yX10_on cX10_on 4 (some .int) :: wG) (rm 4) (pW E (w_M_on E h_t h_t_findings h_t_s x_t_kept x_t_before x_t_shown x_t_worths x_t_steps x_t_tape x_t_bits x_t_longs x_t_cells x_t_between c_t_isKept c_t_most c_t_taped c_t_here c_t_fault c_t_value c_t_findings c_t_s) sz [.ref h_t, .int a1, .int a2]) (qW (some (.int out.1)) E (w_M_on E h_t h_t_findings h_t_s x_t_kept x_t_before x_t_shown x_t_worths x_t_steps x_t_tape x_t_bits x_t_longs x_t_cells x_t_between c_t_isKept c_t_most c_t_taped c_t_here c_t_fault c_t_value out.2.1 out.2.2) (va_A (w_M_on E h_t h_t_findings h_t_s x_t_kept x_t_before x_t_shown x_t_worths x_t_steps x_t_tape x_t_bits x_t_longs x_t_cells x_t_between c_t_isKept c_t_most c_t_taped c_t_here c_t_fault c_t_value c_t_findings c_t_s) sz)) 0 0 (va_A (w_M_on E h_t h_t_findings h_t_s x_t_kept x_t_before x_t_shown x_t_worths x_t_steps x_t_tape x_t_bits x_t_longs x_t_cells x_t_between c_t_isKept c_t_most c_t_taped c_t_here c_t_fault c_t_value c_t_findings c_t_s) sz) := by
  refine met_W (by decide) (Nat.le_of_ble_eq_true rfl) ?_
  intro p e s m args below meth c A ls C hP hD hS hA hK hT hl
  obtain ⟨hx, hb, hr, hml, hown, hw, hlocks⟩ := id C
  have hl : lv_has ls 4 [(0, .ref h_t), (1, .int a1), (2, .int a2)] := hl
  rw [f_M_on] at hF
  refine lv_aload_n hx hb dX10_on_0 rfl (lv_at hl 0 rfl) ?_
  refine lv_iload_n hx hb dX10_on_1 rfl (lv_at hl 1 rfl) ?_
  obtain ⟨r2, er2, hF⟩ := kb hF
  refine kRV (rest := []) C (k_M_isLetter l E h_t h_t_s x_t_kept x_t_before h_t_findings x_t_shown x_t_worths x_t_steps x_t_tape x_t_bits x_t_longs x_t_cells x_t_between c_t_isKept c_t_most c_t_taped c_t_here c_t_fault c_t_value c_t_s a1 r2 er2) fn_M_isLetter mw_1092 ⟨Nat.le_of_ble_eq_true rfl, Nat.le_of_ble_eq_true rfl⟩ hK hT hS (va_recv hK hP (ci := 8) (q0 := 0) rfl rfl) hP [0, 2] rfl rfl rfl hl (Nat.le_of_ble_eq_true rfl) dX10_on_2 ?_
  refine lv_if_eq (tgt := 18) hx hb dX10_on_5 (by decide) (fun q3 => ?_) (fun q3 => ?_)
  · have hF := kp hF q3
    exact wk_M_on_b18 E h_t h_t_findings h_t_s x_t_kept x_t_before x_t_shown x_t_worths x_t_steps x_t_tape x_t_bits x_t_longs x_t_cells x_t_between c_t_isKept c_t_most c_t_taped c_t_here c_t_fault c_t_value a1 a2 C hA  hK hT  c_t_findings c_t_s hF _ _ hP hD hS _ (lv_sub hl [0] rfl)
  · have hF := kn hF q3
    refine lv_iload_n hx hb dX10_on_8 rfl (lv_at hl 2 rfl) ?_
    refine lv_iconst (v := (0 : Int32)) hx hb dX10_on_9 (by decide) ?_
    refine lv_bipush (v := (99 : Int32)) hx hb dX10_on_10 (by decide) ?_
    obtain ⟨r4, er4, hF⟩ := kb hF
    refine kRS (rest := []) C (k_M_in l E a2 (0 : Int32) (99 : Int32) r4 er4) fn_M_in mw_943 ⟨Nat.le_of_ble_eq_true rfl, Nat.le_of_ble_eq_true rfl⟩ hK hT hS hP [] rfl rfl rfl hl (Nat.le_of_ble_eq_true rfl) dX10_on_12 ?_
    refine lv_if_ne (tgt := 24) hx hb dX10_on_15 (by decide) (fun q5 => ?_) (fun q5 => ?_)
    · have hF := kn hF q5
      refine lv_aload_n hx hb dX10_on_24 rfl (lv_at hl 0 rfl) ?_
      refine va_get (D := eD E) (ci := 8) (C := RX10) (T := TX10) (N := 18) (v := .ref h_t_s) hx hb hw inX10 hown hK hP 0 rfl rfl 0 (by decide) (hw _ mw_881) (fun _ h9 => h9) rfl dX10_on_25 ?_
      refine lv_iconst (v := (0 : Int32)) hx hb dX10_on_28 (by decide) ?_
      obtain ⟨r6, er6, hF⟩ := kb hF
      refine wa_iald hx hb hK hP 2 0 rfl rfl er6 dX10_on_29 ?_
      refine lv_iload_n hx hb dX10_on_30 rfl (lv_at hl 2 rfl) ?_
      refine lv_iadd hx hb dX10_on_31 ?_
      refine lv_sipush (v := (999 : Int32)) hx hb dX10_on_32 (by decide) ?_
      refine lv_icmp_le (tgt := 44) hx hb dX10_on_35 (by decide) (fun q7 => ?_) (fun q7 => ?_)
      · have hF := kp hF q7
        refine lv_aload_n hx hb dX10_on_44 rfl (lv_at hl 0 rfl) ?_
        refine va_get (D := eD E) (ci := 8) (C := RX10) (T := TX10) (N := 18) (v := .ref h_t_s) hx hb hw inX10 hown hK hP 0 rfl rfl 0 (by decide) (hw _ mw_881) (fun _ h9 => h9) rfl dX10_on_45 ?_
        refine lv_iconst (v := (0 : Int32)) hx hb dX10_on_48 (by decide) ?_
        refine lv_dup2_11 hx hb dX10_on_49 rfl rfl ?_
        obtain ⟨r8, er8, hF⟩ := kb hF
        refine wa_iald hx hb hK hP 2 0 rfl rfl er8 dX10_on_50 ?_
        refine lv_iload_n hx hb dX10_on_51 rfl (lv_at hl 2 rfl) ?_
        refine lv_iadd hx hb dX10_on_52 ?_
        obtain ⟨r9, er9, hF⟩ := kb hF
        refine wa_iast hx hb hK hP hD hS 2 0 rfl rfl er9 dX10_on_53 (fun H locs hP hD hS => ?_)
        have hP : va_P (eD E) vwCl (w_M_on E h_t h_t_findings h_t_s x_t_kept x_t_before x_t_shown x_t_worths x_t_steps x_t_tape x_t_bits x_t_longs x_t_cells x_t_between c_t_isKept c_t_most c_t_taped c_t_here c_t_fault c_t_value c_t_findings r9) H := hP
        have hD : va_D A (w_M_on E h_t h_t_findings h_t_s x_t_kept x_t_before x_t_shown x_t_worths x_t_steps x_t_tape x_t_bits x_t_longs x_t_cells x_t_between c_t_isKept c_t_most c_t_taped c_t_here c_t_fault c_t_value c_t_findings r9) := hD
        refine lv_aload_n hx hb dX10_on_54 rfl (lv_at hl 0 rfl) ?_
        refine lv_iload_n hx hb dX10_on_55 rfl (lv_at hl 1 rfl) ?_
        obtain ⟨r10, er10, hF⟩ := kb hF
        refine kRV (rest := []) C (k_M_shows l E h_t h_t_s x_t_kept x_t_before h_t_findings x_t_shown x_t_worths x_t_steps x_t_tape x_t_bits x_t_longs x_t_cells x_t_between c_t_isKept c_t_most c_t_taped c_t_here c_t_fault c_t_value r9 a1 r10 er10) fn_M_shows mw_1103 ⟨Nat.le_of_ble_eq_true rfl, Nat.le_of_ble_eq_true rfl⟩ hK hT hS (va_recv hK hP (ci := 8) (q0 := 0) rfl rfl) hP [0, 2] rfl rfl rfl hl (Nat.le_of_ble_eq_true rfl) dX10_on_56 ?_
        refine lv_istore_n (lv' := [(3, .int r10), (0, .ref h_t), (1, .int a1), (2, .int a2)]) hx hb dX10_on_59 rfl hl (by decide) rfl (fun ls hl => ?_)
        refine lv_aload_n hx hb dX10_on_60 rfl (lv_at hl 1 rfl) ?_
        refine va_get (D := eD E) (ci := 8) (C := RX10) (T := TX10) (N := 18) (v := .ref h_t_s) hx hb hw inX10 hown hK hP 0 rfl rfl 0 (by decide) (hw _ mw_881) (fun _ h9 => h9) rfl dX10_on_61 ?_
        refine lv_iconst (v := (0 : Int32)) hx hb dX10_on_64 (by decide) ?_
        refine lv_dup2_11 hx hb dX10_on_65 rfl rfl ?_
        obtain ⟨r11, er11, hF⟩ := kb hF
        refine wa_iald hx hb hK hP 2 0 rfl rfl er11 dX10_on_66 ?_
        refine lv_iload_n hx hb dX10_on_67 rfl (lv_at hl 3 rfl) ?_
        refine lv_isub hx hb dX10_on_68 ?_
        obtain ⟨r12, er12, hF⟩ := kb hF
        refine wa_iast hx hb hK hP hD hS 2 0 rfl rfl er12 dX10_on_69 (fun H locs hP hD hS => ?_)
        have hP : va_P (eD E) vwCl (w_M_on E h_t h_t_findings h_t_s x_t_kept x_t_before x_t_shown x_t_worths x_t_steps x_t_tape x_t_bits x_t_longs x_t_cells x_t_between c_t_isKept c_t_most c_t_taped c_t_here c_t_fault c_t_value c_t_findings r12) H := hP
        have hD : va_D A (w_M_on E h_t h_t_findings h_t_s x_t_kept x_t_before x_t_shown x_t_worths x_t_steps x_t_tape x_t_bits x_t_longs x_t_cells x_t_between c_t_isKept c_t_most c_t_taped c_t_here c_t_fault c_t_value c_t_findings r12) := hD
        refine lv_iload_n hx hb dX10_on_70 rfl (lv_at hl 0 rfl) ?_
        obtain rfl := Option.some.inj hF
        exact W.iret hx hb hr (fun t ht hW => ⟨⟨rfl, by rw [ht]; exact hP, hD⟩, hS.F ht⟩) hS.2.2 dX10_on_71
      · have hF := kn hF q7
        refine lv_aload_n hx hb dX10_on_38 rfl (lv_at hl 0 rfl) ?_
        refine lv_iconst (v := (4 : Int32)) hx hb dX10_on_39 (by decide) ?_
        obtain ⟨r13, er13, hF⟩ := kb hF
        refine kWV (rest := []) (Wr := [(h_t_s, .inl (eI E, 65, .inl c_t_s))]) (Wn := (w_M_on E h_t h_t_findings h_t_s x_t_kept x_t_before x_t_shown x_t_worths x_t_steps x_t_tape x_t_bits x_t_longs x_t_cells x_t_between c_t_isKept c_t_most c_t_taped c_t_here c_t_fault c_t_value r13.2 c_t_s)) C (k_M_no l E h_t h_t_findings h_t_s x_t_kept x_t_before x_t_shown x_t_worths x_t_steps x_t_tape x_t_bits x_t_longs x_t_cells x_t_between s.heap.size c_t_isKept c_t_most c_t_taped c_t_here c_t_fault c_t_value c_t_findings (4 : Int32) r13 er13) fn_M_no mw_964 ⟨Nat.le_of_ble_eq_true rfl, Nat.le_of_ble_eq_true rfl⟩ hK hT hS hA (va_recv hK hP (ci := 8) (q0 := 0) rfl rfl) hP hD [0, 1] rfl (by decide) [2] rfl (by decide) (by decide) [1, 2, 0] rfl (by decide) rfl rfl hl (Nat.le_of_ble_eq_true rfl) dX10_on_40 (fun H locs hP hD hS => ?_)
        refine W.eq (g2 := F0 m 43 ls [.int r13.1]) rfl ?_
        obtain rfl := Option.some.inj hF
        exact W.iret hx hb hr (fun t ht hW => ⟨⟨rfl, by rw [ht]; exact hP, hD⟩, hS.F ht⟩) hS.2.2 dX10_on_43
    · have hF := kp hF q5
      exact wk_M_on_b18 E h_t h_t_findings h_t_s x_t_kept x_t_before x_t_shown x_t_worths x_t_steps x_t_tape x_t_bits x_t_longs x_t_cells x_t_between c_t_isKept c_t_most c_t_taped c_t_here c_t_fault c_t_value a1 a2 C hA  hK hT  c_t_findings c_t_s hF _ _ hP hD hS _ (lv_sub hl [0] rfl)
abbrev w_M_when (E : kE) (h_t : Nat) (h_t_findings : Nat) (h_t_s : Nat) (x_t_kept : Nat) (x_t_before : Nat) (x_t_shown : Nat) (x_t_worths : Nat) (x_t_steps : Nat) (x_t_tape : Nat) (x_t_bits : Nat) (x_t_longs : Nat) (x_t_cells : Nat) (x_t_between : Nat) (c_t_isKept : Int32) (c_t_most : Int32) (c_t_taped : Int32) (c_t_here : Int32) (c_t_fault : Int32) (c_t_value : Int32) (c_t_findings : (Nat → Int32)) (c_t_s : (Nat → Int32)) : va_W := [(h_t, .inr (8, [.ref h_t_s, .ref x_t_kept, .ref x_t_before, .int c_t_isKept, .ref h_t_findings, .ref x_t_shown, .int c_t_most, .ref x_t_worths, .ref x_t_steps, .ref x_t_tape, .int c_t_taped, .int c_t_here, .int c_t_fault, .int c_t_value, .ref x_t_bits, .ref x_t_longs, .ref x_t_cells, .ref x_t_between])), (h_t_findings, .inl (eI E, 7, .inl c_t_findings)), (h_t_s, .inl (eI E, 65, .inl c_t_s))]
set_option maxHeartbeats 4000000 in
set_option maxRecDepth 100000 in
theorem wk_M_when_b86 {p : Program} {l : Launch} {e : Env} {s : State} {m : MethodId} {args : Array Value} {below : List Frame} {meth : Method} {c : Code} {A : Nat → Prop} (E : kE) (h_t : Nat) (h_t_findings : Nat) (h_t_s : Nat) (x_t_kept : Nat) (x_t_before : Nat) (x_t_shown : Nat) (x_t_worths : Nat) (x_t_steps : Nat) (x_t_tape : Nat) (x_t_bits : Nat) (x_t_longs : Nat) (x_t_cells : Nat) (x_t_between : Nat) (c_t_isKept : Int32) (c_t_most : Int32) (c_t_taped : Int32) (c_t_here : Int32) (c_t_fault : Int32) (c_t_value : Int32) (a1 : Int32) {out : Int32 × (Nat → Int32) × (Nat → Int32)} (C : kC RX10 cX10_when 5 (some .int) p s m args meth c) (hA : ∀ q : Nat, s.heap.size ≤ q → A q) (hK : va_K (eD E) vwCl (eT E) s) (hT : sT E A s s.heap)  :
    ∀ (c_t_findings : (Nat → Int32)) (c_t_s : (Nat → Int32)) (v2 : Int32) (v3 : Int32), f_M_when_b86  a1 c_t_findings c_t_s v2 v3 = some out → ∀ (H : Heap) (locs : List Loc), va_P (eD E) vwCl (w_M_when E h_t h_t_findings h_t_s x_t_kept x_t_before x_t_shown x_t_worths x_t_steps x_t_tape x_t_bits x_t_longs x_t_cells x_t_between c_t_isKept c_t_most c_t_taped c_t_here c_t_fault c_t_value c_t_findings c_t_s) H → va_D A (w_M_when E h_t h_t_findings h_t_s x_t_kept x_t_before x_t_shown x_t_worths x_t_steps x_t_tape x_t_bits x_t_longs x_t_cells x_t_between c_t_isKept c_t_most c_t_taped c_t_here c_t_fault c_t_value c_t_findings c_t_s) → va_S A s.heap H locs → ∀ (ls : Array Slot), lv_has ls 5 [(0, .ref h_t), (2, .int v2), (3, .int v3)] → W p l e (rm 5) s m args below meth c H locs 0 0 (MQ below (qW (some (.int out.1)) E (w_M_when E h_t h_t_findings h_t_s x_t_kept x_t_before x_t_shown x_t_worths x_t_steps x_t_tape x_t_bits x_t_longs x_t_cells x_t_between c_t_isKept c_t_most c_t_taped c_t_here c_t_fault c_t_value out.2.1 out.2.2) A) args s 0 0 A) (F0 m 86 ls []) := by
  obtain ⟨hx, hb, hr, hml, hown, hw, hlocks⟩ := id C
  intro c_t_findings c_t_s v2 v3 hF H locs hP hD hS ls hl
  rw [f_M_when_b86] at hF
  refine lv_aload_n hx hb dX10_when_86 rfl (lv_at hl 0 rfl) ?_
  refine va_get (D := eD E) (ci := 8) (C := RX10) (T := TX10) (N := 18) (v := .ref h_t_s) hx hb hw inX10 hown hK hP 0 rfl rfl 0 (by decide) (hw _ mw_881) (fun _ h9 => h9) rfl dX10_when_87 ?_
  refine lv_iconst (v := (0 : Int32)) hx hb dX10_when_90 (by decide) ?_
  refine lv_iload_n hx hb dX10_when_91 rfl (lv_at hl 1 rfl) ?_
  obtain ⟨r1, er1, hF⟩ := kb hF
  refine wa_iast hx hb hK hP hD hS 2 0 rfl rfl er1 dX10_when_92 (fun H locs hP hD hS => ?_)
  have hP : va_P (eD E) vwCl (w_M_when E h_t h_t_findings h_t_s x_t_kept x_t_before x_t_shown x_t_worths x_t_steps x_t_tape x_t_bits x_t_longs x_t_cells x_t_between c_t_isKept c_t_most c_t_taped c_t_here c_t_fault c_t_value c_t_findings r1) H := hP
  have hD : va_D A (w_M_when E h_t h_t_findings h_t_s x_t_kept x_t_before x_t_shown x_t_worths x_t_steps x_t_tape x_t_bits x_t_longs x_t_cells x_t_between c_t_isKept c_t_most c_t_taped c_t_here c_t_fault c_t_value c_t_findings r1) := hD
  refine lv_iload_n hx hb dX10_when_93 rfl (lv_at hl 2 rfl) ?_
  refine lv_if_ge (tgt := 105) hx hb dX10_when_94 (by decide) (fun q2 => ?_) (fun q2 => ?_)
  · have hF := kp hF q2
    refine lv_iload_n hx hb dX10_when_105 rfl (lv_at hl 2 rfl) ?_
    obtain rfl := Option.some.inj hF
    exact W.iret hx hb hr (fun t ht hW => ⟨⟨rfl, by rw [ht]; exact hP, hD⟩, hS.F ht⟩) hS.2.2 dX10_when_106
  · have hF := kn hF q2
    refine lv_aload_n hx hb dX10_when_97 rfl (lv_at hl 0 rfl) ?_
    refine lv_iconst (v := (3 : Int32)) hx hb dX10_when_98 (by decide) ?_
    obtain ⟨r3, er3, hF⟩ := kb hF
    refine kWV (rest := []) (Wr := [(h_t_s, .inl (eI E, 65, .inl r1))]) (Wn := (w_M_when E h_t h_t_findings h_t_s x_t_kept x_t_before x_t_shown x_t_worths x_t_steps x_t_tape x_t_bits x_t_longs x_t_cells x_t_between c_t_isKept c_t_most c_t_taped c_t_here c_t_fault c_t_value r3.2 r1)) C (k_M_no l E h_t h_t_findings h_t_s x_t_kept x_t_before x_t_shown x_t_worths x_t_steps x_t_tape x_t_bits x_t_longs x_t_cells x_t_between H.size c_t_isKept c_t_most c_t_taped c_t_here c_t_fault c_t_value c_t_findings (3 : Int32) r3 er3) fn_M_no mw_964 ⟨Nat.le_of_ble_eq_true rfl, Nat.le_of_ble_eq_true rfl⟩ hK hT hS hA (va_recv hK hP (ci := 8) (q0 := 0) rfl rfl) hP hD [0, 1] rfl (by decide) [2] rfl (by decide) (by decide) [1, 2, 0] rfl (by decide) rfl rfl hl (Nat.le_of_ble_eq_true rfl) dX10_when_99 (fun H locs hP hD hS => ?_)
    refine W.eq (g2 := F0 m 102 ls [.int r3.1]) rfl ?_
    refine lv_goto (tgt := 106) hx hb dX10_when_102 (by decide) ?_
    obtain rfl := Option.some.inj hF
    exact W.iret hx hb hr (fun t ht hW => ⟨⟨rfl, by rw [ht]; exact hP, hD⟩, hS.F ht⟩) hS.2.2 dX10_when_106
set_option maxHeartbeats 4000000 in
set_option maxRecDepth 100000 in
theorem wk_M_when_b79 {p : Program} {l : Launch} {e : Env} {s : State} {m : MethodId} {args : Array Value} {below : List Frame} {meth : Method} {c : Code} {A : Nat → Prop} (E : kE) (h_t : Nat) (h_t_findings : Nat) (h_t_s : Nat) (x_t_kept : Nat) (x_t_before : Nat) (x_t_shown : Nat) (x_t_worths : Nat) (x_t_steps : Nat) (x_t_tape : Nat) (x_t_bits : Nat) (x_t_longs : Nat) (x_t_cells : Nat) (x_t_between : Nat) (c_t_isKept : Int32) (c_t_most : Int32) (c_t_taped : Int32) (c_t_here : Int32) (c_t_fault : Int32) (c_t_value : Int32) (a1 : Int32) {out : Int32 × (Nat → Int32) × (Nat → Int32)} (C : kC RX10 cX10_when 5 (some .int) p s m args meth c) (hA : ∀ q : Nat, s.heap.size ≤ q → A q) (hK : va_K (eD E) vwCl (eT E) s) (hT : sT E A s s.heap) (k44 : (Nat → Int32) → (Nat → Int32) → Int32 → Int32 → Int32 → Option (Int32 × (Nat → Int32) × (Nat → Int32))) (hk44 : ∀ (c_t_findings : (Nat → Int32)) (c_t_s : (Nat → Int32)) (v2 : Int32) (v3 : Int32) (v4 : Int32), k44 c_t_findings c_t_s v2 v3 v4 = some out → ∀ (H : Heap) (locs : List Loc), va_P (eD E) vwCl (w_M_when E h_t h_t_findings h_t_s x_t_kept x_t_before x_t_shown x_t_worths x_t_steps x_t_tape x_t_bits x_t_longs x_t_cells x_t_between c_t_isKept c_t_most c_t_taped c_t_here c_t_fault c_t_value c_t_findings c_t_s) H → va_D A (w_M_when E h_t h_t_findings h_t_s x_t_kept x_t_before x_t_shown x_t_worths x_t_steps x_t_tape x_t_bits x_t_longs x_t_cells x_t_between c_t_isKept c_t_most c_t_taped c_t_here c_t_fault c_t_value c_t_findings c_t_s) → va_S A s.heap H locs → ∀ (ls : Array Slot), lv_has ls 5 [(0, .ref h_t), (1, .int a1), (2, .int v2), (3, .int v3), (4, .int v4)] → W p l e (rm 5) s m args below meth c H locs 0 0 (MQ below (qW (some (.int out.1)) E (w_M_when E h_t h_t_findings h_t_s x_t_kept x_t_before x_t_shown x_t_worths x_t_steps x_t_tape x_t_bits x_t_longs x_t_cells x_t_between c_t_isKept c_t_most c_t_taped c_t_here c_t_fault c_t_value out.2.1 out.2.2) A) args s 0 0 A) (F0 m 44 ls [])) :
    ∀ (c_t_findings : (Nat → Int32)) (c_t_s : (Nat → Int32)) (v2 : Int32) (v4 : Int32) (s0 : Int32), f_M_when_b79 k44 a1 c_t_findings c_t_s v2 v4 s0 = some out → ∀ (H : Heap) (locs : List Loc), va_P (eD E) vwCl (w_M_when E h_t h_t_findings h_t_s x_t_kept x_t_before x_t_shown x_t_worths x_t_steps x_t_tape x_t_bits x_t_longs x_t_cells x_t_between c_t_isKept c_t_most c_t_taped c_t_here c_t_fault c_t_value c_t_findings c_t_s) H → va_D A (w_M_when E h_t h_t_findings h_t_s x_t_kept x_t_before x_t_shown x_t_worths x_t_steps x_t_tape x_t_bits x_t_longs x_t_cells x_t_between c_t_isKept c_t_most c_t_taped c_t_here c_t_fault c_t_value c_t_findings c_t_s) → va_S A s.heap H locs → ∀ (ls : Array Slot), lv_has ls 5 [(0, .ref h_t), (1, .int a1), (2, .int v2), (4, .int v4)] → W p l e (rm 5) s m args below meth c H locs 0 0 (MQ below (qW (some (.int out.1)) E (w_M_when E h_t h_t_findings h_t_s x_t_kept x_t_before x_t_shown x_t_worths x_t_steps x_t_tape x_t_bits x_t_longs x_t_cells x_t_between c_t_isKept c_t_most c_t_taped c_t_here c_t_fault c_t_value out.2.1 out.2.2) A) args s 0 0 A) (F0 m 79 ls [.int s0]) := by
  obtain ⟨hx, hb, hr, hml, hown, hw, hlocks⟩ := id C
  intro c_t_findings c_t_s v2 v4 s0 hF H locs hP hD hS ls hl
  rw [f_M_when_b79] at hF
  refine lv_istore_n (lv' := [(3, .int s0), (0, .ref h_t), (1, .int a1), (2, .int v2), (4, .int v4)]) hx hb dX10_when_79 rfl hl (by decide) rfl (fun ls hl => ?_)
  refine lv_iinc (v := (v4 + (1))) (lv' := [(4, .int (v4 + (1))), (3, .int s0), (0, .ref h_t), (1, .int a1), (2, .int v2)]) hx hb dX10_when_80 hl (k := 4) rfl rfl (by decide) rfl (fun ls hl => ?_)
  refine lv_goto (tgt := 44) hx hb dX10_when_83 (by decide) ?_
  exact hk44 c_t_findings c_t_s v2 s0 (v4 + (1)) hF _ _ hP hD hS _ (lv_sub hl [2, 3, 4, 1, 0] rfl)
set_option maxHeartbeats 4000000 in
set_option maxRecDepth 100000 in
theorem wk_M_when_b44 {p : Program} {l : Launch} {e : Env} {s : State} {m : MethodId} {args : Array Value} {below : List Frame} {meth : Method} {c : Code} {A : Nat → Prop} (E : kE) (h_t : Nat) (h_t_findings : Nat) (h_t_s : Nat) (x_t_kept : Nat) (x_t_before : Nat) (x_t_shown : Nat) (x_t_worths : Nat) (x_t_steps : Nat) (x_t_tape : Nat) (x_t_bits : Nat) (x_t_longs : Nat) (x_t_cells : Nat) (x_t_between : Nat) (c_t_isKept : Int32) (c_t_most : Int32) (c_t_taped : Int32) (c_t_here : Int32) (c_t_fault : Int32) (c_t_value : Int32) (a1 : Int32) {out : Int32 × (Nat → Int32) × (Nat → Int32)} (C : kC RX10 cX10_when 5 (some .int) p s m args meth c) (hA : ∀ q : Nat, s.heap.size ≤ q → A q) (hK : va_K (eD E) vwCl (eT E) s) (hT : sT E A s s.heap)  :
    ∀ (n : Nat), ∀ (c_t_findings : (Nat → Int32)) (c_t_s : (Nat → Int32)) (v2 : Int32) (v3 : Int32) (v4 : Int32), f_M_when_b44  a1 n c_t_findings c_t_s v2 v3 v4 = some out → ∀ (H : Heap) (locs : List Loc), va_P (eD E) vwCl (w_M_when E h_t h_t_findings h_t_s x_t_kept x_t_before x_t_shown x_t_worths x_t_steps x_t_tape x_t_bits x_t_longs x_t_cells x_t_between c_t_isKept c_t_most c_t_taped c_t_here c_t_fault c_t_value c_t_findings c_t_s) H → va_D A (w_M_when E h_t h_t_findings h_t_s x_t_kept x_t_before x_t_shown x_t_worths x_t_steps x_t_tape x_t_bits x_t_longs x_t_cells x_t_between c_t_isKept c_t_most c_t_taped c_t_here c_t_fault c_t_value c_t_findings c_t_s) → va_S A s.heap H locs → ∀ (ls : Array Slot), lv_has ls 5 [(0, .ref h_t), (1, .int a1), (2, .int v2), (3, .int v3), (4, .int v4)] → W p l e (rm 5) s m args below meth c H locs 0 0 (MQ below (qW (some (.int out.1)) E (w_M_when E h_t h_t_findings h_t_s x_t_kept x_t_before x_t_shown x_t_worths x_t_steps x_t_tape x_t_bits x_t_longs x_t_cells x_t_between c_t_isKept c_t_most c_t_taped c_t_here c_t_fault c_t_value out.2.1 out.2.2) A) args s 0 0 A) (F0 m 44 ls []) := by
  obtain ⟨hx, hb, hr, hml, hown, hw, hlocks⟩ := id C
  intro n
  induction n with
  | zero =>
    intro c_t_findings c_t_s v2 v3 v4 hF
    exact absurd (show (none : Option (Int32 × (Nat → Int32) × (Nat → Int32))) = some out from hF) nofun
  | succ n ih =>
    intro c_t_findings c_t_s v2 v3 v4 hF H locs hP hD hS ls hl
    rw [f_M_when_b44] at hF
    refine lv_iload hx hb dX10_when_44 (lv_at hl 4 rfl) ?_
    refine lv_bipush (v := (99 : Int32)) hx hb dX10_when_46 (by decide) ?_
    refine lv_icmp_gt (tgt := 86) hx hb dX10_when_48 (by decide) (fun q4 => ?_) (fun q4 => ?_)
    · have hF := kp hF q4
      exact wk_M_when_b86 E h_t h_t_findings h_t_s x_t_kept x_t_before x_t_shown x_t_worths x_t_steps x_t_tape x_t_bits x_t_longs x_t_cells x_t_between c_t_isKept c_t_most c_t_taped c_t_here c_t_fault c_t_value a1 C hA  hK hT  c_t_findings c_t_s v2 v3 hF _ _ hP hD hS _ (lv_sub hl [0, 2, 3] rfl)
    · have hF := kn hF q4
      refine lv_iload_n hx hb dX10_when_51 rfl (lv_at hl 3 rfl) ?_
      refine lv_if_ge (tgt := 86) hx hb dX10_when_52 (by decide) (fun q5 => ?_) (fun q5 => ?_)
      · have hF := kp hF q5
        exact wk_M_when_b86 E h_t h_t_findings h_t_s x_t_kept x_t_before x_t_shown x_t_worths x_t_steps x_t_tape x_t_bits x_t_longs x_t_cells x_t_between c_t_isKept c_t_most c_t_taped c_t_here c_t_fault c_t_value a1 C hA  hK hT  c_t_findings c_t_s v2 v3 hF _ _ hP hD hS _ (lv_sub hl [0, 2, 3] rfl)
      · have hF := kn hF q5
        refine lv_aload_n hx hb dX10_when_55 rfl (lv_at hl 0 rfl) ?_
        refine va_get (D := eD E) (ci := 8) (C := RX10) (T := TX10) (N := 18) (v := .ref h_t_s) hx hb hw inX10 hown hK hP 0 rfl rfl 0 (by decide) (hw _ mw_881) (fun _ h9 => h9) rfl dX10_when_56 ?_
        refine lv_iconst (v := (0 : Int32)) hx hb dX10_when_59 (by decide) ?_
        refine lv_iload_n hx hb dX10_when_60 rfl (lv_at hl 2 rfl) ?_
        refine lv_iload hx hb dX10_when_61 (lv_at hl 4 rfl) ?_
        refine lv_iadd hx hb dX10_when_63 ?_
        obtain ⟨r6, er6, hF⟩ := kb hF
        refine wa_iast hx hb hK hP hD hS 2 0 rfl rfl er6 dX10_when_64 (fun H locs hP hD hS => ?_)
        have hP : va_P (eD E) vwCl (w_M_when E h_t h_t_findings h_t_s x_t_kept x_t_before x_t_shown x_t_worths x_t_steps x_t_tape x_t_bits x_t_longs x_t_cells x_t_between c_t_isKept c_t_most c_t_taped c_t_here c_t_fault c_t_value c_t_findings r6) H := hP
        have hD : va_D A (w_M_when E h_t h_t_findings h_t_s x_t_kept x_t_before x_t_shown x_t_worths x_t_steps x_t_tape x_t_bits x_t_longs x_t_cells x_t_between c_t_isKept c_t_most c_t_taped c_t_here c_t_fault c_t_value c_t_findings r6) := hD
        refine lv_aload_n hx hb dX10_when_65 rfl (lv_at hl 0 rfl) ?_
        refine lv_iload_n hx hb dX10_when_66 rfl (lv_at hl 1 rfl) ?_
        obtain ⟨r7, er7, hF⟩ := kb hF
        refine kRV (rest := []) C (k_M_isOther l E h_t h_t_s x_t_kept x_t_before h_t_findings x_t_shown x_t_worths x_t_steps x_t_tape x_t_bits x_t_longs x_t_cells x_t_between c_t_isKept c_t_most c_t_taped c_t_here c_t_fault c_t_value r6 a1 r7 er7) fn_M_isOther mw_1141 ⟨Nat.le_of_ble_eq_true rfl, Nat.le_of_ble_eq_true rfl⟩ hK hT hS (va_recv hK hP (ci := 8) (q0 := 0) rfl rfl) hP [0, 2] rfl rfl rfl hl (Nat.le_of_ble_eq_true rfl) dX10_when_67 ?_
        refine lv_if_eq (tgt := 78) hx hb dX10_when_70 (by decide) (fun q8 => ?_) (fun q8 => ?_)
        · have hF := kp hF q8
          refine lv_iconst (v := (-1 : Int32)) hx hb dX10_when_78 (by decide) ?_
          exact wk_M_when_b79 E h_t h_t_findings h_t_s x_t_kept x_t_before x_t_shown x_t_worths x_t_steps x_t_tape x_t_bits x_t_longs x_t_cells x_t_between c_t_isKept c_t_most c_t_taped c_t_here c_t_fault c_t_value a1 C hA  hK hT (f_M_when_b44  a1 n) ih c_t_findings r6 v2 v4 (-1 : Int32) hF _ _ hP hD hS _ (lv_sub hl [0, 1, 2, 4] rfl)
        · have hF := kn hF q8
          refine lv_iload hx hb dX10_when_73 (lv_at hl 4 rfl) ?_
          refine lv_goto (tgt := 79) hx hb dX10_when_75 (by decide) ?_
          exact wk_M_when_b79 E h_t h_t_findings h_t_s x_t_kept x_t_before x_t_shown x_t_worths x_t_steps x_t_tape x_t_bits x_t_longs x_t_cells x_t_between c_t_isKept c_t_most c_t_taped c_t_here c_t_fault c_t_value a1 C hA  hK hT (f_M_when_b44  a1 n) ih c_t_findings r6 v2 v4 v4 hF _ _ hP hD hS _ (lv_sub hl [0, 1, 2, 4] rfl)
set_option maxHeartbeats 4000000 in
set_option maxRecDepth 100000 in
theorem k_M_when (l : Launch) (E : kE) (h_t : Nat) (h_t_findings : Nat) (h_t_s : Nat) (x_t_kept : Nat) (x_t_before : Nat) (x_t_shown : Nat) (x_t_worths : Nat) (x_t_steps : Nat) (x_t_tape : Nat) (x_t_bits : Nat) (x_t_longs : Nat) (x_t_cells : Nat) (x_t_between : Nat) (sz : Nat) (c_t_isKept : Int32) (c_t_most : Int32) (c_t_taped : Int32) (c_t_here : Int32) (c_t_fault : Int32) (c_t_value : Int32) (c_t_findings : (Nat → Int32)) (c_t_s : (Nat → Int32)) (a1 : Int32) (out : Int32 × (Nat → Int32) × (Nat → Int32)) (hF : f_M_when c_t_findings c_t_s a1 = some out) : Met l yX10_when (Cond.code yX10_when cX10_when 5 (some .int) :: wG) (rm 5) (pW E (w_M_when E h_t h_t_findings h_t_s x_t_kept x_t_before x_t_shown x_t_worths x_t_steps x_t_tape x_t_bits x_t_longs x_t_cells x_t_between c_t_isKept c_t_most c_t_taped c_t_here c_t_fault c_t_value c_t_findings c_t_s) sz [.ref h_t, .int a1]) (qW (some (.int out.1)) E (w_M_when E h_t h_t_findings h_t_s x_t_kept x_t_before x_t_shown x_t_worths x_t_steps x_t_tape x_t_bits x_t_longs x_t_cells x_t_between c_t_isKept c_t_most c_t_taped c_t_here c_t_fault c_t_value out.2.1 out.2.2) (va_A (w_M_when E h_t h_t_findings h_t_s x_t_kept x_t_before x_t_shown x_t_worths x_t_steps x_t_tape x_t_bits x_t_longs x_t_cells x_t_between c_t_isKept c_t_most c_t_taped c_t_here c_t_fault c_t_value c_t_findings c_t_s) sz)) 0 0 (va_A (w_M_when E h_t h_t_findings h_t_s x_t_kept x_t_before x_t_shown x_t_worths x_t_steps x_t_tape x_t_bits x_t_longs x_t_cells x_t_between c_t_isKept c_t_most c_t_taped c_t_here c_t_fault c_t_value c_t_findings c_t_s) sz) := by
  refine met_W (by decide) (Nat.le_of_ble_eq_true rfl) ?_
  intro p e s m args below meth c A ls C hP hD hS hA hK hT hl
  obtain ⟨hx, hb, hr, hml, hown, hw, hlocks⟩ := id C
  have hl : lv_has ls 5 [(0, .ref h_t), (1, .int a1)] := hl
  rw [f_M_when] at hF
  refine lv_aload_n hx hb dX10_when_0 rfl (lv_at hl 0 rfl) ?_
  refine lv_iload_n hx hb dX10_when_1 rfl (lv_at hl 1 rfl) ?_
  obtain ⟨r9, er9, hF⟩ := kb hF
  refine kRV (rest := []) C (k_M_isLetter l E h_t h_t_s x_t_kept x_t_before h_t_findings x_t_shown x_t_worths x_t_steps x_t_tape x_t_bits x_t_longs x_t_cells x_t_between c_t_isKept c_t_most c_t_taped c_t_here c_t_fault c_t_value c_t_s a1 r9 er9) fn_M_isLetter mw_1092 ⟨Nat.le_of_ble_eq_true rfl, Nat.le_of_ble_eq_true rfl⟩ hK hT hS (va_recv hK hP (ci := 8) (q0 := 0) rfl rfl) hP [0, 2] rfl rfl rfl hl (Nat.le_of_ble_eq_true rfl) dX10_when_2 ?_
  refine lv_if_ne (tgt := 14) hx hb dX10_when_5 (by decide) (fun q10 => ?_) (fun q10 => ?_)
  · have hF := kn hF q10
    refine lv_aload_n hx hb dX10_when_14 rfl (lv_at hl 0 rfl) ?_
    refine va_get (D := eD E) (ci := 8) (C := RX10) (T := TX10) (N := 18) (v := .ref h_t_s) hx hb hw inX10 hown hK hP 0 rfl rfl 0 (by decide) (hw _ mw_881) (fun _ h9 => h9) rfl dX10_when_15 ?_
    refine lv_iconst (v := (0 : Int32)) hx hb dX10_when_18 (by decide) ?_
    obtain ⟨r11, er11, hF⟩ := kb hF
    refine wa_iald hx hb hK hP 2 0 rfl rfl er11 dX10_when_19 ?_
    refine lv_sipush (v := (900 : Int32)) hx hb dX10_when_20 (by decide) ?_
    refine lv_icmp_le (tgt := 32) hx hb dX10_when_23 (by decide) (fun q12 => ?_) (fun q12 => ?_)
    · have hF := kp hF q12
      refine lv_aload_n hx hb dX10_when_32 rfl (lv_at hl 0 rfl) ?_
      refine va_get (D := eD E) (ci := 8) (C := RX10) (T := TX10) (N := 18) (v := .ref h_t_s) hx hb hw inX10 hown hK hP 0 rfl rfl 0 (by decide) (hw _ mw_881) (fun _ h9 => h9) rfl dX10_when_33 ?_
      refine lv_iconst (v := (0 : Int32)) hx hb dX10_when_36 (by decide) ?_
      obtain ⟨r13, er13, hF⟩ := kb hF
      refine wa_iald hx hb hK hP 2 0 rfl rfl er13 dX10_when_37 ?_
      refine lv_istore_n (lv' := [(2, .int r13), (0, .ref h_t), (1, .int a1)]) hx hb dX10_when_38 rfl hl (by decide) rfl (fun ls hl => ?_)
      refine lv_iconst (v := (-1 : Int32)) hx hb dX10_when_39 (by decide) ?_
      refine lv_istore_n (lv' := [(3, .int (-1 : Int32)), (2, .int r13), (0, .ref h_t), (1, .int a1)]) hx hb dX10_when_40 rfl hl (by decide) rfl (fun ls hl => ?_)
      refine lv_iconst (v := (0 : Int32)) hx hb dX10_when_41 (by decide) ?_
      refine lv_istore (lv' := [(4, .int (0 : Int32)), (3, .int (-1 : Int32)), (2, .int r13), (0, .ref h_t), (1, .int a1)]) hx hb dX10_when_42 hl (by decide) rfl (fun ls hl => ?_)
      exact wk_M_when_b44 E h_t h_t_findings h_t_s x_t_kept x_t_before x_t_shown x_t_worths x_t_steps x_t_tape x_t_bits x_t_longs x_t_cells x_t_between c_t_isKept c_t_most c_t_taped c_t_here c_t_fault c_t_value a1 C hA  hK hT  5000 c_t_findings c_t_s r13 (-1 : Int32) (0 : Int32) hF _ _ hP hD hS _ (lv_sub hl [3, 4, 2, 1, 0] rfl)
    · have hF := kn hF q12
      refine lv_aload_n hx hb dX10_when_26 rfl (lv_at hl 0 rfl) ?_
      refine lv_iconst (v := (4 : Int32)) hx hb dX10_when_27 (by decide) ?_
      obtain ⟨r14, er14, hF⟩ := kb hF
      refine kWV (rest := []) (Wr := [(h_t_s, .inl (eI E, 65, .inl c_t_s))]) (Wn := (w_M_when E h_t h_t_findings h_t_s x_t_kept x_t_before x_t_shown x_t_worths x_t_steps x_t_tape x_t_bits x_t_longs x_t_cells x_t_between c_t_isKept c_t_most c_t_taped c_t_here c_t_fault c_t_value r14.2 c_t_s)) C (k_M_no l E h_t h_t_findings h_t_s x_t_kept x_t_before x_t_shown x_t_worths x_t_steps x_t_tape x_t_bits x_t_longs x_t_cells x_t_between s.heap.size c_t_isKept c_t_most c_t_taped c_t_here c_t_fault c_t_value c_t_findings (4 : Int32) r14 er14) fn_M_no mw_964 ⟨Nat.le_of_ble_eq_true rfl, Nat.le_of_ble_eq_true rfl⟩ hK hT hS hA (va_recv hK hP (ci := 8) (q0 := 0) rfl rfl) hP hD [0, 1] rfl (by decide) [2] rfl (by decide) (by decide) [1, 2, 0] rfl (by decide) rfl rfl hl (Nat.le_of_ble_eq_true rfl) dX10_when_28 (fun H locs hP hD hS => ?_)
      refine W.eq (g2 := F0 m 31 ls [.int r14.1]) rfl ?_
      obtain rfl := Option.some.inj hF
      exact W.iret hx hb hr (fun t ht hW => ⟨⟨rfl, by rw [ht]; exact hP, hD⟩, hS.F ht⟩) hS.2.2 dX10_when_31
  · have hF := kp hF q10
    refine lv_aload_n hx hb dX10_when_8 rfl (lv_at hl 0 rfl) ?_
    refine lv_iconst (v := (0 : Int32)) hx hb dX10_when_9 (by decide) ?_
    obtain ⟨r15, er15, hF⟩ := kb hF
    refine kWV (rest := []) (Wr := [(h_t_s, .inl (eI E, 65, .inl c_t_s))]) (Wn := (w_M_when E h_t h_t_findings h_t_s x_t_kept x_t_before x_t_shown x_t_worths x_t_steps x_t_tape x_t_bits x_t_longs x_t_cells x_t_between c_t_isKept c_t_most c_t_taped c_t_here c_t_fault c_t_value r15.2 c_t_s)) C (k_M_no l E h_t h_t_findings h_t_s x_t_kept x_t_before x_t_shown x_t_worths x_t_steps x_t_tape x_t_bits x_t_longs x_t_cells x_t_between s.heap.size c_t_isKept c_t_most c_t_taped c_t_here c_t_fault c_t_value c_t_findings (0 : Int32) r15 er15) fn_M_no mw_964 ⟨Nat.le_of_ble_eq_true rfl, Nat.le_of_ble_eq_true rfl⟩ hK hT hS hA (va_recv hK hP (ci := 8) (q0 := 0) rfl rfl) hP hD [0, 1] rfl (by decide) [2] rfl (by decide) (by decide) [1, 2, 0] rfl (by decide) rfl rfl hl (Nat.le_of_ble_eq_true rfl) dX10_when_10 (fun H locs hP hD hS => ?_)
    refine W.eq (g2 := F0 m 13 ls [.int r15.1]) rfl ?_
    obtain rfl := Option.some.inj hF
    exact W.iret hx hb hr (fun t ht hW => ⟨⟨rfl, by rw [ht]; exact hP, hD⟩, hS.F ht⟩) hS.2.2 dX10_when_13
abbrev w_M_longest (E : kE)    : va_W := []
set_option maxHeartbeats 4000000 in
set_option maxRecDepth 100000 in
theorem wk_M_longest_b69 {p : Program} {l : Launch} {e : Env} {s : State} {m : MethodId} {args : Array Value} {below : List Frame} {meth : Method} {c : Code} (E : kE)    (a0 : Int32) (a1 : Int32) {out : Int32} (C : kC RX10 cX10_longest 7 (some .int) p s m args meth c) (hP : va_P (eD E) vwCl (w_M_longest E ) s.heap) (hK : va_K (eD E) vwCl (eT E) s) (hT : sT E (fun _ => False) s s.heap) (k7 : Int32 → Int32 → Int32 → Option (Int32)) (hk7 : ∀ (v2 : Int32) (v3 : Int32) (v4 : Int32), k7 v2 v3 v4 = some out → ∀ (ls : Array Slot), lv_has ls 7 [(0, .int a0), (1, .int a1), (2, .int v2), (3, .int v3), (4, .int v4)] → W p l e (rm 9) s m args below meth c s.heap [] 0 0 (MQ below (qR (.int out)) args s 0 0 (fun _ => False)) (F0 m 7 ls [])) :
    ∀ (v2 : Int32) (v4 : Int32) (s0 : Int32), f_M_longest_b69 k7 a0 a1 v2 v4 s0 = some out → ∀ (ls : Array Slot), lv_has ls 7 [(0, .int a0), (1, .int a1), (2, .int v2), (4, .int v4)] → W p l e (rm 9) s m args below meth c s.heap [] 0 0 (MQ below (qR (.int out)) args s 0 0 (fun _ => False)) (F0 m 69 ls [.int s0]) := by
  obtain ⟨hx, hb, hr, hml, hown, hw, hlocks⟩ := id C
  have hS : va_S (fun _ => False) s.heap s.heap [] := va_S.rf
  intro v2 v4 s0 hF ls hl
  rw [f_M_longest_b69] at hF
  refine lv_istore_n (lv' := [(3, .int s0), (0, .int a0), (1, .int a1), (2, .int v2), (4, .int v4)]) hx hb dX10_longest_69 rfl hl (by decide) rfl (fun ls hl => ?_)
  refine lv_iinc (v := (v4 + (1))) (lv' := [(4, .int (v4 + (1))), (3, .int s0), (0, .int a0), (1, .int a1), (2, .int v2)]) hx hb dX10_longest_70 hl (k := 4) rfl rfl (by decide) rfl (fun ls hl => ?_)
  refine lv_goto (tgt := 7) hx hb dX10_longest_73 (by decide) ?_
  exact hk7 v2 s0 (v4 + (1)) hF _ (lv_sub hl [2, 3, 4, 1, 0] rfl)
set_option maxHeartbeats 4000000 in
set_option maxRecDepth 100000 in
theorem wk_M_longest_b56 {p : Program} {l : Launch} {e : Env} {s : State} {m : MethodId} {args : Array Value} {below : List Frame} {meth : Method} {c : Code} (E : kE)    (a0 : Int32) (a1 : Int32) {out : Int32} (C : kC RX10 cX10_longest 7 (some .int) p s m args meth c) (hP : va_P (eD E) vwCl (w_M_longest E ) s.heap) (hK : va_K (eD E) vwCl (eT E) s) (hT : sT E (fun _ => False) s s.heap) (k7 : Int32 → Int32 → Int32 → Option (Int32)) (hk7 : ∀ (v2 : Int32) (v3 : Int32) (v4 : Int32), k7 v2 v3 v4 = some out → ∀ (ls : Array Slot), lv_has ls 7 [(0, .int a0), (1, .int a1), (2, .int v2), (3, .int v3), (4, .int v4)] → W p l e (rm 9) s m args below meth c s.heap [] 0 0 (MQ below (qR (.int out)) args s 0 0 (fun _ => False)) (F0 m 7 ls [])) :
    ∀ (v3 : Int32) (v4 : Int32) (v6 : Int32) (s0 : Int32), f_M_longest_b56 k7 a0 a1 v3 v4 v6 s0 = some out → ∀ (ls : Array Slot), lv_has ls 7 [(0, .int a0), (1, .int a1), (3, .int v3), (4, .int v4), (6, .int v6)] → W p l e (rm 9) s m args below meth c s.heap [] 0 0 (MQ below (qR (.int out)) args s 0 0 (fun _ => False)) (F0 m 56 ls [.int s0]) := by
  obtain ⟨hx, hb, hr, hml, hown, hw, hlocks⟩ := id C
  have hS : va_S (fun _ => False) s.heap s.heap [] := va_S.rf
  intro v3 v4 v6 s0 hF ls hl
  rw [f_M_longest_b56] at hF
  refine lv_istore_n (lv' := [(2, .int s0), (0, .int a0), (1, .int a1), (3, .int v3), (4, .int v4), (6, .int v6)]) hx hb dX10_longest_56 rfl hl (by decide) rfl (fun ls hl => ?_)
  refine lv_iload hx hb dX10_longest_57 (lv_at hl 5 rfl) ?_
  refine lv_iload_n hx hb dX10_longest_59 rfl (lv_at hl 3 rfl) ?_
  refine lv_icmp_le (tgt := 68) hx hb dX10_longest_60 (by decide) (fun q1 => ?_) (fun q1 => ?_)
  · have hF := kp hF q1
    refine lv_iload_n hx hb dX10_longest_68 rfl (lv_at hl 3 rfl) ?_
    exact wk_M_longest_b69 E  a0 a1 C hP  hK hT k7 hk7 s0 v4 v3 hF _ (lv_sub hl [1, 2, 0, 4] rfl)
  · have hF := kn hF q1
    refine lv_iload hx hb dX10_longest_63 (lv_at hl 5 rfl) ?_
    refine lv_goto (tgt := 69) hx hb dX10_longest_65 (by decide) ?_
    exact wk_M_longest_b69 E  a0 a1 C hP  hK hT k7 hk7 s0 v4 v6 hF _ (lv_sub hl [1, 2, 0, 4] rfl)
set_option maxHeartbeats 4000000 in
set_option maxRecDepth 100000 in
theorem wk_M_longest_b42 {p : Program} {l : Launch} {e : Env} {s : State} {m : MethodId} {args : Array Value} {below : List Frame} {meth : Method} {c : Code} (E : kE)    (a0 : Int32) (a1 : Int32) {out : Int32} (C : kC RX10 cX10_longest 7 (some .int) p s m args meth c) (hP : va_P (eD E) vwCl (w_M_longest E ) s.heap) (hK : va_K (eD E) vwCl (eT E) s) (hT : sT E (fun _ => False) s s.heap) (k7 : Int32 → Int32 → Int32 → Option (Int32)) (hk7 : ∀ (v2 : Int32) (v3 : Int32) (v4 : Int32), k7 v2 v3 v4 = some out → ∀ (ls : Array Slot), lv_has ls 7 [(0, .int a0), (1, .int a1), (2, .int v2), (3, .int v3), (4, .int v4)] → W p l e (rm 9) s m args below meth c s.heap [] 0 0 (MQ below (qR (.int out)) args s 0 0 (fun _ => False)) (F0 m 7 ls [])) :
    ∀ (v2 : Int32) (v3 : Int32) (v4 : Int32) (s0 : Int32), f_M_longest_b42 k7 a0 a1 v2 v3 v4 s0 = some out → ∀ (ls : Array Slot), lv_has ls 7 [(0, .int a0), (1, .int a1), (2, .int v2), (3, .int v3), (4, .int v4)] → W p l e (rm 9) s m args below meth c s.heap [] 0 0 (MQ below (qR (.int out)) args s 0 0 (fun _ => False)) (F0 m 42 ls [.int s0]) := by
  obtain ⟨hx, hb, hr, hml, hown, hw, hlocks⟩ := id C
  have hS : va_S (fun _ => False) s.heap s.heap [] := va_S.rf
  intro v2 v3 v4 s0 hF ls hl
  rw [f_M_longest_b42] at hF
  refine lv_istore (lv' := [(6, .int s0), (0, .int a0), (1, .int a1), (2, .int v2), (3, .int v3), (4, .int v4)]) hx hb dX10_longest_42 hl (by decide) rfl (fun ls hl => ?_)
  refine lv_iload hx hb dX10_longest_44 (lv_at hl 0 rfl) ?_
  refine lv_iload_n hx hb dX10_longest_46 rfl (lv_at hl 4 rfl) ?_
  refine lv_icmp_le (tgt := 55) hx hb dX10_longest_47 (by decide) (fun q2 => ?_) (fun q2 => ?_)
  · have hF := kp hF q2
    refine lv_iload_n hx hb dX10_longest_55 rfl (lv_at hl 3 rfl) ?_
    exact wk_M_longest_b56 E  a0 a1 C hP  hK hT k7 hk7 v3 v4 s0 v2 hF _ (lv_sub hl [1, 2, 4, 5, 0] rfl)
  · have hF := kn hF q2
    refine lv_iload hx hb dX10_longest_50 (lv_at hl 5 rfl) ?_
    refine lv_goto (tgt := 56) hx hb dX10_longest_52 (by decide) ?_
    exact wk_M_longest_b56 E  a0 a1 C hP  hK hT k7 hk7 v3 v4 s0 v4 hF _ (lv_sub hl [1, 2, 4, 5, 0] rfl)
set_option maxHeartbeats 4000000 in
set_option maxRecDepth 100000 in
theorem wk_M_longest_b7 {p : Program} {l : Launch} {e : Env} {s : State} {m : MethodId} {args : Array Value} {below : List Frame} {meth : Method} {c : Code} (E : kE)    (a0 : Int32) (a1 : Int32) {out : Int32} (C : kC RX10 cX10_longest 7 (some .int) p s m args meth c) (hP : va_P (eD E) vwCl (w_M_longest E ) s.heap) (hK : va_K (eD E) vwCl (eT E) s) (hT : sT E (fun _ => False) s s.heap)  :
    ∀ (n : Nat), ∀ (v2 : Int32) (v3 : Int32) (v4 : Int32), f_M_longest_b7  a0 a1 n v2 v3 v4 = some out → ∀ (ls : Array Slot), lv_has ls 7 [(0, .int a0), (1, .int a1), (2, .int v2), (3, .int v3), (4, .int v4)] → W p l e (rm 9) s m args below meth c s.heap [] 0 0 (MQ below (qR (.int out)) args s 0 0 (fun _ => False)) (F0 m 7 ls []) := by
  obtain ⟨hx, hb, hr, hml, hown, hw, hlocks⟩ := id C
  have hS : va_S (fun _ => False) s.heap s.heap [] := va_S.rf
  intro n
  induction n with
  | zero =>
    intro v2 v3 v4 hF
    exact absurd (show (none : Option (Int32)) = some out from hF) nofun
  | succ n ih =>
    intro v2 v3 v4 hF ls hl
    rw [f_M_longest_b7] at hF
    refine lv_iload hx hb dX10_longest_7 (lv_at hl 4 rfl) ?_
    refine lv_iconst (v := (5 : Int32)) hx hb dX10_longest_9 (by decide) ?_
    refine lv_icmp_gt (tgt := 76) hx hb dX10_longest_10 (by decide) (fun q3 => ?_) (fun q3 => ?_)
    · have hF := kp hF q3
      refine lv_iload_n hx hb dX10_longest_76 rfl (lv_at hl 2 rfl) ?_
      obtain rfl := Option.some.inj hF
      exact W.iret hx hb hr (fun t ht hW => ⟨rfl, ht⟩) nofun dX10_longest_77
    · have hF := kn hF q3
      refine lv_iload hx hb dX10_longest_13 (lv_at hl 4 rfl) ?_
      refine lv_iload_n hx hb dX10_longest_15 rfl (lv_at hl 0 rfl) ?_
      obtain ⟨r4, er4, hF⟩ := kb hF
      refine kRS (rest := []) C (k_M_feetBy l E v4 a0 r4 er4) fn_M_feetBy mw_1111 ⟨Nat.le_of_ble_eq_true rfl, Nat.le_of_ble_eq_true rfl⟩ hK hT hS hP [] rfl rfl rfl hl (Nat.le_of_ble_eq_true rfl) dX10_longest_16 ?_
      refine lv_istore (lv' := [(5, .int r4), (0, .int a0), (1, .int a1), (2, .int v2), (3, .int v3), (4, .int v4)]) hx hb dX10_longest_19 hl (by decide) rfl (fun ls hl => ?_)
      refine lv_iload hx hb dX10_longest_21 (lv_at hl 0 rfl) ?_
      refine lv_if_ne (tgt := 30) hx hb dX10_longest_23 (by decide) (fun q5 => ?_) (fun q5 => ?_)
      · have hF := kn hF q5
        refine lv_bipush (v := (100 : Int32)) hx hb dX10_longest_30 (by decide) ?_
        refine lv_iload hx hb dX10_longest_32 (lv_at hl 5 rfl) ?_
        refine lv_iload_n hx hb dX10_longest_34 rfl (lv_at hl 2 rfl) ?_
        obtain ⟨r6, er6, hF⟩ := kb hF
        refine kRS (rest := [.int (100 : Int32)]) C (k_M_lastsBy l E v4 a1 r6 er6) fn_M_lastsBy mw_1100 ⟨Nat.le_of_ble_eq_true rfl, Nat.le_of_ble_eq_true rfl⟩ hK hT hS hP [] rfl rfl rfl hl (Nat.le_of_ble_eq_true rfl) dX10_longest_35 ?_
        refine lv_imul hx hb dX10_longest_38 ?_
        refine lv_iload hx hb dX10_longest_39 (lv_at hl 0 rfl) ?_
        obtain ⟨q7, eq7, hF⟩ := kb hF
        refine wa_div hx hb eq7 dX10_longest_41 ?_
        exact wk_M_longest_b42 E  a0 a1 C hP  hK hT (f_M_longest_b7  a0 a1 n) ih v2 v3 v4 q7 hF _ (lv_sub hl [1, 2, 3, 4, 5] rfl)
      · have hF := kp hF q5
        refine lv_iconst (v := (0 : Int32)) hx hb dX10_longest_26 (by decide) ?_
        refine lv_goto (tgt := 42) hx hb dX10_longest_27 (by decide) ?_
        exact wk_M_longest_b42 E  a0 a1 C hP  hK hT (f_M_longest_b7  a0 a1 n) ih v2 v3 v4 (0 : Int32) hF _ (lv_sub hl [1, 2, 3, 4, 5] rfl)
set_option maxHeartbeats 4000000 in
set_option maxRecDepth 100000 in
theorem k_M_longest (l : Launch) (E : kE)    (a0 : Int32) (a1 : Int32) (out : Int32) (hF : f_M_longest  a0 a1 = some out) : Met l yX10_longest (Cond.code yX10_longest cX10_longest 7 (some .int) :: wG) (rm 9) (pR E (w_M_longest E ) [.int a0, .int a1]) (qR (.int out)) 0 0 (fun _ => False) := by
  refine met_R (by decide) (Nat.le_of_ble_eq_true rfl) ?_
  intro p e s m args below meth c ls C hP hK hT hl
  obtain ⟨hx, hb, hr, hml, hown, hw, hlocks⟩ := id C
  have hS : va_S (fun _ => False) s.heap s.heap [] := va_S.rf
  have hl : lv_has ls 7 [(0, .int a0), (1, .int a1)] := hl
  rw [f_M_longest] at hF
  refine lv_iconst (v := (0 : Int32)) hx hb dX10_longest_0 (by decide) ?_
  refine lv_istore_n (lv' := [(2, .int (0 : Int32)), (0, .int a0), (1, .int a1)]) hx hb dX10_longest_1 rfl hl (by decide) rfl (fun ls hl => ?_)
  refine lv_iconst (v := (-1 : Int32)) hx hb dX10_longest_2 (by decide) ?_
  refine lv_istore_n (lv' := [(3, .int (-1 : Int32)), (2, .int (0 : Int32)), (0, .int a0), (1, .int a1)]) hx hb dX10_longest_3 rfl hl (by decide) rfl (fun ls hl => ?_)
  refine lv_iconst (v := (0 : Int32)) hx hb dX10_longest_4 (by decide) ?_
  refine lv_istore (lv' := [(4, .int (0 : Int32)), (3, .int (-1 : Int32)), (2, .int (0 : Int32)), (0, .int a0), (1, .int a1)]) hx hb dX10_longest_5 hl (by decide) rfl (fun ls hl => ?_)
  exact wk_M_longest_b7 E  a0 a1 C hP  hK hT  5000 (0 : Int32) (-1 : Int32) (0 : Int32) hF _ (lv_sub hl [3, 4, 2, 1, 0] rfl)
abbrev w_M_kind (E : kE) (h_t : Nat) (h_t_findings : Nat) (h_t_s : Nat) (x_t_kept : Nat) (x_t_before : Nat) (x_t_shown : Nat) (x_t_worths : Nat) (x_t_steps : Nat) (x_t_tape : Nat) (x_t_bits : Nat) (x_t_longs : Nat) (x_t_cells : Nat) (x_t_between : Nat) (c_t_isKept : Int32) (c_t_most : Int32) (c_t_taped : Int32) (c_t_here : Int32) (c_t_fault : Int32) (c_t_value : Int32) (c_t_findings : (Nat → Int32)) (c_t_s : (Nat → Int32)) : va_W := [(h_t, .inr (8, [.ref h_t_s, .ref x_t_kept, .ref x_t_before, .int c_t_isKept, .ref h_t_findings, .ref x_t_shown, .int c_t_most, .ref x_t_worths, .ref x_t_steps, .ref x_t_tape, .int c_t_taped, .int c_t_here, .int c_t_fault, .int c_t_value, .ref x_t_bits, .ref x_t_longs, .ref x_t_cells, .ref x_t_between])), (h_t_findings, .inl (eI E, 7, .inl c_t_findings)), (h_t_s, .inl (eI E, 65, .inl c_t_s))]
set_option maxHeartbeats 4000000 in
set_option maxRecDepth 100000 in
theorem k_M_kind (l : Launch) (E : kE) (h_t : Nat) (h_t_findings : Nat) (h_t_s : Nat) (x_t_kept : Nat) (x_t_before : Nat) (x_t_shown : Nat) (x_t_worths : Nat) (x_t_steps : Nat) (x_t_tape : Nat) (x_t_bits : Nat) (x_t_longs : Nat) (x_t_cells : Nat) (x_t_between : Nat) (sz : Nat) (c_t_isKept : Int32) (c_t_most : Int32) (c_t_taped : Int32) (c_t_here : Int32) (c_t_fault : Int32) (c_t_value : Int32) (c_t_findings : (Nat → Int32)) (c_t_s : (Nat → Int32)) (a1 : Int32) (out : Int32 × (Nat → Int32)) (hF : f_M_kind c_t_findings c_t_s a1 = some out) : Met l yX10_kind (Cond.code yX10_kind cX10_kind 2 (some .int) :: wG) (rm 10) (pW E (w_M_kind E h_t h_t_findings h_t_s x_t_kept x_t_before x_t_shown x_t_worths x_t_steps x_t_tape x_t_bits x_t_longs x_t_cells x_t_between c_t_isKept c_t_most c_t_taped c_t_here c_t_fault c_t_value c_t_findings c_t_s) sz [.ref h_t, .int a1]) (qW (some (.int out.1)) E (w_M_kind E h_t h_t_findings h_t_s x_t_kept x_t_before x_t_shown x_t_worths x_t_steps x_t_tape x_t_bits x_t_longs x_t_cells x_t_between c_t_isKept c_t_most c_t_taped c_t_here c_t_fault c_t_value out.2 c_t_s) (va_A (w_M_kind E h_t h_t_findings h_t_s x_t_kept x_t_before x_t_shown x_t_worths x_t_steps x_t_tape x_t_bits x_t_longs x_t_cells x_t_between c_t_isKept c_t_most c_t_taped c_t_here c_t_fault c_t_value c_t_findings c_t_s) sz)) 0 0 (va_A (w_M_kind E h_t h_t_findings h_t_s x_t_kept x_t_before x_t_shown x_t_worths x_t_steps x_t_tape x_t_bits x_t_longs x_t_cells x_t_between c_t_isKept c_t_most c_t_taped c_t_here c_t_fault c_t_value c_t_findings c_t_s) sz) := by
  refine met_W (by decide) (Nat.le_of_ble_eq_true rfl) ?_
  intro p e s m args below meth c A ls C hP hD hS hA hK hT hl
  obtain ⟨hx, hb, hr, hml, hown, hw, hlocks⟩ := id C
  have hl : lv_has ls 2 [(0, .ref h_t), (1, .int a1)] := hl
  rw [f_M_kind] at hF
  refine lv_aload_n hx hb dX10_kind_0 rfl (lv_at hl 0 rfl) ?_
  refine lv_iload_n hx hb dX10_kind_1 rfl (lv_at hl 1 rfl) ?_
  obtain ⟨r1, er1, hF⟩ := kb hF
  refine kRV (rest := []) C (k_M_isLetter l E h_t h_t_s x_t_kept x_t_before h_t_findings x_t_shown x_t_worths x_t_steps x_t_tape x_t_bits x_t_longs x_t_cells x_t_between c_t_isKept c_t_most c_t_taped c_t_here c_t_fault c_t_value c_t_s a1 r1 er1) fn_M_isLetter mw_1092 ⟨Nat.le_of_ble_eq_true rfl, Nat.le_of_ble_eq_true rfl⟩ hK hT hS (va_recv hK hP (ci := 8) (q0 := 0) rfl rfl) hP [0, 2] rfl rfl rfl hl (Nat.le_of_ble_eq_true rfl) dX10_kind_2 ?_
  refine lv_if_eq (tgt := 36) hx hb dX10_kind_5 (by decide) (fun q2 => ?_) (fun q2 => ?_)
  · have hF := kp hF q2
    refine lv_aload_n hx hb dX10_kind_36 rfl (lv_at hl 0 rfl) ?_
    refine lv_iconst (v := (0 : Int32)) hx hb dX10_kind_37 (by decide) ?_
    obtain ⟨r3, er3, hF⟩ := kb hF
    refine kWV (rest := []) (Wr := [(h_t_s, .inl (eI E, 65, .inl c_t_s))]) (Wn := (w_M_kind E h_t h_t_findings h_t_s x_t_kept x_t_before x_t_shown x_t_worths x_t_steps x_t_tape x_t_bits x_t_longs x_t_cells x_t_between c_t_isKept c_t_most c_t_taped c_t_here c_t_fault c_t_value r3.2 c_t_s)) C (k_M_no l E h_t h_t_findings h_t_s x_t_kept x_t_before x_t_shown x_t_worths x_t_steps x_t_tape x_t_bits x_t_longs x_t_cells x_t_between s.heap.size c_t_isKept c_t_most c_t_taped c_t_here c_t_fault c_t_value c_t_findings (0 : Int32) r3 er3) fn_M_no mw_964 ⟨Nat.le_of_ble_eq_true rfl, Nat.le_of_ble_eq_true rfl⟩ hK hT hS hA (va_recv hK hP (ci := 8) (q0 := 0) rfl rfl) hP hD [0, 1] rfl (by decide) [2] rfl (by decide) (by decide) [1, 2, 0] rfl (by decide) rfl rfl hl (Nat.le_of_ble_eq_true rfl) dX10_kind_38 (fun H locs hP hD hS => ?_)
    refine W.eq (g2 := F0 m 41 ls [.int r3.1]) rfl ?_
    obtain rfl := Option.some.inj hF
    exact W.iret hx hb hr (fun t ht hW => ⟨⟨rfl, by rw [ht]; exact hP, hD⟩, hS.F ht⟩) hS.2.2 dX10_kind_41
  · have hF := kn hF q2
    refine lv_aload_n hx hb dX10_kind_8 rfl (lv_at hl 0 rfl) ?_
    refine va_get (D := eD E) (ci := 8) (C := RX10) (T := TX10) (N := 18) (v := .ref h_t_s) hx hb hw inX10 hown hK hP 0 rfl rfl 0 (by decide) (hw _ mw_881) (fun _ h9 => h9) rfl dX10_kind_9 ?_
    refine lv_aload_n hx hb dX10_kind_12 rfl (lv_at hl 0 rfl) ?_
    refine lv_iload_n hx hb dX10_kind_13 rfl (lv_at hl 1 rfl) ?_
    refine lv_iconst (v := (1 : Int32)) hx hb dX10_kind_14 (by decide) ?_
    obtain ⟨r4, er4, hF⟩ := kb hF
    refine kRV (rest := [.ref h_t_s]) C (k_M_at l E h_t h_t_s x_t_kept x_t_before h_t_findings x_t_shown x_t_worths x_t_steps x_t_tape x_t_bits x_t_longs x_t_cells x_t_between c_t_isKept c_t_most c_t_taped c_t_here c_t_fault c_t_value a1 (1 : Int32) r4 er4) fn_M_at mw_1084 ⟨Nat.le_of_ble_eq_true rfl, Nat.le_of_ble_eq_true rfl⟩ hK hT hS (va_recv hK hP (ci := 8) (q0 := 0) rfl rfl) hP [0] rfl rfl rfl hl (Nat.le_of_ble_eq_true rfl) dX10_kind_15 ?_
    obtain ⟨r5, er5, hF⟩ := kb hF
    refine wa_iald hx hb hK hP 2 0 rfl rfl er5 dX10_kind_18 ?_
    refine lv_aload_n hx hb dX10_kind_19 rfl (lv_at hl 0 rfl) ?_
    refine va_get (D := eD E) (ci := 8) (C := RX10) (T := TX10) (N := 18) (v := .ref h_t_s) hx hb hw inX10 hown hK hP 0 rfl rfl 0 (by decide) (hw _ mw_881) (fun _ h9 => h9) rfl dX10_kind_20 ?_
    refine lv_aload_n hx hb dX10_kind_23 rfl (lv_at hl 0 rfl) ?_
    refine lv_iload_n hx hb dX10_kind_24 rfl (lv_at hl 1 rfl) ?_
    refine lv_iconst (v := (2 : Int32)) hx hb dX10_kind_25 (by decide) ?_
    obtain ⟨r6, er6, hF⟩ := kb hF
    refine kRV (rest := [.ref h_t_s, .int r5]) C (k_M_at l E h_t h_t_s x_t_kept x_t_before h_t_findings x_t_shown x_t_worths x_t_steps x_t_tape x_t_bits x_t_longs x_t_cells x_t_between c_t_isKept c_t_most c_t_taped c_t_here c_t_fault c_t_value a1 (2 : Int32) r6 er6) fn_M_at mw_1084 ⟨Nat.le_of_ble_eq_true rfl, Nat.le_of_ble_eq_true rfl⟩ hK hT hS (va_recv hK hP (ci := 8) (q0 := 0) rfl rfl) hP [0] rfl rfl rfl hl (Nat.le_of_ble_eq_true rfl) dX10_kind_26 ?_
    obtain ⟨r7, er7, hF⟩ := kb hF
    refine wa_iald hx hb hK hP 2 0 rfl rfl er7 dX10_kind_29 ?_
    obtain ⟨r8, er8, hF⟩ := kb hF
    refine kRS (rest := []) C (k_M_longest l E r5 r7 r8 er8) fn_M_longest mw_1157 ⟨Nat.le_of_ble_eq_true rfl, Nat.le_of_ble_eq_true rfl⟩ hK hT hS hP [] rfl rfl rfl hl (Nat.le_of_ble_eq_true rfl) dX10_kind_30 ?_
    refine lv_goto (tgt := 41) hx hb dX10_kind_33 (by decide) ?_
    obtain rfl := Option.some.inj hF
    exact W.iret hx hb hr (fun t ht hW => ⟨⟨rfl, by rw [ht]; exact hP, hD⟩, hS.F ht⟩) hS.2.2 dX10_kind_41
abbrev w_M_worthOf (E : kE) (h_t : Nat) (h_t_s : Nat) (x_t_kept : Nat) (x_t_before : Nat) (x_t_findings : Nat) (x_t_shown : Nat) (x_t_worths : Nat) (x_t_steps : Nat) (x_t_tape : Nat) (x_t_bits : Nat) (x_t_longs : Nat) (x_t_cells : Nat) (x_t_between : Nat) (c_t_isKept : Int32) (c_t_most : Int32) (c_t_taped : Int32) (c_t_here : Int32) (c_t_fault : Int32) (c_t_value : Int32) (c_t_s : (Nat → Int32)) : va_W := [(h_t, .inr (8, [.ref h_t_s, .ref x_t_kept, .ref x_t_before, .int c_t_isKept, .ref x_t_findings, .ref x_t_shown, .int c_t_most, .ref x_t_worths, .ref x_t_steps, .ref x_t_tape, .int c_t_taped, .int c_t_here, .int c_t_fault, .int c_t_value, .ref x_t_bits, .ref x_t_longs, .ref x_t_cells, .ref x_t_between])), (h_t_s, .inl (eI E, 65, .inl c_t_s))]
set_option maxHeartbeats 4000000 in
set_option maxRecDepth 100000 in
theorem wk_M_worthOf_b31 {p : Program} {l : Launch} {e : Env} {s : State} {m : MethodId} {args : Array Value} {below : List Frame} {meth : Method} {c : Code} (E : kE) (h_t : Nat) (h_t_s : Nat) (x_t_kept : Nat) (x_t_before : Nat) (x_t_findings : Nat) (x_t_shown : Nat) (x_t_worths : Nat) (x_t_steps : Nat) (x_t_tape : Nat) (x_t_bits : Nat) (x_t_longs : Nat) (x_t_cells : Nat) (x_t_between : Nat) (c_t_isKept : Int32) (c_t_most : Int32) (c_t_taped : Int32) (c_t_here : Int32) (c_t_fault : Int32) (c_t_value : Int32) (c_t_s : (Nat → Int32)) (a1 : Int32) {out : Int32} (C : kC RX10 cX10_worthOf 3 (some .int) p s m args meth c) (hP : va_P (eD E) vwCl (w_M_worthOf E h_t h_t_s x_t_kept x_t_before x_t_findings x_t_shown x_t_worths x_t_steps x_t_tape x_t_bits x_t_longs x_t_cells x_t_between c_t_isKept c_t_most c_t_taped c_t_here c_t_fault c_t_value c_t_s) s.heap) (hK : va_K (eD E) vwCl (eT E) s) (hT : sT E (fun _ => False) s s.heap)  :
    ∀ (s0 : Int32), f_M_worthOf_b31  c_t_s a1 s0 = some out → ∀ (ls : Array Slot), lv_has ls 3 [] → W p l e (rm 5) s m args below meth c s.heap [] 0 0 (MQ below (qR (.int out)) args s 0 0 (fun _ => False)) (F0 m 31 ls [.int s0]) := by
  obtain ⟨hx, hb, hr, hml, hown, hw, hlocks⟩ := id C
  have hS : va_S (fun _ => False) s.heap s.heap [] := va_S.rf
  intro s0 hF ls hl
  rw [f_M_worthOf_b31] at hF
  refine lv_iconst (v := (0 : Int32)) hx hb dX10_worthOf_31 (by decide) ?_
  refine lv_iadd hx hb dX10_worthOf_32 ?_
  obtain rfl := Option.some.inj hF
  exact W.iret hx hb hr (fun t ht hW => ⟨rfl, ht⟩) nofun dX10_worthOf_33
set_option maxHeartbeats 4000000 in
set_option maxRecDepth 100000 in
theorem k_M_worthOf (l : Launch) (E : kE) (h_t : Nat) (h_t_s : Nat) (x_t_kept : Nat) (x_t_before : Nat) (x_t_findings : Nat) (x_t_shown : Nat) (x_t_worths : Nat) (x_t_steps : Nat) (x_t_tape : Nat) (x_t_bits : Nat) (x_t_longs : Nat) (x_t_cells : Nat) (x_t_between : Nat) (c_t_isKept : Int32) (c_t_most : Int32) (c_t_taped : Int32) (c_t_here : Int32) (c_t_fault : Int32) (c_t_value : Int32) (c_t_s : (Nat → Int32)) (a1 : Int32) (out : Int32) (hF : f_M_worthOf c_t_s a1 = some out) : Met l yX10_worthOf (Cond.code yX10_worthOf cX10_worthOf 3 (some .int) :: wG) (rm 5) (pR E (w_M_worthOf E h_t h_t_s x_t_kept x_t_before x_t_findings x_t_shown x_t_worths x_t_steps x_t_tape x_t_bits x_t_longs x_t_cells x_t_between c_t_isKept c_t_most c_t_taped c_t_here c_t_fault c_t_value c_t_s) [.ref h_t, .int a1]) (qR (.int out)) 0 0 (fun _ => False) := by
  refine met_R (by decide) (Nat.le_of_ble_eq_true rfl) ?_
  intro p e s m args below meth c ls C hP hK hT hl
  obtain ⟨hx, hb, hr, hml, hown, hw, hlocks⟩ := id C
  have hS : va_S (fun _ => False) s.heap s.heap [] := va_S.rf
  have hl : lv_has ls 3 [(0, .ref h_t), (1, .int a1)] := hl
  rw [f_M_worthOf] at hF
  refine lv_aload_n hx hb dX10_worthOf_0 rfl (lv_at hl 0 rfl) ?_
  refine lv_iload_n hx hb dX10_worthOf_1 rfl (lv_at hl 1 rfl) ?_
  obtain ⟨r1, er1, hF⟩ := kb hF
  refine kRV (rest := []) C (k_M_shows l E h_t h_t_s x_t_kept x_t_before x_t_findings x_t_shown x_t_worths x_t_steps x_t_tape x_t_bits x_t_longs x_t_cells x_t_between c_t_isKept c_t_most c_t_taped c_t_here c_t_fault c_t_value c_t_s a1 r1 er1) fn_M_shows mw_1103 ⟨Nat.le_of_ble_eq_true rfl, Nat.le_of_ble_eq_true rfl⟩ hK hT hS (va_recv hK hP (ci := 8) (q0 := 0) rfl rfl) hP [0, 1] rfl rfl rfl hl (Nat.le_of_ble_eq_true rfl) dX10_worthOf_2 ?_
  refine lv_istore_n (lv' := [(2, .int r1), (0, .ref h_t), (1, .int a1)]) hx hb dX10_worthOf_5 rfl hl (by decide) rfl (fun ls hl => ?_)
  refine lv_iload_n hx hb dX10_worthOf_6 rfl (lv_at hl 0 rfl) ?_
  obtain ⟨r2, er2, hF⟩ := kb hF
  refine kRS (rest := []) C (k_M_ones l E r1 r2 er2) fn_M_ones mw_989 ⟨Nat.le_of_ble_eq_true rfl, Nat.le_of_ble_eq_true rfl⟩ hK hT hS hP [] rfl rfl rfl hl (Nat.le_of_ble_eq_true rfl) dX10_worthOf_7 ?_
  refine lv_aload_n hx hb dX10_worthOf_10 rfl (lv_at hl 1 rfl) ?_
  refine lv_iload_n hx hb dX10_worthOf_11 rfl (lv_at hl 0 rfl) ?_
  obtain ⟨r3, er3, hF⟩ := kb hF
  refine kRV (rest := [.int r2]) C (k_M_readAs l E h_t h_t_s x_t_kept x_t_before x_t_findings x_t_shown x_t_worths x_t_steps x_t_tape x_t_bits x_t_longs x_t_cells x_t_between c_t_isKept c_t_most c_t_taped c_t_here c_t_fault c_t_value c_t_s r1 r3 er3) fn_M_readAs mw_1049 ⟨Nat.le_of_ble_eq_true rfl, Nat.le_of_ble_eq_true rfl⟩ hK hT hS (va_recv hK hP (ci := 8) (q0 := 0) rfl rfl) hP [0, 1] rfl rfl rfl hl (Nat.le_of_ble_eq_true rfl) dX10_worthOf_12 ?_
  refine lv_if_lt (tgt := 31) hx hb dX10_worthOf_15 (by decide) (fun q4 => ?_) (fun q4 => ?_)
  · have hF := kp hF q4
    exact wk_M_worthOf_b31 E h_t h_t_s x_t_kept x_t_before x_t_findings x_t_shown x_t_worths x_t_steps x_t_tape x_t_bits x_t_longs x_t_cells x_t_between c_t_isKept c_t_most c_t_taped c_t_here c_t_fault c_t_value c_t_s a1 C hP  hK hT  r2 hF _ (lv_sub hl [] rfl)
  · have hF := kn hF q4
    refine lv_aload_n hx hb dX10_worthOf_18 rfl (lv_at hl 1 rfl) ?_
    refine lv_iload_n hx hb dX10_worthOf_19 rfl (lv_at hl 2 rfl) ?_
    obtain ⟨r5, er5, hF⟩ := kb hF
    refine kRV (rest := [.int r2]) C (k_M_isOther l E h_t h_t_s x_t_kept x_t_before x_t_findings x_t_shown x_t_worths x_t_steps x_t_tape x_t_bits x_t_longs x_t_cells x_t_between c_t_isKept c_t_most c_t_taped c_t_here c_t_fault c_t_value c_t_s a1 r5 er5) fn_M_isOther mw_1141 ⟨Nat.le_of_ble_eq_true rfl, Nat.le_of_ble_eq_true rfl⟩ hK hT hS (va_recv hK hP (ci := 8) (q0 := 0) rfl rfl) hP [0, 1] rfl rfl rfl hl (Nat.le_of_ble_eq_true rfl) dX10_worthOf_20 ?_
    refine lv_if_ne (tgt := 31) hx hb dX10_worthOf_23 (by decide) (fun q6 => ?_) (fun q6 => ?_)
    · have hF := kn hF q6
      exact wk_M_worthOf_b31 E h_t h_t_s x_t_kept x_t_before x_t_findings x_t_shown x_t_worths x_t_steps x_t_tape x_t_bits x_t_longs x_t_cells x_t_between c_t_isKept c_t_most c_t_taped c_t_here c_t_fault c_t_value c_t_s a1 C hP  hK hT  r2 hF _ (lv_sub hl [] rfl)
    · have hF := kp hF q6
      refine lv_bipush (v := (10 : Int32)) hx hb dX10_worthOf_26 (by decide) ?_
      refine lv_goto (tgt := 32) hx hb dX10_worthOf_28 (by decide) ?_
      refine lv_iadd hx hb dX10_worthOf_32 ?_
      obtain rfl := Option.some.inj hF
      exact W.iret hx hb hr (fun t ht hW => ⟨rfl, ht⟩) nofun dX10_worthOf_33
abbrev w_M_bestSet (E : kE) (h_t : Nat) (h_t_s : Nat) (h_t_steps : Nat) (h_t_worths : Nat) (x_t_kept : Nat) (x_t_before : Nat) (x_t_findings : Nat) (x_t_shown : Nat) (x_t_tape : Nat) (x_t_bits : Nat) (x_t_longs : Nat) (x_t_cells : Nat) (x_t_between : Nat) (c_t_isKept : Int32) (c_t_most : Int32) (c_t_taped : Int32) (c_t_here : Int32) (c_t_fault : Int32) (c_t_value : Int32) (c_t_s : (Nat → Int32)) (c_t_steps : (Nat → Int32)) (c_t_worths : (Nat → Int32)) : va_W := [(h_t, .inr (8, [.ref h_t_s, .ref x_t_kept, .ref x_t_before, .int c_t_isKept, .ref x_t_findings, .ref x_t_shown, .int c_t_most, .ref h_t_worths, .ref h_t_steps, .ref x_t_tape, .int c_t_taped, .int c_t_here, .int c_t_fault, .int c_t_value, .ref x_t_bits, .ref x_t_longs, .ref x_t_cells, .ref x_t_between])), (h_t_s, .inl (eI E, 65, .inl c_t_s)), (h_t_steps, .inl (eI E, 12, .inl c_t_steps)), (h_t_worths, .inl (eI E, 12, .inl c_t_worths))]
set_option maxHeartbeats 4000000 in
set_option maxRecDepth 100000 in
theorem wk_M_bestSet_b128 {p : Program} {l : Launch} {e : Env} {s : State} {m : MethodId} {args : Array Value} {below : List Frame} {meth : Method} {c : Code} {A : Nat → Prop} (E : kE) (h_t : Nat) (h_t_s : Nat) (h_t_steps : Nat) (h_t_worths : Nat) (x_t_kept : Nat) (x_t_before : Nat) (x_t_findings : Nat) (x_t_shown : Nat) (x_t_tape : Nat) (x_t_bits : Nat) (x_t_longs : Nat) (x_t_cells : Nat) (x_t_between : Nat) (c_t_isKept : Int32) (c_t_taped : Int32) (c_t_here : Int32) (c_t_fault : Int32) (c_t_value : Int32) (c_t_s : (Nat → Int32)) (a1 : Int32) {out : Int32 × Int32 × (Nat → Int32) × (Nat → Int32)} (C : kC RX10 cX10_bestSet 7 (some .int) p s m args meth c) (hA : ∀ q : Nat, s.heap.size ≤ q → A q) (hK : va_K (eD E) vwCl (eT E) s) (hT : sT E A s s.heap) (k49 : Int32 → (Nat → Int32) → (Nat → Int32) → Int32 → Int32 → Option (Int32 × Int32 × (Nat → Int32) × (Nat → Int32))) (hk49 : ∀ (c_t_most : Int32) (c_t_steps : (Nat → Int32)) (c_t_worths : (Nat → Int32)) (v2 : Int32) (v3 : Int32), k49 c_t_most c_t_steps c_t_worths v2 v3 = some out → ∀ (H : Heap) (locs : List Loc), va_P (eD E) vwCl (w_M_bestSet E h_t h_t_s h_t_steps h_t_worths x_t_kept x_t_before x_t_findings x_t_shown x_t_tape x_t_bits x_t_longs x_t_cells x_t_between c_t_isKept c_t_most c_t_taped c_t_here c_t_fault c_t_value c_t_s c_t_steps c_t_worths) H → va_D A (w_M_bestSet E h_t h_t_s h_t_steps h_t_worths x_t_kept x_t_before x_t_findings x_t_shown x_t_tape x_t_bits x_t_longs x_t_cells x_t_between c_t_isKept c_t_most c_t_taped c_t_here c_t_fault c_t_value c_t_s c_t_steps c_t_worths) → va_S A s.heap H locs → ∀ (ls : Array Slot), lv_has ls 7 [(0, .ref h_t), (1, .int a1), (2, .int v2), (3, .int v3)] → W p l e (rm 10) s m args below meth c H locs 0 0 (MQ below (qW (some (.int out.1)) E (w_M_bestSet E h_t h_t_s h_t_steps h_t_worths x_t_kept x_t_before x_t_findings x_t_shown x_t_tape x_t_bits x_t_longs x_t_cells x_t_between c_t_isKept out.2.1 c_t_taped c_t_here c_t_fault c_t_value c_t_s out.2.2.1 out.2.2.2) A) args s 0 0 A) (F0 m 49 ls [])) (k70 : Int32 → (Nat → Int32) → (Nat → Int32) → Int32 → Int32 → Int32 → Int32 → Int32 → Option (Int32 × Int32 × (Nat → Int32) × (Nat → Int32))) (hk70 : ∀ (c_t_most : Int32) (c_t_steps : (Nat → Int32)) (c_t_worths : (Nat → Int32)) (v2 : Int32) (v3 : Int32) (v4 : Int32) (v5 : Int32) (v6 : Int32), k70 c_t_most c_t_steps c_t_worths v2 v3 v4 v5 v6 = some out → ∀ (H : Heap) (locs : List Loc), va_P (eD E) vwCl (w_M_bestSet E h_t h_t_s h_t_steps h_t_worths x_t_kept x_t_before x_t_findings x_t_shown x_t_tape x_t_bits x_t_longs x_t_cells x_t_between c_t_isKept c_t_most c_t_taped c_t_here c_t_fault c_t_value c_t_s c_t_steps c_t_worths) H → va_D A (w_M_bestSet E h_t h_t_s h_t_steps h_t_worths x_t_kept x_t_before x_t_findings x_t_shown x_t_tape x_t_bits x_t_longs x_t_cells x_t_between c_t_isKept c_t_most c_t_taped c_t_here c_t_fault c_t_value c_t_s c_t_steps c_t_worths) → va_S A s.heap H locs → ∀ (ls : Array Slot), lv_has ls 7 [(0, .ref h_t), (1, .int a1), (2, .int v2), (3, .int v3), (4, .int v4), (5, .int v5), (6, .int v6)] → W p l e (rm 10) s m args below meth c H locs 0 0 (MQ below (qW (some (.int out.1)) E (w_M_bestSet E h_t h_t_s h_t_steps h_t_worths x_t_kept x_t_before x_t_findings x_t_shown x_t_tape x_t_bits x_t_longs x_t_cells x_t_between c_t_isKept out.2.1 c_t_taped c_t_here c_t_fault c_t_value c_t_s out.2.2.1 out.2.2.2) A) args s 0 0 A) (F0 m 70 ls [])) :
    ∀ (c_t_most : Int32) (c_t_steps : (Nat → Int32)) (c_t_worths : (Nat → Int32)) (v2 : Int32) (v3 : Int32) (v4 : Int32) (v6 : Int32) (s0 : Int32) (s1 : Int32), f_M_bestSet_b128 k49 k70 c_t_s a1 c_t_most c_t_steps c_t_worths v2 v3 v4 v6 s0 s1 = some out → ∀ (H : Heap) (locs : List Loc), va_P (eD E) vwCl (w_M_bestSet E h_t h_t_s h_t_steps h_t_worths x_t_kept x_t_before x_t_findings x_t_shown x_t_tape x_t_bits x_t_longs x_t_cells x_t_between c_t_isKept c_t_most c_t_taped c_t_here c_t_fault c_t_value c_t_s c_t_steps c_t_worths) H → va_D A (w_M_bestSet E h_t h_t_s h_t_steps h_t_worths x_t_kept x_t_before x_t_findings x_t_shown x_t_tape x_t_bits x_t_longs x_t_cells x_t_between c_t_isKept c_t_most c_t_taped c_t_here c_t_fault c_t_value c_t_s c_t_steps c_t_worths) → va_S A s.heap H locs → ∀ (ls : Array Slot), lv_has ls 7 [(0, .ref h_t), (1, .int a1), (2, .int v2), (3, .int v3), (4, .int v4), (6, .int v6)] → W p l e (rm 10) s m args below meth c H locs 0 0 (MQ below (qW (some (.int out.1)) E (w_M_bestSet E h_t h_t_s h_t_steps h_t_worths x_t_kept x_t_before x_t_findings x_t_shown x_t_tape x_t_bits x_t_longs x_t_cells x_t_between c_t_isKept out.2.1 c_t_taped c_t_here c_t_fault c_t_value c_t_s out.2.2.1 out.2.2.2) A) args s 0 0 A) (F0 m 128 ls [.int s0, .int s1]) := by
  obtain ⟨hx, hb, hr, hml, hown, hw, hlocks⟩ := id C
  intro c_t_most c_t_steps c_t_worths v2 v3 v4 v6 s0 s1 hF H locs hP hD hS ls hl
  rw [f_M_bestSet_b128] at hF
  refine lv_iadd hx hb dX10_bestSet_128 ?_
  refine lv_istore (lv' := [(5, .int (s1 + s0)), (0, .ref h_t), (1, .int a1), (2, .int v2), (3, .int v3), (4, .int v4), (6, .int v6)]) hx hb dX10_bestSet_129 hl (by decide) rfl (fun ls hl => ?_)
  refine lv_iinc (v := (v6 + (1))) (lv' := [(6, .int (v6 + (1))), (5, .int (s1 + s0)), (0, .ref h_t), (1, .int a1), (2, .int v2), (3, .int v3), (4, .int v4)]) hx hb dX10_bestSet_131 hl (k := 6) rfl rfl (by decide) rfl (fun ls hl => ?_)
  refine lv_goto (tgt := 70) hx hb dX10_bestSet_134 (by decide) ?_
  exact hk70 c_t_most c_t_steps c_t_worths v2 v3 v4 (s1 + s0) (v6 + (1)) hF _ _ hP hD hS _ (lv_sub hl [2, 3, 4, 5, 6, 1, 0] rfl)
set_option maxHeartbeats 4000000 in
set_option maxRecDepth 100000 in
theorem wk_M_bestSet_b103 {p : Program} {l : Launch} {e : Env} {s : State} {m : MethodId} {args : Array Value} {below : List Frame} {meth : Method} {c : Code} {A : Nat → Prop} (E : kE) (h_t : Nat) (h_t_s : Nat) (h_t_steps : Nat) (h_t_worths : Nat) (x_t_kept : Nat) (x_t_before : Nat) (x_t_findings : Nat) (x_t_shown : Nat) (x_t_tape : Nat) (x_t_bits : Nat) (x_t_longs : Nat) (x_t_cells : Nat) (x_t_between : Nat) (c_t_isKept : Int32) (c_t_taped : Int32) (c_t_here : Int32) (c_t_fault : Int32) (c_t_value : Int32) (c_t_s : (Nat → Int32)) (a1 : Int32) {out : Int32 × Int32 × (Nat → Int32) × (Nat → Int32)} (C : kC RX10 cX10_bestSet 7 (some .int) p s m args meth c) (hA : ∀ q : Nat, s.heap.size ≤ q → A q) (hK : va_K (eD E) vwCl (eT E) s) (hT : sT E A s s.heap) (k49 : Int32 → (Nat → Int32) → (Nat → Int32) → Int32 → Int32 → Option (Int32 × Int32 × (Nat → Int32) × (Nat → Int32))) (hk49 : ∀ (c_t_most : Int32) (c_t_steps : (Nat → Int32)) (c_t_worths : (Nat → Int32)) (v2 : Int32) (v3 : Int32), k49 c_t_most c_t_steps c_t_worths v2 v3 = some out → ∀ (H : Heap) (locs : List Loc), va_P (eD E) vwCl (w_M_bestSet E h_t h_t_s h_t_steps h_t_worths x_t_kept x_t_before x_t_findings x_t_shown x_t_tape x_t_bits x_t_longs x_t_cells x_t_between c_t_isKept c_t_most c_t_taped c_t_here c_t_fault c_t_value c_t_s c_t_steps c_t_worths) H → va_D A (w_M_bestSet E h_t h_t_s h_t_steps h_t_worths x_t_kept x_t_before x_t_findings x_t_shown x_t_tape x_t_bits x_t_longs x_t_cells x_t_between c_t_isKept c_t_most c_t_taped c_t_here c_t_fault c_t_value c_t_s c_t_steps c_t_worths) → va_S A s.heap H locs → ∀ (ls : Array Slot), lv_has ls 7 [(0, .ref h_t), (1, .int a1), (2, .int v2), (3, .int v3)] → W p l e (rm 10) s m args below meth c H locs 0 0 (MQ below (qW (some (.int out.1)) E (w_M_bestSet E h_t h_t_s h_t_steps h_t_worths x_t_kept x_t_before x_t_findings x_t_shown x_t_tape x_t_bits x_t_longs x_t_cells x_t_between c_t_isKept out.2.1 c_t_taped c_t_here c_t_fault c_t_value c_t_s out.2.2.1 out.2.2.2) A) args s 0 0 A) (F0 m 49 ls [])) (k70 : Int32 → (Nat → Int32) → (Nat → Int32) → Int32 → Int32 → Int32 → Int32 → Int32 → Option (Int32 × Int32 × (Nat → Int32) × (Nat → Int32))) (hk70 : ∀ (c_t_most : Int32) (c_t_steps : (Nat → Int32)) (c_t_worths : (Nat → Int32)) (v2 : Int32) (v3 : Int32) (v4 : Int32) (v5 : Int32) (v6 : Int32), k70 c_t_most c_t_steps c_t_worths v2 v3 v4 v5 v6 = some out → ∀ (H : Heap) (locs : List Loc), va_P (eD E) vwCl (w_M_bestSet E h_t h_t_s h_t_steps h_t_worths x_t_kept x_t_before x_t_findings x_t_shown x_t_tape x_t_bits x_t_longs x_t_cells x_t_between c_t_isKept c_t_most c_t_taped c_t_here c_t_fault c_t_value c_t_s c_t_steps c_t_worths) H → va_D A (w_M_bestSet E h_t h_t_s h_t_steps h_t_worths x_t_kept x_t_before x_t_findings x_t_shown x_t_tape x_t_bits x_t_longs x_t_cells x_t_between c_t_isKept c_t_most c_t_taped c_t_here c_t_fault c_t_value c_t_s c_t_steps c_t_worths) → va_S A s.heap H locs → ∀ (ls : Array Slot), lv_has ls 7 [(0, .ref h_t), (1, .int a1), (2, .int v2), (3, .int v3), (4, .int v4), (5, .int v5), (6, .int v6)] → W p l e (rm 10) s m args below meth c H locs 0 0 (MQ below (qW (some (.int out.1)) E (w_M_bestSet E h_t h_t_s h_t_steps h_t_worths x_t_kept x_t_before x_t_findings x_t_shown x_t_tape x_t_bits x_t_longs x_t_cells x_t_between c_t_isKept out.2.1 c_t_taped c_t_here c_t_fault c_t_value c_t_s out.2.2.1 out.2.2.2) A) args s 0 0 A) (F0 m 70 ls [])) :
    ∀ (c_t_most : Int32) (c_t_steps : (Nat → Int32)) (c_t_worths : (Nat → Int32)) (v2 : Int32) (v3 : Int32) (v5 : Int32) (v6 : Int32) (s0 : Int32) (s1 : Int32), f_M_bestSet_b103 k49 k70 c_t_s a1 c_t_most c_t_steps c_t_worths v2 v3 v5 v6 s0 s1 = some out → ∀ (H : Heap) (locs : List Loc), va_P (eD E) vwCl (w_M_bestSet E h_t h_t_s h_t_steps h_t_worths x_t_kept x_t_before x_t_findings x_t_shown x_t_tape x_t_bits x_t_longs x_t_cells x_t_between c_t_isKept c_t_most c_t_taped c_t_here c_t_fault c_t_value c_t_s c_t_steps c_t_worths) H → va_D A (w_M_bestSet E h_t h_t_s h_t_steps h_t_worths x_t_kept x_t_before x_t_findings x_t_shown x_t_tape x_t_bits x_t_longs x_t_cells x_t_between c_t_isKept c_t_most c_t_taped c_t_here c_t_fault c_t_value c_t_s c_t_steps c_t_worths) → va_S A s.heap H locs → ∀ (ls : Array Slot), lv_has ls 7 [(0, .ref h_t), (1, .int a1), (2, .int v2), (3, .int v3), (5, .int v5), (6, .int v6)] → W p l e (rm 10) s m args below meth c H locs 0 0 (MQ below (qW (some (.int out.1)) E (w_M_bestSet E h_t h_t_s h_t_steps h_t_worths x_t_kept x_t_before x_t_findings x_t_shown x_t_tape x_t_bits x_t_longs x_t_cells x_t_between c_t_isKept out.2.1 c_t_taped c_t_here c_t_fault c_t_value c_t_s out.2.2.1 out.2.2.2) A) args s 0 0 A) (F0 m 103 ls [.int s0, .int s1]) := by
  obtain ⟨hx, hb, hr, hml, hown, hw, hlocks⟩ := id C
  intro c_t_most c_t_steps c_t_worths v2 v3 v5 v6 s0 s1 hF H locs hP hD hS ls hl
  rw [f_M_bestSet_b103] at hF
  refine lv_iadd hx hb dX10_bestSet_103 ?_
  refine lv_istore (lv' := [(4, .int (s1 + s0)), (0, .ref h_t), (1, .int a1), (2, .int v2), (3, .int v3), (5, .int v5), (6, .int v6)]) hx hb dX10_bestSet_104 hl (by decide) rfl (fun ls hl => ?_)
  refine lv_iload hx hb dX10_bestSet_106 (lv_at hl 5 rfl) ?_
  refine lv_iload_n hx hb dX10_bestSet_108 rfl (lv_at hl 4 rfl) ?_
  refine lv_iload hx hb dX10_bestSet_109 (lv_at hl 6 rfl) ?_
  obtain ⟨r1, er1, hF⟩ := kb hF
  refine kRS (rest := [.int v5]) C (k_M_has l E v3 v6 r1 er1) fn_M_has mw_952 ⟨Nat.le_of_ble_eq_true rfl, Nat.le_of_ble_eq_true rfl⟩ hK hT hS hP [] rfl rfl rfl hl (Nat.le_of_ble_eq_true rfl) dX10_bestSet_111 ?_
  refine lv_if_eq (tgt := 127) hx hb dX10_bestSet_114 (by decide) (fun q2 => ?_) (fun q2 => ?_)
  · have hF := kp hF q2
    refine lv_iconst (v := (0 : Int32)) hx hb dX10_bestSet_127 (by decide) ?_
    exact wk_M_bestSet_b128 E h_t h_t_s h_t_steps h_t_worths x_t_kept x_t_before x_t_findings x_t_shown x_t_tape x_t_bits x_t_longs x_t_cells x_t_between c_t_isKept c_t_taped c_t_here c_t_fault c_t_value c_t_s a1 C hA  hK hT k49 hk49 k70 hk70 c_t_most c_t_steps c_t_worths v2 v3 (s1 + s0) v6 (0 : Int32) v5 hF _ _ hP hD hS _ (lv_sub hl [1, 2, 3, 4, 0, 6] rfl)
  · have hF := kn hF q2
    refine lv_aload_n hx hb dX10_bestSet_117 rfl (lv_at hl 1 rfl) ?_
    refine va_get (D := eD E) (ci := 8) (C := RX10) (T := TX10) (N := 18) (v := .ref h_t_steps) hx hb hw inX10 hown hK hP 0 rfl rfl 8 (by decide) (hw _ mw_889) (fun _ h9 => h9) rfl dX10_bestSet_118 ?_
    refine lv_iload hx hb dX10_bestSet_121 (lv_at hl 6 rfl) ?_
    obtain ⟨r3, er3, hF⟩ := kb hF
    refine wa_iald hx hb hK hP 2 0 rfl rfl er3 dX10_bestSet_123 ?_
    refine lv_goto (tgt := 128) hx hb dX10_bestSet_124 (by decide) ?_
    exact wk_M_bestSet_b128 E h_t h_t_s h_t_steps h_t_worths x_t_kept x_t_before x_t_findings x_t_shown x_t_tape x_t_bits x_t_longs x_t_cells x_t_between c_t_isKept c_t_taped c_t_here c_t_fault c_t_value c_t_s a1 C hA  hK hT k49 hk49 k70 hk70 c_t_most c_t_steps c_t_worths v2 v3 (s1 + s0) v6 r3 v5 hF _ _ hP hD hS _ (lv_sub hl [1, 2, 3, 4, 0, 6] rfl)
set_option maxHeartbeats 4000000 in
set_option maxRecDepth 100000 in
theorem wk_M_bestSet_b70 {p : Program} {l : Launch} {e : Env} {s : State} {m : MethodId} {args : Array Value} {below : List Frame} {meth : Method} {c : Code} {A : Nat → Prop} (E : kE) (h_t : Nat) (h_t_s : Nat) (h_t_steps : Nat) (h_t_worths : Nat) (x_t_kept : Nat) (x_t_before : Nat) (x_t_findings : Nat) (x_t_shown : Nat) (x_t_tape : Nat) (x_t_bits : Nat) (x_t_longs : Nat) (x_t_cells : Nat) (x_t_between : Nat) (c_t_isKept : Int32) (c_t_taped : Int32) (c_t_here : Int32) (c_t_fault : Int32) (c_t_value : Int32) (c_t_s : (Nat → Int32)) (a1 : Int32) {out : Int32 × Int32 × (Nat → Int32) × (Nat → Int32)} (C : kC RX10 cX10_bestSet 7 (some .int) p s m args meth c) (hA : ∀ q : Nat, s.heap.size ≤ q → A q) (hK : va_K (eD E) vwCl (eT E) s) (hT : sT E A s s.heap) (k49 : Int32 → (Nat → Int32) → (Nat → Int32) → Int32 → Int32 → Option (Int32 × Int32 × (Nat → Int32) × (Nat → Int32))) (hk49 : ∀ (c_t_most : Int32) (c_t_steps : (Nat → Int32)) (c_t_worths : (Nat → Int32)) (v2 : Int32) (v3 : Int32), k49 c_t_most c_t_steps c_t_worths v2 v3 = some out → ∀ (H : Heap) (locs : List Loc), va_P (eD E) vwCl (w_M_bestSet E h_t h_t_s h_t_steps h_t_worths x_t_kept x_t_before x_t_findings x_t_shown x_t_tape x_t_bits x_t_longs x_t_cells x_t_between c_t_isKept c_t_most c_t_taped c_t_here c_t_fault c_t_value c_t_s c_t_steps c_t_worths) H → va_D A (w_M_bestSet E h_t h_t_s h_t_steps h_t_worths x_t_kept x_t_before x_t_findings x_t_shown x_t_tape x_t_bits x_t_longs x_t_cells x_t_between c_t_isKept c_t_most c_t_taped c_t_here c_t_fault c_t_value c_t_s c_t_steps c_t_worths) → va_S A s.heap H locs → ∀ (ls : Array Slot), lv_has ls 7 [(0, .ref h_t), (1, .int a1), (2, .int v2), (3, .int v3)] → W p l e (rm 10) s m args below meth c H locs 0 0 (MQ below (qW (some (.int out.1)) E (w_M_bestSet E h_t h_t_s h_t_steps h_t_worths x_t_kept x_t_before x_t_findings x_t_shown x_t_tape x_t_bits x_t_longs x_t_cells x_t_between c_t_isKept out.2.1 c_t_taped c_t_here c_t_fault c_t_value c_t_s out.2.2.1 out.2.2.2) A) args s 0 0 A) (F0 m 49 ls [])) :
    ∀ (n : Nat), ∀ (c_t_most : Int32) (c_t_steps : (Nat → Int32)) (c_t_worths : (Nat → Int32)) (v2 : Int32) (v3 : Int32) (v4 : Int32) (v5 : Int32) (v6 : Int32), f_M_bestSet_b70 k49 c_t_s a1 n c_t_most c_t_steps c_t_worths v2 v3 v4 v5 v6 = some out → ∀ (H : Heap) (locs : List Loc), va_P (eD E) vwCl (w_M_bestSet E h_t h_t_s h_t_steps h_t_worths x_t_kept x_t_before x_t_findings x_t_shown x_t_tape x_t_bits x_t_longs x_t_cells x_t_between c_t_isKept c_t_most c_t_taped c_t_here c_t_fault c_t_value c_t_s c_t_steps c_t_worths) H → va_D A (w_M_bestSet E h_t h_t_s h_t_steps h_t_worths x_t_kept x_t_before x_t_findings x_t_shown x_t_tape x_t_bits x_t_longs x_t_cells x_t_between c_t_isKept c_t_most c_t_taped c_t_here c_t_fault c_t_value c_t_s c_t_steps c_t_worths) → va_S A s.heap H locs → ∀ (ls : Array Slot), lv_has ls 7 [(0, .ref h_t), (1, .int a1), (2, .int v2), (3, .int v3), (4, .int v4), (5, .int v5), (6, .int v6)] → W p l e (rm 10) s m args below meth c H locs 0 0 (MQ below (qW (some (.int out.1)) E (w_M_bestSet E h_t h_t_s h_t_steps h_t_worths x_t_kept x_t_before x_t_findings x_t_shown x_t_tape x_t_bits x_t_longs x_t_cells x_t_between c_t_isKept out.2.1 c_t_taped c_t_here c_t_fault c_t_value c_t_s out.2.2.1 out.2.2.2) A) args s 0 0 A) (F0 m 70 ls []) := by
  obtain ⟨hx, hb, hr, hml, hown, hw, hlocks⟩ := id C
  intro n
  induction n with
  | zero =>
    intro c_t_most c_t_steps c_t_worths v2 v3 v4 v5 v6 hF
    exact absurd (show (none : Option (Int32 × Int32 × (Nat → Int32) × (Nat → Int32))) = some out from hF) nofun
  | succ n ih =>
    intro c_t_most c_t_steps c_t_worths v2 v3 v4 v5 v6 hF H locs hP hD hS ls hl
    rw [f_M_bestSet_b70] at hF
    refine lv_iload hx hb dX10_bestSet_70 (lv_at hl 6 rfl) ?_
    refine lv_aload_n hx hb dX10_bestSet_72 rfl (lv_at hl 0 rfl) ?_
    refine va_get (D := eD E) (ci := 8) (C := RX10) (T := TX10) (N := 18) (v := .ref h_t_s) hx hb hw inX10 hown hK hP 0 rfl rfl 0 (by decide) (hw _ mw_881) (fun _ h9 => h9) rfl dX10_bestSet_73 ?_
    refine lv_iconst (v := (2 : Int32)) hx hb dX10_bestSet_76 (by decide) ?_
    obtain ⟨r4, er4, hF⟩ := kb hF
    refine wa_iald hx hb hK hP 1 0 rfl rfl er4 dX10_bestSet_77 ?_
    refine lv_icmp_ge (tgt := 137) hx hb dX10_bestSet_78 (by decide) (fun q5 => ?_) (fun q5 => ?_)
    · have hF := kp hF q5
      refine lv_iload hx hb dX10_bestSet_137 (lv_at hl 5 rfl) ?_
      refine lv_iload_n hx hb dX10_bestSet_139 rfl (lv_at hl 1 rfl) ?_
      refine lv_icmp_gt (tgt := 160) hx hb dX10_bestSet_140 (by decide) (fun q6 => ?_) (fun q6 => ?_)
      · have hF := kp hF q6
        refine lv_iinc (v := (v3 + (1))) (lv' := [(3, .int (v3 + (1))), (0, .ref h_t), (1, .int a1), (2, .int v2), (4, .int v4), (5, .int v5), (6, .int v6)]) hx hb dX10_bestSet_160 hl (k := 3) rfl rfl (by decide) rfl (fun ls hl => ?_)
        refine lv_goto (tgt := 49) hx hb dX10_bestSet_163 (by decide) ?_
        exact hk49 c_t_most c_t_steps c_t_worths v2 (v3 + (1)) hF _ _ hP hD hS _ (lv_sub hl [1, 2, 3, 0] rfl)
      · have hF := kn hF q6
        refine lv_iload hx hb dX10_bestSet_143 (lv_at hl 4 rfl) ?_
        refine lv_aload_n hx hb dX10_bestSet_145 rfl (lv_at hl 0 rfl) ?_
        refine va_get (D := eD E) (ci := 8) (C := RX10) (T := TX10) (N := 18) (v := .int c_t_most) hx hb hw inX10 hown hK hP 0 rfl rfl 6 (by decide) (hw _ mw_887) (fun _ h9 => h9) rfl dX10_bestSet_146 ?_
        refine lv_icmp_le (tgt := 160) hx hb dX10_bestSet_149 (by decide) (fun q7 => ?_) (fun q7 => ?_)
        · have hF := kp hF q7
          refine lv_iinc (v := (v3 + (1))) (lv' := [(3, .int (v3 + (1))), (0, .ref h_t), (1, .int a1), (2, .int v2), (4, .int v4), (5, .int v5), (6, .int v6)]) hx hb dX10_bestSet_160 hl (k := 3) rfl rfl (by decide) rfl (fun ls hl => ?_)
          refine lv_goto (tgt := 49) hx hb dX10_bestSet_163 (by decide) ?_
          exact hk49 c_t_most c_t_steps c_t_worths v2 (v3 + (1)) hF _ _ hP hD hS _ (lv_sub hl [1, 2, 3, 0] rfl)
        · have hF := kn hF q7
          refine lv_aload_n hx hb dX10_bestSet_152 rfl (lv_at hl 0 rfl) ?_
          refine lv_iload hx hb dX10_bestSet_153 (lv_at hl 4 rfl) ?_
          refine va_put (D := eD E) (ci := 8) (v := .int v4) (ty := .int) (C := RX10) (T := TX10) (N := 18) hx hb hw inX10 tyX10 tyX10_ok nmX10 hown hK hP hD hS 0 rfl rfl 6 (by decide) (hw _ mw_887) (fun _ h9 => h9) rfl (by decide +kernel) rfl rfl (Nat.le_of_ble_eq_true rfl) dX10_bestSet_155 (fun H locs hP hD hS => ?_)
          have hP : va_P (eD E) vwCl (w_M_bestSet E h_t h_t_s h_t_steps h_t_worths x_t_kept x_t_before x_t_findings x_t_shown x_t_tape x_t_bits x_t_longs x_t_cells x_t_between c_t_isKept v4 c_t_taped c_t_here c_t_fault c_t_value c_t_s c_t_steps c_t_worths) H := hP
          have hD : va_D A (w_M_bestSet E h_t h_t_s h_t_steps h_t_worths x_t_kept x_t_before x_t_findings x_t_shown x_t_tape x_t_bits x_t_longs x_t_cells x_t_between c_t_isKept v4 c_t_taped c_t_here c_t_fault c_t_value c_t_s c_t_steps c_t_worths) := hD
          refine lv_iload_n hx hb dX10_bestSet_158 rfl (lv_at hl 3 rfl) ?_
          refine lv_istore_n (lv' := [(2, .int v3), (0, .ref h_t), (1, .int a1), (3, .int v3), (4, .int v4), (5, .int v5), (6, .int v6)]) hx hb dX10_bestSet_159 rfl hl (by decide) rfl (fun ls hl => ?_)
          refine lv_iinc (v := (v3 + (1))) (lv' := [(3, .int (v3 + (1))), (2, .int v3), (0, .ref h_t), (1, .int a1), (4, .int v4), (5, .int v5), (6, .int v6)]) hx hb dX10_bestSet_160 hl (k := 3) rfl rfl (by decide) rfl (fun ls hl => ?_)
          refine lv_goto (tgt := 49) hx hb dX10_bestSet_163 (by decide) ?_
          exact hk49 v4 c_t_steps c_t_worths v3 (v3 + (1)) hF _ _ hP hD hS _ (lv_sub hl [2, 3, 1, 0] rfl)
    · have hF := kn hF q5
      refine lv_iload hx hb dX10_bestSet_81 (lv_at hl 4 rfl) ?_
      refine lv_iload_n hx hb dX10_bestSet_83 rfl (lv_at hl 3 rfl) ?_
      refine lv_iload hx hb dX10_bestSet_84 (lv_at hl 6 rfl) ?_
      obtain ⟨r8, er8, hF⟩ := kb hF
      refine kRS (rest := [.int v4]) C (k_M_has l E v3 v6 r8 er8) fn_M_has mw_952 ⟨Nat.le_of_ble_eq_true rfl, Nat.le_of_ble_eq_true rfl⟩ hK hT hS hP [] rfl rfl rfl hl (Nat.le_of_ble_eq_true rfl) dX10_bestSet_86 ?_
      refine lv_if_eq (tgt := 102) hx hb dX10_bestSet_89 (by decide) (fun q9 => ?_) (fun q9 => ?_)
      · have hF := kp hF q9
        refine lv_iconst (v := (0 : Int32)) hx hb dX10_bestSet_102 (by decide) ?_
        exact wk_M_bestSet_b103 E h_t h_t_s h_t_steps h_t_worths x_t_kept x_t_before x_t_findings x_t_shown x_t_tape x_t_bits x_t_longs x_t_cells x_t_between c_t_isKept c_t_taped c_t_here c_t_fault c_t_value c_t_s a1 C hA  hK hT k49 hk49 (f_M_bestSet_b70 k49 c_t_s a1 n) ih c_t_most c_t_steps c_t_worths v2 v3 v5 v6 (0 : Int32) v4 hF _ _ hP hD hS _ (lv_sub hl [0, 1, 2, 3, 5, 6] rfl)
      · have hF := kn hF q9
        refine lv_aload_n hx hb dX10_bestSet_92 rfl (lv_at hl 0 rfl) ?_
        refine va_get (D := eD E) (ci := 8) (C := RX10) (T := TX10) (N := 18) (v := .ref h_t_worths) hx hb hw inX10 hown hK hP 0 rfl rfl 7 (by decide) (hw _ mw_888) (fun _ h9 => h9) rfl dX10_bestSet_93 ?_
        refine lv_iload hx hb dX10_bestSet_96 (lv_at hl 6 rfl) ?_
        obtain ⟨r10, er10, hF⟩ := kb hF
        refine wa_iald hx hb hK hP 3 0 rfl rfl er10 dX10_bestSet_98 ?_
        refine lv_goto (tgt := 103) hx hb dX10_bestSet_99 (by decide) ?_
        exact wk_M_bestSet_b103 E h_t h_t_s h_t_steps h_t_worths x_t_kept x_t_before x_t_findings x_t_shown x_t_tape x_t_bits x_t_longs x_t_cells x_t_between c_t_isKept c_t_taped c_t_here c_t_fault c_t_value c_t_s a1 C hA  hK hT k49 hk49 (f_M_bestSet_b70 k49 c_t_s a1 n) ih c_t_most c_t_steps c_t_worths v2 v3 v5 v6 r10 v4 hF _ _ hP hD hS _ (lv_sub hl [0, 1, 2, 3, 5, 6] rfl)
set_option maxHeartbeats 4000000 in
set_option maxRecDepth 100000 in
theorem wk_M_bestSet_b49 {p : Program} {l : Launch} {e : Env} {s : State} {m : MethodId} {args : Array Value} {below : List Frame} {meth : Method} {c : Code} {A : Nat → Prop} (E : kE) (h_t : Nat) (h_t_s : Nat) (h_t_steps : Nat) (h_t_worths : Nat) (x_t_kept : Nat) (x_t_before : Nat) (x_t_findings : Nat) (x_t_shown : Nat) (x_t_tape : Nat) (x_t_bits : Nat) (x_t_longs : Nat) (x_t_cells : Nat) (x_t_between : Nat) (c_t_isKept : Int32) (c_t_taped : Int32) (c_t_here : Int32) (c_t_fault : Int32) (c_t_value : Int32) (c_t_s : (Nat → Int32)) (a1 : Int32) {out : Int32 × Int32 × (Nat → Int32) × (Nat → Int32)} (C : kC RX10 cX10_bestSet 7 (some .int) p s m args meth c) (hA : ∀ q : Nat, s.heap.size ≤ q → A q) (hK : va_K (eD E) vwCl (eT E) s) (hT : sT E A s s.heap)  :
    ∀ (n : Nat), ∀ (c_t_most : Int32) (c_t_steps : (Nat → Int32)) (c_t_worths : (Nat → Int32)) (v2 : Int32) (v3 : Int32), f_M_bestSet_b49  c_t_s a1 n c_t_most c_t_steps c_t_worths v2 v3 = some out → ∀ (H : Heap) (locs : List Loc), va_P (eD E) vwCl (w_M_bestSet E h_t h_t_s h_t_steps h_t_worths x_t_kept x_t_before x_t_findings x_t_shown x_t_tape x_t_bits x_t_longs x_t_cells x_t_between c_t_isKept c_t_most c_t_taped c_t_here c_t_fault c_t_value c_t_s c_t_steps c_t_worths) H → va_D A (w_M_bestSet E h_t h_t_s h_t_steps h_t_worths x_t_kept x_t_before x_t_findings x_t_shown x_t_tape x_t_bits x_t_longs x_t_cells x_t_between c_t_isKept c_t_most c_t_taped c_t_here c_t_fault c_t_value c_t_s c_t_steps c_t_worths) → va_S A s.heap H locs → ∀ (ls : Array Slot), lv_has ls 7 [(0, .ref h_t), (1, .int a1), (2, .int v2), (3, .int v3)] → W p l e (rm 10) s m args below meth c H locs 0 0 (MQ below (qW (some (.int out.1)) E (w_M_bestSet E h_t h_t_s h_t_steps h_t_worths x_t_kept x_t_before x_t_findings x_t_shown x_t_tape x_t_bits x_t_longs x_t_cells x_t_between c_t_isKept out.2.1 c_t_taped c_t_here c_t_fault c_t_value c_t_s out.2.2.1 out.2.2.2) A) args s 0 0 A) (F0 m 49 ls []) := by
  obtain ⟨hx, hb, hr, hml, hown, hw, hlocks⟩ := id C
  intro n
  induction n with
  | zero =>
    intro c_t_most c_t_steps c_t_worths v2 v3 hF
    exact absurd (show (none : Option (Int32 × Int32 × (Nat → Int32) × (Nat → Int32))) = some out from hF) nofun
  | succ n ih =>
    intro c_t_most c_t_steps c_t_worths v2 v3 hF H locs hP hD hS ls hl
    rw [f_M_bestSet_b49] at hF
    refine lv_iload_n hx hb dX10_bestSet_49 rfl (lv_at hl 3 rfl) ?_
    refine lv_iconst (v := (1 : Int32)) hx hb dX10_bestSet_50 (by decide) ?_
    refine lv_aload_n hx hb dX10_bestSet_51 rfl (lv_at hl 0 rfl) ?_
    refine va_get (D := eD E) (ci := 8) (C := RX10) (T := TX10) (N := 18) (v := .ref h_t_s) hx hb hw inX10 hown hK hP 0 rfl rfl 0 (by decide) (hw _ mw_881) (fun _ h9 => h9) rfl dX10_bestSet_52 ?_
    refine lv_iconst (v := (2 : Int32)) hx hb dX10_bestSet_55 (by decide) ?_
    obtain ⟨r11, er11, hF⟩ := kb hF
    refine wa_iald hx hb hK hP 1 0 rfl rfl er11 dX10_bestSet_56 ?_
    refine lv_ishl hx hb dX10_bestSet_57 ?_
    refine lv_icmp_ge (tgt := 166) hx hb dX10_bestSet_58 (by decide) (fun q12 => ?_) (fun q12 => ?_)
    · have hF := kp hF q12
      refine lv_iload_n hx hb dX10_bestSet_166 rfl (lv_at hl 2 rfl) ?_
      obtain rfl := Option.some.inj hF
      exact W.iret hx hb hr (fun t ht hW => ⟨⟨rfl, by rw [ht]; exact hP, hD⟩, hS.F ht⟩) hS.2.2 dX10_bestSet_167
    · have hF := kn hF q12
      refine lv_iconst (v := (0 : Int32)) hx hb dX10_bestSet_61 (by decide) ?_
      refine lv_istore (lv' := [(4, .int (0 : Int32)), (0, .ref h_t), (1, .int a1), (2, .int v2), (3, .int v3)]) hx hb dX10_bestSet_62 hl (by decide) rfl (fun ls hl => ?_)
      refine lv_iconst (v := (0 : Int32)) hx hb dX10_bestSet_64 (by decide) ?_
      refine lv_istore (lv' := [(5, .int (0 : Int32)), (4, .int (0 : Int32)), (0, .ref h_t), (1, .int a1), (2, .int v2), (3, .int v3)]) hx hb dX10_bestSet_65 hl (by decide) rfl (fun ls hl => ?_)
      refine lv_iconst (v := (0 : Int32)) hx hb dX10_bestSet_67 (by decide) ?_
      refine lv_istore (lv' := [(6, .int (0 : Int32)), (5, .int (0 : Int32)), (4, .int (0 : Int32)), (0, .ref h_t), (1, .int a1), (2, .int v2), (3, .int v3)]) hx hb dX10_bestSet_68 hl (by decide) rfl (fun ls hl => ?_)
      exact wk_M_bestSet_b70 E h_t h_t_s h_t_steps h_t_worths x_t_kept x_t_before x_t_findings x_t_shown x_t_tape x_t_bits x_t_longs x_t_cells x_t_between c_t_isKept c_t_taped c_t_here c_t_fault c_t_value c_t_s a1 C hA  hK hT (f_M_bestSet_b49  c_t_s a1 n) ih 5000 c_t_most c_t_steps c_t_worths v2 v3 (0 : Int32) (0 : Int32) (0 : Int32) hF _ _ hP hD hS _ (lv_sub hl [3, 4, 5, 6, 2, 1, 0] rfl)
set_option maxHeartbeats 4000000 in
set_option maxRecDepth 100000 in
theorem wk_M_bestSet_b2 {p : Program} {l : Launch} {e : Env} {s : State} {m : MethodId} {args : Array Value} {below : List Frame} {meth : Method} {c : Code} {A : Nat → Prop} (E : kE) (h_t : Nat) (h_t_s : Nat) (h_t_steps : Nat) (h_t_worths : Nat) (x_t_kept : Nat) (x_t_before : Nat) (x_t_findings : Nat) (x_t_shown : Nat) (x_t_tape : Nat) (x_t_bits : Nat) (x_t_longs : Nat) (x_t_cells : Nat) (x_t_between : Nat) (c_t_isKept : Int32) (c_t_taped : Int32) (c_t_here : Int32) (c_t_fault : Int32) (c_t_value : Int32) (c_t_s : (Nat → Int32)) (a1 : Int32) {out : Int32 × Int32 × (Nat → Int32) × (Nat → Int32)} (C : kC RX10 cX10_bestSet 7 (some .int) p s m args meth c) (hA : ∀ q : Nat, s.heap.size ≤ q → A q) (hK : va_K (eD E) vwCl (eT E) s) (hT : sT E A s s.heap)  :
    ∀ (n : Nat), ∀ (c_t_most : Int32) (c_t_steps : (Nat → Int32)) (c_t_worths : (Nat → Int32)) (v2 : Int32), f_M_bestSet_b2  c_t_s a1 n c_t_most c_t_steps c_t_worths v2 = some out → ∀ (H : Heap) (locs : List Loc), va_P (eD E) vwCl (w_M_bestSet E h_t h_t_s h_t_steps h_t_worths x_t_kept x_t_before x_t_findings x_t_shown x_t_tape x_t_bits x_t_longs x_t_cells x_t_between c_t_isKept c_t_most c_t_taped c_t_here c_t_fault c_t_value c_t_s c_t_steps c_t_worths) H → va_D A (w_M_bestSet E h_t h_t_s h_t_steps h_t_worths x_t_kept x_t_before x_t_findings x_t_shown x_t_tape x_t_bits x_t_longs x_t_cells x_t_between c_t_isKept c_t_most c_t_taped c_t_here c_t_fault c_t_value c_t_s c_t_steps c_t_worths) → va_S A s.heap H locs → ∀ (ls : Array Slot), lv_has ls 7 [(0, .ref h_t), (1, .int a1), (2, .int v2)] → W p l e (rm 10) s m args below meth c H locs 0 0 (MQ below (qW (some (.int out.1)) E (w_M_bestSet E h_t h_t_s h_t_steps h_t_worths x_t_kept x_t_before x_t_findings x_t_shown x_t_tape x_t_bits x_t_longs x_t_cells x_t_between c_t_isKept out.2.1 c_t_taped c_t_here c_t_fault c_t_value c_t_s out.2.2.1 out.2.2.2) A) args s 0 0 A) (F0 m 2 ls []) := by
  obtain ⟨hx, hb, hr, hml, hown, hw, hlocks⟩ := id C
  intro n
  induction n with
  | zero =>
    intro c_t_most c_t_steps c_t_worths v2 hF
    exact absurd (show (none : Option (Int32 × Int32 × (Nat → Int32) × (Nat → Int32))) = some out from hF) nofun
  | succ n ih =>
    intro c_t_most c_t_steps c_t_worths v2 hF H locs hP hD hS ls hl
    rw [f_M_bestSet_b2] at hF
    refine lv_iload_n hx hb dX10_bestSet_2 rfl (lv_at hl 2 rfl) ?_
    refine lv_aload_n hx hb dX10_bestSet_3 rfl (lv_at hl 0 rfl) ?_
    refine va_get (D := eD E) (ci := 8) (C := RX10) (T := TX10) (N := 18) (v := .ref h_t_s) hx hb hw inX10 hown hK hP 0 rfl rfl 0 (by decide) (hw _ mw_881) (fun _ h9 => h9) rfl dX10_bestSet_4 ?_
    refine lv_iconst (v := (2 : Int32)) hx hb dX10_bestSet_7 (by decide) ?_
    obtain ⟨r13, er13, hF⟩ := kb hF
    refine wa_iald hx hb hK hP 1 0 rfl rfl er13 dX10_bestSet_8 ?_
    refine lv_icmp_ge (tgt := 40) hx hb dX10_bestSet_9 (by decide) (fun q14 => ?_) (fun q14 => ?_)
    · have hF := kp hF q14
      refine lv_iconst (v := (0 : Int32)) hx hb dX10_bestSet_40 (by decide) ?_
      refine lv_istore_n (lv' := [(2, .int (0 : Int32)), (0, .ref h_t), (1, .int a1)]) hx hb dX10_bestSet_41 rfl hl (by decide) rfl (fun ls hl => ?_)
      refine lv_aload_n hx hb dX10_bestSet_42 rfl (lv_at hl 1 rfl) ?_
      refine lv_iconst (v := (0 : Int32)) hx hb dX10_bestSet_43 (by decide) ?_
      refine va_put (D := eD E) (ci := 8) (v := .int (0 : Int32)) (ty := .int) (C := RX10) (T := TX10) (N := 18) hx hb hw inX10 tyX10 tyX10_ok nmX10 hown hK hP hD hS 0 rfl rfl 6 (by decide) (hw _ mw_887) (fun _ h9 => h9) rfl (by decide +kernel) rfl rfl (Nat.le_of_ble_eq_true rfl) dX10_bestSet_44 (fun H locs hP hD hS => ?_)
      have hP : va_P (eD E) vwCl (w_M_bestSet E h_t h_t_s h_t_steps h_t_worths x_t_kept x_t_before x_t_findings x_t_shown x_t_tape x_t_bits x_t_longs x_t_cells x_t_between c_t_isKept (0 : Int32) c_t_taped c_t_here c_t_fault c_t_value c_t_s c_t_steps c_t_worths) H := hP
      have hD : va_D A (w_M_bestSet E h_t h_t_s h_t_steps h_t_worths x_t_kept x_t_before x_t_findings x_t_shown x_t_tape x_t_bits x_t_longs x_t_cells x_t_between c_t_isKept (0 : Int32) c_t_taped c_t_here c_t_fault c_t_value c_t_s c_t_steps c_t_worths) := hD
      refine lv_iconst (v := (1 : Int32)) hx hb dX10_bestSet_47 (by decide) ?_
      refine lv_istore_n (lv' := [(3, .int (1 : Int32)), (2, .int (0 : Int32)), (0, .ref h_t), (1, .int a1)]) hx hb dX10_bestSet_48 rfl hl (by decide) rfl (fun ls hl => ?_)
      exact wk_M_bestSet_b49 E h_t h_t_s h_t_steps h_t_worths x_t_kept x_t_before x_t_findings x_t_shown x_t_tape x_t_bits x_t_longs x_t_cells x_t_between c_t_isKept c_t_taped c_t_here c_t_fault c_t_value c_t_s a1 C hA  hK hT  5000 (0 : Int32) c_t_steps c_t_worths (0 : Int32) (1 : Int32) hF _ _ hP hD hS _ (lv_sub hl [2, 3, 1, 0] rfl)
    · have hF := kn hF q14
      refine lv_aload_n hx hb dX10_bestSet_12 rfl (lv_at hl 0 rfl) ?_
      refine va_get (D := eD E) (ci := 8) (C := RX10) (T := TX10) (N := 18) (v := .ref h_t_worths) hx hb hw inX10 hown hK hP 0 rfl rfl 7 (by decide) (hw _ mw_888) (fun _ h9 => h9) rfl dX10_bestSet_13 ?_
      refine lv_iload_n hx hb dX10_bestSet_16 rfl (lv_at hl 2 rfl) ?_
      refine lv_aload_n hx hb dX10_bestSet_17 rfl (lv_at hl 0 rfl) ?_
      refine lv_iload_n hx hb dX10_bestSet_18 rfl (lv_at hl 2 rfl) ?_
      obtain ⟨r15, er15, hF⟩ := kb hF
      refine kRV (rest := [.int v2, .ref h_t_worths]) C (k_M_worthOf l E h_t h_t_s x_t_kept x_t_before x_t_findings x_t_shown h_t_worths h_t_steps x_t_tape x_t_bits x_t_longs x_t_cells x_t_between c_t_isKept c_t_most c_t_taped c_t_here c_t_fault c_t_value c_t_s v2 r15 er15) fn_M_worthOf mw_1168 ⟨Nat.le_of_ble_eq_true rfl, Nat.le_of_ble_eq_true rfl⟩ hK hT hS (va_recv hK hP (ci := 8) (q0 := 0) rfl rfl) hP [0, 1] rfl rfl rfl hl (Nat.le_of_ble_eq_true rfl) dX10_bestSet_19 ?_
      obtain ⟨r16, er16, hF⟩ := kb hF
      refine wa_iast hx hb hK hP hD hS 3 0 rfl rfl er16 dX10_bestSet_22 (fun H locs hP hD hS => ?_)
      have hP : va_P (eD E) vwCl (w_M_bestSet E h_t h_t_s h_t_steps h_t_worths x_t_kept x_t_before x_t_findings x_t_shown x_t_tape x_t_bits x_t_longs x_t_cells x_t_between c_t_isKept c_t_most c_t_taped c_t_here c_t_fault c_t_value c_t_s c_t_steps r16) H := hP
      have hD : va_D A (w_M_bestSet E h_t h_t_s h_t_steps h_t_worths x_t_kept x_t_before x_t_findings x_t_shown x_t_tape x_t_bits x_t_longs x_t_cells x_t_between c_t_isKept c_t_most c_t_taped c_t_here c_t_fault c_t_value c_t_s c_t_steps r16) := hD
      refine lv_aload_n hx hb dX10_bestSet_23 rfl (lv_at hl 0 rfl) ?_
      refine va_get (D := eD E) (ci := 8) (C := RX10) (T := TX10) (N := 18) (v := .ref h_t_steps) hx hb hw inX10 hown hK hP 0 rfl rfl 8 (by decide) (hw _ mw_889) (fun _ h9 => h9) rfl dX10_bestSet_24 ?_
      refine lv_iload_n hx hb dX10_bestSet_27 rfl (lv_at hl 2 rfl) ?_
      refine lv_aload_n hx hb dX10_bestSet_28 rfl (lv_at hl 0 rfl) ?_
      refine lv_iload_n hx hb dX10_bestSet_29 rfl (lv_at hl 2 rfl) ?_
      obtain ⟨r17, er17, hF⟩ := kb hF
      refine kRV (rest := [.int v2, .ref h_t_steps]) C (k_M_feet l E h_t h_t_s x_t_kept x_t_before x_t_findings x_t_shown h_t_worths h_t_steps x_t_tape x_t_bits x_t_longs x_t_cells x_t_between c_t_isKept c_t_most c_t_taped c_t_here c_t_fault c_t_value c_t_s v2 r17 er17) fn_M_feet mw_1107 ⟨Nat.le_of_ble_eq_true rfl, Nat.le_of_ble_eq_true rfl⟩ hK hT hS (va_recv hK hP (ci := 8) (q0 := 0) rfl rfl) hP [0, 1] rfl rfl rfl hl (Nat.le_of_ble_eq_true rfl) dX10_bestSet_30 ?_
      obtain ⟨r18, er18, hF⟩ := kb hF
      refine wa_iast hx hb hK hP hD hS 2 0 rfl rfl er18 dX10_bestSet_33 (fun H locs hP hD hS => ?_)
      have hP : va_P (eD E) vwCl (w_M_bestSet E h_t h_t_s h_t_steps h_t_worths x_t_kept x_t_before x_t_findings x_t_shown x_t_tape x_t_bits x_t_longs x_t_cells x_t_between c_t_isKept c_t_most c_t_taped c_t_here c_t_fault c_t_value c_t_s r18 r16) H := hP
      have hD : va_D A (w_M_bestSet E h_t h_t_s h_t_steps h_t_worths x_t_kept x_t_before x_t_findings x_t_shown x_t_tape x_t_bits x_t_longs x_t_cells x_t_between c_t_isKept c_t_most c_t_taped c_t_here c_t_fault c_t_value c_t_s r18 r16) := hD
      refine lv_iinc (v := (v2 + (1))) (lv' := [(2, .int (v2 + (1))), (0, .ref h_t), (1, .int a1)]) hx hb dX10_bestSet_34 hl (k := 2) rfl rfl (by decide) rfl (fun ls hl => ?_)
      refine lv_goto (tgt := 2) hx hb dX10_bestSet_37 (by decide) ?_
      exact ih c_t_most r18 r16 (v2 + (1)) hF _ _ hP hD hS _ (lv_sub hl [1, 2, 0] rfl)
set_option maxHeartbeats 4000000 in
set_option maxRecDepth 100000 in
theorem k_M_bestSet (l : Launch) (E : kE) (h_t : Nat) (h_t_s : Nat) (h_t_steps : Nat) (h_t_worths : Nat) (x_t_kept : Nat) (x_t_before : Nat) (x_t_findings : Nat) (x_t_shown : Nat) (x_t_tape : Nat) (x_t_bits : Nat) (x_t_longs : Nat) (x_t_cells : Nat) (x_t_between : Nat) (sz : Nat) (c_t_isKept : Int32) (c_t_most : Int32) (c_t_taped : Int32) (c_t_here : Int32) (c_t_fault : Int32) (c_t_value : Int32) (c_t_s : (Nat → Int32)) (c_t_steps : (Nat → Int32)) (c_t_worths : (Nat → Int32)) (a1 : Int32) (out : Int32 × Int32 × (Nat → Int32) × (Nat → Int32)) (hF : f_M_bestSet c_t_most c_t_s c_t_steps c_t_worths a1 = some out) : Met l yX10_bestSet (Cond.code yX10_bestSet cX10_bestSet 7 (some .int) :: wG) (rm 10) (pW E (w_M_bestSet E h_t h_t_s h_t_steps h_t_worths x_t_kept x_t_before x_t_findings x_t_shown x_t_tape x_t_bits x_t_longs x_t_cells x_t_between c_t_isKept c_t_most c_t_taped c_t_here c_t_fault c_t_value c_t_s c_t_steps c_t_worths) sz [.ref h_t, .int a1]) (qW (some (.int out.1)) E (w_M_bestSet E h_t h_t_s h_t_steps h_t_worths x_t_kept x_t_before x_t_findings x_t_shown x_t_tape x_t_bits x_t_longs x_t_cells x_t_between c_t_isKept out.2.1 c_t_taped c_t_here c_t_fault c_t_value c_t_s out.2.2.1 out.2.2.2) (va_A (w_M_bestSet E h_t h_t_s h_t_steps h_t_worths x_t_kept x_t_before x_t_findings x_t_shown x_t_tape x_t_bits x_t_longs x_t_cells x_t_between c_t_isKept c_t_most c_t_taped c_t_here c_t_fault c_t_value c_t_s c_t_steps c_t_worths) sz)) 0 0 (va_A (w_M_bestSet E h_t h_t_s h_t_steps h_t_worths x_t_kept x_t_before x_t_findings x_t_shown x_t_tape x_t_bits x_t_longs x_t_cells x_t_between c_t_isKept c_t_most c_t_taped c_t_here c_t_fault c_t_value c_t_s c_t_steps c_t_worths) sz) := by
  refine met_W (by decide) (Nat.le_of_ble_eq_true rfl) ?_
  intro p e s m args below meth c A ls C hP hD hS hA hK hT hl
  obtain ⟨hx, hb, hr, hml, hown, hw, hlocks⟩ := id C
  have hl : lv_has ls 7 [(0, .ref h_t), (1, .int a1)] := hl
  rw [f_M_bestSet] at hF
  refine lv_iconst (v := (0 : Int32)) hx hb dX10_bestSet_0 (by decide) ?_
  refine lv_istore_n (lv' := [(2, .int (0 : Int32)), (0, .ref h_t), (1, .int a1)]) hx hb dX10_bestSet_1 rfl hl (by decide) rfl (fun ls hl => ?_)
  exact wk_M_bestSet_b2 E h_t h_t_s h_t_steps h_t_worths x_t_kept x_t_before x_t_findings x_t_shown x_t_tape x_t_bits x_t_longs x_t_cells x_t_between c_t_isKept c_t_taped c_t_here c_t_fault c_t_value c_t_s a1 C hA  hK hT  5000 c_t_most c_t_steps c_t_worths (0 : Int32) hF _ _ hP hD hS _ (lv_sub hl [1, 2, 0] rfl)
