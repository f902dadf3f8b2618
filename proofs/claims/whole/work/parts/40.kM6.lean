abbrev w_M_leads (E : kE)    : va_W := []
set_option maxHeartbeats 4000000 in
set_option maxRecDepth 100000 in
theorem wk_M_leads_b50 {p : Program} {l : Launch} {e : Env} {s : State} {m : MethodId} {args : Array Value} {below : List Frame} {meth : Method} {c : Code} (E : kE)    (a0 : Int32) (a1 : Int32) (a2 : Int32) {out : Int32} (C : kC RX10 cX10_leads 5 (some .int) p s m args meth c) (hP : va_P (eD E) vwCl (w_M_leads E ) s.heap) (hK : va_K (eD E) vwCl (eT E) s) (hT : sT E (fun _ => False) s s.heap) (k5 : Int32 → Int32 → Option (Int32)) (hk5 : ∀ (v3 : Int32) (v4 : Int32), k5 v3 v4 = some out → ∀ (ls : Array Slot), lv_has ls 5 [(0, .int a0), (1, .int a1), (2, .int a2), (3, .int v3), (4, .int v4)] → W p l e (rm 4) s m args below meth c s.heap [] 0 0 (MQ below (qR (.int out)) args s 0 0 (fun _ => False)) (F0 m 5 ls [])) :
    ∀ (v4 : Int32) (s0 : Int32), f_M_leads_b50 k5 a0 a1 a2 v4 s0 = some out → ∀ (ls : Array Slot), lv_has ls 5 [(0, .int a0), (1, .int a1), (2, .int a2), (4, .int v4)] → W p l e (rm 4) s m args below meth c s.heap [] 0 0 (MQ below (qR (.int out)) args s 0 0 (fun _ => False)) (F0 m 50 ls [.int s0]) := by
  obtain ⟨hx, hb, hr, hml, hown, hw, hlocks⟩ := id C
  have hS : va_S (fun _ => False) s.heap s.heap [] := va_S.rf
  intro v4 s0 hF ls hl
  rw [f_M_leads_b50] at hF
  refine lv_istore_n (lv' := [(3, .int s0), (0, .int a0), (1, .int a1), (2, .int a2), (4, .int v4)]) hx hb dX10_leads_50 rfl hl (by decide) rfl (fun ls hl => ?_)
  refine lv_iinc (v := (v4 + (1))) (lv' := [(4, .int (v4 + (1))), (3, .int s0), (0, .int a0), (1, .int a1), (2, .int a2)]) hx hb dX10_leads_51 hl (k := 4) rfl rfl (by decide) rfl (fun ls hl => ?_)
  refine lv_goto (tgt := 5) hx hb dX10_leads_54 (by decide) ?_
  exact hk5 s0 (v4 + (1)) hF _ (lv_sub hl [2, 3, 4, 1, 0] rfl)
set_option maxHeartbeats 4000000 in
set_option maxRecDepth 100000 in
theorem wk_M_leads_b5 {p : Program} {l : Launch} {e : Env} {s : State} {m : MethodId} {args : Array Value} {below : List Frame} {meth : Method} {c : Code} (E : kE)    (a0 : Int32) (a1 : Int32) (a2 : Int32) {out : Int32} (C : kC RX10 cX10_leads 5 (some .int) p s m args meth c) (hP : va_P (eD E) vwCl (w_M_leads E ) s.heap) (hK : va_K (eD E) vwCl (eT E) s) (hT : sT E (fun _ => False) s s.heap)  :
    ∀ (n : Nat), ∀ (v3 : Int32) (v4 : Int32), f_M_leads_b5  a0 a1 a2 n v3 v4 = some out → ∀ (ls : Array Slot), lv_has ls 5 [(0, .int a0), (1, .int a1), (2, .int a2), (3, .int v3), (4, .int v4)] → W p l e (rm 4) s m args below meth c s.heap [] 0 0 (MQ below (qR (.int out)) args s 0 0 (fun _ => False)) (F0 m 5 ls []) := by
  obtain ⟨hx, hb, hr, hml, hown, hw, hlocks⟩ := id C
  have hS : va_S (fun _ => False) s.heap s.heap [] := va_S.rf
  intro n
  induction n with
  | zero =>
    intro v3 v4 hF
    exact absurd (show (none : Option (Int32)) = some out from hF) nofun
  | succ n ih =>
    intro v3 v4 hF ls hl
    rw [f_M_leads_b5] at hF
    refine lv_iload hx hb dX10_leads_5 (lv_at hl 4 rfl) ?_
    refine lv_bipush (v := (12 : Int32)) hx hb dX10_leads_7 (by decide) ?_
    refine lv_icmp_ge (tgt := 57) hx hb dX10_leads_9 (by decide) (fun q1 => ?_) (fun q1 => ?_)
    · have hF := kp hF q1
      refine lv_iload_n hx hb dX10_leads_57 rfl (lv_at hl 3 rfl) ?_
      obtain rfl := Option.some.inj hF
      exact W.iret hx hb hr (fun t ht hW => ⟨rfl, ht⟩) nofun dX10_leads_58
    · have hF := kn hF q1
      refine lv_iload_n hx hb dX10_leads_12 rfl (lv_at hl 0 rfl) ?_
      refine lv_iload hx hb dX10_leads_13 (lv_at hl 4 rfl) ?_
      obtain ⟨r2, er2, hF⟩ := kb hF
      refine kRS (rest := []) C (k_M_has l E a0 v4 r2 er2) fn_M_has mw_952 ⟨Nat.le_of_ble_eq_true rfl, Nat.le_of_ble_eq_true rfl⟩ hK hT hS hP [] rfl rfl rfl hl (Nat.le_of_ble_eq_true rfl) dX10_leads_15 ?_
      refine lv_if_eq (tgt := 49) hx hb dX10_leads_18 (by decide) (fun q3 => ?_) (fun q3 => ?_)
      · have hF := kp hF q3
        refine lv_iload_n hx hb dX10_leads_49 rfl (lv_at hl 3 rfl) ?_
        exact wk_M_leads_b50 E  a0 a1 a2 C hP  hK hT (f_M_leads_b5  a0 a1 a2 n) ih v4 v3 hF _ (lv_sub hl [0, 1, 2, 4] rfl)
      · have hF := kn hF q3
        refine lv_iload_n hx hb dX10_leads_21 rfl (lv_at hl 1 rfl) ?_
        refine lv_iload_n hx hb dX10_leads_22 rfl (lv_at hl 2 rfl) ?_
        refine lv_icmp_eq (tgt := 49) hx hb dX10_leads_23 (by decide) (fun q4 => ?_) (fun q4 => ?_)
        · have hF := kp hF q4
          refine lv_iload_n hx hb dX10_leads_49 rfl (lv_at hl 3 rfl) ?_
          exact wk_M_leads_b50 E  a0 a1 a2 C hP  hK hT (f_M_leads_b5  a0 a1 a2 n) ih v4 v3 hF _ (lv_sub hl [0, 1, 2, 4] rfl)
        · have hF := kn hF q4
          refine lv_iload hx hb dX10_leads_26 (lv_at hl 4 rfl) ?_
          refine lv_iload_n hx hb dX10_leads_28 rfl (lv_at hl 1 rfl) ?_
          obtain ⟨r5, er5, hF⟩ := kb hF
          refine kRS (rest := []) C (k_M_ends l E v4 a1 r5 er5) fn_M_ends mw_955 ⟨Nat.le_of_ble_eq_true rfl, Nat.le_of_ble_eq_true rfl⟩ hK hT hS hP [] rfl rfl rfl hl (Nat.le_of_ble_eq_true rfl) dX10_leads_29 ?_
          refine lv_if_eq (tgt := 49) hx hb dX10_leads_32 (by decide) (fun q6 => ?_) (fun q6 => ?_)
          · have hF := kp hF q6
            refine lv_iload_n hx hb dX10_leads_49 rfl (lv_at hl 3 rfl) ?_
            exact wk_M_leads_b50 E  a0 a1 a2 C hP  hK hT (f_M_leads_b5  a0 a1 a2 n) ih v4 v3 hF _ (lv_sub hl [0, 1, 2, 4] rfl)
          · have hF := kn hF q6
            refine lv_iload hx hb dX10_leads_35 (lv_at hl 4 rfl) ?_
            refine lv_iload_n hx hb dX10_leads_37 rfl (lv_at hl 2 rfl) ?_
            obtain ⟨r7, er7, hF⟩ := kb hF
            refine kRS (rest := []) C (k_M_ends l E v4 a2 r7 er7) fn_M_ends mw_955 ⟨Nat.le_of_ble_eq_true rfl, Nat.le_of_ble_eq_true rfl⟩ hK hT hS hP [] rfl rfl rfl hl (Nat.le_of_ble_eq_true rfl) dX10_leads_38 ?_
            refine lv_if_eq (tgt := 49) hx hb dX10_leads_41 (by decide) (fun q8 => ?_) (fun q8 => ?_)
            · have hF := kp hF q8
              refine lv_iload_n hx hb dX10_leads_49 rfl (lv_at hl 3 rfl) ?_
              exact wk_M_leads_b50 E  a0 a1 a2 C hP  hK hT (f_M_leads_b5  a0 a1 a2 n) ih v4 v3 hF _ (lv_sub hl [0, 1, 2, 4] rfl)
            · have hF := kn hF q8
              refine lv_iload hx hb dX10_leads_44 (lv_at hl 4 rfl) ?_
              refine lv_goto (tgt := 50) hx hb dX10_leads_46 (by decide) ?_
              exact wk_M_leads_b50 E  a0 a1 a2 C hP  hK hT (f_M_leads_b5  a0 a1 a2 n) ih v4 v4 hF _ (lv_sub hl [0, 1, 2, 4] rfl)
set_option maxHeartbeats 4000000 in
set_option maxRecDepth 100000 in
theorem k_M_leads (l : Launch) (E : kE)    (a0 : Int32) (a1 : Int32) (a2 : Int32) (out : Int32) (hF : f_M_leads  a0 a1 a2 = some out) : Met l yX10_leads (Cond.code yX10_leads cX10_leads 5 (some .int) :: wG) (rm 4) (pR E (w_M_leads E ) [.int a0, .int a1, .int a2]) (qR (.int out)) 0 0 (fun _ => False) := by
  refine met_R (by decide) (Nat.le_of_ble_eq_true rfl) ?_
  intro p e s m args below meth c ls C hP hK hT hl
  obtain ⟨hx, hb, hr, hml, hown, hw, hlocks⟩ := id C
  have hS : va_S (fun _ => False) s.heap s.heap [] := va_S.rf
  have hl : lv_has ls 5 [(0, .int a0), (1, .int a1), (2, .int a2)] := hl
  rw [f_M_leads] at hF
  refine lv_iconst (v := (-1 : Int32)) hx hb dX10_leads_0 (by decide) ?_
  refine lv_istore_n (lv' := [(3, .int (-1 : Int32)), (0, .int a0), (1, .int a1), (2, .int a2)]) hx hb dX10_leads_1 rfl hl (by decide) rfl (fun ls hl => ?_)
  refine lv_iconst (v := (0 : Int32)) hx hb dX10_leads_2 (by decide) ?_
  refine lv_istore (lv' := [(4, .int (0 : Int32)), (3, .int (-1 : Int32)), (0, .int a0), (1, .int a1), (2, .int a2)]) hx hb dX10_leads_3 hl (by decide) rfl (fun ls hl => ?_)
  exact wk_M_leads_b5 E  a0 a1 a2 C hP  hK hT  5000 (-1 : Int32) (0 : Int32) hF _ (lv_sub hl [2, 3, 4, 1, 0] rfl)
abbrev w_M_walk (E : kE) (h_t : Nat) (h_t_bits : Nat) (h_t_cells : Nat) (h_t_findings : Nat) (h_t_longs : Nat) (x_t_s : Nat) (x_t_kept : Nat) (x_t_before : Nat) (x_t_shown : Nat) (x_t_worths : Nat) (x_t_steps : Nat) (x_t_tape : Nat) (x_t_between : Nat) (c_t_isKept : Int32) (c_t_most : Int32) (c_t_taped : Int32) (c_t_here : Int32) (c_t_fault : Int32) (c_t_value : Int32) (c_t_bits : (Nat → Int32)) (c_t_cells : (Nat → Int64)) (c_t_findings : (Nat → Int32)) (c_t_longs : (Nat → Int32)) : va_W := [(h_t, .inr (8, [.ref x_t_s, .ref x_t_kept, .ref x_t_before, .int c_t_isKept, .ref h_t_findings, .ref x_t_shown, .int c_t_most, .ref x_t_worths, .ref x_t_steps, .ref x_t_tape, .int c_t_taped, .int c_t_here, .int c_t_fault, .int c_t_value, .ref h_t_bits, .ref h_t_longs, .ref h_t_cells, .ref x_t_between])), (h_t_bits, .inl (eI E, 4, .inl c_t_bits)), (h_t_cells, .inl (eJ E, 160, .inr (.inl c_t_cells))), (h_t_findings, .inl (eI E, 7, .inl c_t_findings)), (h_t_longs, .inl (eI E, 4, .inl c_t_longs))]
set_option maxHeartbeats 4000000 in
set_option maxRecDepth 100000 in
theorem wk_M_walk_b138 {p : Program} {l : Launch} {e : Env} {s : State} {m : MethodId} {args : Array Value} {below : List Frame} {meth : Method} {c : Code} {A : Nat → Prop} (E : kE) (h_t : Nat) (h_t_bits : Nat) (h_t_cells : Nat) (h_t_findings : Nat) (h_t_longs : Nat) (x_t_s : Nat) (x_t_kept : Nat) (x_t_before : Nat) (x_t_shown : Nat) (x_t_worths : Nat) (x_t_steps : Nat) (x_t_tape : Nat) (x_t_between : Nat) (c_t_isKept : Int32) (c_t_most : Int32) (c_t_taped : Int32) (c_t_here : Int32) (c_t_fault : Int32) (c_t_value : Int32) (c_t_bits : (Nat → Int32)) (c_t_cells : (Nat → Int64)) (c_t_longs : (Nat → Int32)) (a1 : Int32) (a2 : Int32) {out : Int32 × (Nat → Int32)} (C : kC RX10 cX10_walk 10 (some .int) p s m args meth c) (hA : ∀ q : Nat, s.heap.size ≤ q → A q) (hK : va_K (eD E) vwCl (eT E) s) (hT : sT E A s s.heap)  :
    ∀ (c_t_findings : (Nat → Int32)) (v5 : Int32), f_M_walk_b138  c_t_bits c_t_cells c_t_longs a1 a2 c_t_findings v5 = some out → ∀ (H : Heap) (locs : List Loc), va_P (eD E) vwCl (w_M_walk E h_t h_t_bits h_t_cells h_t_findings h_t_longs x_t_s x_t_kept x_t_before x_t_shown x_t_worths x_t_steps x_t_tape x_t_between c_t_isKept c_t_most c_t_taped c_t_here c_t_fault c_t_value c_t_bits c_t_cells c_t_findings c_t_longs) H → va_D A (w_M_walk E h_t h_t_bits h_t_cells h_t_findings h_t_longs x_t_s x_t_kept x_t_before x_t_shown x_t_worths x_t_steps x_t_tape x_t_between c_t_isKept c_t_most c_t_taped c_t_here c_t_fault c_t_value c_t_bits c_t_cells c_t_findings c_t_longs) → va_S A s.heap H locs → ∀ (ls : Array Slot), lv_has ls 10 [(5, .int v5)] → W p l e (rm 5) s m args below meth c H locs 0 0 (MQ below (qW (some (.int out.1)) E (w_M_walk E h_t h_t_bits h_t_cells h_t_findings h_t_longs x_t_s x_t_kept x_t_before x_t_shown x_t_worths x_t_steps x_t_tape x_t_between c_t_isKept c_t_most c_t_taped c_t_here c_t_fault c_t_value c_t_bits c_t_cells out.2 c_t_longs) A) args s 0 0 A) (F0 m 138 ls []) := by
  obtain ⟨hx, hb, hr, hml, hown, hw, hlocks⟩ := id C
  intro c_t_findings v5 hF H locs hP hD hS ls hl
  rw [f_M_walk_b138] at hF
  refine lv_iconst (v := (1 : Int32)) hx hb dX10_walk_138 (by decide) ?_
  refine lv_iload hx hb dX10_walk_139 (lv_at hl 0 rfl) ?_
  refine lv_iadd hx hb dX10_walk_141 ?_
  obtain rfl := Option.some.inj hF
  exact W.iret hx hb hr (fun t ht hW => ⟨⟨rfl, by rw [ht]; exact hP, hD⟩, hS.F ht⟩) hS.2.2 dX10_walk_142
set_option maxHeartbeats 4000000 in
set_option maxRecDepth 100000 in
theorem wk_M_walk_b159 {p : Program} {l : Launch} {e : Env} {s : State} {m : MethodId} {args : Array Value} {below : List Frame} {meth : Method} {c : Code} {A : Nat → Prop} (E : kE) (h_t : Nat) (h_t_bits : Nat) (h_t_cells : Nat) (h_t_findings : Nat) (h_t_longs : Nat) (x_t_s : Nat) (x_t_kept : Nat) (x_t_before : Nat) (x_t_shown : Nat) (x_t_worths : Nat) (x_t_steps : Nat) (x_t_tape : Nat) (x_t_between : Nat) (c_t_isKept : Int32) (c_t_most : Int32) (c_t_taped : Int32) (c_t_here : Int32) (c_t_fault : Int32) (c_t_value : Int32) (c_t_bits : (Nat → Int32)) (c_t_cells : (Nat → Int64)) (c_t_longs : (Nat → Int32)) (a1 : Int32) (a2 : Int32) {out : Int32 × (Nat → Int32)} (C : kC RX10 cX10_walk 10 (some .int) p s m args meth c) (hA : ∀ q : Nat, s.heap.size ≤ q → A q) (hK : va_K (eD E) vwCl (eT E) s) (hT : sT E A s s.heap) (k49 : (Nat → Int32) → Int32 → Int32 → Int32 → Option (Int32 × (Nat → Int32))) (hk49 : ∀ (c_t_findings : (Nat → Int32)) (v3 : Int32) (v4 : Int32) (v5 : Int32), k49 c_t_findings v3 v4 v5 = some out → ∀ (H : Heap) (locs : List Loc), va_P (eD E) vwCl (w_M_walk E h_t h_t_bits h_t_cells h_t_findings h_t_longs x_t_s x_t_kept x_t_before x_t_shown x_t_worths x_t_steps x_t_tape x_t_between c_t_isKept c_t_most c_t_taped c_t_here c_t_fault c_t_value c_t_bits c_t_cells c_t_findings c_t_longs) H → va_D A (w_M_walk E h_t h_t_bits h_t_cells h_t_findings h_t_longs x_t_s x_t_kept x_t_before x_t_shown x_t_worths x_t_steps x_t_tape x_t_between c_t_isKept c_t_most c_t_taped c_t_here c_t_fault c_t_value c_t_bits c_t_cells c_t_findings c_t_longs) → va_S A s.heap H locs → ∀ (ls : Array Slot), lv_has ls 10 [(0, .ref h_t), (1, .int a1), (3, .int v3), (4, .int v4), (5, .int v5)] → W p l e (rm 5) s m args below meth c H locs 0 0 (MQ below (qW (some (.int out.1)) E (w_M_walk E h_t h_t_bits h_t_cells h_t_findings h_t_longs x_t_s x_t_kept x_t_before x_t_shown x_t_worths x_t_steps x_t_tape x_t_between c_t_isKept c_t_most c_t_taped c_t_here c_t_fault c_t_value c_t_bits c_t_cells out.2 c_t_longs) A) args s 0 0 A) (F0 m 49 ls [])) :
    ∀ (c_t_findings : (Nat → Int32)) (v5 : Int32) (v8 : Int32) (s0 : Int32) (s1 : Int32), f_M_walk_b159 k49 c_t_bits c_t_cells c_t_longs a1 a2 c_t_findings v5 v8 s0 s1 = some out → ∀ (H : Heap) (locs : List Loc), va_P (eD E) vwCl (w_M_walk E h_t h_t_bits h_t_cells h_t_findings h_t_longs x_t_s x_t_kept x_t_before x_t_shown x_t_worths x_t_steps x_t_tape x_t_between c_t_isKept c_t_most c_t_taped c_t_here c_t_fault c_t_value c_t_bits c_t_cells c_t_findings c_t_longs) H → va_D A (w_M_walk E h_t h_t_bits h_t_cells h_t_findings h_t_longs x_t_s x_t_kept x_t_before x_t_shown x_t_worths x_t_steps x_t_tape x_t_between c_t_isKept c_t_most c_t_taped c_t_here c_t_fault c_t_value c_t_bits c_t_cells c_t_findings c_t_longs) → va_S A s.heap H locs → ∀ (ls : Array Slot), lv_has ls 10 [(0, .ref h_t), (1, .int a1), (5, .int v5), (8, .int v8)] → W p l e (rm 5) s m args below meth c H locs 0 0 (MQ below (qW (some (.int out.1)) E (w_M_walk E h_t h_t_bits h_t_cells h_t_findings h_t_longs x_t_s x_t_kept x_t_before x_t_shown x_t_worths x_t_steps x_t_tape x_t_between c_t_isKept c_t_most c_t_taped c_t_here c_t_fault c_t_value c_t_bits c_t_cells out.2 c_t_longs) A) args s 0 0 A) (F0 m 159 ls [.int s0, .int s1]) := by
  obtain ⟨hx, hb, hr, hml, hown, hw, hlocks⟩ := id C
  intro c_t_findings v5 v8 s0 s1 hF H locs hP hD hS ls hl
  rw [f_M_walk_b159] at hF
  refine lv_iand hx hb dX10_walk_159 ?_
  refine lv_istore_n (lv' := [(3, .int (s1 &&& s0)), (0, .ref h_t), (1, .int a1), (5, .int v5), (8, .int v8)]) hx hb dX10_walk_160 rfl hl (by decide) rfl (fun ls hl => ?_)
  refine lv_iload hx hb dX10_walk_161 (lv_at hl 4 rfl) ?_
  refine lv_istore (lv' := [(4, .int v8), (3, .int (s1 &&& s0)), (0, .ref h_t), (1, .int a1), (5, .int v5), (8, .int v8)]) hx hb dX10_walk_163 hl (by decide) rfl (fun ls hl => ?_)
  refine lv_iinc (v := (v5 + (1))) (lv' := [(5, .int (v5 + (1))), (4, .int v8), (3, .int (s1 &&& s0)), (0, .ref h_t), (1, .int a1), (8, .int v8)]) hx hb dX10_walk_165 hl (k := 4) rfl rfl (by decide) rfl (fun ls hl => ?_)
  refine lv_goto (tgt := 49) hx hb dX10_walk_168 (by decide) ?_
  exact hk49 c_t_findings (s1 &&& s0) v8 (v5 + (1)) hF _ _ hP hD hS _ (lv_sub hl [3, 4, 2, 1, 0] rfl)
set_option maxHeartbeats 4000000 in
set_option maxRecDepth 100000 in
theorem wk_M_walk_b143 {p : Program} {l : Launch} {e : Env} {s : State} {m : MethodId} {args : Array Value} {below : List Frame} {meth : Method} {c : Code} {A : Nat → Prop} (E : kE) (h_t : Nat) (h_t_bits : Nat) (h_t_cells : Nat) (h_t_findings : Nat) (h_t_longs : Nat) (x_t_s : Nat) (x_t_kept : Nat) (x_t_before : Nat) (x_t_shown : Nat) (x_t_worths : Nat) (x_t_steps : Nat) (x_t_tape : Nat) (x_t_between : Nat) (c_t_isKept : Int32) (c_t_most : Int32) (c_t_taped : Int32) (c_t_here : Int32) (c_t_fault : Int32) (c_t_value : Int32) (c_t_bits : (Nat → Int32)) (c_t_cells : (Nat → Int64)) (c_t_longs : (Nat → Int32)) (a1 : Int32) (a2 : Int32) {out : Int32 × (Nat → Int32)} (C : kC RX10 cX10_walk 10 (some .int) p s m args meth c) (hA : ∀ q : Nat, s.heap.size ≤ q → A q) (hK : va_K (eD E) vwCl (eT E) s) (hT : sT E A s s.heap) (k49 : (Nat → Int32) → Int32 → Int32 → Int32 → Option (Int32 × (Nat → Int32))) (hk49 : ∀ (c_t_findings : (Nat → Int32)) (v3 : Int32) (v4 : Int32) (v5 : Int32), k49 c_t_findings v3 v4 v5 = some out → ∀ (H : Heap) (locs : List Loc), va_P (eD E) vwCl (w_M_walk E h_t h_t_bits h_t_cells h_t_findings h_t_longs x_t_s x_t_kept x_t_before x_t_shown x_t_worths x_t_steps x_t_tape x_t_between c_t_isKept c_t_most c_t_taped c_t_here c_t_fault c_t_value c_t_bits c_t_cells c_t_findings c_t_longs) H → va_D A (w_M_walk E h_t h_t_bits h_t_cells h_t_findings h_t_longs x_t_s x_t_kept x_t_before x_t_shown x_t_worths x_t_steps x_t_tape x_t_between c_t_isKept c_t_most c_t_taped c_t_here c_t_fault c_t_value c_t_bits c_t_cells c_t_findings c_t_longs) → va_S A s.heap H locs → ∀ (ls : Array Slot), lv_has ls 10 [(0, .ref h_t), (1, .int a1), (3, .int v3), (4, .int v4), (5, .int v5)] → W p l e (rm 5) s m args below meth c H locs 0 0 (MQ below (qW (some (.int out.1)) E (w_M_walk E h_t h_t_bits h_t_cells h_t_findings h_t_longs x_t_s x_t_kept x_t_before x_t_shown x_t_worths x_t_steps x_t_tape x_t_between c_t_isKept c_t_most c_t_taped c_t_here c_t_fault c_t_value c_t_bits c_t_cells out.2 c_t_longs) A) args s 0 0 A) (F0 m 49 ls [])) :
    ∀ (c_t_findings : (Nat → Int32)) (v3 : Int32) (v5 : Int32) (v8 : Int32) (v9 : Int32), f_M_walk_b143 k49 c_t_bits c_t_cells c_t_longs a1 a2 c_t_findings v3 v5 v8 v9 = some out → ∀ (H : Heap) (locs : List Loc), va_P (eD E) vwCl (w_M_walk E h_t h_t_bits h_t_cells h_t_findings h_t_longs x_t_s x_t_kept x_t_before x_t_shown x_t_worths x_t_steps x_t_tape x_t_between c_t_isKept c_t_most c_t_taped c_t_here c_t_fault c_t_value c_t_bits c_t_cells c_t_findings c_t_longs) H → va_D A (w_M_walk E h_t h_t_bits h_t_cells h_t_findings h_t_longs x_t_s x_t_kept x_t_before x_t_shown x_t_worths x_t_steps x_t_tape x_t_between c_t_isKept c_t_most c_t_taped c_t_here c_t_fault c_t_value c_t_bits c_t_cells c_t_findings c_t_longs) → va_S A s.heap H locs → ∀ (ls : Array Slot), lv_has ls 10 [(0, .ref h_t), (1, .int a1), (3, .int v3), (5, .int v5), (8, .int v8), (9, .int v9)] → W p l e (rm 5) s m args below meth c H locs 0 0 (MQ below (qW (some (.int out.1)) E (w_M_walk E h_t h_t_bits h_t_cells h_t_findings h_t_longs x_t_s x_t_kept x_t_before x_t_shown x_t_worths x_t_steps x_t_tape x_t_between c_t_isKept c_t_most c_t_taped c_t_here c_t_fault c_t_value c_t_bits c_t_cells out.2 c_t_longs) A) args s 0 0 A) (F0 m 143 ls []) := by
  obtain ⟨hx, hb, hr, hml, hown, hw, hlocks⟩ := id C
  intro c_t_findings v3 v5 v8 v9 hF H locs hP hD hS ls hl
  rw [f_M_walk_b143] at hF
  refine lv_iload_n hx hb dX10_walk_143 rfl (lv_at hl 2 rfl) ?_
  refine lv_iload hx hb dX10_walk_144 (lv_at hl 3 rfl) ?_
  refine lv_if_le (tgt := 158) hx hb dX10_walk_146 (by decide) (fun q1 => ?_) (fun q1 => ?_)
  · have hF := kp hF q1
    refine lv_iload_n hx hb dX10_walk_158 rfl (lv_at hl 2 rfl) ?_
    exact wk_M_walk_b159 E h_t h_t_bits h_t_cells h_t_findings h_t_longs x_t_s x_t_kept x_t_before x_t_shown x_t_worths x_t_steps x_t_tape x_t_between c_t_isKept c_t_most c_t_taped c_t_here c_t_fault c_t_value c_t_bits c_t_cells c_t_longs a1 a2 C hA  hK hT k49 hk49 c_t_findings v5 v8 v3 v3 hF _ _ hP hD hS _ (lv_sub hl [0, 1, 3, 4] rfl)
  · have hF := kn hF q1
    refine lv_iconst (v := (1 : Int32)) hx hb dX10_walk_149 (by decide) ?_
    refine lv_iload hx hb dX10_walk_150 (lv_at hl 5 rfl) ?_
    refine lv_ishl hx hb dX10_walk_152 ?_
    refine lv_iconst (v := (-1 : Int32)) hx hb dX10_walk_153 (by decide) ?_
    refine lv_ixor hx hb dX10_walk_154 ?_
    refine lv_goto (tgt := 159) hx hb dX10_walk_155 (by decide) ?_
    exact wk_M_walk_b159 E h_t h_t_bits h_t_cells h_t_findings h_t_longs x_t_s x_t_kept x_t_before x_t_shown x_t_worths x_t_steps x_t_tape x_t_between c_t_isKept c_t_most c_t_taped c_t_here c_t_fault c_t_value c_t_bits c_t_cells c_t_longs a1 a2 C hA  hK hT k49 hk49 c_t_findings v5 v8 (((1 : Int32) <<< (v9 &&& 31)) ^^^ (-1 : Int32)) v3 hF _ _ hP hD hS _ (lv_sub hl [0, 1, 3, 4] rfl)
set_option maxHeartbeats 4000000 in
set_option maxRecDepth 100000 in
theorem wk_M_walk_b121 {p : Program} {l : Launch} {e : Env} {s : State} {m : MethodId} {args : Array Value} {below : List Frame} {meth : Method} {c : Code} {A : Nat → Prop} (E : kE) (h_t : Nat) (h_t_bits : Nat) (h_t_cells : Nat) (h_t_findings : Nat) (h_t_longs : Nat) (x_t_s : Nat) (x_t_kept : Nat) (x_t_before : Nat) (x_t_shown : Nat) (x_t_worths : Nat) (x_t_steps : Nat) (x_t_tape : Nat) (x_t_between : Nat) (c_t_isKept : Int32) (c_t_most : Int32) (c_t_taped : Int32) (c_t_here : Int32) (c_t_fault : Int32) (c_t_value : Int32) (c_t_bits : (Nat → Int32)) (c_t_cells : (Nat → Int64)) (c_t_longs : (Nat → Int32)) (a1 : Int32) (a2 : Int32) {out : Int32 × (Nat → Int32)} (C : kC RX10 cX10_walk 10 (some .int) p s m args meth c) (hA : ∀ q : Nat, s.heap.size ≤ q → A q) (hK : va_K (eD E) vwCl (eT E) s) (hT : sT E A s s.heap) (k49 : (Nat → Int32) → Int32 → Int32 → Int32 → Option (Int32 × (Nat → Int32))) (hk49 : ∀ (c_t_findings : (Nat → Int32)) (v3 : Int32) (v4 : Int32) (v5 : Int32), k49 c_t_findings v3 v4 v5 = some out → ∀ (H : Heap) (locs : List Loc), va_P (eD E) vwCl (w_M_walk E h_t h_t_bits h_t_cells h_t_findings h_t_longs x_t_s x_t_kept x_t_before x_t_shown x_t_worths x_t_steps x_t_tape x_t_between c_t_isKept c_t_most c_t_taped c_t_here c_t_fault c_t_value c_t_bits c_t_cells c_t_findings c_t_longs) H → va_D A (w_M_walk E h_t h_t_bits h_t_cells h_t_findings h_t_longs x_t_s x_t_kept x_t_before x_t_shown x_t_worths x_t_steps x_t_tape x_t_between c_t_isKept c_t_most c_t_taped c_t_here c_t_fault c_t_value c_t_bits c_t_cells c_t_findings c_t_longs) → va_S A s.heap H locs → ∀ (ls : Array Slot), lv_has ls 10 [(0, .ref h_t), (1, .int a1), (3, .int v3), (4, .int v4), (5, .int v5)] → W p l e (rm 5) s m args below meth c H locs 0 0 (MQ below (qW (some (.int out.1)) E (w_M_walk E h_t h_t_bits h_t_cells h_t_findings h_t_longs x_t_s x_t_kept x_t_before x_t_shown x_t_worths x_t_steps x_t_tape x_t_between c_t_isKept c_t_most c_t_taped c_t_here c_t_fault c_t_value c_t_bits c_t_cells out.2 c_t_longs) A) args s 0 0 A) (F0 m 49 ls [])) :
    ∀ (c_t_findings : (Nat → Int32)) (v3 : Int32) (v5 : Int32) (v8 : Int32) (s0 : Int32), f_M_walk_b121 k49 c_t_bits c_t_cells c_t_longs a1 a2 c_t_findings v3 v5 v8 s0 = some out → ∀ (H : Heap) (locs : List Loc), va_P (eD E) vwCl (w_M_walk E h_t h_t_bits h_t_cells h_t_findings h_t_longs x_t_s x_t_kept x_t_before x_t_shown x_t_worths x_t_steps x_t_tape x_t_between c_t_isKept c_t_most c_t_taped c_t_here c_t_fault c_t_value c_t_bits c_t_cells c_t_findings c_t_longs) H → va_D A (w_M_walk E h_t h_t_bits h_t_cells h_t_findings h_t_longs x_t_s x_t_kept x_t_before x_t_shown x_t_worths x_t_steps x_t_tape x_t_between c_t_isKept c_t_most c_t_taped c_t_here c_t_fault c_t_value c_t_bits c_t_cells c_t_findings c_t_longs) → va_S A s.heap H locs → ∀ (ls : Array Slot), lv_has ls 10 [(0, .ref h_t), (1, .int a1), (3, .int v3), (5, .int v5), (8, .int v8)] → W p l e (rm 5) s m args below meth c H locs 0 0 (MQ below (qW (some (.int out.1)) E (w_M_walk E h_t h_t_bits h_t_cells h_t_findings h_t_longs x_t_s x_t_kept x_t_before x_t_shown x_t_worths x_t_steps x_t_tape x_t_between c_t_isKept c_t_most c_t_taped c_t_here c_t_fault c_t_value c_t_bits c_t_cells out.2 c_t_longs) A) args s 0 0 A) (F0 m 121 ls [.int s0]) := by
  obtain ⟨hx, hb, hr, hml, hown, hw, hlocks⟩ := id C
  intro c_t_findings v3 v5 v8 s0 hF H locs hP hD hS ls hl
  rw [f_M_walk_b121] at hF
  refine lv_istore (lv' := [(9, .int s0), (0, .ref h_t), (1, .int a1), (3, .int v3), (5, .int v5), (8, .int v8)]) hx hb dX10_walk_121 hl (by decide) rfl (fun ls hl => ?_)
  refine lv_iload hx hb dX10_walk_123 (lv_at hl 5 rfl) ?_
  refine lv_if_lt (tgt := 138) hx hb dX10_walk_125 (by decide) (fun q2 => ?_) (fun q2 => ?_)
  · have hF := kp hF q2
    exact wk_M_walk_b138 E h_t h_t_bits h_t_cells h_t_findings h_t_longs x_t_s x_t_kept x_t_before x_t_shown x_t_worths x_t_steps x_t_tape x_t_between c_t_isKept c_t_most c_t_taped c_t_here c_t_fault c_t_value c_t_bits c_t_cells c_t_longs a1 a2 C hA  hK hT  c_t_findings v5 hF _ _ hP hD hS _ (lv_sub hl [4] rfl)
  · have hF := kn hF q2
    refine lv_iload hx hb dX10_walk_128 (lv_at hl 4 rfl) ?_
    refine lv_if_le (tgt := 143) hx hb dX10_walk_130 (by decide) (fun q3 => ?_) (fun q3 => ?_)
    · have hF := kp hF q3
      exact wk_M_walk_b143 E h_t h_t_bits h_t_cells h_t_findings h_t_longs x_t_s x_t_kept x_t_before x_t_shown x_t_worths x_t_steps x_t_tape x_t_between c_t_isKept c_t_most c_t_taped c_t_here c_t_fault c_t_value c_t_bits c_t_cells c_t_longs a1 a2 C hA  hK hT k49 hk49 c_t_findings v3 v5 v8 s0 hF _ _ hP hD hS _ (lv_sub hl [1, 2, 3, 4, 5, 0] rfl)
    · have hF := kn hF q3
      refine lv_iload hx hb dX10_walk_133 (lv_at hl 0 rfl) ?_
      refine lv_if_ge (tgt := 143) hx hb dX10_walk_135 (by decide) (fun q4 => ?_) (fun q4 => ?_)
      · have hF := kp hF q4
        exact wk_M_walk_b143 E h_t h_t_bits h_t_cells h_t_findings h_t_longs x_t_s x_t_kept x_t_before x_t_shown x_t_worths x_t_steps x_t_tape x_t_between c_t_isKept c_t_most c_t_taped c_t_here c_t_fault c_t_value c_t_bits c_t_cells c_t_longs a1 a2 C hA  hK hT k49 hk49 c_t_findings v3 v5 v8 s0 hF _ _ hP hD hS _ (lv_sub hl [1, 2, 3, 4, 5, 0] rfl)
      · have hF := kn hF q4
        exact wk_M_walk_b138 E h_t h_t_bits h_t_cells h_t_findings h_t_longs x_t_s x_t_kept x_t_before x_t_shown x_t_worths x_t_steps x_t_tape x_t_between c_t_isKept c_t_most c_t_taped c_t_here c_t_fault c_t_value c_t_bits c_t_cells c_t_longs a1 a2 C hA  hK hT  c_t_findings v5 hF _ _ hP hD hS _ (lv_sub hl [4] rfl)
set_option maxHeartbeats 4000000 in
set_option maxRecDepth 100000 in
theorem wk_M_walk_b97 {p : Program} {l : Launch} {e : Env} {s : State} {m : MethodId} {args : Array Value} {below : List Frame} {meth : Method} {c : Code} {A : Nat → Prop} (E : kE) (h_t : Nat) (h_t_bits : Nat) (h_t_cells : Nat) (h_t_findings : Nat) (h_t_longs : Nat) (x_t_s : Nat) (x_t_kept : Nat) (x_t_before : Nat) (x_t_shown : Nat) (x_t_worths : Nat) (x_t_steps : Nat) (x_t_tape : Nat) (x_t_between : Nat) (c_t_isKept : Int32) (c_t_most : Int32) (c_t_taped : Int32) (c_t_here : Int32) (c_t_fault : Int32) (c_t_value : Int32) (c_t_bits : (Nat → Int32)) (c_t_cells : (Nat → Int64)) (c_t_longs : (Nat → Int32)) (a1 : Int32) (a2 : Int32) {out : Int32 × (Nat → Int32)} (C : kC RX10 cX10_walk 10 (some .int) p s m args meth c) (hA : ∀ q : Nat, s.heap.size ≤ q → A q) (hK : va_K (eD E) vwCl (eT E) s) (hT : sT E A s s.heap) (k49 : (Nat → Int32) → Int32 → Int32 → Int32 → Option (Int32 × (Nat → Int32))) (hk49 : ∀ (c_t_findings : (Nat → Int32)) (v3 : Int32) (v4 : Int32) (v5 : Int32), k49 c_t_findings v3 v4 v5 = some out → ∀ (H : Heap) (locs : List Loc), va_P (eD E) vwCl (w_M_walk E h_t h_t_bits h_t_cells h_t_findings h_t_longs x_t_s x_t_kept x_t_before x_t_shown x_t_worths x_t_steps x_t_tape x_t_between c_t_isKept c_t_most c_t_taped c_t_here c_t_fault c_t_value c_t_bits c_t_cells c_t_findings c_t_longs) H → va_D A (w_M_walk E h_t h_t_bits h_t_cells h_t_findings h_t_longs x_t_s x_t_kept x_t_before x_t_shown x_t_worths x_t_steps x_t_tape x_t_between c_t_isKept c_t_most c_t_taped c_t_here c_t_fault c_t_value c_t_bits c_t_cells c_t_findings c_t_longs) → va_S A s.heap H locs → ∀ (ls : Array Slot), lv_has ls 10 [(0, .ref h_t), (1, .int a1), (3, .int v3), (4, .int v4), (5, .int v5)] → W p l e (rm 5) s m args below meth c H locs 0 0 (MQ below (qW (some (.int out.1)) E (w_M_walk E h_t h_t_bits h_t_cells h_t_findings h_t_longs x_t_s x_t_kept x_t_before x_t_shown x_t_worths x_t_steps x_t_tape x_t_between c_t_isKept c_t_most c_t_taped c_t_here c_t_fault c_t_value c_t_bits c_t_cells out.2 c_t_longs) A) args s 0 0 A) (F0 m 49 ls [])) :
    ∀ (c_t_findings : (Nat → Int32)) (v3 : Int32) (v4 : Int32) (v5 : Int32) (s0 : Int32), f_M_walk_b97 k49 c_t_bits c_t_cells c_t_longs a1 a2 c_t_findings v3 v4 v5 s0 = some out → ∀ (H : Heap) (locs : List Loc), va_P (eD E) vwCl (w_M_walk E h_t h_t_bits h_t_cells h_t_findings h_t_longs x_t_s x_t_kept x_t_before x_t_shown x_t_worths x_t_steps x_t_tape x_t_between c_t_isKept c_t_most c_t_taped c_t_here c_t_fault c_t_value c_t_bits c_t_cells c_t_findings c_t_longs) H → va_D A (w_M_walk E h_t h_t_bits h_t_cells h_t_findings h_t_longs x_t_s x_t_kept x_t_before x_t_shown x_t_worths x_t_steps x_t_tape x_t_between c_t_isKept c_t_most c_t_taped c_t_here c_t_fault c_t_value c_t_bits c_t_cells c_t_findings c_t_longs) → va_S A s.heap H locs → ∀ (ls : Array Slot), lv_has ls 10 [(0, .ref h_t), (1, .int a1), (3, .int v3), (4, .int v4), (5, .int v5)] → W p l e (rm 5) s m args below meth c H locs 0 0 (MQ below (qW (some (.int out.1)) E (w_M_walk E h_t h_t_bits h_t_cells h_t_findings h_t_longs x_t_s x_t_kept x_t_before x_t_shown x_t_worths x_t_steps x_t_tape x_t_between c_t_isKept c_t_most c_t_taped c_t_here c_t_fault c_t_value c_t_bits c_t_cells out.2 c_t_longs) A) args s 0 0 A) (F0 m 97 ls [.int s0]) := by
  obtain ⟨hx, hb, hr, hml, hown, hw, hlocks⟩ := id C
  intro c_t_findings v3 v4 v5 s0 hF H locs hP hD hS ls hl
  rw [f_M_walk_b97] at hF
  refine lv_istore (lv' := [(8, .int s0), (0, .ref h_t), (1, .int a1), (3, .int v3), (4, .int v4), (5, .int v5)]) hx hb dX10_walk_97 hl (by decide) rfl (fun ls hl => ?_)
  refine lv_iload hx hb dX10_walk_99 (lv_at hl 0 rfl) ?_
  refine lv_if_lt (tgt := 120) hx hb dX10_walk_101 (by decide) (fun q5 => ?_) (fun q5 => ?_)
  · have hF := kp hF q5
    refine lv_iconst (v := (-1 : Int32)) hx hb dX10_walk_120 (by decide) ?_
    exact wk_M_walk_b121 E h_t h_t_bits h_t_cells h_t_findings h_t_longs x_t_s x_t_kept x_t_before x_t_shown x_t_worths x_t_steps x_t_tape x_t_between c_t_isKept c_t_most c_t_taped c_t_here c_t_fault c_t_value c_t_bits c_t_cells c_t_longs a1 a2 C hA  hK hT k49 hk49 c_t_findings v3 v5 s0 (-1 : Int32) hF _ _ hP hD hS _ (lv_sub hl [1, 2, 3, 5, 0] rfl)
  · have hF := kn hF q5
    refine lv_iload hx hb dX10_walk_104 (lv_at hl 5 rfl) ?_
    refine lv_if_le (tgt := 120) hx hb dX10_walk_106 (by decide) (fun q6 => ?_) (fun q6 => ?_)
    · have hF := kp hF q6
      refine lv_iconst (v := (-1 : Int32)) hx hb dX10_walk_120 (by decide) ?_
      exact wk_M_walk_b121 E h_t h_t_bits h_t_cells h_t_findings h_t_longs x_t_s x_t_kept x_t_before x_t_shown x_t_worths x_t_steps x_t_tape x_t_between c_t_isKept c_t_most c_t_taped c_t_here c_t_fault c_t_value c_t_bits c_t_cells c_t_longs a1 a2 C hA  hK hT k49 hk49 c_t_findings v3 v5 s0 (-1 : Int32) hF _ _ hP hD hS _ (lv_sub hl [1, 2, 3, 5, 0] rfl)
    · have hF := kn hF q6
      refine lv_iload_n hx hb dX10_walk_109 rfl (lv_at hl 3 rfl) ?_
      refine lv_iload hx hb dX10_walk_110 (lv_at hl 4 rfl) ?_
      refine lv_iload hx hb dX10_walk_112 (lv_at hl 0 rfl) ?_
      obtain ⟨r7, er7, hF⟩ := kb hF
      refine kRS (rest := []) C (k_M_leads l E v3 v4 s0 r7 er7) fn_M_leads mw_1304 ⟨Nat.le_of_ble_eq_true rfl, Nat.le_of_ble_eq_true rfl⟩ hK hT hS hP [] rfl rfl rfl hl (Nat.le_of_ble_eq_true rfl) dX10_walk_114 ?_
      refine lv_goto (tgt := 121) hx hb dX10_walk_117 (by decide) ?_
      exact wk_M_walk_b121 E h_t h_t_bits h_t_cells h_t_findings h_t_longs x_t_s x_t_kept x_t_before x_t_shown x_t_worths x_t_steps x_t_tape x_t_between c_t_isKept c_t_most c_t_taped c_t_here c_t_fault c_t_value c_t_bits c_t_cells c_t_longs a1 a2 C hA  hK hT k49 hk49 c_t_findings v3 v5 s0 r7 hF _ _ hP hD hS _ (lv_sub hl [1, 2, 3, 5, 0] rfl)
set_option maxHeartbeats 4000000 in
set_option maxRecDepth 100000 in
theorem wk_M_walk_b49 {p : Program} {l : Launch} {e : Env} {s : State} {m : MethodId} {args : Array Value} {below : List Frame} {meth : Method} {c : Code} {A : Nat → Prop} (E : kE) (h_t : Nat) (h_t_bits : Nat) (h_t_cells : Nat) (h_t_findings : Nat) (h_t_longs : Nat) (x_t_s : Nat) (x_t_kept : Nat) (x_t_before : Nat) (x_t_shown : Nat) (x_t_worths : Nat) (x_t_steps : Nat) (x_t_tape : Nat) (x_t_between : Nat) (c_t_isKept : Int32) (c_t_most : Int32) (c_t_taped : Int32) (c_t_here : Int32) (c_t_fault : Int32) (c_t_value : Int32) (c_t_bits : (Nat → Int32)) (c_t_cells : (Nat → Int64)) (c_t_longs : (Nat → Int32)) (a1 : Int32) (a2 : Int32) {out : Int32 × (Nat → Int32)} (C : kC RX10 cX10_walk 10 (some .int) p s m args meth c) (hA : ∀ q : Nat, s.heap.size ≤ q → A q) (hK : va_K (eD E) vwCl (eT E) s) (hT : sT E A s s.heap)  :
    ∀ (n : Nat), ∀ (c_t_findings : (Nat → Int32)) (v3 : Int32) (v4 : Int32) (v5 : Int32), f_M_walk_b49  c_t_bits c_t_cells c_t_longs a1 a2 n c_t_findings v3 v4 v5 = some out → ∀ (H : Heap) (locs : List Loc), va_P (eD E) vwCl (w_M_walk E h_t h_t_bits h_t_cells h_t_findings h_t_longs x_t_s x_t_kept x_t_before x_t_shown x_t_worths x_t_steps x_t_tape x_t_between c_t_isKept c_t_most c_t_taped c_t_here c_t_fault c_t_value c_t_bits c_t_cells c_t_findings c_t_longs) H → va_D A (w_M_walk E h_t h_t_bits h_t_cells h_t_findings h_t_longs x_t_s x_t_kept x_t_before x_t_shown x_t_worths x_t_steps x_t_tape x_t_between c_t_isKept c_t_most c_t_taped c_t_here c_t_fault c_t_value c_t_bits c_t_cells c_t_findings c_t_longs) → va_S A s.heap H locs → ∀ (ls : Array Slot), lv_has ls 10 [(0, .ref h_t), (1, .int a1), (3, .int v3), (4, .int v4), (5, .int v5)] → W p l e (rm 5) s m args below meth c H locs 0 0 (MQ below (qW (some (.int out.1)) E (w_M_walk E h_t h_t_bits h_t_cells h_t_findings h_t_longs x_t_s x_t_kept x_t_before x_t_shown x_t_worths x_t_steps x_t_tape x_t_between c_t_isKept c_t_most c_t_taped c_t_here c_t_fault c_t_value c_t_bits c_t_cells out.2 c_t_longs) A) args s 0 0 A) (F0 m 49 ls []) := by
  obtain ⟨hx, hb, hr, hml, hown, hw, hlocks⟩ := id C
  intro n
  induction n with
  | zero =>
    intro c_t_findings v3 v4 v5 hF
    exact absurd (show (none : Option (Int32 × (Nat → Int32))) = some out from hF) nofun
  | succ n ih =>
    intro c_t_findings v3 v4 v5 hF H locs hP hD hS ls hl
    rw [f_M_walk_b49] at hF
    refine lv_iload hx hb dX10_walk_49 (lv_at hl 4 rfl) ?_
    refine lv_aload_n hx hb dX10_walk_51 rfl (lv_at hl 0 rfl) ?_
    refine va_get (D := eD E) (ci := 8) (C := RX10) (T := TX10) (N := 18) (v := .ref h_t_longs) hx hb hw inX10 hown hK hP 0 rfl rfl 15 (by decide) (hw _ mw_896) (fun _ h9 => h9) rfl dX10_walk_52 ?_
    refine lv_iload_n hx hb dX10_walk_55 rfl (lv_at hl 1 rfl) ?_
    obtain ⟨r8, er8, hF⟩ := kb hF
    refine wa_iald hx hb hK hP 4 0 rfl rfl er8 dX10_walk_56 ?_
    refine lv_icmp_ge (tgt := 171) hx hb dX10_walk_57 (by decide) (fun q9 => ?_) (fun q9 => ?_)
    · have hF := kp hF q9
      refine lv_iload_n hx hb dX10_walk_171 rfl (lv_at hl 2 rfl) ?_
      refine lv_if_ne (tgt := 179) hx hb dX10_walk_172 (by decide) (fun q10 => ?_) (fun q10 => ?_)
      · have hF := kn hF q10
        refine lv_iconst (v := (1 : Int32)) hx hb dX10_walk_179 (by decide) ?_
        refine lv_aload_n hx hb dX10_walk_180 rfl (lv_at hl 0 rfl) ?_
        refine va_get (D := eD E) (ci := 8) (C := RX10) (T := TX10) (N := 18) (v := .ref h_t_longs) hx hb hw inX10 hown hK hP 0 rfl rfl 15 (by decide) (hw _ mw_896) (fun _ h9 => h9) rfl dX10_walk_181 ?_
        refine lv_iload_n hx hb dX10_walk_184 rfl (lv_at hl 1 rfl) ?_
        obtain ⟨r11, er11, hF⟩ := kb hF
        refine wa_iald hx hb hK hP 4 0 rfl rfl er11 dX10_walk_185 ?_
        refine lv_iadd hx hb dX10_walk_186 ?_
        obtain rfl := Option.some.inj hF
        exact W.iret hx hb hr (fun t ht hW => ⟨⟨rfl, by rw [ht]; exact hP, hD⟩, hS.F ht⟩) hS.2.2 dX10_walk_187
      · have hF := kp hF q10
        refine lv_iconst (v := (0 : Int32)) hx hb dX10_walk_175 (by decide) ?_
        refine lv_goto (tgt := 187) hx hb dX10_walk_176 (by decide) ?_
        obtain rfl := Option.some.inj hF
        exact W.iret hx hb hr (fun t ht hW => ⟨⟨rfl, by rw [ht]; exact hP, hD⟩, hS.F ht⟩) hS.2.2 dX10_walk_187
    · have hF := kn hF q9
      refine lv_aload_n hx hb dX10_walk_60 rfl (lv_at hl 0 rfl) ?_
      refine va_get (D := eD E) (ci := 8) (C := RX10) (T := TX10) (N := 18) (v := .ref h_t_cells) hx hb hw inX10 hown hK hP 0 rfl rfl 16 (by decide) (hw _ mw_897) (fun _ h9 => h9) rfl dX10_walk_61 ?_
      refine lv_bipush (v := (40 : Int32)) hx hb dX10_walk_64 (by decide) ?_
      refine lv_iload_n hx hb dX10_walk_66 rfl (lv_at hl 1 rfl) ?_
      refine lv_imul hx hb dX10_walk_67 ?_
      refine lv_iload hx hb dX10_walk_68 (lv_at hl 4 rfl) ?_
      refine lv_iadd hx hb dX10_walk_70 ?_
      obtain ⟨r12, er12, hF⟩ := kb hF
      refine wa_lald hx hb hK hP 2 2 rfl rfl er12 dX10_walk_71 ?_
      refine lv_lstore (lv' := [(6, .long r12), (0, .ref h_t), (1, .int a1), (3, .int v3), (4, .int v4), (5, .int v5)]) hx hb dX10_walk_72 hl (by decide) rfl (fun ls hl => ?_)
      refine lv_lload hx hb dX10_walk_74 (lv_at hl 0 rfl) ?_
      refine lv_lconst (v := (0 : Int64)) hx hb dX10_walk_76 (by decide) ?_
      refine W.lcmp hx hb dX10_walk_77 ?_
      refine lv_if_lt (tgt := 96) hx hb dX10_walk_78 (by decide) (fun q13 => ?_) (fun q13 => ?_)
      · have hF := kp hF q13
        refine lv_iconst (v := (-1 : Int32)) hx hb dX10_walk_96 (by decide) ?_
        exact wk_M_walk_b97 E h_t h_t_bits h_t_cells h_t_findings h_t_longs x_t_s x_t_kept x_t_before x_t_shown x_t_worths x_t_steps x_t_tape x_t_between c_t_isKept c_t_most c_t_taped c_t_here c_t_fault c_t_value c_t_bits c_t_cells c_t_longs a1 a2 C hA  hK hT (f_M_walk_b49  c_t_bits c_t_cells c_t_longs a1 a2 n) ih c_t_findings v3 v4 v5 (-1 : Int32) hF _ _ hP hD hS _ (lv_sub hl [1, 2, 3, 4, 5] rfl)
      · have hF := kn hF q13
        refine lv_lload hx hb dX10_walk_81 (lv_at hl 0 rfl) ?_
        refine lv_ldc2 (v := (9 : Int64)) hx hb hown (hw _ mw_1303) dX10_walk_83 ?_
        refine W.lcmp hx hb dX10_walk_86 ?_
        refine lv_if_ge (tgt := 96) hx hb dX10_walk_87 (by decide) (fun q14 => ?_) (fun q14 => ?_)
        · have hF := kp hF q14
          refine lv_iconst (v := (-1 : Int32)) hx hb dX10_walk_96 (by decide) ?_
          exact wk_M_walk_b97 E h_t h_t_bits h_t_cells h_t_findings h_t_longs x_t_s x_t_kept x_t_before x_t_shown x_t_worths x_t_steps x_t_tape x_t_between c_t_isKept c_t_most c_t_taped c_t_here c_t_fault c_t_value c_t_bits c_t_cells c_t_longs a1 a2 C hA  hK hT (f_M_walk_b49  c_t_bits c_t_cells c_t_longs a1 a2 n) ih c_t_findings v3 v4 v5 (-1 : Int32) hF _ _ hP hD hS _ (lv_sub hl [1, 2, 3, 4, 5] rfl)
        · have hF := kn hF q14
          refine lv_lload hx hb dX10_walk_90 (lv_at hl 0 rfl) ?_
          refine lv_l2i (v := r12.toInt32) hx hb dX10_walk_92 rfl ?_
          refine lv_goto (tgt := 97) hx hb dX10_walk_93 (by decide) ?_
          exact wk_M_walk_b97 E h_t h_t_bits h_t_cells h_t_findings h_t_longs x_t_s x_t_kept x_t_before x_t_shown x_t_worths x_t_steps x_t_tape x_t_between c_t_isKept c_t_most c_t_taped c_t_here c_t_fault c_t_value c_t_bits c_t_cells c_t_longs a1 a2 C hA  hK hT (f_M_walk_b49  c_t_bits c_t_cells c_t_longs a1 a2 n) ih c_t_findings v3 v4 v5 r12.toInt32 hF _ _ hP hD hS _ (lv_sub hl [1, 2, 3, 4, 5] rfl)
set_option maxHeartbeats 4000000 in
set_option maxRecDepth 100000 in
theorem k_M_walk (l : Launch) (E : kE) (h_t : Nat) (h_t_bits : Nat) (h_t_cells : Nat) (h_t_findings : Nat) (h_t_longs : Nat) (x_t_s : Nat) (x_t_kept : Nat) (x_t_before : Nat) (x_t_shown : Nat) (x_t_worths : Nat) (x_t_steps : Nat) (x_t_tape : Nat) (x_t_between : Nat) (sz : Nat) (c_t_isKept : Int32) (c_t_most : Int32) (c_t_taped : Int32) (c_t_here : Int32) (c_t_fault : Int32) (c_t_value : Int32) (c_t_bits : (Nat → Int32)) (c_t_cells : (Nat → Int64)) (c_t_findings : (Nat → Int32)) (c_t_longs : (Nat → Int32)) (a1 : Int32) (a2 : Int32) (out : Int32 × (Nat → Int32)) (hF : f_M_walk c_t_bits c_t_cells c_t_findings c_t_longs a1 a2 = some out) : Met l yX10_walk (Cond.code yX10_walk cX10_walk 10 (some .int) :: wG) (rm 5) (pW E (w_M_walk E h_t h_t_bits h_t_cells h_t_findings h_t_longs x_t_s x_t_kept x_t_before x_t_shown x_t_worths x_t_steps x_t_tape x_t_between c_t_isKept c_t_most c_t_taped c_t_here c_t_fault c_t_value c_t_bits c_t_cells c_t_findings c_t_longs) sz [.ref h_t, .int a1, .int a2]) (qW (some (.int out.1)) E (w_M_walk E h_t h_t_bits h_t_cells h_t_findings h_t_longs x_t_s x_t_kept x_t_before x_t_shown x_t_worths x_t_steps x_t_tape x_t_between c_t_isKept c_t_most c_t_taped c_t_here c_t_fault c_t_value c_t_bits c_t_cells out.2 c_t_longs) (va_A (w_M_walk E h_t h_t_bits h_t_cells h_t_findings h_t_longs x_t_s x_t_kept x_t_before x_t_shown x_t_worths x_t_steps x_t_tape x_t_between c_t_isKept c_t_most c_t_taped c_t_here c_t_fault c_t_value c_t_bits c_t_cells c_t_findings c_t_longs) sz)) 0 0 (va_A (w_M_walk E h_t h_t_bits h_t_cells h_t_findings h_t_longs x_t_s x_t_kept x_t_before x_t_shown x_t_worths x_t_steps x_t_tape x_t_between c_t_isKept c_t_most c_t_taped c_t_here c_t_fault c_t_value c_t_bits c_t_cells c_t_findings c_t_longs) sz) := by
  refine met_W (by decide) (Nat.le_of_ble_eq_true rfl) ?_
  intro p e s m args below meth c A ls C hP hD hS hA hK hT hl
  obtain ⟨hx, hb, hr, hml, hown, hw, hlocks⟩ := id C
  have hl : lv_has ls 10 [(0, .ref h_t), (1, .int a1), (2, .int a2)] := hl
  rw [f_M_walk] at hF
  refine lv_iload_n hx hb dX10_walk_0 rfl (lv_at hl 1 rfl) ?_
  obtain ⟨r15, er15, hF⟩ := kb hF
  refine kRS (rest := []) C (k_M_isSheet l E a1 r15 er15) fn_M_isSheet mw_1275 ⟨Nat.le_of_ble_eq_true rfl, Nat.le_of_ble_eq_true rfl⟩ hK hT hS hP [] rfl rfl rfl hl (Nat.le_of_ble_eq_true rfl) dX10_walk_1 ?_
  refine lv_if_ne (tgt := 13) hx hb dX10_walk_4 (by decide) (fun q16 => ?_) (fun q16 => ?_)
  · have hF := kn hF q16
    refine lv_aload_n hx hb dX10_walk_13 rfl (lv_at hl 0 rfl) ?_
    refine va_get (D := eD E) (ci := 8) (C := RX10) (T := TX10) (N := 18) (v := .ref h_t_bits) hx hb hw inX10 hown hK hP 0 rfl rfl 14 (by decide) (hw _ mw_895) (fun _ h9 => h9) rfl dX10_walk_14 ?_
    refine lv_iload_n hx hb dX10_walk_17 rfl (lv_at hl 1 rfl) ?_
    obtain ⟨r17, er17, hF⟩ := kb hF
    refine wa_iald hx hb hK hP 1 0 rfl rfl er17 dX10_walk_18 ?_
    refine lv_if_ne (tgt := 28) hx hb dX10_walk_19 (by decide) (fun q18 => ?_) (fun q18 => ?_)
    · have hF := kn hF q18
      refine lv_iload_n hx hb dX10_walk_28 rfl (lv_at hl 2 rfl) ?_
      obtain ⟨r19, er19, hF⟩ := kb hF
      refine kRS (rest := []) C (k_M_isForm l E a2 r19 er19) fn_M_isForm mw_940 ⟨Nat.le_of_ble_eq_true rfl, Nat.le_of_ble_eq_true rfl⟩ hK hT hS hP [] rfl rfl rfl hl (Nat.le_of_ble_eq_true rfl) dX10_walk_29 ?_
      refine lv_if_ne (tgt := 41) hx hb dX10_walk_32 (by decide) (fun q20 => ?_) (fun q20 => ?_)
      · have hF := kn hF q20
        refine lv_iload_n hx hb dX10_walk_41 rfl (lv_at hl 2 rfl) ?_
        refine lv_istore_n (lv' := [(3, .int a2), (0, .ref h_t), (1, .int a1), (2, .int a2)]) hx hb dX10_walk_42 rfl hl (by decide) rfl (fun ls hl => ?_)
        refine lv_iconst (v := (-1 : Int32)) hx hb dX10_walk_43 (by decide) ?_
        refine lv_istore (lv' := [(4, .int (-1 : Int32)), (3, .int a2), (0, .ref h_t), (1, .int a1), (2, .int a2)]) hx hb dX10_walk_44 hl (by decide) rfl (fun ls hl => ?_)
        refine lv_iconst (v := (0 : Int32)) hx hb dX10_walk_46 (by decide) ?_
        refine lv_istore (lv' := [(5, .int (0 : Int32)), (4, .int (-1 : Int32)), (3, .int a2), (0, .ref h_t), (1, .int a1), (2, .int a2)]) hx hb dX10_walk_47 hl (by decide) rfl (fun ls hl => ?_)
        exact wk_M_walk_b49 E h_t h_t_bits h_t_cells h_t_findings h_t_longs x_t_s x_t_kept x_t_before x_t_shown x_t_worths x_t_steps x_t_tape x_t_between c_t_isKept c_t_most c_t_taped c_t_here c_t_fault c_t_value c_t_bits c_t_cells c_t_longs a1 a2 C hA  hK hT  5000 c_t_findings a2 (-1 : Int32) (0 : Int32) hF _ _ hP hD hS _ (lv_sub hl [3, 4, 2, 1, 0] rfl)
      · have hF := kp hF q20
        refine lv_aload_n hx hb dX10_walk_35 rfl (lv_at hl 0 rfl) ?_
        refine lv_iconst (v := (0 : Int32)) hx hb dX10_walk_36 (by decide) ?_
        obtain ⟨r21, er21, hF⟩ := kb hF
        refine kWV (rest := []) (Wr := [(h_t_bits, .inl (eI E, 4, .inl c_t_bits)), (h_t_cells, .inl (eJ E, 160, .inr (.inl c_t_cells))), (h_t_longs, .inl (eI E, 4, .inl c_t_longs))]) (Wn := (w_M_walk E h_t h_t_bits h_t_cells h_t_findings h_t_longs x_t_s x_t_kept x_t_before x_t_shown x_t_worths x_t_steps x_t_tape x_t_between c_t_isKept c_t_most c_t_taped c_t_here c_t_fault c_t_value c_t_bits c_t_cells r21.2 c_t_longs)) C (k_M_no l E h_t h_t_findings x_t_s x_t_kept x_t_before x_t_shown x_t_worths x_t_steps x_t_tape h_t_bits h_t_longs h_t_cells x_t_between s.heap.size c_t_isKept c_t_most c_t_taped c_t_here c_t_fault c_t_value c_t_findings (0 : Int32) r21 er21) fn_M_no mw_964 ⟨Nat.le_of_ble_eq_true rfl, Nat.le_of_ble_eq_true rfl⟩ hK hT hS hA (va_recv hK hP (ci := 8) (q0 := 0) rfl rfl) hP hD [0, 3] rfl (by decide) [1, 2, 4] rfl (by decide) (by decide) [3, 0, 1, 4, 2] rfl (by decide) rfl rfl hl (Nat.le_of_ble_eq_true rfl) dX10_walk_37 (fun H locs hP hD hS => ?_)
        refine W.eq (g2 := F0 m 40 ls [.int r21.1]) rfl ?_
        obtain rfl := Option.some.inj hF
        exact W.iret hx hb hr (fun t ht hW => ⟨⟨rfl, by rw [ht]; exact hP, hD⟩, hS.F ht⟩) hS.2.2 dX10_walk_40
    · have hF := kp hF q18
      refine lv_aload_n hx hb dX10_walk_22 rfl (lv_at hl 0 rfl) ?_
      refine lv_iconst (v := (5 : Int32)) hx hb dX10_walk_23 (by decide) ?_
      obtain ⟨r22, er22, hF⟩ := kb hF
      refine kWV (rest := []) (Wr := [(h_t_bits, .inl (eI E, 4, .inl c_t_bits)), (h_t_cells, .inl (eJ E, 160, .inr (.inl c_t_cells))), (h_t_longs, .inl (eI E, 4, .inl c_t_longs))]) (Wn := (w_M_walk E h_t h_t_bits h_t_cells h_t_findings h_t_longs x_t_s x_t_kept x_t_before x_t_shown x_t_worths x_t_steps x_t_tape x_t_between c_t_isKept c_t_most c_t_taped c_t_here c_t_fault c_t_value c_t_bits c_t_cells r22.2 c_t_longs)) C (k_M_no l E h_t h_t_findings x_t_s x_t_kept x_t_before x_t_shown x_t_worths x_t_steps x_t_tape h_t_bits h_t_longs h_t_cells x_t_between s.heap.size c_t_isKept c_t_most c_t_taped c_t_here c_t_fault c_t_value c_t_findings (5 : Int32) r22 er22) fn_M_no mw_964 ⟨Nat.le_of_ble_eq_true rfl, Nat.le_of_ble_eq_true rfl⟩ hK hT hS hA (va_recv hK hP (ci := 8) (q0 := 0) rfl rfl) hP hD [0, 3] rfl (by decide) [1, 2, 4] rfl (by decide) (by decide) [3, 0, 1, 4, 2] rfl (by decide) rfl rfl hl (Nat.le_of_ble_eq_true rfl) dX10_walk_24 (fun H locs hP hD hS => ?_)
      refine W.eq (g2 := F0 m 27 ls [.int r22.1]) rfl ?_
      obtain rfl := Option.some.inj hF
      exact W.iret hx hb hr (fun t ht hW => ⟨⟨rfl, by rw [ht]; exact hP, hD⟩, hS.F ht⟩) hS.2.2 dX10_walk_27
  · have hF := kp hF q16
    refine lv_aload_n hx hb dX10_walk_7 rfl (lv_at hl 0 rfl) ?_
    refine lv_iconst (v := (0 : Int32)) hx hb dX10_walk_8 (by decide) ?_
    obtain ⟨r23, er23, hF⟩ := kb hF
    refine kWV (rest := []) (Wr := [(h_t_bits, .inl (eI E, 4, .inl c_t_bits)), (h_t_cells, .inl (eJ E, 160, .inr (.inl c_t_cells))), (h_t_longs, .inl (eI E, 4, .inl c_t_longs))]) (Wn := (w_M_walk E h_t h_t_bits h_t_cells h_t_findings h_t_longs x_t_s x_t_kept x_t_before x_t_shown x_t_worths x_t_steps x_t_tape x_t_between c_t_isKept c_t_most c_t_taped c_t_here c_t_fault c_t_value c_t_bits c_t_cells r23.2 c_t_longs)) C (k_M_no l E h_t h_t_findings x_t_s x_t_kept x_t_before x_t_shown x_t_worths x_t_steps x_t_tape h_t_bits h_t_longs h_t_cells x_t_between s.heap.size c_t_isKept c_t_most c_t_taped c_t_here c_t_fault c_t_value c_t_findings (0 : Int32) r23 er23) fn_M_no mw_964 ⟨Nat.le_of_ble_eq_true rfl, Nat.le_of_ble_eq_true rfl⟩ hK hT hS hA (va_recv hK hP (ci := 8) (q0 := 0) rfl rfl) hP hD [0, 3] rfl (by decide) [1, 2, 4] rfl (by decide) (by decide) [3, 0, 1, 4, 2] rfl (by decide) rfl rfl hl (Nat.le_of_ble_eq_true rfl) dX10_walk_9 (fun H locs hP hD hS => ?_)
    refine W.eq (g2 := F0 m 12 ls [.int r23.1]) rfl ?_
    obtain rfl := Option.some.inj hF
    exact W.iret hx hb hr (fun t ht hW => ⟨⟨rfl, by rw [ht]; exact hP, hD⟩, hS.F ht⟩) hS.2.2 dX10_walk_12
abbrev w_M_image (E : kE) (h_t : Nat) (h_t_kept : Nat) (h_t_s : Nat) (x_t_before : Nat) (x_t_findings : Nat) (x_t_shown : Nat) (x_t_worths : Nat) (x_t_steps : Nat) (x_t_tape : Nat) (x_t_bits : Nat) (x_t_longs : Nat) (x_t_cells : Nat) (x_t_between : Nat) (c_t_isKept : Int32) (c_t_most : Int32) (c_t_taped : Int32) (c_t_here : Int32) (c_t_fault : Int32) (c_t_value : Int32) (c_t_kept : (Nat → Int32)) (c_t_s : (Nat → Int32)) : va_W := [(h_t, .inr (8, [.ref h_t_s, .ref h_t_kept, .ref x_t_before, .int c_t_isKept, .ref x_t_findings, .ref x_t_shown, .int c_t_most, .ref x_t_worths, .ref x_t_steps, .ref x_t_tape, .int c_t_taped, .int c_t_here, .int c_t_fault, .int c_t_value, .ref x_t_bits, .ref x_t_longs, .ref x_t_cells, .ref x_t_between])), (h_t_kept, .inl (eI E, 65, .inl c_t_kept)), (h_t_s, .inl (eI E, 65, .inl c_t_s))]
set_option maxHeartbeats 4000000 in
set_option maxRecDepth 100000 in
theorem k_M_image (l : Launch) (E : kE) (h_t : Nat) (h_t_kept : Nat) (h_t_s : Nat) (x_t_before : Nat) (x_t_findings : Nat) (x_t_shown : Nat) (x_t_worths : Nat) (x_t_steps : Nat) (x_t_tape : Nat) (x_t_bits : Nat) (x_t_longs : Nat) (x_t_cells : Nat) (x_t_between : Nat) (sz : Nat) (c_t_isKept : Int32) (c_t_most : Int32) (c_t_taped : Int32) (c_t_here : Int32) (c_t_fault : Int32) (c_t_value : Int32) (c_t_kept : (Nat → Int32)) (c_t_s : (Nat → Int32))  (out : Int32 × Int32 × (Nat → Int32)) (hF : f_M_image c_t_isKept c_t_kept c_t_s  = some out) : Met l yX10_image (Cond.code yX10_image cX10_image 1 (some .int) :: wG) (rm 2) (pW E (w_M_image E h_t h_t_kept h_t_s x_t_before x_t_findings x_t_shown x_t_worths x_t_steps x_t_tape x_t_bits x_t_longs x_t_cells x_t_between c_t_isKept c_t_most c_t_taped c_t_here c_t_fault c_t_value c_t_kept c_t_s) sz [.ref h_t]) (qW (some (.int out.1)) E (w_M_image E h_t h_t_kept h_t_s x_t_before x_t_findings x_t_shown x_t_worths x_t_steps x_t_tape x_t_bits x_t_longs x_t_cells x_t_between out.2.1 c_t_most c_t_taped c_t_here c_t_fault c_t_value out.2.2 c_t_s) (va_A (w_M_image E h_t h_t_kept h_t_s x_t_before x_t_findings x_t_shown x_t_worths x_t_steps x_t_tape x_t_bits x_t_longs x_t_cells x_t_between c_t_isKept c_t_most c_t_taped c_t_here c_t_fault c_t_value c_t_kept c_t_s) sz)) 0 0 (va_A (w_M_image E h_t h_t_kept h_t_s x_t_before x_t_findings x_t_shown x_t_worths x_t_steps x_t_tape x_t_bits x_t_longs x_t_cells x_t_between c_t_isKept c_t_most c_t_taped c_t_here c_t_fault c_t_value c_t_kept c_t_s) sz) := by
  refine met_W (by decide) (Nat.le_of_ble_eq_true rfl) ?_
  intro p e s m args below meth c A ls C hP hD hS hA hK hT hl
  obtain ⟨hx, hb, hr, hml, hown, hw, hlocks⟩ := id C
  have hl : lv_has ls 1 [(0, .ref h_t)] := hl
  rw [f_M_image] at hF
  refine lv_aload_n hx hb dX10_image_0 rfl (lv_at hl 0 rfl) ?_
  refine va_get (D := eD E) (ci := 8) (C := RX10) (T := TX10) (N := 18) (v := .ref h_t_s) hx hb hw inX10 hown hK hP 0 rfl rfl 0 (by decide) (hw _ mw_881) (fun _ h9 => h9) rfl dX10_image_1 ?_
  refine lv_aload_n hx hb dX10_image_4 rfl (lv_at hl 0 rfl) ?_
  refine va_get (D := eD E) (ci := 8) (C := RX10) (T := TX10) (N := 18) (v := .ref h_t_kept) hx hb hw inX10 hown hK hP 0 rfl rfl 1 (by decide) (hw _ mw_882) (fun _ h9 => h9) rfl dX10_image_5 ?_
  obtain ⟨r1, er1, hF⟩ := kb hF
  refine kWS (rest := []) (Wr := [(h_t, .inr (8, [.ref h_t_s, .ref h_t_kept, .ref x_t_before, .int c_t_isKept, .ref x_t_findings, .ref x_t_shown, .int c_t_most, .ref x_t_worths, .ref x_t_steps, .ref x_t_tape, .int c_t_taped, .int c_t_here, .int c_t_fault, .int c_t_value, .ref x_t_bits, .ref x_t_longs, .ref x_t_cells, .ref x_t_between]))]) (Wn := (w_M_image E h_t h_t_kept h_t_s x_t_before x_t_findings x_t_shown x_t_worths x_t_steps x_t_tape x_t_bits x_t_longs x_t_cells x_t_between c_t_isKept c_t_most c_t_taped c_t_here c_t_fault c_t_value r1 c_t_s)) C (k_M_lay l E h_t_s h_t_kept s.heap.size c_t_s c_t_kept r1 er1) fn_M_lay mw_1196 ⟨Nat.le_of_ble_eq_true rfl, Nat.le_of_ble_eq_true rfl⟩ hK hT hS hA hP hD [2, 1] rfl (by decide) [0] rfl (by decide) (by decide) [0, 2, 1] rfl (by decide) rfl rfl hl (Nat.le_of_ble_eq_true rfl) dX10_image_8 (fun H locs hP hD hS => ?_)
  refine W.eq (g2 := F0 m 11 ls []) rfl ?_
  refine lv_aload_n hx hb dX10_image_11 rfl (lv_at hl 0 rfl) ?_
  refine lv_iconst (v := (1 : Int32)) hx hb dX10_image_12 (by decide) ?_
  refine va_put (D := eD E) (ci := 8) (v := .int (1 : Int32)) (ty := .boolean) (C := RX10) (T := TX10) (N := 18) hx hb hw inX10 tyX10 tyX10_ok nmX10 hown hK hP hD hS 0 rfl rfl 3 (by decide) (hw _ mw_884) (fun _ h9 => h9) rfl (by decide +kernel) rfl rfl (Nat.le_of_ble_eq_true rfl) dX10_image_13 (fun H locs hP hD hS => ?_)
  have hP : va_P (eD E) vwCl (w_M_image E h_t h_t_kept h_t_s x_t_before x_t_findings x_t_shown x_t_worths x_t_steps x_t_tape x_t_bits x_t_longs x_t_cells x_t_between (1 : Int32) c_t_most c_t_taped c_t_here c_t_fault c_t_value r1 c_t_s) H := hP
  have hD : va_D A (w_M_image E h_t h_t_kept h_t_s x_t_before x_t_findings x_t_shown x_t_worths x_t_steps x_t_tape x_t_bits x_t_longs x_t_cells x_t_between (1 : Int32) c_t_most c_t_taped c_t_here c_t_fault c_t_value r1 c_t_s) := hD
  refine lv_iconst (v := (1 : Int32)) hx hb dX10_image_16 (by decide) ?_
  obtain rfl := Option.some.inj hF
  exact W.iret hx hb hr (fun t ht hW => ⟨⟨rfl, by rw [ht]; exact hP, hD⟩, hS.F ht⟩) hS.2.2 dX10_image_17
abbrev w_M_undo (E : kE) (h_t : Nat) (h_t_findings : Nat) (h_t_kept : Nat) (h_t_s : Nat) (x_t_before : Nat) (x_t_shown : Nat) (x_t_worths : Nat) (x_t_steps : Nat) (x_t_tape : Nat) (x_t_bits : Nat) (x_t_longs : Nat) (x_t_cells : Nat) (x_t_between : Nat) (c_t_isKept : Int32) (c_t_most : Int32) (c_t_taped : Int32) (c_t_here : Int32) (c_t_fault : Int32) (c_t_value : Int32) (c_t_findings : (Nat → Int32)) (c_t_kept : (Nat → Int32)) (c_t_s : (Nat → Int32)) : va_W := [(h_t, .inr (8, [.ref h_t_s, .ref h_t_kept, .ref x_t_before, .int c_t_isKept, .ref h_t_findings, .ref x_t_shown, .int c_t_most, .ref x_t_worths, .ref x_t_steps, .ref x_t_tape, .int c_t_taped, .int c_t_here, .int c_t_fault, .int c_t_value, .ref x_t_bits, .ref x_t_longs, .ref x_t_cells, .ref x_t_between])), (h_t_findings, .inl (eI E, 7, .inl c_t_findings)), (h_t_kept, .inl (eI E, 65, .inl c_t_kept)), (h_t_s, .inl (eI E, 65, .inl c_t_s))]
set_option maxHeartbeats 4000000 in
set_option maxRecDepth 100000 in
theorem k_M_undo (l : Launch) (E : kE) (h_t : Nat) (h_t_findings : Nat) (h_t_kept : Nat) (h_t_s : Nat) (x_t_before : Nat) (x_t_shown : Nat) (x_t_worths : Nat) (x_t_steps : Nat) (x_t_tape : Nat) (x_t_bits : Nat) (x_t_longs : Nat) (x_t_cells : Nat) (x_t_between : Nat) (sz : Nat) (c_t_isKept : Int32) (c_t_most : Int32) (c_t_taped : Int32) (c_t_here : Int32) (c_t_fault : Int32) (c_t_value : Int32) (c_t_findings : (Nat → Int32)) (c_t_kept : (Nat → Int32)) (c_t_s : (Nat → Int32))  (out : Int32 × (Nat → Int32) × (Nat → Int32)) (hF : f_M_undo c_t_isKept c_t_findings c_t_kept c_t_s  = some out) : Met l yX10_undo (Cond.code yX10_undo cX10_undo 1 (some .int) :: wG) (rm 2) (pW E (w_M_undo E h_t h_t_findings h_t_kept h_t_s x_t_before x_t_shown x_t_worths x_t_steps x_t_tape x_t_bits x_t_longs x_t_cells x_t_between c_t_isKept c_t_most c_t_taped c_t_here c_t_fault c_t_value c_t_findings c_t_kept c_t_s) sz [.ref h_t]) (qW (some (.int out.1)) E (w_M_undo E h_t h_t_findings h_t_kept h_t_s x_t_before x_t_shown x_t_worths x_t_steps x_t_tape x_t_bits x_t_longs x_t_cells x_t_between c_t_isKept c_t_most c_t_taped c_t_here c_t_fault c_t_value out.2.1 c_t_kept out.2.2) (va_A (w_M_undo E h_t h_t_findings h_t_kept h_t_s x_t_before x_t_shown x_t_worths x_t_steps x_t_tape x_t_bits x_t_longs x_t_cells x_t_between c_t_isKept c_t_most c_t_taped c_t_here c_t_fault c_t_value c_t_findings c_t_kept c_t_s) sz)) 0 0 (va_A (w_M_undo E h_t h_t_findings h_t_kept h_t_s x_t_before x_t_shown x_t_worths x_t_steps x_t_tape x_t_bits x_t_longs x_t_cells x_t_between c_t_isKept c_t_most c_t_taped c_t_here c_t_fault c_t_value c_t_findings c_t_kept c_t_s) sz) := by
  refine met_W (by decide) (Nat.le_of_ble_eq_true rfl) ?_
  intro p e s m args below meth c A ls C hP hD hS hA hK hT hl
  obtain ⟨hx, hb, hr, hml, hown, hw, hlocks⟩ := id C
  have hl : lv_has ls 1 [(0, .ref h_t)] := hl
  rw [f_M_undo] at hF
  refine lv_aload_n hx hb dX10_undo_0 rfl (lv_at hl 0 rfl) ?_
  refine va_get (D := eD E) (ci := 8) (C := RX10) (T := TX10) (N := 18) (v := .int c_t_isKept) hx hb hw inX10 hown hK hP 0 rfl rfl 3 (by decide) (hw _ mw_884) (fun _ h9 => h9) rfl dX10_undo_1 ?_
  refine lv_if_ne (tgt := 13) hx hb dX10_undo_4 (by decide) (fun q1 => ?_) (fun q1 => ?_)
  · have hF := kn hF q1
    refine lv_aload_n hx hb dX10_undo_13 rfl (lv_at hl 0 rfl) ?_
    refine va_get (D := eD E) (ci := 8) (C := RX10) (T := TX10) (N := 18) (v := .ref h_t_kept) hx hb hw inX10 hown hK hP 0 rfl rfl 1 (by decide) (hw _ mw_882) (fun _ h9 => h9) rfl dX10_undo_14 ?_
    refine lv_aload_n hx hb dX10_undo_17 rfl (lv_at hl 0 rfl) ?_
    refine va_get (D := eD E) (ci := 8) (C := RX10) (T := TX10) (N := 18) (v := .ref h_t_s) hx hb hw inX10 hown hK hP 0 rfl rfl 0 (by decide) (hw _ mw_881) (fun _ h9 => h9) rfl dX10_undo_18 ?_
    obtain ⟨r2, er2, hF⟩ := kb hF
    refine kWS (rest := []) (Wr := [(h_t, .inr (8, [.ref h_t_s, .ref h_t_kept, .ref x_t_before, .int c_t_isKept, .ref h_t_findings, .ref x_t_shown, .int c_t_most, .ref x_t_worths, .ref x_t_steps, .ref x_t_tape, .int c_t_taped, .int c_t_here, .int c_t_fault, .int c_t_value, .ref x_t_bits, .ref x_t_longs, .ref x_t_cells, .ref x_t_between])), (h_t_findings, .inl (eI E, 7, .inl c_t_findings))]) (Wn := (w_M_undo E h_t h_t_findings h_t_kept h_t_s x_t_before x_t_shown x_t_worths x_t_steps x_t_tape x_t_bits x_t_longs x_t_cells x_t_between c_t_isKept c_t_most c_t_taped c_t_here c_t_fault c_t_value c_t_findings c_t_kept r2)) C (k_M_lay l E h_t_kept h_t_s s.heap.size c_t_kept c_t_s r2 er2) fn_M_lay mw_1196 ⟨Nat.le_of_ble_eq_true rfl, Nat.le_of_ble_eq_true rfl⟩ hK hT hS hA hP hD [2, 3] rfl (by decide) [0, 1] rfl (by decide) (by decide) [0, 1, 2, 3] rfl (by decide) rfl rfl hl (Nat.le_of_ble_eq_true rfl) dX10_undo_21 (fun H locs hP hD hS => ?_)
    refine W.eq (g2 := F0 m 24 ls []) rfl ?_
    refine lv_aload_n hx hb dX10_undo_24 rfl (lv_at hl 0 rfl) ?_
    refine va_get (D := eD E) (ci := 8) (C := RX10) (T := TX10) (N := 18) (v := .ref h_t_s) hx hb hw inX10 hown hK hP 0 rfl rfl 0 (by decide) (hw _ mw_881) (fun _ h9 => h9) rfl dX10_undo_25 ?_
    refine lv_iconst (v := (2 : Int32)) hx hb dX10_undo_28 (by decide) ?_
    obtain ⟨r3, er3, hF⟩ := kb hF
    refine wa_iald hx hb hK hP 3 0 rfl rfl er3 dX10_undo_29 ?_
    obtain rfl := Option.some.inj hF
    exact W.iret hx hb hr (fun t ht hW => ⟨⟨rfl, by rw [ht]; exact hP, hD⟩, hS.F ht⟩) hS.2.2 dX10_undo_30
  · have hF := kp hF q1
    refine lv_aload_n hx hb dX10_undo_7 rfl (lv_at hl 0 rfl) ?_
    refine lv_iconst (v := (3 : Int32)) hx hb dX10_undo_8 (by decide) ?_
    obtain ⟨r4, er4, hF⟩ := kb hF
    refine kWV (rest := []) (Wr := [(h_t_kept, .inl (eI E, 65, .inl c_t_kept)), (h_t_s, .inl (eI E, 65, .inl c_t_s))]) (Wn := (w_M_undo E h_t h_t_findings h_t_kept h_t_s x_t_before x_t_shown x_t_worths x_t_steps x_t_tape x_t_bits x_t_longs x_t_cells x_t_between c_t_isKept c_t_most c_t_taped c_t_here c_t_fault c_t_value r4.2 c_t_kept c_t_s)) C (k_M_no l E h_t h_t_findings h_t_s h_t_kept x_t_before x_t_shown x_t_worths x_t_steps x_t_tape x_t_bits x_t_longs x_t_cells x_t_between s.heap.size c_t_isKept c_t_most c_t_taped c_t_here c_t_fault c_t_value c_t_findings (3 : Int32) r4 er4) fn_M_no mw_964 ⟨Nat.le_of_ble_eq_true rfl, Nat.le_of_ble_eq_true rfl⟩ hK hT hS hA (va_recv hK hP (ci := 8) (q0 := 0) rfl rfl) hP hD [0, 1] rfl (by decide) [2, 3] rfl (by decide) (by decide) [2, 3, 0, 1] rfl (by decide) rfl rfl hl (Nat.le_of_ble_eq_true rfl) dX10_undo_9 (fun H locs hP hD hS => ?_)
    refine W.eq (g2 := F0 m 12 ls [.int r4.1]) rfl ?_
    obtain rfl := Option.some.inj hF
    exact W.iret hx hb hr (fun t ht hW => ⟨⟨rfl, by rw [ht]; exact hP, hD⟩, hS.F ht⟩) hS.2.2 dX10_undo_12
abbrev w_M_tear (E : kE) (h_t : Nat) (x_t_s : Nat) (x_t_kept : Nat) (x_t_before : Nat) (x_t_findings : Nat) (x_t_shown : Nat) (x_t_worths : Nat) (x_t_steps : Nat) (x_t_tape : Nat) (x_t_bits : Nat) (x_t_longs : Nat) (x_t_cells : Nat) (x_t_between : Nat) (c_t_isKept : Int32) (c_t_most : Int32) (c_t_taped : Int32) (c_t_here : Int32) (c_t_fault : Int32) (c_t_value : Int32) : va_W := [(h_t, .inr (8, [.ref x_t_s, .ref x_t_kept, .ref x_t_before, .int c_t_isKept, .ref x_t_findings, .ref x_t_shown, .int c_t_most, .ref x_t_worths, .ref x_t_steps, .ref x_t_tape, .int c_t_taped, .int c_t_here, .int c_t_fault, .int c_t_value, .ref x_t_bits, .ref x_t_longs, .ref x_t_cells, .ref x_t_between]))]
set_option maxHeartbeats 4000000 in
set_option maxRecDepth 100000 in
theorem wk_M_tear_b12 {p : Program} {l : Launch} {e : Env} {s : State} {m : MethodId} {args : Array Value} {below : List Frame} {meth : Method} {c : Code} {A : Nat → Prop} (E : kE) (h_t : Nat) (x_t_s : Nat) (x_t_kept : Nat) (x_t_before : Nat) (x_t_findings : Nat) (x_t_shown : Nat) (x_t_worths : Nat) (x_t_steps : Nat) (x_t_tape : Nat) (x_t_bits : Nat) (x_t_longs : Nat) (x_t_cells : Nat) (x_t_between : Nat) (c_t_most : Int32) (c_t_taped : Int32) (c_t_here : Int32) (c_t_fault : Int32) (c_t_value : Int32)  {out : Int32 × Int32} (C : kC RX10 cX10_tear 2 (some .int) p s m args meth c) (hA : ∀ q : Nat, s.heap.size ≤ q → A q) (hK : va_K (eD E) vwCl (eT E) s) (hT : sT E A s s.heap)  :
    ∀ (c_t_isKept : Int32) (s0 : Int32), f_M_tear_b12   c_t_isKept s0 = some out → ∀ (H : Heap) (locs : List Loc), va_P (eD E) vwCl (w_M_tear E h_t x_t_s x_t_kept x_t_before x_t_findings x_t_shown x_t_worths x_t_steps x_t_tape x_t_bits x_t_longs x_t_cells x_t_between c_t_isKept c_t_most c_t_taped c_t_here c_t_fault c_t_value) H → va_D A (w_M_tear E h_t x_t_s x_t_kept x_t_before x_t_findings x_t_shown x_t_worths x_t_steps x_t_tape x_t_bits x_t_longs x_t_cells x_t_between c_t_isKept c_t_most c_t_taped c_t_here c_t_fault c_t_value) → va_S A s.heap H locs → ∀ (ls : Array Slot), lv_has ls 2 [(0, .ref h_t)] → W p l e (rm 1) s m args below meth c H locs 0 0 (MQ below (qW (some (.int out.1)) E (w_M_tear E h_t x_t_s x_t_kept x_t_before x_t_findings x_t_shown x_t_worths x_t_steps x_t_tape x_t_bits x_t_longs x_t_cells x_t_between out.2 c_t_most c_t_taped c_t_here c_t_fault c_t_value) A) args s 0 0 A) (F0 m 12 ls [.int s0]) := by
  obtain ⟨hx, hb, hr, hml, hown, hw, hlocks⟩ := id C
  intro c_t_isKept s0 hF H locs hP hD hS ls hl
  rw [f_M_tear_b12] at hF
  refine lv_istore_n (lv' := [(1, .int s0), (0, .ref h_t)]) hx hb dX10_tear_12 rfl hl (by decide) rfl (fun ls hl => ?_)
  refine lv_aload_n hx hb dX10_tear_13 rfl (lv_at hl 1 rfl) ?_
  refine lv_iconst (v := (0 : Int32)) hx hb dX10_tear_14 (by decide) ?_
  refine va_put (D := eD E) (ci := 8) (v := .int (0 : Int32)) (ty := .boolean) (C := RX10) (T := TX10) (N := 18) hx hb hw inX10 tyX10 tyX10_ok nmX10 hown hK hP hD hS 0 rfl rfl 3 (by decide) (hw _ mw_884) (fun _ h9 => h9) rfl (by decide +kernel) rfl rfl (Nat.le_of_ble_eq_true rfl) dX10_tear_15 (fun H locs hP hD hS => ?_)
  have hP : va_P (eD E) vwCl (w_M_tear E h_t x_t_s x_t_kept x_t_before x_t_findings x_t_shown x_t_worths x_t_steps x_t_tape x_t_bits x_t_longs x_t_cells x_t_between (0 : Int32) c_t_most c_t_taped c_t_here c_t_fault c_t_value) H := hP
  have hD : va_D A (w_M_tear E h_t x_t_s x_t_kept x_t_before x_t_findings x_t_shown x_t_worths x_t_steps x_t_tape x_t_bits x_t_longs x_t_cells x_t_between (0 : Int32) c_t_most c_t_taped c_t_here c_t_fault c_t_value) := hD
  refine lv_iload_n hx hb dX10_tear_18 rfl (lv_at hl 0 rfl) ?_
  obtain rfl := Option.some.inj hF
  exact W.iret hx hb hr (fun t ht hW => ⟨⟨rfl, by rw [ht]; exact hP, hD⟩, hS.F ht⟩) hS.2.2 dX10_tear_19
set_option maxHeartbeats 4000000 in
set_option maxRecDepth 100000 in
theorem k_M_tear (l : Launch) (E : kE) (h_t : Nat) (x_t_s : Nat) (x_t_kept : Nat) (x_t_before : Nat) (x_t_findings : Nat) (x_t_shown : Nat) (x_t_worths : Nat) (x_t_steps : Nat) (x_t_tape : Nat) (x_t_bits : Nat) (x_t_longs : Nat) (x_t_cells : Nat) (x_t_between : Nat) (sz : Nat) (c_t_isKept : Int32) (c_t_most : Int32) (c_t_taped : Int32) (c_t_here : Int32) (c_t_fault : Int32) (c_t_value : Int32)  (out : Int32 × Int32) (hF : f_M_tear c_t_isKept  = some out) : Met l yX10_tear (Cond.code yX10_tear cX10_tear 2 (some .int) :: wG) (rm 1) (pW E (w_M_tear E h_t x_t_s x_t_kept x_t_before x_t_findings x_t_shown x_t_worths x_t_steps x_t_tape x_t_bits x_t_longs x_t_cells x_t_between c_t_isKept c_t_most c_t_taped c_t_here c_t_fault c_t_value) sz [.ref h_t]) (qW (some (.int out.1)) E (w_M_tear E h_t x_t_s x_t_kept x_t_before x_t_findings x_t_shown x_t_worths x_t_steps x_t_tape x_t_bits x_t_longs x_t_cells x_t_between out.2 c_t_most c_t_taped c_t_here c_t_fault c_t_value) (va_A (w_M_tear E h_t x_t_s x_t_kept x_t_before x_t_findings x_t_shown x_t_worths x_t_steps x_t_tape x_t_bits x_t_longs x_t_cells x_t_between c_t_isKept c_t_most c_t_taped c_t_here c_t_fault c_t_value) sz)) 0 0 (va_A (w_M_tear E h_t x_t_s x_t_kept x_t_before x_t_findings x_t_shown x_t_worths x_t_steps x_t_tape x_t_bits x_t_longs x_t_cells x_t_between c_t_isKept c_t_most c_t_taped c_t_here c_t_fault c_t_value) sz) := by
  refine met_W (by decide) (Nat.le_of_ble_eq_true rfl) ?_
  intro p e s m args below meth c A ls C hP hD hS hA hK hT hl
  obtain ⟨hx, hb, hr, hml, hown, hw, hlocks⟩ := id C
  have hl : lv_has ls 2 [(0, .ref h_t)] := hl
  rw [f_M_tear] at hF
  refine lv_aload_n hx hb dX10_tear_0 rfl (lv_at hl 0 rfl) ?_
  refine va_get (D := eD E) (ci := 8) (C := RX10) (T := TX10) (N := 18) (v := .int c_t_isKept) hx hb hw inX10 hown hK hP 0 rfl rfl 3 (by decide) (hw _ mw_884) (fun _ h9 => h9) rfl dX10_tear_1 ?_
  refine lv_if_eq (tgt := 11) hx hb dX10_tear_4 (by decide) (fun q1 => ?_) (fun q1 => ?_)
  · have hF := kp hF q1
    refine lv_iconst (v := (0 : Int32)) hx hb dX10_tear_11 (by decide) ?_
    exact wk_M_tear_b12 E h_t x_t_s x_t_kept x_t_before x_t_findings x_t_shown x_t_worths x_t_steps x_t_tape x_t_bits x_t_longs x_t_cells x_t_between c_t_most c_t_taped c_t_here c_t_fault c_t_value  C hA  hK hT  c_t_isKept (0 : Int32) hF _ _ hP hD hS _ (lv_sub hl [0] rfl)
  · have hF := kn hF q1
    refine lv_iconst (v := (1 : Int32)) hx hb dX10_tear_7 (by decide) ?_
    refine lv_goto (tgt := 12) hx hb dX10_tear_8 (by decide) ?_
    exact wk_M_tear_b12 E h_t x_t_s x_t_kept x_t_before x_t_findings x_t_shown x_t_worths x_t_steps x_t_tape x_t_bits x_t_longs x_t_cells x_t_between c_t_most c_t_taped c_t_here c_t_fault c_t_value  C hA  hK hT  c_t_isKept (1 : Int32) hF _ _ hP hD hS _ (lv_sub hl [0] rfl)
abbrev w_M_signsTold (E : kE) (h_t : Nat) (h_t_s : Nat) (x_t_kept : Nat) (x_t_before : Nat) (x_t_findings : Nat) (x_t_shown : Nat) (x_t_worths : Nat) (x_t_steps : Nat) (x_t_tape : Nat) (x_t_bits : Nat) (x_t_longs : Nat) (x_t_cells : Nat) (x_t_between : Nat) (c_t_isKept : Int32) (c_t_most : Int32) (c_t_taped : Int32) (c_t_here : Int32) (c_t_fault : Int32) (c_t_value : Int32) (c_t_s : (Nat → Int32)) : va_W := [(h_t, .inr (8, [.ref h_t_s, .ref x_t_kept, .ref x_t_before, .int c_t_isKept, .ref x_t_findings, .ref x_t_shown, .int c_t_most, .ref x_t_worths, .ref x_t_steps, .ref x_t_tape, .int c_t_taped, .int c_t_here, .int c_t_fault, .int c_t_value, .ref x_t_bits, .ref x_t_longs, .ref x_t_cells, .ref x_t_between])), (h_t_s, .inl (eI E, 65, .inl c_t_s))]
set_option maxHeartbeats 4000000 in
set_option maxRecDepth 100000 in
theorem wk_M_signsTold_b27 {p : Program} {l : Launch} {e : Env} {s : State} {m : MethodId} {args : Array Value} {below : List Frame} {meth : Method} {c : Code} (E : kE) (h_t : Nat) (h_t_s : Nat) (x_t_kept : Nat) (x_t_before : Nat) (x_t_findings : Nat) (x_t_shown : Nat) (x_t_worths : Nat) (x_t_steps : Nat) (x_t_tape : Nat) (x_t_bits : Nat) (x_t_longs : Nat) (x_t_cells : Nat) (x_t_between : Nat) (c_t_isKept : Int32) (c_t_most : Int32) (c_t_taped : Int32) (c_t_here : Int32) (c_t_fault : Int32) (c_t_value : Int32) (c_t_s : (Nat → Int32))  {out : Int32} (C : kC RX10 cX10_signsTold 3 (some .int) p s m args meth c) (hP : va_P (eD E) vwCl (w_M_signsTold E h_t h_t_s x_t_kept x_t_before x_t_findings x_t_shown x_t_worths x_t_steps x_t_tape x_t_bits x_t_longs x_t_cells x_t_between c_t_isKept c_t_most c_t_taped c_t_here c_t_fault c_t_value c_t_s) s.heap) (hK : va_K (eD E) vwCl (eT E) s) (hT : sT E (fun _ => False) s s.heap) (k4 : Int32 → Int32 → Option (Int32)) (hk4 : ∀ (v1 : Int32) (v2 : Int32), k4 v1 v2 = some out → ∀ (ls : Array Slot), lv_has ls 3 [(0, .ref h_t), (1, .int v1), (2, .int v2)] → W p l e (rm 1) s m args below meth c s.heap [] 0 0 (MQ below (qR (.int out)) args s 0 0 (fun _ => False)) (F0 m 4 ls [])) :
    ∀ (v2 : Int32) (s0 : Int32) (s1 : Int32), f_M_signsTold_b27 k4 c_t_s v2 s0 s1 = some out → ∀ (ls : Array Slot), lv_has ls 3 [(0, .ref h_t), (2, .int v2)] → W p l e (rm 1) s m args below meth c s.heap [] 0 0 (MQ below (qR (.int out)) args s 0 0 (fun _ => False)) (F0 m 27 ls [.int s0, .int s1]) := by
  obtain ⟨hx, hb, hr, hml, hown, hw, hlocks⟩ := id C
  have hS : va_S (fun _ => False) s.heap s.heap [] := va_S.rf
  intro v2 s0 s1 hF ls hl
  rw [f_M_signsTold_b27] at hF
  refine lv_iadd hx hb dX10_signsTold_27 ?_
  refine lv_istore_n (lv' := [(1, .int (s1 + s0)), (0, .ref h_t), (2, .int v2)]) hx hb dX10_signsTold_28 rfl hl (by decide) rfl (fun ls hl => ?_)
  refine lv_iinc (v := (v2 + (1))) (lv' := [(2, .int (v2 + (1))), (1, .int (s1 + s0)), (0, .ref h_t)]) hx hb dX10_signsTold_29 hl (k := 2) rfl rfl (by decide) rfl (fun ls hl => ?_)
  refine lv_goto (tgt := 4) hx hb dX10_signsTold_32 (by decide) ?_
  exact hk4 (s1 + s0) (v2 + (1)) hF _ (lv_sub hl [2, 1, 0] rfl)
set_option maxHeartbeats 4000000 in
set_option maxRecDepth 100000 in
theorem wk_M_signsTold_b4 {p : Program} {l : Launch} {e : Env} {s : State} {m : MethodId} {args : Array Value} {below : List Frame} {meth : Method} {c : Code} (E : kE) (h_t : Nat) (h_t_s : Nat) (x_t_kept : Nat) (x_t_before : Nat) (x_t_findings : Nat) (x_t_shown : Nat) (x_t_worths : Nat) (x_t_steps : Nat) (x_t_tape : Nat) (x_t_bits : Nat) (x_t_longs : Nat) (x_t_cells : Nat) (x_t_between : Nat) (c_t_isKept : Int32) (c_t_most : Int32) (c_t_taped : Int32) (c_t_here : Int32) (c_t_fault : Int32) (c_t_value : Int32) (c_t_s : (Nat → Int32))  {out : Int32} (C : kC RX10 cX10_signsTold 3 (some .int) p s m args meth c) (hP : va_P (eD E) vwCl (w_M_signsTold E h_t h_t_s x_t_kept x_t_before x_t_findings x_t_shown x_t_worths x_t_steps x_t_tape x_t_bits x_t_longs x_t_cells x_t_between c_t_isKept c_t_most c_t_taped c_t_here c_t_fault c_t_value c_t_s) s.heap) (hK : va_K (eD E) vwCl (eT E) s) (hT : sT E (fun _ => False) s s.heap)  :
    ∀ (n : Nat), ∀ (v1 : Int32) (v2 : Int32), f_M_signsTold_b4  c_t_s n v1 v2 = some out → ∀ (ls : Array Slot), lv_has ls 3 [(0, .ref h_t), (1, .int v1), (2, .int v2)] → W p l e (rm 1) s m args below meth c s.heap [] 0 0 (MQ below (qR (.int out)) args s 0 0 (fun _ => False)) (F0 m 4 ls []) := by
  obtain ⟨hx, hb, hr, hml, hown, hw, hlocks⟩ := id C
  have hS : va_S (fun _ => False) s.heap s.heap [] := va_S.rf
  intro n
  induction n with
  | zero =>
    intro v1 v2 hF
    exact absurd (show (none : Option (Int32)) = some out from hF) nofun
  | succ n ih =>
    intro v1 v2 hF ls hl
    rw [f_M_signsTold_b4] at hF
    refine lv_iload_n hx hb dX10_signsTold_4 rfl (lv_at hl 2 rfl) ?_
    refine lv_bipush (v := (26 : Int32)) hx hb dX10_signsTold_5 (by decide) ?_
    refine lv_icmp_ge (tgt := 35) hx hb dX10_signsTold_7 (by decide) (fun q1 => ?_) (fun q1 => ?_)
    · have hF := kp hF q1
      refine lv_iload_n hx hb dX10_signsTold_35 rfl (lv_at hl 1 rfl) ?_
      obtain rfl := Option.some.inj hF
      exact W.iret hx hb hr (fun t ht hW => ⟨rfl, ht⟩) nofun dX10_signsTold_36
    · have hF := kn hF q1
      refine lv_iload_n hx hb dX10_signsTold_10 rfl (lv_at hl 1 rfl) ?_
      refine lv_aload_n hx hb dX10_signsTold_11 rfl (lv_at hl 0 rfl) ?_
      refine va_get (D := eD E) (ci := 8) (C := RX10) (T := TX10) (N := 18) (v := .ref h_t_s) hx hb hw inX10 hown hK hP 0 rfl rfl 0 (by decide) (hw _ mw_881) (fun _ h9 => h9) rfl dX10_signsTold_12 ?_
      refine lv_iconst (v := (3 : Int32)) hx hb dX10_signsTold_15 (by decide) ?_
      refine lv_iload_n hx hb dX10_signsTold_16 rfl (lv_at hl 2 rfl) ?_
      refine lv_iadd hx hb dX10_signsTold_17 ?_
      obtain ⟨r2, er2, hF⟩ := kb hF
      refine wa_iald hx hb hK hP 1 0 rfl rfl er2 dX10_signsTold_18 ?_
      refine lv_if_eq (tgt := 26) hx hb dX10_signsTold_19 (by decide) (fun q3 => ?_) (fun q3 => ?_)
      · have hF := kp hF q3
        refine lv_iconst (v := (0 : Int32)) hx hb dX10_signsTold_26 (by decide) ?_
        exact wk_M_signsTold_b27 E h_t h_t_s x_t_kept x_t_before x_t_findings x_t_shown x_t_worths x_t_steps x_t_tape x_t_bits x_t_longs x_t_cells x_t_between c_t_isKept c_t_most c_t_taped c_t_here c_t_fault c_t_value c_t_s  C hP  hK hT (f_M_signsTold_b4  c_t_s n) ih v2 (0 : Int32) v1 hF _ (lv_sub hl [0, 2] rfl)
      · have hF := kn hF q3
        refine lv_iconst (v := (1 : Int32)) hx hb dX10_signsTold_22 (by decide) ?_
        refine lv_goto (tgt := 27) hx hb dX10_signsTold_23 (by decide) ?_
        exact wk_M_signsTold_b27 E h_t h_t_s x_t_kept x_t_before x_t_findings x_t_shown x_t_worths x_t_steps x_t_tape x_t_bits x_t_longs x_t_cells x_t_between c_t_isKept c_t_most c_t_taped c_t_here c_t_fault c_t_value c_t_s  C hP  hK hT (f_M_signsTold_b4  c_t_s n) ih v2 (1 : Int32) v1 hF _ (lv_sub hl [0, 2] rfl)
set_option maxHeartbeats 4000000 in
set_option maxRecDepth 100000 in
theorem k_M_signsTold (l : Launch) (E : kE) (h_t : Nat) (h_t_s : Nat) (x_t_kept : Nat) (x_t_before : Nat) (x_t_findings : Nat) (x_t_shown : Nat) (x_t_worths : Nat) (x_t_steps : Nat) (x_t_tape : Nat) (x_t_bits : Nat) (x_t_longs : Nat) (x_t_cells : Nat) (x_t_between : Nat) (c_t_isKept : Int32) (c_t_most : Int32) (c_t_taped : Int32) (c_t_here : Int32) (c_t_fault : Int32) (c_t_value : Int32) (c_t_s : (Nat → Int32))  (out : Int32) (hF : f_M_signsTold c_t_s  = some out) : Met l yX10_signsTold (Cond.code yX10_signsTold cX10_signsTold 3 (some .int) :: wG) (rm 1) (pR E (w_M_signsTold E h_t h_t_s x_t_kept x_t_before x_t_findings x_t_shown x_t_worths x_t_steps x_t_tape x_t_bits x_t_longs x_t_cells x_t_between c_t_isKept c_t_most c_t_taped c_t_here c_t_fault c_t_value c_t_s) [.ref h_t]) (qR (.int out)) 0 0 (fun _ => False) := by
  refine met_R (by decide) (Nat.le_of_ble_eq_true rfl) ?_
  intro p e s m args below meth c ls C hP hK hT hl
  obtain ⟨hx, hb, hr, hml, hown, hw, hlocks⟩ := id C
  have hS : va_S (fun _ => False) s.heap s.heap [] := va_S.rf
  have hl : lv_has ls 3 [(0, .ref h_t)] := hl
  rw [f_M_signsTold] at hF
  refine lv_iconst (v := (0 : Int32)) hx hb dX10_signsTold_0 (by decide) ?_
  refine lv_istore_n (lv' := [(1, .int (0 : Int32)), (0, .ref h_t)]) hx hb dX10_signsTold_1 rfl hl (by decide) rfl (fun ls hl => ?_)
  refine lv_iconst (v := (0 : Int32)) hx hb dX10_signsTold_2 (by decide) ?_
  refine lv_istore_n (lv' := [(2, .int (0 : Int32)), (1, .int (0 : Int32)), (0, .ref h_t)]) hx hb dX10_signsTold_3 rfl hl (by decide) rfl (fun ls hl => ?_)
  exact wk_M_signsTold_b4 E h_t h_t_s x_t_kept x_t_before x_t_findings x_t_shown x_t_worths x_t_steps x_t_tape x_t_bits x_t_longs x_t_cells x_t_between c_t_isKept c_t_most c_t_taped c_t_here c_t_fault c_t_value c_t_s  C hP  hK hT  5000 (0 : Int32) (0 : Int32) hF _ (lv_sub hl [2, 1, 0] rfl)
abbrev w_M_strokesOfAll (E : kE) (h_t : Nat) (h_t_s : Nat) (x_t_kept : Nat) (x_t_before : Nat) (x_t_findings : Nat) (x_t_shown : Nat) (x_t_worths : Nat) (x_t_steps : Nat) (x_t_tape : Nat) (x_t_bits : Nat) (x_t_longs : Nat) (x_t_cells : Nat) (x_t_between : Nat) (c_t_isKept : Int32) (c_t_most : Int32) (c_t_taped : Int32) (c_t_here : Int32) (c_t_fault : Int32) (c_t_value : Int32) (c_t_s : (Nat → Int32)) : va_W := [(h_t, .inr (8, [.ref h_t_s, .ref x_t_kept, .ref x_t_before, .int c_t_isKept, .ref x_t_findings, .ref x_t_shown, .int c_t_most, .ref x_t_worths, .ref x_t_steps, .ref x_t_tape, .int c_t_taped, .int c_t_here, .int c_t_fault, .int c_t_value, .ref x_t_bits, .ref x_t_longs, .ref x_t_cells, .ref x_t_between])), (h_t_s, .inl (eI E, 65, .inl c_t_s))]
set_option maxHeartbeats 4000000 in
set_option maxRecDepth 100000 in
theorem wk_M_strokesOfAll_b4 {p : Program} {l : Launch} {e : Env} {s : State} {m : MethodId} {args : Array Value} {below : List Frame} {meth : Method} {c : Code} (E : kE) (h_t : Nat) (h_t_s : Nat) (x_t_kept : Nat) (x_t_before : Nat) (x_t_findings : Nat) (x_t_shown : Nat) (x_t_worths : Nat) (x_t_steps : Nat) (x_t_tape : Nat) (x_t_bits : Nat) (x_t_longs : Nat) (x_t_cells : Nat) (x_t_between : Nat) (c_t_isKept : Int32) (c_t_most : Int32) (c_t_taped : Int32) (c_t_here : Int32) (c_t_fault : Int32) (c_t_value : Int32) (c_t_s : (Nat → Int32))  {out : Int32} (C : kC RX10 cX10_strokesOfAll 3 (some .int) p s m args meth c) (hP : va_P (eD E) vwCl (w_M_strokesOfAll E h_t h_t_s x_t_kept x_t_before x_t_findings x_t_shown x_t_worths x_t_steps x_t_tape x_t_bits x_t_longs x_t_cells x_t_between c_t_isKept c_t_most c_t_taped c_t_here c_t_fault c_t_value c_t_s) s.heap) (hK : va_K (eD E) vwCl (eT E) s) (hT : sT E (fun _ => False) s s.heap)  :
    ∀ (n : Nat), ∀ (v1 : Int32) (v2 : Int32), f_M_strokesOfAll_b4  c_t_s n v1 v2 = some out → ∀ (ls : Array Slot), lv_has ls 3 [(0, .ref h_t), (1, .int v1), (2, .int v2)] → W p l e (rm 2) s m args below meth c s.heap [] 0 0 (MQ below (qR (.int out)) args s 0 0 (fun _ => False)) (F0 m 4 ls []) := by
  obtain ⟨hx, hb, hr, hml, hown, hw, hlocks⟩ := id C
  have hS : va_S (fun _ => False) s.heap s.heap [] := va_S.rf
  intro n
  induction n with
  | zero =>
    intro v1 v2 hF
    exact absurd (show (none : Option (Int32)) = some out from hF) nofun
  | succ n ih =>
    intro v1 v2 hF ls hl
    rw [f_M_strokesOfAll_b4] at hF
    refine lv_iload_n hx hb dX10_strokesOfAll_4 rfl (lv_at hl 2 rfl) ?_
    refine lv_aload_n hx hb dX10_strokesOfAll_5 rfl (lv_at hl 0 rfl) ?_
    refine va_get (D := eD E) (ci := 8) (C := RX10) (T := TX10) (N := 18) (v := .ref h_t_s) hx hb hw inX10 hown hK hP 0 rfl rfl 0 (by decide) (hw _ mw_881) (fun _ h9 => h9) rfl dX10_strokesOfAll_6 ?_
    refine lv_iconst (v := (2 : Int32)) hx hb dX10_strokesOfAll_9 (by decide) ?_
    obtain ⟨r1, er1, hF⟩ := kb hF
    refine wa_iald hx hb hK hP 1 0 rfl rfl er1 dX10_strokesOfAll_10 ?_
    refine lv_icmp_ge (tgt := 37) hx hb dX10_strokesOfAll_11 (by decide) (fun q2 => ?_) (fun q2 => ?_)
    · have hF := kp hF q2
      refine lv_iload_n hx hb dX10_strokesOfAll_37 rfl (lv_at hl 1 rfl) ?_
      obtain rfl := Option.some.inj hF
      exact W.iret hx hb hr (fun t ht hW => ⟨rfl, ht⟩) nofun dX10_strokesOfAll_38
    · have hF := kn hF q2
      refine lv_iload_n hx hb dX10_strokesOfAll_14 rfl (lv_at hl 1 rfl) ?_
      refine lv_aload_n hx hb dX10_strokesOfAll_15 rfl (lv_at hl 0 rfl) ?_
      refine va_get (D := eD E) (ci := 8) (C := RX10) (T := TX10) (N := 18) (v := .ref h_t_s) hx hb hw inX10 hown hK hP 0 rfl rfl 0 (by decide) (hw _ mw_881) (fun _ h9 => h9) rfl dX10_strokesOfAll_16 ?_
      refine lv_aload_n hx hb dX10_strokesOfAll_19 rfl (lv_at hl 0 rfl) ?_
      refine lv_iload_n hx hb dX10_strokesOfAll_20 rfl (lv_at hl 2 rfl) ?_
      refine lv_iconst (v := (1 : Int32)) hx hb dX10_strokesOfAll_21 (by decide) ?_
      obtain ⟨r3, er3, hF⟩ := kb hF
      refine kRV (rest := [.ref h_t_s, .int v1]) C (k_M_at l E h_t h_t_s x_t_kept x_t_before x_t_findings x_t_shown x_t_worths x_t_steps x_t_tape x_t_bits x_t_longs x_t_cells x_t_between c_t_isKept c_t_most c_t_taped c_t_here c_t_fault c_t_value v2 (1 : Int32) r3 er3) fn_M_at mw_1084 ⟨Nat.le_of_ble_eq_true rfl, Nat.le_of_ble_eq_true rfl⟩ hK hT hS (va_recv hK hP (ci := 8) (q0 := 0) rfl rfl) hP [0] rfl rfl rfl hl (Nat.le_of_ble_eq_true rfl) dX10_strokesOfAll_22 ?_
      obtain ⟨r4, er4, hF⟩ := kb hF
      refine wa_iald hx hb hK hP 1 0 rfl rfl er4 dX10_strokesOfAll_25 ?_
      obtain ⟨r5, er5, hF⟩ := kb hF
      refine kRS (rest := [.int v1]) C (k_M_ones l E r4 r5 er5) fn_M_ones mw_989 ⟨Nat.le_of_ble_eq_true rfl, Nat.le_of_ble_eq_true rfl⟩ hK hT hS hP [] rfl rfl rfl hl (Nat.le_of_ble_eq_true rfl) dX10_strokesOfAll_26 ?_
      refine lv_iadd hx hb dX10_strokesOfAll_29 ?_
      refine lv_istore_n (lv' := [(1, .int (v1 + r5)), (0, .ref h_t), (2, .int v2)]) hx hb dX10_strokesOfAll_30 rfl hl (by decide) rfl (fun ls hl => ?_)
      refine lv_iinc (v := (v2 + (1))) (lv' := [(2, .int (v2 + (1))), (1, .int (v1 + r5)), (0, .ref h_t)]) hx hb dX10_strokesOfAll_31 hl (k := 2) rfl rfl (by decide) rfl (fun ls hl => ?_)
      refine lv_goto (tgt := 4) hx hb dX10_strokesOfAll_34 (by decide) ?_
      exact ih (v1 + r5) (v2 + (1)) hF _ (lv_sub hl [2, 1, 0] rfl)
set_option maxHeartbeats 4000000 in
set_option maxRecDepth 100000 in
theorem k_M_strokesOfAll (l : Launch) (E : kE) (h_t : Nat) (h_t_s : Nat) (x_t_kept : Nat) (x_t_before : Nat) (x_t_findings : Nat) (x_t_shown : Nat) (x_t_worths : Nat) (x_t_steps : Nat) (x_t_tape : Nat) (x_t_bits : Nat) (x_t_longs : Nat) (x_t_cells : Nat) (x_t_between : Nat) (c_t_isKept : Int32) (c_t_most : Int32) (c_t_taped : Int32) (c_t_here : Int32) (c_t_fault : Int32) (c_t_value : Int32) (c_t_s : (Nat → Int32))  (out : Int32) (hF : f_M_strokesOfAll c_t_s  = some out) : Met l yX10_strokesOfAll (Cond.code yX10_strokesOfAll cX10_strokesOfAll 3 (some .int) :: wG) (rm 2) (pR E (w_M_strokesOfAll E h_t h_t_s x_t_kept x_t_before x_t_findings x_t_shown x_t_worths x_t_steps x_t_tape x_t_bits x_t_longs x_t_cells x_t_between c_t_isKept c_t_most c_t_taped c_t_here c_t_fault c_t_value c_t_s) [.ref h_t]) (qR (.int out)) 0 0 (fun _ => False) := by
  refine met_R (by decide) (Nat.le_of_ble_eq_true rfl) ?_
  intro p e s m args below meth c ls C hP hK hT hl
  obtain ⟨hx, hb, hr, hml, hown, hw, hlocks⟩ := id C
  have hS : va_S (fun _ => False) s.heap s.heap [] := va_S.rf
  have hl : lv_has ls 3 [(0, .ref h_t)] := hl
  rw [f_M_strokesOfAll] at hF
  refine lv_iconst (v := (0 : Int32)) hx hb dX10_strokesOfAll_0 (by decide) ?_
  refine lv_istore_n (lv' := [(1, .int (0 : Int32)), (0, .ref h_t)]) hx hb dX10_strokesOfAll_1 rfl hl (by decide) rfl (fun ls hl => ?_)
  refine lv_iconst (v := (0 : Int32)) hx hb dX10_strokesOfAll_2 (by decide) ?_
  refine lv_istore_n (lv' := [(2, .int (0 : Int32)), (1, .int (0 : Int32)), (0, .ref h_t)]) hx hb dX10_strokesOfAll_3 rfl hl (by decide) rfl (fun ls hl => ?_)
  exact wk_M_strokesOfAll_b4 E h_t h_t_s x_t_kept x_t_before x_t_findings x_t_shown x_t_worths x_t_steps x_t_tape x_t_bits x_t_longs x_t_cells x_t_between c_t_isKept c_t_most c_t_taped c_t_here c_t_fault c_t_value c_t_s  C hP  hK hT  5000 (0 : Int32) (0 : Int32) hF _ (lv_sub hl [2, 1, 0] rfl)
abbrev w_M_count (E : kE) (h_t : Nat) (h_t_findings : Nat) (h_t_s : Nat) (x_t_kept : Nat) (x_t_before : Nat) (x_t_shown : Nat) (x_t_worths : Nat) (x_t_steps : Nat) (x_t_tape : Nat) (x_t_bits : Nat) (x_t_longs : Nat) (x_t_cells : Nat) (x_t_between : Nat) (c_t_isKept : Int32) (c_t_most : Int32) (c_t_taped : Int32) (c_t_here : Int32) (c_t_fault : Int32) (c_t_value : Int32) (c_t_findings : (Nat → Int32)) (c_t_s : (Nat → Int32)) : va_W := [(h_t, .inr (8, [.ref h_t_s, .ref x_t_kept, .ref x_t_before, .int c_t_isKept, .ref h_t_findings, .ref x_t_shown, .int c_t_most, .ref x_t_worths, .ref x_t_steps, .ref x_t_tape, .int c_t_taped, .int c_t_here, .int c_t_fault, .int c_t_value, .ref x_t_bits, .ref x_t_longs, .ref x_t_cells, .ref x_t_between])), (h_t_findings, .inl (eI E, 7, .inl c_t_findings)), (h_t_s, .inl (eI E, 65, .inl c_t_s))]
set_option maxHeartbeats 4000000 in
set_option maxRecDepth 100000 in
theorem k_M_count (l : Launch) (E : kE) (h_t : Nat) (h_t_findings : Nat) (h_t_s : Nat) (x_t_kept : Nat) (x_t_before : Nat) (x_t_shown : Nat) (x_t_worths : Nat) (x_t_steps : Nat) (x_t_tape : Nat) (x_t_bits : Nat) (x_t_longs : Nat) (x_t_cells : Nat) (x_t_between : Nat) (sz : Nat) (c_t_isKept : Int32) (c_t_most : Int32) (c_t_taped : Int32) (c_t_here : Int32) (c_t_fault : Int32) (c_t_value : Int32) (c_t_findings : (Nat → Int32)) (c_t_s : (Nat → Int32)) (a1 : Int32) (out : Int32 × (Nat → Int32)) (hF : f_M_count c_t_taped c_t_findings c_t_s a1 = some out) : Met l yX10_count (Cond.code yX10_count cX10_count 2 (some .int) :: wG) (rm 3) (pW E (w_M_count E h_t h_t_findings h_t_s x_t_kept x_t_before x_t_shown x_t_worths x_t_steps x_t_tape x_t_bits x_t_longs x_t_cells x_t_between c_t_isKept c_t_most c_t_taped c_t_here c_t_fault c_t_value c_t_findings c_t_s) sz [.ref h_t, .int a1]) (qW (some (.int out.1)) E (w_M_count E h_t h_t_findings h_t_s x_t_kept x_t_before x_t_shown x_t_worths x_t_steps x_t_tape x_t_bits x_t_longs x_t_cells x_t_between c_t_isKept c_t_most c_t_taped c_t_here c_t_fault c_t_value out.2 c_t_s) (va_A (w_M_count E h_t h_t_findings h_t_s x_t_kept x_t_before x_t_shown x_t_worths x_t_steps x_t_tape x_t_bits x_t_longs x_t_cells x_t_between c_t_isKept c_t_most c_t_taped c_t_here c_t_fault c_t_value c_t_findings c_t_s) sz)) 0 0 (va_A (w_M_count E h_t h_t_findings h_t_s x_t_kept x_t_before x_t_shown x_t_worths x_t_steps x_t_tape x_t_bits x_t_longs x_t_cells x_t_between c_t_isKept c_t_most c_t_taped c_t_here c_t_fault c_t_value c_t_findings c_t_s) sz) := by
  refine met_W (by decide) (Nat.le_of_ble_eq_true rfl) ?_
  intro p e s m args below meth c A ls C hP hD hS hA hK hT hl
  obtain ⟨hx, hb, hr, hml, hown, hw, hlocks⟩ := id C
  have hl : lv_has ls 2 [(0, .ref h_t), (1, .int a1)] := hl
  rw [f_M_count] at hF
  refine lv_iload_n hx hb dX10_count_0 rfl (lv_at hl 1 rfl) ?_
  by_cases q1_0 : a1 = (0 : Int32)
  · have hF := kp hF q1_0
    refine lv_tableIn (tgt := 32) (off := 31) hx hb dX10_count_1 (sw_in (lo := 0) (hi := 3) q1_0 (by decide)).1 (sw_in (lo := 0) (hi := 3) q1_0 (by decide)).2 (sw_at q1_0 rfl) (by decide) ?_
    refine lv_aload_n hx hb dX10_count_32 rfl (lv_at hl 0 rfl) ?_
    refine va_get (D := eD E) (ci := 8) (C := RX10) (T := TX10) (N := 18) (v := .ref h_t_s) hx hb hw inX10 hown hK hP 0 rfl rfl 0 (by decide) (hw _ mw_881) (fun _ h9 => h9) rfl dX10_count_33 ?_
    refine lv_iconst (v := (2 : Int32)) hx hb dX10_count_36 (by decide) ?_
    obtain ⟨r2, er2, hF⟩ := kb hF
    refine wa_iald hx hb hK hP 2 0 rfl rfl er2 dX10_count_37 ?_
    obtain rfl := Option.some.inj hF
    exact W.iret hx hb hr (fun t ht hW => ⟨⟨rfl, by rw [ht]; exact hP, hD⟩, hS.F ht⟩) hS.2.2 dX10_count_38
  have hF := kn hF q1_0
  by_cases q1_1 : a1 = (1 : Int32)
  · have hF := kp hF q1_1
    refine lv_tableIn (tgt := 39) (off := 38) hx hb dX10_count_1 (sw_in (lo := 0) (hi := 3) q1_1 (by decide)).1 (sw_in (lo := 0) (hi := 3) q1_1 (by decide)).2 (sw_at q1_1 rfl) (by decide) ?_
    refine lv_aload_n hx hb dX10_count_39 rfl (lv_at hl 0 rfl) ?_
    obtain ⟨r3, er3, hF⟩ := kb hF
    refine kRV (rest := []) C (k_M_signsTold l E h_t h_t_s x_t_kept x_t_before h_t_findings x_t_shown x_t_worths x_t_steps x_t_tape x_t_bits x_t_longs x_t_cells x_t_between c_t_isKept c_t_most c_t_taped c_t_here c_t_fault c_t_value c_t_s r3 er3) fn_M_signsTold mw_1323 ⟨Nat.le_of_ble_eq_true rfl, Nat.le_of_ble_eq_true rfl⟩ hK hT hS (va_recv hK hP (ci := 8) (q0 := 0) rfl rfl) hP [0, 2] rfl rfl rfl hl (Nat.le_of_ble_eq_true rfl) dX10_count_40 ?_
    obtain rfl := Option.some.inj hF
    exact W.iret hx hb hr (fun t ht hW => ⟨⟨rfl, by rw [ht]; exact hP, hD⟩, hS.F ht⟩) hS.2.2 dX10_count_43
  have hF := kn hF q1_1
  by_cases q1_2 : a1 = (2 : Int32)
  · have hF := kp hF q1_2
    refine lv_tableIn (tgt := 44) (off := 43) hx hb dX10_count_1 (sw_in (lo := 0) (hi := 3) q1_2 (by decide)).1 (sw_in (lo := 0) (hi := 3) q1_2 (by decide)).2 (sw_at q1_2 rfl) (by decide) ?_
    refine lv_aload_n hx hb dX10_count_44 rfl (lv_at hl 0 rfl) ?_
    refine va_get (D := eD E) (ci := 8) (C := RX10) (T := TX10) (N := 18) (v := .int c_t_taped) hx hb hw inX10 hown hK hP 0 rfl rfl 10 (by decide) (hw _ mw_891) (fun _ h9 => h9) rfl dX10_count_45 ?_
    obtain rfl := Option.some.inj hF
    exact W.iret hx hb hr (fun t ht hW => ⟨⟨rfl, by rw [ht]; exact hP, hD⟩, hS.F ht⟩) hS.2.2 dX10_count_48
  have hF := kn hF q1_2
  by_cases q1_3 : a1 = (3 : Int32)
  · have hF := kp hF q1_3
    refine lv_tableIn (tgt := 49) (off := 48) hx hb dX10_count_1 (sw_in (lo := 0) (hi := 3) q1_3 (by decide)).1 (sw_in (lo := 0) (hi := 3) q1_3 (by decide)).2 (sw_at q1_3 rfl) (by decide) ?_
    refine lv_aload_n hx hb dX10_count_49 rfl (lv_at hl 0 rfl) ?_
    obtain ⟨r4, er4, hF⟩ := kb hF
    refine kRV (rest := []) C (k_M_strokesOfAll l E h_t h_t_s x_t_kept x_t_before h_t_findings x_t_shown x_t_worths x_t_steps x_t_tape x_t_bits x_t_longs x_t_cells x_t_between c_t_isKept c_t_most c_t_taped c_t_here c_t_fault c_t_value c_t_s r4 er4) fn_M_strokesOfAll mw_1327 ⟨Nat.le_of_ble_eq_true rfl, Nat.le_of_ble_eq_true rfl⟩ hK hT hS (va_recv hK hP (ci := 8) (q0 := 0) rfl rfl) hP [0, 2] rfl rfl rfl hl (Nat.le_of_ble_eq_true rfl) dX10_count_50 ?_
    obtain rfl := Option.some.inj hF
    exact W.iret hx hb hr (fun t ht hW => ⟨⟨rfl, by rw [ht]; exact hP, hD⟩, hS.F ht⟩) hS.2.2 dX10_count_53
  have hF := kn hF q1_3
  refine lv_tableOut (tgt := 54) hx hb dX10_count_1 (by have z0 := lv_neT q1_0 (a := 0) (by decide); have z1 := lv_neT q1_1 (a := 1) (by decide); have z2 := lv_neT q1_2 (a := 2) (by decide); have z3 := lv_neT q1_3 (a := 3) (by decide); omega) (by decide) ?_
  refine lv_aload_n hx hb dX10_count_54 rfl (lv_at hl 0 rfl) ?_
  refine lv_iconst (v := (0 : Int32)) hx hb dX10_count_55 (by decide) ?_
  obtain ⟨r5, er5, hF⟩ := kb hF
  refine kWV (rest := []) (Wr := [(h_t_s, .inl (eI E, 65, .inl c_t_s))]) (Wn := (w_M_count E h_t h_t_findings h_t_s x_t_kept x_t_before x_t_shown x_t_worths x_t_steps x_t_tape x_t_bits x_t_longs x_t_cells x_t_between c_t_isKept c_t_most c_t_taped c_t_here c_t_fault c_t_value r5.2 c_t_s)) C (k_M_no l E h_t h_t_findings h_t_s x_t_kept x_t_before x_t_shown x_t_worths x_t_steps x_t_tape x_t_bits x_t_longs x_t_cells x_t_between s.heap.size c_t_isKept c_t_most c_t_taped c_t_here c_t_fault c_t_value c_t_findings (0 : Int32) r5 er5) fn_M_no mw_964 ⟨Nat.le_of_ble_eq_true rfl, Nat.le_of_ble_eq_true rfl⟩ hK hT hS hA (va_recv hK hP (ci := 8) (q0 := 0) rfl rfl) hP hD [0, 1] rfl (by decide) [2] rfl (by decide) (by decide) [1, 2, 0] rfl (by decide) rfl rfl hl (Nat.le_of_ble_eq_true rfl) dX10_count_56 (fun H locs hP hD hS => ?_)
  refine W.eq (g2 := F0 m 59 ls [.int r5.1]) rfl ?_
  obtain rfl := Option.some.inj hF
  exact W.iret hx hb hr (fun t ht hW => ⟨⟨rfl, by rw [ht]; exact hP, hD⟩, hS.F ht⟩) hS.2.2 dX10_count_59
abbrev w_M_status (E : kE) (h_t : Nat) (h_t_findings : Nat) (x_t_s : Nat) (x_t_kept : Nat) (x_t_before : Nat) (x_t_shown : Nat) (x_t_worths : Nat) (x_t_steps : Nat) (x_t_tape : Nat) (x_t_bits : Nat) (x_t_longs : Nat) (x_t_cells : Nat) (x_t_between : Nat) (c_t_isKept : Int32) (c_t_most : Int32) (c_t_taped : Int32) (c_t_here : Int32) (c_t_fault : Int32) (c_t_value : Int32) (c_t_findings : (Nat → Int32)) : va_W := [(h_t, .inr (8, [.ref x_t_s, .ref x_t_kept, .ref x_t_before, .int c_t_isKept, .ref h_t_findings, .ref x_t_shown, .int c_t_most, .ref x_t_worths, .ref x_t_steps, .ref x_t_tape, .int c_t_taped, .int c_t_here, .int c_t_fault, .int c_t_value, .ref x_t_bits, .ref x_t_longs, .ref x_t_cells, .ref x_t_between])), (h_t_findings, .inl (eI E, 7, .inl c_t_findings))]
set_option maxHeartbeats 4000000 in
set_option maxRecDepth 100000 in
theorem wk_M_status_b47 {p : Program} {l : Launch} {e : Env} {s : State} {m : MethodId} {args : Array Value} {below : List Frame} {meth : Method} {c : Code} {A : Nat → Prop} (E : kE) (h_t : Nat) (h_t_findings : Nat) (x_t_s : Nat) (x_t_kept : Nat) (x_t_before : Nat) (x_t_shown : Nat) (x_t_worths : Nat) (x_t_steps : Nat) (x_t_tape : Nat) (x_t_bits : Nat) (x_t_longs : Nat) (x_t_cells : Nat) (x_t_between : Nat) (c_t_isKept : Int32) (c_t_most : Int32) (c_t_taped : Int32) (c_t_here : Int32) (c_t_fault : Int32) (c_t_value : Int32) (a1 : Int32) {out : Int32 × (Nat → Int32)} (C : kC RX10 cX10_status 4 (some .int) p s m args meth c) (hA : ∀ q : Nat, s.heap.size ≤ q → A q) (hK : va_K (eD E) vwCl (eT E) s) (hT : sT E A s s.heap) (k20 : (Nat → Int32) → Int32 → Int32 → Option (Int32 × (Nat → Int32))) (hk20 : ∀ (c_t_findings : (Nat → Int32)) (v2 : Int32) (v3 : Int32), k20 c_t_findings v2 v3 = some out → ∀ (H : Heap) (locs : List Loc), va_P (eD E) vwCl (w_M_status E h_t h_t_findings x_t_s x_t_kept x_t_before x_t_shown x_t_worths x_t_steps x_t_tape x_t_bits x_t_longs x_t_cells x_t_between c_t_isKept c_t_most c_t_taped c_t_here c_t_fault c_t_value c_t_findings) H → va_D A (w_M_status E h_t h_t_findings x_t_s x_t_kept x_t_before x_t_shown x_t_worths x_t_steps x_t_tape x_t_bits x_t_longs x_t_cells x_t_between c_t_isKept c_t_most c_t_taped c_t_here c_t_fault c_t_value c_t_findings) → va_S A s.heap H locs → ∀ (ls : Array Slot), lv_has ls 4 [(0, .ref h_t), (1, .int a1), (2, .int v2), (3, .int v3)] → W p l e (rm 2) s m args below meth c H locs 0 0 (MQ below (qW (some (.int out.1)) E (w_M_status E h_t h_t_findings x_t_s x_t_kept x_t_before x_t_shown x_t_worths x_t_steps x_t_tape x_t_bits x_t_longs x_t_cells x_t_between c_t_isKept c_t_most c_t_taped c_t_here c_t_fault c_t_value out.2) A) args s 0 0 A) (F0 m 20 ls [])) :
    ∀ (c_t_findings : (Nat → Int32)) (v3 : Int32) (s0 : Int32) (s1 : Int32), f_M_status_b47 k20 a1 c_t_findings v3 s0 s1 = some out → ∀ (H : Heap) (locs : List Loc), va_P (eD E) vwCl (w_M_status E h_t h_t_findings x_t_s x_t_kept x_t_before x_t_shown x_t_worths x_t_steps x_t_tape x_t_bits x_t_longs x_t_cells x_t_between c_t_isKept c_t_most c_t_taped c_t_here c_t_fault c_t_value c_t_findings) H → va_D A (w_M_status E h_t h_t_findings x_t_s x_t_kept x_t_before x_t_shown x_t_worths x_t_steps x_t_tape x_t_bits x_t_longs x_t_cells x_t_between c_t_isKept c_t_most c_t_taped c_t_here c_t_fault c_t_value c_t_findings) → va_S A s.heap H locs → ∀ (ls : Array Slot), lv_has ls 4 [(0, .ref h_t), (1, .int a1), (3, .int v3)] → W p l e (rm 2) s m args below meth c H locs 0 0 (MQ below (qW (some (.int out.1)) E (w_M_status E h_t h_t_findings x_t_s x_t_kept x_t_before x_t_shown x_t_worths x_t_steps x_t_tape x_t_bits x_t_longs x_t_cells x_t_between c_t_isKept c_t_most c_t_taped c_t_here c_t_fault c_t_value out.2) A) args s 0 0 A) (F0 m 47 ls [.int s0, .int s1]) := by
  obtain ⟨hx, hb, hr, hml, hown, hw, hlocks⟩ := id C
  intro c_t_findings v3 s0 s1 hF H locs hP hD hS ls hl
  rw [f_M_status_b47] at hF
  refine lv_iadd hx hb dX10_status_47 ?_
  refine lv_istore_n (lv' := [(2, .int (s1 + s0)), (0, .ref h_t), (1, .int a1), (3, .int v3)]) hx hb dX10_status_48 rfl hl (by decide) rfl (fun ls hl => ?_)
  refine lv_iinc (v := (v3 + (1))) (lv' := [(3, .int (v3 + (1))), (2, .int (s1 + s0)), (0, .ref h_t), (1, .int a1)]) hx hb dX10_status_49 hl (k := 3) rfl rfl (by decide) rfl (fun ls hl => ?_)
  refine lv_goto (tgt := 20) hx hb dX10_status_52 (by decide) ?_
  exact hk20 c_t_findings (s1 + s0) (v3 + (1)) hF _ _ hP hD hS _ (lv_sub hl [2, 3, 1, 0] rfl)
set_option maxHeartbeats 4000000 in
set_option maxRecDepth 100000 in
theorem wk_M_status_b37 {p : Program} {l : Launch} {e : Env} {s : State} {m : MethodId} {args : Array Value} {below : List Frame} {meth : Method} {c : Code} {A : Nat → Prop} (E : kE) (h_t : Nat) (h_t_findings : Nat) (x_t_s : Nat) (x_t_kept : Nat) (x_t_before : Nat) (x_t_shown : Nat) (x_t_worths : Nat) (x_t_steps : Nat) (x_t_tape : Nat) (x_t_bits : Nat) (x_t_longs : Nat) (x_t_cells : Nat) (x_t_between : Nat) (c_t_isKept : Int32) (c_t_most : Int32) (c_t_taped : Int32) (c_t_here : Int32) (c_t_fault : Int32) (c_t_value : Int32) (a1 : Int32) {out : Int32 × (Nat → Int32)} (C : kC RX10 cX10_status 4 (some .int) p s m args meth c) (hA : ∀ q : Nat, s.heap.size ≤ q → A q) (hK : va_K (eD E) vwCl (eT E) s) (hT : sT E A s s.heap) (k20 : (Nat → Int32) → Int32 → Int32 → Option (Int32 × (Nat → Int32))) (hk20 : ∀ (c_t_findings : (Nat → Int32)) (v2 : Int32) (v3 : Int32), k20 c_t_findings v2 v3 = some out → ∀ (H : Heap) (locs : List Loc), va_P (eD E) vwCl (w_M_status E h_t h_t_findings x_t_s x_t_kept x_t_before x_t_shown x_t_worths x_t_steps x_t_tape x_t_bits x_t_longs x_t_cells x_t_between c_t_isKept c_t_most c_t_taped c_t_here c_t_fault c_t_value c_t_findings) H → va_D A (w_M_status E h_t h_t_findings x_t_s x_t_kept x_t_before x_t_shown x_t_worths x_t_steps x_t_tape x_t_bits x_t_longs x_t_cells x_t_between c_t_isKept c_t_most c_t_taped c_t_here c_t_fault c_t_value c_t_findings) → va_S A s.heap H locs → ∀ (ls : Array Slot), lv_has ls 4 [(0, .ref h_t), (1, .int a1), (2, .int v2), (3, .int v3)] → W p l e (rm 2) s m args below meth c H locs 0 0 (MQ below (qW (some (.int out.1)) E (w_M_status E h_t h_t_findings x_t_s x_t_kept x_t_before x_t_shown x_t_worths x_t_steps x_t_tape x_t_bits x_t_longs x_t_cells x_t_between c_t_isKept c_t_most c_t_taped c_t_here c_t_fault c_t_value out.2) A) args s 0 0 A) (F0 m 20 ls [])) :
    ∀ (c_t_findings : (Nat → Int32)) (v3 : Int32) (s0 : Int32), f_M_status_b37 k20 a1 c_t_findings v3 s0 = some out → ∀ (H : Heap) (locs : List Loc), va_P (eD E) vwCl (w_M_status E h_t h_t_findings x_t_s x_t_kept x_t_before x_t_shown x_t_worths x_t_steps x_t_tape x_t_bits x_t_longs x_t_cells x_t_between c_t_isKept c_t_most c_t_taped c_t_here c_t_fault c_t_value c_t_findings) H → va_D A (w_M_status E h_t h_t_findings x_t_s x_t_kept x_t_before x_t_shown x_t_worths x_t_steps x_t_tape x_t_bits x_t_longs x_t_cells x_t_between c_t_isKept c_t_most c_t_taped c_t_here c_t_fault c_t_value c_t_findings) → va_S A s.heap H locs → ∀ (ls : Array Slot), lv_has ls 4 [(0, .ref h_t), (1, .int a1), (3, .int v3)] → W p l e (rm 2) s m args below meth c H locs 0 0 (MQ below (qW (some (.int out.1)) E (w_M_status E h_t h_t_findings x_t_s x_t_kept x_t_before x_t_shown x_t_worths x_t_steps x_t_tape x_t_bits x_t_longs x_t_cells x_t_between c_t_isKept c_t_most c_t_taped c_t_here c_t_fault c_t_value out.2) A) args s 0 0 A) (F0 m 37 ls [.int s0]) := by
  obtain ⟨hx, hb, hr, hml, hown, hw, hlocks⟩ := id C
  intro c_t_findings v3 s0 hF H locs hP hD hS ls hl
  rw [f_M_status_b37] at hF
  refine lv_aload_n hx hb dX10_status_37 rfl (lv_at hl 0 rfl) ?_
  refine va_get (D := eD E) (ci := 8) (C := RX10) (T := TX10) (N := 18) (v := .ref h_t_findings) hx hb hw inX10 hown hK hP 0 rfl rfl 4 (by decide) (hw _ mw_885) (fun _ h9 => h9) rfl dX10_status_38 ?_
  refine lv_iload_n hx hb dX10_status_41 rfl (lv_at hl 2 rfl) ?_
  obtain ⟨r1, er1, hF⟩ := kb hF
  refine wa_iald hx hb hK hP 1 0 rfl rfl er1 dX10_status_42 ?_
  refine lv_goto (tgt := 47) hx hb dX10_status_43 (by decide) ?_
  exact wk_M_status_b47 E h_t h_t_findings x_t_s x_t_kept x_t_before x_t_shown x_t_worths x_t_steps x_t_tape x_t_bits x_t_longs x_t_cells x_t_between c_t_isKept c_t_most c_t_taped c_t_here c_t_fault c_t_value a1 C hA  hK hT k20 hk20 c_t_findings v3 r1 s0 hF _ _ hP hD hS _ (lv_sub hl [0, 1, 2] rfl)
set_option maxHeartbeats 4000000 in
set_option maxRecDepth 100000 in
theorem wk_M_status_b20 {p : Program} {l : Launch} {e : Env} {s : State} {m : MethodId} {args : Array Value} {below : List Frame} {meth : Method} {c : Code} {A : Nat → Prop} (E : kE) (h_t : Nat) (h_t_findings : Nat) (x_t_s : Nat) (x_t_kept : Nat) (x_t_before : Nat) (x_t_shown : Nat) (x_t_worths : Nat) (x_t_steps : Nat) (x_t_tape : Nat) (x_t_bits : Nat) (x_t_longs : Nat) (x_t_cells : Nat) (x_t_between : Nat) (c_t_isKept : Int32) (c_t_most : Int32) (c_t_taped : Int32) (c_t_here : Int32) (c_t_fault : Int32) (c_t_value : Int32) (a1 : Int32) {out : Int32 × (Nat → Int32)} (C : kC RX10 cX10_status 4 (some .int) p s m args meth c) (hA : ∀ q : Nat, s.heap.size ≤ q → A q) (hK : va_K (eD E) vwCl (eT E) s) (hT : sT E A s s.heap)  :
    ∀ (n : Nat), ∀ (c_t_findings : (Nat → Int32)) (v2 : Int32) (v3 : Int32), f_M_status_b20  a1 n c_t_findings v2 v3 = some out → ∀ (H : Heap) (locs : List Loc), va_P (eD E) vwCl (w_M_status E h_t h_t_findings x_t_s x_t_kept x_t_before x_t_shown x_t_worths x_t_steps x_t_tape x_t_bits x_t_longs x_t_cells x_t_between c_t_isKept c_t_most c_t_taped c_t_here c_t_fault c_t_value c_t_findings) H → va_D A (w_M_status E h_t h_t_findings x_t_s x_t_kept x_t_before x_t_shown x_t_worths x_t_steps x_t_tape x_t_bits x_t_longs x_t_cells x_t_between c_t_isKept c_t_most c_t_taped c_t_here c_t_fault c_t_value c_t_findings) → va_S A s.heap H locs → ∀ (ls : Array Slot), lv_has ls 4 [(0, .ref h_t), (1, .int a1), (2, .int v2), (3, .int v3)] → W p l e (rm 2) s m args below meth c H locs 0 0 (MQ below (qW (some (.int out.1)) E (w_M_status E h_t h_t_findings x_t_s x_t_kept x_t_before x_t_shown x_t_worths x_t_steps x_t_tape x_t_bits x_t_longs x_t_cells x_t_between c_t_isKept c_t_most c_t_taped c_t_here c_t_fault c_t_value out.2) A) args s 0 0 A) (F0 m 20 ls []) := by
  obtain ⟨hx, hb, hr, hml, hown, hw, hlocks⟩ := id C
  intro n
  induction n with
  | zero =>
    intro c_t_findings v2 v3 hF
    exact absurd (show (none : Option (Int32 × (Nat → Int32))) = some out from hF) nofun
  | succ n ih =>
    intro c_t_findings v2 v3 hF H locs hP hD hS ls hl
    rw [f_M_status_b20] at hF
    refine lv_iload_n hx hb dX10_status_20 rfl (lv_at hl 3 rfl) ?_
    refine lv_bipush (v := (7 : Int32)) hx hb dX10_status_21 (by decide) ?_
    refine lv_icmp_ge (tgt := 55) hx hb dX10_status_23 (by decide) (fun q2 => ?_) (fun q2 => ?_)
    · have hF := kp hF q2
      refine lv_iload_n hx hb dX10_status_55 rfl (lv_at hl 2 rfl) ?_
      obtain rfl := Option.some.inj hF
      exact W.iret hx hb hr (fun t ht hW => ⟨⟨rfl, by rw [ht]; exact hP, hD⟩, hS.F ht⟩) hS.2.2 dX10_status_56
    · have hF := kn hF q2
      refine lv_iload_n hx hb dX10_status_26 rfl (lv_at hl 2 rfl) ?_
      refine lv_iload_n hx hb dX10_status_27 rfl (lv_at hl 1 rfl) ?_
      refine lv_iconst (v := (-1 : Int32)) hx hb dX10_status_28 (by decide) ?_
      refine lv_icmp_eq (tgt := 37) hx hb dX10_status_29 (by decide) (fun q3 => ?_) (fun q3 => ?_)
      · have hF := kp hF q3
        exact wk_M_status_b37 E h_t h_t_findings x_t_s x_t_kept x_t_before x_t_shown x_t_worths x_t_steps x_t_tape x_t_bits x_t_longs x_t_cells x_t_between c_t_isKept c_t_most c_t_taped c_t_here c_t_fault c_t_value a1 C hA  hK hT (f_M_status_b20  a1 n) ih c_t_findings v3 v2 hF _ _ hP hD hS _ (lv_sub hl [0, 1, 3] rfl)
      · have hF := kn hF q3
        refine lv_iload_n hx hb dX10_status_32 rfl (lv_at hl 1 rfl) ?_
        refine lv_iload_n hx hb dX10_status_33 rfl (lv_at hl 3 rfl) ?_
        refine lv_icmp_ne (tgt := 46) hx hb dX10_status_34 (by decide) (fun q4 => ?_) (fun q4 => ?_)
        · have hF := kn hF q4
          refine lv_iconst (v := (0 : Int32)) hx hb dX10_status_46 (by decide) ?_
          exact wk_M_status_b47 E h_t h_t_findings x_t_s x_t_kept x_t_before x_t_shown x_t_worths x_t_steps x_t_tape x_t_bits x_t_longs x_t_cells x_t_between c_t_isKept c_t_most c_t_taped c_t_here c_t_fault c_t_value a1 C hA  hK hT (f_M_status_b20  a1 n) ih c_t_findings v3 (0 : Int32) v2 hF _ _ hP hD hS _ (lv_sub hl [0, 1, 3] rfl)
        · have hF := kp hF q4
          exact wk_M_status_b37 E h_t h_t_findings x_t_s x_t_kept x_t_before x_t_shown x_t_worths x_t_steps x_t_tape x_t_bits x_t_longs x_t_cells x_t_between c_t_isKept c_t_most c_t_taped c_t_here c_t_fault c_t_value a1 C hA  hK hT (f_M_status_b20  a1 n) ih c_t_findings v3 v2 hF _ _ hP hD hS _ (lv_sub hl [0, 1, 3] rfl)
set_option maxHeartbeats 4000000 in
set_option maxRecDepth 100000 in
theorem k_M_status (l : Launch) (E : kE) (h_t : Nat) (h_t_findings : Nat) (x_t_s : Nat) (x_t_kept : Nat) (x_t_before : Nat) (x_t_shown : Nat) (x_t_worths : Nat) (x_t_steps : Nat) (x_t_tape : Nat) (x_t_bits : Nat) (x_t_longs : Nat) (x_t_cells : Nat) (x_t_between : Nat) (sz : Nat) (c_t_isKept : Int32) (c_t_most : Int32) (c_t_taped : Int32) (c_t_here : Int32) (c_t_fault : Int32) (c_t_value : Int32) (c_t_findings : (Nat → Int32)) (a1 : Int32) (out : Int32 × (Nat → Int32)) (hF : f_M_status c_t_findings a1 = some out) : Met l yX10_status (Cond.code yX10_status cX10_status 4 (some .int) :: wG) (rm 2) (pW E (w_M_status E h_t h_t_findings x_t_s x_t_kept x_t_before x_t_shown x_t_worths x_t_steps x_t_tape x_t_bits x_t_longs x_t_cells x_t_between c_t_isKept c_t_most c_t_taped c_t_here c_t_fault c_t_value c_t_findings) sz [.ref h_t, .int a1]) (qW (some (.int out.1)) E (w_M_status E h_t h_t_findings x_t_s x_t_kept x_t_before x_t_shown x_t_worths x_t_steps x_t_tape x_t_bits x_t_longs x_t_cells x_t_between c_t_isKept c_t_most c_t_taped c_t_here c_t_fault c_t_value out.2) (va_A (w_M_status E h_t h_t_findings x_t_s x_t_kept x_t_before x_t_shown x_t_worths x_t_steps x_t_tape x_t_bits x_t_longs x_t_cells x_t_between c_t_isKept c_t_most c_t_taped c_t_here c_t_fault c_t_value c_t_findings) sz)) 0 0 (va_A (w_M_status E h_t h_t_findings x_t_s x_t_kept x_t_before x_t_shown x_t_worths x_t_steps x_t_tape x_t_bits x_t_longs x_t_cells x_t_between c_t_isKept c_t_most c_t_taped c_t_here c_t_fault c_t_value c_t_findings) sz) := by
  refine met_W (by decide) (Nat.le_of_ble_eq_true rfl) ?_
  intro p e s m args below meth c A ls C hP hD hS hA hK hT hl
  obtain ⟨hx, hb, hr, hml, hown, hw, hlocks⟩ := id C
  have hl : lv_has ls 4 [(0, .ref h_t), (1, .int a1)] := hl
  rw [f_M_status] at hF
  refine lv_iload_n hx hb dX10_status_0 rfl (lv_at hl 1 rfl) ?_
  refine lv_iconst (v := (-1 : Int32)) hx hb dX10_status_1 (by decide) ?_
  refine lv_bipush (v := (6 : Int32)) hx hb dX10_status_2 (by decide) ?_
  obtain ⟨r5, er5, hF⟩ := kb hF
  refine kRS (rest := []) C (k_M_in l E a1 (-1 : Int32) (6 : Int32) r5 er5) fn_M_in mw_943 ⟨Nat.le_of_ble_eq_true rfl, Nat.le_of_ble_eq_true rfl⟩ hK hT hS hP [] rfl rfl rfl hl (Nat.le_of_ble_eq_true rfl) dX10_status_4 ?_
  refine lv_if_ne (tgt := 16) hx hb dX10_status_7 (by decide) (fun q6 => ?_) (fun q6 => ?_)
  · have hF := kn hF q6
    refine lv_iconst (v := (0 : Int32)) hx hb dX10_status_16 (by decide) ?_
    refine lv_istore_n (lv' := [(2, .int (0 : Int32)), (0, .ref h_t), (1, .int a1)]) hx hb dX10_status_17 rfl hl (by decide) rfl (fun ls hl => ?_)
    refine lv_iconst (v := (0 : Int32)) hx hb dX10_status_18 (by decide) ?_
    refine lv_istore_n (lv' := [(3, .int (0 : Int32)), (2, .int (0 : Int32)), (0, .ref h_t), (1, .int a1)]) hx hb dX10_status_19 rfl hl (by decide) rfl (fun ls hl => ?_)
    exact wk_M_status_b20 E h_t h_t_findings x_t_s x_t_kept x_t_before x_t_shown x_t_worths x_t_steps x_t_tape x_t_bits x_t_longs x_t_cells x_t_between c_t_isKept c_t_most c_t_taped c_t_here c_t_fault c_t_value a1 C hA  hK hT  5000 c_t_findings (0 : Int32) (0 : Int32) hF _ _ hP hD hS _ (lv_sub hl [2, 3, 1, 0] rfl)
  · have hF := kp hF q6
    refine lv_aload_n hx hb dX10_status_10 rfl (lv_at hl 0 rfl) ?_
    refine lv_iconst (v := (0 : Int32)) hx hb dX10_status_11 (by decide) ?_
    obtain ⟨r7, er7, hF⟩ := kb hF
    refine kWV (rest := []) (Wr := []) (Wn := (w_M_status E h_t h_t_findings x_t_s x_t_kept x_t_before x_t_shown x_t_worths x_t_steps x_t_tape x_t_bits x_t_longs x_t_cells x_t_between c_t_isKept c_t_most c_t_taped c_t_here c_t_fault c_t_value r7.2)) C (k_M_no l E h_t h_t_findings x_t_s x_t_kept x_t_before x_t_shown x_t_worths x_t_steps x_t_tape x_t_bits x_t_longs x_t_cells x_t_between s.heap.size c_t_isKept c_t_most c_t_taped c_t_here c_t_fault c_t_value c_t_findings (0 : Int32) r7 er7) fn_M_no mw_964 ⟨Nat.le_of_ble_eq_true rfl, Nat.le_of_ble_eq_true rfl⟩ hK hT hS hA (va_recv hK hP (ci := 8) (q0 := 0) rfl rfl) hP hD [0, 1] rfl (by decide) [] rfl (by decide) (by decide) [0, 1] rfl (by decide) rfl rfl hl (Nat.le_of_ble_eq_true rfl) dX10_status_12 (fun H locs hP hD hS => ?_)
    refine W.eq (g2 := F0 m 15 ls [.int r7.1]) rfl ?_
    obtain rfl := Option.some.inj hF
    exact W.iret hx hb hr (fun t ht hW => ⟨⟨rfl, by rw [ht]; exact hP, hD⟩, hS.F ht⟩) hS.2.2 dX10_status_15
