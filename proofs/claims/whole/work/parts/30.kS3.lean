abbrev w_S_sheet (E : kE) (h_t : Nat) (h_t_found : Nat) (h_t_sheets : Nat) (h_t_sheets_numbers : Nat) (h_t_sheets_sizes : Nat) (h_t_sheets_widths : Nat) (x_t_plain : Nat) (x_t_kept : Nat) (x_t_trial : Nat) (x_t_tape : Nat) (x_t_text : Nat) (x_t_choice : Nat) (c_t_isKept : Int32) (c_t_found : (Nat → Int32)) (c_t_sheets_numbers : (Nat → Int64)) (c_t_sheets_sizes : (Nat → Int32)) (c_t_sheets_widths : (Nat → Int32)) : va_W := [(h_t, .inr (7, [.ref x_t_plain, .ref x_t_kept, .ref x_t_trial, .ref x_t_tape, .ref x_t_text, .ref h_t_sheets, .ref x_t_choice, .ref h_t_found, .int c_t_isKept])), (h_t_found, .inl (eI E, 7, .inl c_t_found)), (h_t_sheets, .inr (4, [.ref h_t_sheets_widths, .ref h_t_sheets_sizes, .ref h_t_sheets_numbers])), (h_t_sheets_numbers, .inl (eJ E, 160, .inr (.inl c_t_sheets_numbers))), (h_t_sheets_sizes, .inl (eI E, 4, .inl c_t_sheets_sizes)), (h_t_sheets_widths, .inl (eI E, 4, .inl c_t_sheets_widths))]
set_option maxHeartbeats 4000000 in
set_option maxRecDepth 100000 in
theorem wk_S_sheet_b14 {p : Program} {l : Launch} {e : Env} {s : State} {m : MethodId} {args : Array Value} {below : List Frame} {meth : Method} {c : Code} {A : Nat → Prop} (E : kE) (h_t : Nat) (h_t_found : Nat) (h_t_sheets : Nat) (h_t_sheets_numbers : Nat) (h_t_sheets_sizes : Nat) (h_t_sheets_widths : Nat) (x_t_plain : Nat) (x_t_kept : Nat) (x_t_trial : Nat) (x_t_tape : Nat) (x_t_text : Nat) (x_t_choice : Nat) (c_t_isKept : Int32) (a1 : Int32) (a2 : Int32) (a3 : Int32) {out : Int32 × (Nat → Int32) × (Nat → Int64) × (Nat → Int32) × (Nat → Int32)} (C : kC RX9 cX9_sheet 4 (some .int) p s m args meth c) (hA : ∀ q : Nat, s.heap.size ≤ q → A q) (hK : va_K (eD E) vwCl (eT E) s) (hT : sT E A s s.heap)  :
    ∀ (c_t_found : (Nat → Int32)) (c_t_sheets_numbers : (Nat → Int64)) (c_t_sheets_sizes : (Nat → Int32)) (c_t_sheets_widths : (Nat → Int32)), f_S_sheet_b14  a1 a2 a3 c_t_found c_t_sheets_numbers c_t_sheets_sizes c_t_sheets_widths = some out → ∀ (H : Heap) (locs : List Loc), va_P (eD E) vwCl (w_S_sheet E h_t h_t_found h_t_sheets h_t_sheets_numbers h_t_sheets_sizes h_t_sheets_widths x_t_plain x_t_kept x_t_trial x_t_tape x_t_text x_t_choice c_t_isKept c_t_found c_t_sheets_numbers c_t_sheets_sizes c_t_sheets_widths) H → va_D A (w_S_sheet E h_t h_t_found h_t_sheets h_t_sheets_numbers h_t_sheets_sizes h_t_sheets_widths x_t_plain x_t_kept x_t_trial x_t_tape x_t_text x_t_choice c_t_isKept c_t_found c_t_sheets_numbers c_t_sheets_sizes c_t_sheets_widths) → va_S A s.heap H locs → ∀ (ls : Array Slot), lv_has ls 4 [(0, .ref h_t)] → W p l e (rm 3) s m args below meth c H locs 0 0 (MQ below (qW (some (.int out.1)) E (w_S_sheet E h_t h_t_found h_t_sheets h_t_sheets_numbers h_t_sheets_sizes h_t_sheets_widths x_t_plain x_t_kept x_t_trial x_t_tape x_t_text x_t_choice c_t_isKept out.2.1 out.2.2.1 out.2.2.2.1 out.2.2.2.2) A) args s 0 0 A) (F0 m 14 ls []) := by
  obtain ⟨hx, hb, hr, hml, hown, hw, hlocks⟩ := id C
  intro c_t_found c_t_sheets_numbers c_t_sheets_sizes c_t_sheets_widths hF H locs hP hD hS ls hl
  rw [f_S_sheet_b14] at hF
  refine lv_aload_n hx hb dX9_sheet_14 rfl (lv_at hl 0 rfl) ?_
  refine lv_ldc (v := (-1000000001 : Int32)) hx hb hown (hw _ mw_237) dX9_sheet_15 ?_
  obtain ⟨r1, er1, hF⟩ := kb hF
  refine kWV (rest := []) (Wr := [(h_t_sheets, .inr (4, [.ref h_t_sheets_widths, .ref h_t_sheets_sizes, .ref h_t_sheets_numbers])), (h_t_sheets_numbers, .inl (eJ E, 160, .inr (.inl c_t_sheets_numbers))), (h_t_sheets_sizes, .inl (eI E, 4, .inl c_t_sheets_sizes)), (h_t_sheets_widths, .inl (eI E, 4, .inl c_t_sheets_widths))]) (Wn := (w_S_sheet E h_t h_t_found h_t_sheets h_t_sheets_numbers h_t_sheets_sizes h_t_sheets_widths x_t_plain x_t_kept x_t_trial x_t_tape x_t_text x_t_choice c_t_isKept r1.2 c_t_sheets_numbers c_t_sheets_sizes c_t_sheets_widths)) C (k_S_finding l E h_t h_t_found x_t_plain x_t_kept x_t_trial x_t_tape x_t_text h_t_sheets x_t_choice H.size c_t_isKept c_t_found (-1000000001 : Int32) r1 er1) fn_S_finding mw_238 ⟨Nat.le_of_ble_eq_true rfl, Nat.le_of_ble_eq_true rfl⟩ hK hT hS hA (va_recv hK hP (ci := 7) (q0 := 0) rfl rfl) hP hD [0, 1] rfl (by decide) [2, 3, 4, 5] rfl (by decide) (by decide) [4, 5, 0, 1, 2, 3] rfl (by decide) rfl rfl hl (Nat.le_of_ble_eq_true rfl) dX9_sheet_17 (fun H locs hP hD hS => ?_)
  refine W.eq (g2 := F0 m 20 ls [.int r1.1]) rfl ?_
  obtain rfl := Option.some.inj hF
  exact W.iret hx hb hr (fun t ht hW => ⟨⟨rfl, by rw [ht]; exact hP, hD⟩, hS.F ht⟩) hS.2.2 dX9_sheet_20
set_option maxHeartbeats 4000000 in
set_option maxRecDepth 100000 in
theorem k_S_sheet (l : Launch) (E : kE) (h_t : Nat) (h_t_found : Nat) (h_t_sheets : Nat) (h_t_sheets_numbers : Nat) (h_t_sheets_sizes : Nat) (h_t_sheets_widths : Nat) (x_t_plain : Nat) (x_t_kept : Nat) (x_t_trial : Nat) (x_t_tape : Nat) (x_t_text : Nat) (x_t_choice : Nat) (sz : Nat) (c_t_isKept : Int32) (c_t_found : (Nat → Int32)) (c_t_sheets_numbers : (Nat → Int64)) (c_t_sheets_sizes : (Nat → Int32)) (c_t_sheets_widths : (Nat → Int32)) (a1 : Int32) (a2 : Int32) (a3 : Int32) (out : Int32 × (Nat → Int32) × (Nat → Int64) × (Nat → Int32) × (Nat → Int32)) (hF : f_S_sheet c_t_found c_t_sheets_numbers c_t_sheets_sizes c_t_sheets_widths a1 a2 a3 = some out) : Met l yX9_sheet (Cond.code yX9_sheet cX9_sheet 4 (some .int) :: wG) (rm 3) (pW E (w_S_sheet E h_t h_t_found h_t_sheets h_t_sheets_numbers h_t_sheets_sizes h_t_sheets_widths x_t_plain x_t_kept x_t_trial x_t_tape x_t_text x_t_choice c_t_isKept c_t_found c_t_sheets_numbers c_t_sheets_sizes c_t_sheets_widths) sz [.ref h_t, .int a1, .int a2, .int a3]) (qW (some (.int out.1)) E (w_S_sheet E h_t h_t_found h_t_sheets h_t_sheets_numbers h_t_sheets_sizes h_t_sheets_widths x_t_plain x_t_kept x_t_trial x_t_tape x_t_text x_t_choice c_t_isKept out.2.1 out.2.2.1 out.2.2.2.1 out.2.2.2.2) (va_A (w_S_sheet E h_t h_t_found h_t_sheets h_t_sheets_numbers h_t_sheets_sizes h_t_sheets_widths x_t_plain x_t_kept x_t_trial x_t_tape x_t_text x_t_choice c_t_isKept c_t_found c_t_sheets_numbers c_t_sheets_sizes c_t_sheets_widths) sz)) 0 0 (va_A (w_S_sheet E h_t h_t_found h_t_sheets h_t_sheets_numbers h_t_sheets_sizes h_t_sheets_widths x_t_plain x_t_kept x_t_trial x_t_tape x_t_text x_t_choice c_t_isKept c_t_found c_t_sheets_numbers c_t_sheets_sizes c_t_sheets_widths) sz) := by
  refine met_W (by decide) (Nat.le_of_ble_eq_true rfl) ?_
  intro p e s m args below meth c A ls C hP hD hS hA hK hT hl
  obtain ⟨hx, hb, hr, hml, hown, hw, hlocks⟩ := id C
  have hl : lv_has ls 4 [(0, .ref h_t), (1, .int a1), (2, .int a2), (3, .int a3)] := hl
  rw [f_S_sheet] at hF
  refine lv_iload_n hx hb dX9_sheet_0 rfl (lv_at hl 1 rfl) ?_
  obtain ⟨r2, er2, hF⟩ := kb hF
  refine kRS (rest := []) C (k_Sheets_isSheet l E a1 r2 er2) fn_Sheets_isSheet mw_762 ⟨Nat.le_of_ble_eq_true rfl, Nat.le_of_ble_eq_true rfl⟩ hK hT hS hP [] rfl rfl rfl hl (Nat.le_of_ble_eq_true rfl) dX9_sheet_1 ?_
  refine lv_if_eq (tgt := 14) hx hb dX9_sheet_4 (by decide) (fun q3 => ?_) (fun q3 => ?_)
  · have hF := kp hF q3
    exact wk_S_sheet_b14 E h_t h_t_found h_t_sheets h_t_sheets_numbers h_t_sheets_sizes h_t_sheets_widths x_t_plain x_t_kept x_t_trial x_t_tape x_t_text x_t_choice c_t_isKept a1 a2 a3 C hA  hK hT  c_t_found c_t_sheets_numbers c_t_sheets_sizes c_t_sheets_widths hF _ _ hP hD hS _ (lv_sub hl [0] rfl)
  · have hF := kn hF q3
    refine lv_iload_n hx hb dX9_sheet_7 rfl (lv_at hl 2 rfl) ?_
    obtain ⟨r4, er4, hF⟩ := kb hF
    refine kRS (rest := []) C (k_Sheets_isWidth l E a2 r4 er4) fn_Sheets_isWidth mw_765 ⟨Nat.le_of_ble_eq_true rfl, Nat.le_of_ble_eq_true rfl⟩ hK hT hS hP [] rfl rfl rfl hl (Nat.le_of_ble_eq_true rfl) dX9_sheet_8 ?_
    refine lv_if_ne (tgt := 21) hx hb dX9_sheet_11 (by decide) (fun q5 => ?_) (fun q5 => ?_)
    · have hF := kn hF q5
      refine lv_iload_n hx hb dX9_sheet_21 rfl (lv_at hl 3 rfl) ?_
      refine lv_if_ge (tgt := 32) hx hb dX9_sheet_22 (by decide) (fun q6 => ?_) (fun q6 => ?_)
      · have hF := kp hF q6
        refine lv_iload_n hx hb dX9_sheet_32 rfl (lv_at hl 3 rfl) ?_
        refine lv_bipush (v := (40 : Int32)) hx hb dX9_sheet_33 (by decide) ?_
        refine lv_icmp_le (tgt := 45) hx hb dX9_sheet_35 (by decide) (fun q7 => ?_) (fun q7 => ?_)
        · have hF := kp hF q7
          refine lv_aload_n hx hb dX9_sheet_45 rfl (lv_at hl 0 rfl) ?_
          refine va_get (D := eD E) (ci := 7) (C := RX9) (T := TX9) (N := 9) (v := .ref h_t_sheets) hx hb hw inX9 hown hK hP 0 rfl rfl 5 (by decide) (hw _ mw_207) (fun _ h9 => h9) rfl dX9_sheet_46 ?_
          refine lv_iload_n hx hb dX9_sheet_49 rfl (lv_at hl 1 rfl) ?_
          refine lv_iload_n hx hb dX9_sheet_50 rfl (lv_at hl 2 rfl) ?_
          refine lv_iload_n hx hb dX9_sheet_51 rfl (lv_at hl 3 rfl) ?_
          obtain ⟨r8, er8, hF⟩ := kb hF
          refine kWV (rest := []) (Wr := [(h_t, .inr (7, [.ref x_t_plain, .ref x_t_kept, .ref x_t_trial, .ref x_t_tape, .ref x_t_text, .ref h_t_sheets, .ref x_t_choice, .ref h_t_found, .int c_t_isKept])), (h_t_found, .inl (eI E, 7, .inl c_t_found))]) (Wn := (w_S_sheet E h_t h_t_found h_t_sheets h_t_sheets_numbers h_t_sheets_sizes h_t_sheets_widths x_t_plain x_t_kept x_t_trial x_t_tape x_t_text x_t_choice c_t_isKept c_t_found r8.2.1 r8.2.2.1 r8.2.2.2)) C (k_Sheets_lay l E h_t_sheets h_t_sheets_numbers h_t_sheets_sizes h_t_sheets_widths s.heap.size c_t_sheets_numbers c_t_sheets_sizes c_t_sheets_widths a1 a2 a3 r8 er8) fn_Sheets_lay mw_769 ⟨Nat.le_of_ble_eq_true rfl, Nat.le_of_ble_eq_true rfl⟩ hK hT hS hA (va_recv hK hP (ci := 4) (q0 := 2) rfl rfl) hP hD [2, 3, 4, 5] rfl (by decide) [0, 1] rfl (by decide) (by decide) [0, 1, 2, 3, 4, 5] rfl (by decide) rfl rfl hl (Nat.le_of_ble_eq_true rfl) dX9_sheet_52 (fun H locs hP hD hS => ?_)
          refine W.eq (g2 := F0 m 55 ls [.int r8.1]) rfl ?_
          obtain rfl := Option.some.inj hF
          exact W.iret hx hb hr (fun t ht hW => ⟨⟨rfl, by rw [ht]; exact hP, hD⟩, hS.F ht⟩) hS.2.2 dX9_sheet_55
        · have hF := kn hF q7
          refine lv_aload_n hx hb dX9_sheet_38 rfl (lv_at hl 0 rfl) ?_
          refine lv_ldc (v := (-1000000001 : Int32)) hx hb hown (hw _ mw_237) dX9_sheet_39 ?_
          obtain ⟨r9, er9, hF⟩ := kb hF
          refine kWV (rest := []) (Wr := [(h_t_sheets, .inr (4, [.ref h_t_sheets_widths, .ref h_t_sheets_sizes, .ref h_t_sheets_numbers])), (h_t_sheets_numbers, .inl (eJ E, 160, .inr (.inl c_t_sheets_numbers))), (h_t_sheets_sizes, .inl (eI E, 4, .inl c_t_sheets_sizes)), (h_t_sheets_widths, .inl (eI E, 4, .inl c_t_sheets_widths))]) (Wn := (w_S_sheet E h_t h_t_found h_t_sheets h_t_sheets_numbers h_t_sheets_sizes h_t_sheets_widths x_t_plain x_t_kept x_t_trial x_t_tape x_t_text x_t_choice c_t_isKept r9.2 c_t_sheets_numbers c_t_sheets_sizes c_t_sheets_widths)) C (k_S_finding l E h_t h_t_found x_t_plain x_t_kept x_t_trial x_t_tape x_t_text h_t_sheets x_t_choice s.heap.size c_t_isKept c_t_found (-1000000001 : Int32) r9 er9) fn_S_finding mw_238 ⟨Nat.le_of_ble_eq_true rfl, Nat.le_of_ble_eq_true rfl⟩ hK hT hS hA (va_recv hK hP (ci := 7) (q0 := 0) rfl rfl) hP hD [0, 1] rfl (by decide) [2, 3, 4, 5] rfl (by decide) (by decide) [4, 5, 0, 1, 2, 3] rfl (by decide) rfl rfl hl (Nat.le_of_ble_eq_true rfl) dX9_sheet_41 (fun H locs hP hD hS => ?_)
          refine W.eq (g2 := F0 m 44 ls [.int r9.1]) rfl ?_
          obtain rfl := Option.some.inj hF
          exact W.iret hx hb hr (fun t ht hW => ⟨⟨rfl, by rw [ht]; exact hP, hD⟩, hS.F ht⟩) hS.2.2 dX9_sheet_44
      · have hF := kn hF q6
        refine lv_aload_n hx hb dX9_sheet_25 rfl (lv_at hl 0 rfl) ?_
        refine lv_ldc (v := (-1000000007 : Int32)) hx hb hown (hw _ mw_768) dX9_sheet_26 ?_
        obtain ⟨r10, er10, hF⟩ := kb hF
        refine kWV (rest := []) (Wr := [(h_t_sheets, .inr (4, [.ref h_t_sheets_widths, .ref h_t_sheets_sizes, .ref h_t_sheets_numbers])), (h_t_sheets_numbers, .inl (eJ E, 160, .inr (.inl c_t_sheets_numbers))), (h_t_sheets_sizes, .inl (eI E, 4, .inl c_t_sheets_sizes)), (h_t_sheets_widths, .inl (eI E, 4, .inl c_t_sheets_widths))]) (Wn := (w_S_sheet E h_t h_t_found h_t_sheets h_t_sheets_numbers h_t_sheets_sizes h_t_sheets_widths x_t_plain x_t_kept x_t_trial x_t_tape x_t_text x_t_choice c_t_isKept r10.2 c_t_sheets_numbers c_t_sheets_sizes c_t_sheets_widths)) C (k_S_finding l E h_t h_t_found x_t_plain x_t_kept x_t_trial x_t_tape x_t_text h_t_sheets x_t_choice s.heap.size c_t_isKept c_t_found (-1000000007 : Int32) r10 er10) fn_S_finding mw_238 ⟨Nat.le_of_ble_eq_true rfl, Nat.le_of_ble_eq_true rfl⟩ hK hT hS hA (va_recv hK hP (ci := 7) (q0 := 0) rfl rfl) hP hD [0, 1] rfl (by decide) [2, 3, 4, 5] rfl (by decide) (by decide) [4, 5, 0, 1, 2, 3] rfl (by decide) rfl rfl hl (Nat.le_of_ble_eq_true rfl) dX9_sheet_28 (fun H locs hP hD hS => ?_)
        refine W.eq (g2 := F0 m 31 ls [.int r10.1]) rfl ?_
        obtain rfl := Option.some.inj hF
        exact W.iret hx hb hr (fun t ht hW => ⟨⟨rfl, by rw [ht]; exact hP, hD⟩, hS.F ht⟩) hS.2.2 dX9_sheet_31
    · have hF := kp hF q5
      exact wk_S_sheet_b14 E h_t h_t_found h_t_sheets h_t_sheets_numbers h_t_sheets_sizes h_t_sheets_widths x_t_plain x_t_kept x_t_trial x_t_tape x_t_text x_t_choice c_t_isKept a1 a2 a3 C hA  hK hT  c_t_found c_t_sheets_numbers c_t_sheets_sizes c_t_sheets_widths hF _ _ hP hD hS _ (lv_sub hl [0] rfl)
abbrev w_S_write (E : kE) (h_t : Nat) (h_t_found : Nat) (h_t_sheets : Nat) (h_t_sheets_numbers : Nat) (h_t_sheets_sizes : Nat) (h_t_sheets_widths : Nat) (x_t_plain : Nat) (x_t_kept : Nat) (x_t_trial : Nat) (x_t_tape : Nat) (x_t_text : Nat) (x_t_choice : Nat) (c_t_isKept : Int32) (c_t_found : (Nat → Int32)) (c_t_sheets_numbers : (Nat → Int64)) (c_t_sheets_sizes : (Nat → Int32)) (c_t_sheets_widths : (Nat → Int32)) : va_W := [(h_t, .inr (7, [.ref x_t_plain, .ref x_t_kept, .ref x_t_trial, .ref x_t_tape, .ref x_t_text, .ref h_t_sheets, .ref x_t_choice, .ref h_t_found, .int c_t_isKept])), (h_t_found, .inl (eI E, 7, .inl c_t_found)), (h_t_sheets, .inr (4, [.ref h_t_sheets_widths, .ref h_t_sheets_sizes, .ref h_t_sheets_numbers])), (h_t_sheets_numbers, .inl (eJ E, 160, .inr (.inl c_t_sheets_numbers))), (h_t_sheets_sizes, .inl (eI E, 4, .inl c_t_sheets_sizes)), (h_t_sheets_widths, .inl (eI E, 4, .inl c_t_sheets_widths))]
set_option maxHeartbeats 4000000 in
set_option maxRecDepth 100000 in
theorem wk_S_write_b50 {p : Program} {l : Launch} {e : Env} {s : State} {m : MethodId} {args : Array Value} {below : List Frame} {meth : Method} {c : Code} {A : Nat → Prop} (E : kE) (h_t : Nat) (h_t_found : Nat) (h_t_sheets : Nat) (h_t_sheets_numbers : Nat) (h_t_sheets_sizes : Nat) (h_t_sheets_widths : Nat) (x_t_plain : Nat) (x_t_kept : Nat) (x_t_trial : Nat) (x_t_tape : Nat) (x_t_text : Nat) (x_t_choice : Nat) (c_t_isKept : Int32) (c_t_sheets_sizes : (Nat → Int32)) (c_t_sheets_widths : (Nat → Int32)) (a1 : Int32) (a2 : Int32) (a3 : Int64) {out : Int64 × (Nat → Int32) × (Nat → Int64)} (C : kC RX9 cX9_write 7 (some .long) p s m args meth c) (hA : ∀ q : Nat, s.heap.size ≤ q → A q) (hK : va_K (eD E) vwCl (eT E) s) (hT : sT E A s s.heap)  :
    ∀ (c_t_found : (Nat → Int32)) (c_t_sheets_numbers : (Nat → Int64)), f_S_write_b50  c_t_sheets_sizes c_t_sheets_widths a1 a2 a3 c_t_found c_t_sheets_numbers = some out → ∀ (H : Heap) (locs : List Loc), va_P (eD E) vwCl (w_S_write E h_t h_t_found h_t_sheets h_t_sheets_numbers h_t_sheets_sizes h_t_sheets_widths x_t_plain x_t_kept x_t_trial x_t_tape x_t_text x_t_choice c_t_isKept c_t_found c_t_sheets_numbers c_t_sheets_sizes c_t_sheets_widths) H → va_D A (w_S_write E h_t h_t_found h_t_sheets h_t_sheets_numbers h_t_sheets_sizes h_t_sheets_widths x_t_plain x_t_kept x_t_trial x_t_tape x_t_text x_t_choice c_t_isKept c_t_found c_t_sheets_numbers c_t_sheets_sizes c_t_sheets_widths) → va_S A s.heap H locs → ∀ (ls : Array Slot), lv_has ls 7 [(0, .ref h_t)] → W p l e (rm 4) s m args below meth c H locs 0 0 (MQ below (qW (some (.long out.1)) E (w_S_write E h_t h_t_found h_t_sheets h_t_sheets_numbers h_t_sheets_sizes h_t_sheets_widths x_t_plain x_t_kept x_t_trial x_t_tape x_t_text x_t_choice c_t_isKept out.2.1 out.2.2 c_t_sheets_sizes c_t_sheets_widths) A) args s 0 0 A) (F0 m 50 ls []) := by
  obtain ⟨hx, hb, hr, hml, hown, hw, hlocks⟩ := id C
  intro c_t_found c_t_sheets_numbers hF H locs hP hD hS ls hl
  rw [f_S_write_b50] at hF
  refine lv_aload_n hx hb dX9_write_50 rfl (lv_at hl 0 rfl) ?_
  refine lv_ldc (v := (-1000000001 : Int32)) hx hb hown (hw _ mw_237) dX9_write_51 ?_
  obtain ⟨r1, er1, hF⟩ := kb hF
  refine kWV (rest := []) (Wr := [(h_t_sheets, .inr (4, [.ref h_t_sheets_widths, .ref h_t_sheets_sizes, .ref h_t_sheets_numbers])), (h_t_sheets_numbers, .inl (eJ E, 160, .inr (.inl c_t_sheets_numbers))), (h_t_sheets_sizes, .inl (eI E, 4, .inl c_t_sheets_sizes)), (h_t_sheets_widths, .inl (eI E, 4, .inl c_t_sheets_widths))]) (Wn := (w_S_write E h_t h_t_found h_t_sheets h_t_sheets_numbers h_t_sheets_sizes h_t_sheets_widths x_t_plain x_t_kept x_t_trial x_t_tape x_t_text x_t_choice c_t_isKept r1.2 c_t_sheets_numbers c_t_sheets_sizes c_t_sheets_widths)) C (k_S_finding l E h_t h_t_found x_t_plain x_t_kept x_t_trial x_t_tape x_t_text h_t_sheets x_t_choice H.size c_t_isKept c_t_found (-1000000001 : Int32) r1 er1) fn_S_finding mw_238 ⟨Nat.le_of_ble_eq_true rfl, Nat.le_of_ble_eq_true rfl⟩ hK hT hS hA (va_recv hK hP (ci := 7) (q0 := 0) rfl rfl) hP hD [0, 1] rfl (by decide) [2, 3, 4, 5] rfl (by decide) (by decide) [4, 5, 0, 1, 2, 3] rfl (by decide) rfl rfl hl (Nat.le_of_ble_eq_true rfl) dX9_write_53 (fun H locs hP hD hS => ?_)
  refine W.eq (g2 := F0 m 56 ls [.int r1.1]) rfl ?_
  refine lv_i2l (v := r1.1.toInt64) hx hb dX9_write_56 rfl ?_
  obtain rfl := Option.some.inj hF
  exact W.lret hx hb hr (fun t ht hW => ⟨⟨rfl, by rw [ht]; exact hP, hD⟩, hS.F ht⟩) hS.2.2 dX9_write_57
set_option maxHeartbeats 4000000 in
set_option maxRecDepth 100000 in
theorem k_S_write (l : Launch) (E : kE) (h_t : Nat) (h_t_found : Nat) (h_t_sheets : Nat) (h_t_sheets_numbers : Nat) (h_t_sheets_sizes : Nat) (h_t_sheets_widths : Nat) (x_t_plain : Nat) (x_t_kept : Nat) (x_t_trial : Nat) (x_t_tape : Nat) (x_t_text : Nat) (x_t_choice : Nat) (sz : Nat) (c_t_isKept : Int32) (c_t_found : (Nat → Int32)) (c_t_sheets_numbers : (Nat → Int64)) (c_t_sheets_sizes : (Nat → Int32)) (c_t_sheets_widths : (Nat → Int32)) (a1 : Int32) (a2 : Int32) (a3 : Int64) (out : Int64 × (Nat → Int32) × (Nat → Int64)) (hF : f_S_write c_t_found c_t_sheets_numbers c_t_sheets_sizes c_t_sheets_widths a1 a2 a3 = some out) : Met l yX9_write (Cond.code yX9_write cX9_write 7 (some .long) :: wG) (rm 4) (pW E (w_S_write E h_t h_t_found h_t_sheets h_t_sheets_numbers h_t_sheets_sizes h_t_sheets_widths x_t_plain x_t_kept x_t_trial x_t_tape x_t_text x_t_choice c_t_isKept c_t_found c_t_sheets_numbers c_t_sheets_sizes c_t_sheets_widths) sz [.ref h_t, .int a1, .int a2, .long a3]) (qW (some (.long out.1)) E (w_S_write E h_t h_t_found h_t_sheets h_t_sheets_numbers h_t_sheets_sizes h_t_sheets_widths x_t_plain x_t_kept x_t_trial x_t_tape x_t_text x_t_choice c_t_isKept out.2.1 out.2.2 c_t_sheets_sizes c_t_sheets_widths) (va_A (w_S_write E h_t h_t_found h_t_sheets h_t_sheets_numbers h_t_sheets_sizes h_t_sheets_widths x_t_plain x_t_kept x_t_trial x_t_tape x_t_text x_t_choice c_t_isKept c_t_found c_t_sheets_numbers c_t_sheets_sizes c_t_sheets_widths) sz)) 0 0 (va_A (w_S_write E h_t h_t_found h_t_sheets h_t_sheets_numbers h_t_sheets_sizes h_t_sheets_widths x_t_plain x_t_kept x_t_trial x_t_tape x_t_text x_t_choice c_t_isKept c_t_found c_t_sheets_numbers c_t_sheets_sizes c_t_sheets_widths) sz) := by
  refine met_W (by decide) (Nat.le_of_ble_eq_true rfl) ?_
  intro p e s m args below meth c A ls C hP hD hS hA hK hT hl
  obtain ⟨hx, hb, hr, hml, hown, hw, hlocks⟩ := id C
  have hl : lv_has ls 7 [(0, .ref h_t), (1, .int a1), (2, .int a2), (3, .long a3)] := hl
  rw [f_S_write] at hF
  refine lv_iload_n hx hb dX9_write_0 rfl (lv_at hl 1 rfl) ?_
  obtain ⟨r2, er2, hF⟩ := kb hF
  refine kRS (rest := []) C (k_Sheets_isSheet l E a1 r2 er2) fn_Sheets_isSheet mw_762 ⟨Nat.le_of_ble_eq_true rfl, Nat.le_of_ble_eq_true rfl⟩ hK hT hS hP [] rfl rfl rfl hl (Nat.le_of_ble_eq_true rfl) dX9_write_1 ?_
  refine lv_if_ne (tgt := 15) hx hb dX9_write_4 (by decide) (fun q3 => ?_) (fun q3 => ?_)
  · have hF := kn hF q3
    refine lv_aload_n hx hb dX9_write_15 rfl (lv_at hl 0 rfl) ?_
    refine va_get (D := eD E) (ci := 7) (C := RX9) (T := TX9) (N := 9) (v := .ref h_t_sheets) hx hb hw inX9 hown hK hP 0 rfl rfl 5 (by decide) (hw _ mw_207) (fun _ h9 => h9) rfl dX9_write_16 ?_
    refine lv_iload_n hx hb dX9_write_19 rfl (lv_at hl 1 rfl) ?_
    obtain ⟨r4, er4, hF⟩ := kb hF
    refine kRV (rest := []) C (k_Sheets_isMissing l E h_t_sheets h_t_sheets_widths h_t_sheets_sizes h_t_sheets_numbers c_t_sheets_widths a1 r4 er4) fn_Sheets_isMissing mw_778 ⟨Nat.le_of_ble_eq_true rfl, Nat.le_of_ble_eq_true rfl⟩ hK hT hS (va_recv hK hP (ci := 4) (q0 := 2) rfl rfl) hP [2, 5] rfl rfl rfl hl (Nat.le_of_ble_eq_true rfl) dX9_write_20 ?_
    refine lv_if_eq (tgt := 34) hx hb dX9_write_23 (by decide) (fun q5 => ?_) (fun q5 => ?_)
    · have hF := kp hF q5
      refine lv_iload_n hx hb dX9_write_34 rfl (lv_at hl 2 rfl) ?_
      refine lv_if_lt (tgt := 50) hx hb dX9_write_35 (by decide) (fun q6 => ?_) (fun q6 => ?_)
      · have hF := kp hF q6
        exact wk_S_write_b50 E h_t h_t_found h_t_sheets h_t_sheets_numbers h_t_sheets_sizes h_t_sheets_widths x_t_plain x_t_kept x_t_trial x_t_tape x_t_text x_t_choice c_t_isKept c_t_sheets_sizes c_t_sheets_widths a1 a2 a3 C hA  hK hT  c_t_found c_t_sheets_numbers hF _ _ hP hD hS _ (lv_sub hl [0] rfl)
      · have hF := kn hF q6
        refine lv_iload_n hx hb dX9_write_38 rfl (lv_at hl 2 rfl) ?_
        refine lv_aload_n hx hb dX9_write_39 rfl (lv_at hl 0 rfl) ?_
        refine va_get (D := eD E) (ci := 7) (C := RX9) (T := TX9) (N := 9) (v := .ref h_t_sheets) hx hb hw inX9 hown hK hP 0 rfl rfl 5 (by decide) (hw _ mw_207) (fun _ h9 => h9) rfl dX9_write_40 ?_
        refine lv_iload_n hx hb dX9_write_43 rfl (lv_at hl 1 rfl) ?_
        obtain ⟨r7, er7, hF⟩ := kb hF
        refine kRV (rest := [.int a2]) C (k_Sheets_sizeOf l E h_t_sheets h_t_sheets_sizes h_t_sheets_widths h_t_sheets_numbers c_t_sheets_sizes a1 r7 er7) fn_Sheets_sizeOf mw_783 ⟨Nat.le_of_ble_eq_true rfl, Nat.le_of_ble_eq_true rfl⟩ hK hT hS (va_recv hK hP (ci := 4) (q0 := 2) rfl rfl) hP [2, 4] rfl rfl rfl hl (Nat.le_of_ble_eq_true rfl) dX9_write_44 ?_
        refine lv_icmp_lt (tgt := 58) hx hb dX9_write_47 (by decide) (fun q8 => ?_) (fun q8 => ?_)
        · have hF := kp hF q8
          refine lv_aload_n hx hb dX9_write_58 rfl (lv_at hl 0 rfl) ?_
          refine va_get (D := eD E) (ci := 7) (C := RX9) (T := TX9) (N := 9) (v := .ref h_t_sheets) hx hb hw inX9 hown hK hP 0 rfl rfl 5 (by decide) (hw _ mw_207) (fun _ h9 => h9) rfl dX9_write_59 ?_
          refine lv_iload_n hx hb dX9_write_62 rfl (lv_at hl 1 rfl) ?_
          refine lv_iload_n hx hb dX9_write_63 rfl (lv_at hl 2 rfl) ?_
          obtain ⟨r9, er9, hF⟩ := kb hF
          refine kRV (rest := []) C (k_Sheets_at l E h_t_sheets h_t_sheets_numbers h_t_sheets_sizes h_t_sheets_widths c_t_sheets_numbers c_t_sheets_sizes a1 a2 r9 er9) fn_Sheets_at mw_787 ⟨Nat.le_of_ble_eq_true rfl, Nat.le_of_ble_eq_true rfl⟩ hK hT hS (va_recv hK hP (ci := 4) (q0 := 2) rfl rfl) hP [2, 3, 4] rfl rfl rfl hl (Nat.le_of_ble_eq_true rfl) dX9_write_64 ?_
          refine lv_lstore (lv' := [(5, .long r9), (0, .ref h_t), (1, .int a1), (2, .int a2), (3, .long a3)]) hx hb dX9_write_67 hl (by decide) rfl (fun ls hl => ?_)
          refine lv_aload_n hx hb dX9_write_69 rfl (lv_at hl 1 rfl) ?_
          refine va_get (D := eD E) (ci := 7) (C := RX9) (T := TX9) (N := 9) (v := .ref h_t_sheets) hx hb hw inX9 hown hK hP 0 rfl rfl 5 (by decide) (hw _ mw_207) (fun _ h9 => h9) rfl dX9_write_70 ?_
          refine lv_iload_n hx hb dX9_write_73 rfl (lv_at hl 2 rfl) ?_
          refine lv_iload_n hx hb dX9_write_74 rfl (lv_at hl 3 rfl) ?_
          refine lv_lload_n hx hb dX9_write_75 rfl (lv_at hl 4 rfl) ?_
          obtain ⟨r10, er10, hF⟩ := kb hF
          refine kWV (rest := []) (Wr := [(h_t, .inr (7, [.ref x_t_plain, .ref x_t_kept, .ref x_t_trial, .ref x_t_tape, .ref x_t_text, .ref h_t_sheets, .ref x_t_choice, .ref h_t_found, .int c_t_isKept])), (h_t_found, .inl (eI E, 7, .inl c_t_found))]) (Wn := (w_S_write E h_t h_t_found h_t_sheets h_t_sheets_numbers h_t_sheets_sizes h_t_sheets_widths x_t_plain x_t_kept x_t_trial x_t_tape x_t_text x_t_choice c_t_isKept c_t_found r10 c_t_sheets_sizes c_t_sheets_widths)) C (k_Sheets_put l E h_t_sheets h_t_sheets_numbers h_t_sheets_sizes h_t_sheets_widths s.heap.size c_t_sheets_numbers c_t_sheets_sizes c_t_sheets_widths a1 a2 a3 r10 er10) fn_Sheets_put mw_792 ⟨Nat.le_of_ble_eq_true rfl, Nat.le_of_ble_eq_true rfl⟩ hK hT hS hA (va_recv hK hP (ci := 4) (q0 := 2) rfl rfl) hP hD [2, 3, 4, 5] rfl (by decide) [0, 1] rfl (by decide) (by decide) [0, 1, 2, 3, 4, 5] rfl (by decide) rfl rfl hl (Nat.le_of_ble_eq_true rfl) dX9_write_76 (fun H locs hP hD hS => ?_)
          refine W.eq (g2 := F0 m 79 ls []) rfl ?_
          refine lv_lload hx hb dX9_write_79 (lv_at hl 0 rfl) ?_
          obtain rfl := Option.some.inj hF
          exact W.lret hx hb hr (fun t ht hW => ⟨⟨rfl, by rw [ht]; exact hP, hD⟩, hS.F ht⟩) hS.2.2 dX9_write_81
        · have hF := kn hF q8
          exact wk_S_write_b50 E h_t h_t_found h_t_sheets h_t_sheets_numbers h_t_sheets_sizes h_t_sheets_widths x_t_plain x_t_kept x_t_trial x_t_tape x_t_text x_t_choice c_t_isKept c_t_sheets_sizes c_t_sheets_widths a1 a2 a3 C hA  hK hT  c_t_found c_t_sheets_numbers hF _ _ hP hD hS _ (lv_sub hl [0] rfl)
    · have hF := kn hF q5
      refine lv_aload_n hx hb dX9_write_26 rfl (lv_at hl 0 rfl) ?_
      refine lv_ldc (v := (-1000000006 : Int32)) hx hb hown (hw _ mw_782) dX9_write_27 ?_
      obtain ⟨r11, er11, hF⟩ := kb hF
      refine kWV (rest := []) (Wr := [(h_t_sheets, .inr (4, [.ref h_t_sheets_widths, .ref h_t_sheets_sizes, .ref h_t_sheets_numbers])), (h_t_sheets_numbers, .inl (eJ E, 160, .inr (.inl c_t_sheets_numbers))), (h_t_sheets_sizes, .inl (eI E, 4, .inl c_t_sheets_sizes)), (h_t_sheets_widths, .inl (eI E, 4, .inl c_t_sheets_widths))]) (Wn := (w_S_write E h_t h_t_found h_t_sheets h_t_sheets_numbers h_t_sheets_sizes h_t_sheets_widths x_t_plain x_t_kept x_t_trial x_t_tape x_t_text x_t_choice c_t_isKept r11.2 c_t_sheets_numbers c_t_sheets_sizes c_t_sheets_widths)) C (k_S_finding l E h_t h_t_found x_t_plain x_t_kept x_t_trial x_t_tape x_t_text h_t_sheets x_t_choice s.heap.size c_t_isKept c_t_found (-1000000006 : Int32) r11 er11) fn_S_finding mw_238 ⟨Nat.le_of_ble_eq_true rfl, Nat.le_of_ble_eq_true rfl⟩ hK hT hS hA (va_recv hK hP (ci := 7) (q0 := 0) rfl rfl) hP hD [0, 1] rfl (by decide) [2, 3, 4, 5] rfl (by decide) (by decide) [4, 5, 0, 1, 2, 3] rfl (by decide) rfl rfl hl (Nat.le_of_ble_eq_true rfl) dX9_write_29 (fun H locs hP hD hS => ?_)
      refine W.eq (g2 := F0 m 32 ls [.int r11.1]) rfl ?_
      refine lv_i2l (v := r11.1.toInt64) hx hb dX9_write_32 rfl ?_
      obtain rfl := Option.some.inj hF
      exact W.lret hx hb hr (fun t ht hW => ⟨⟨rfl, by rw [ht]; exact hP, hD⟩, hS.F ht⟩) hS.2.2 dX9_write_33
  · have hF := kp hF q3
    refine lv_aload_n hx hb dX9_write_7 rfl (lv_at hl 0 rfl) ?_
    refine lv_ldc (v := (-1000000001 : Int32)) hx hb hown (hw _ mw_237) dX9_write_8 ?_
    obtain ⟨r12, er12, hF⟩ := kb hF
    refine kWV (rest := []) (Wr := [(h_t_sheets, .inr (4, [.ref h_t_sheets_widths, .ref h_t_sheets_sizes, .ref h_t_sheets_numbers])), (h_t_sheets_numbers, .inl (eJ E, 160, .inr (.inl c_t_sheets_numbers))), (h_t_sheets_sizes, .inl (eI E, 4, .inl c_t_sheets_sizes)), (h_t_sheets_widths, .inl (eI E, 4, .inl c_t_sheets_widths))]) (Wn := (w_S_write E h_t h_t_found h_t_sheets h_t_sheets_numbers h_t_sheets_sizes h_t_sheets_widths x_t_plain x_t_kept x_t_trial x_t_tape x_t_text x_t_choice c_t_isKept r12.2 c_t_sheets_numbers c_t_sheets_sizes c_t_sheets_widths)) C (k_S_finding l E h_t h_t_found x_t_plain x_t_kept x_t_trial x_t_tape x_t_text h_t_sheets x_t_choice s.heap.size c_t_isKept c_t_found (-1000000001 : Int32) r12 er12) fn_S_finding mw_238 ⟨Nat.le_of_ble_eq_true rfl, Nat.le_of_ble_eq_true rfl⟩ hK hT hS hA (va_recv hK hP (ci := 7) (q0 := 0) rfl rfl) hP hD [0, 1] rfl (by decide) [2, 3, 4, 5] rfl (by decide) (by decide) [4, 5, 0, 1, 2, 3] rfl (by decide) rfl rfl hl (Nat.le_of_ble_eq_true rfl) dX9_write_10 (fun H locs hP hD hS => ?_)
    refine W.eq (g2 := F0 m 13 ls [.int r12.1]) rfl ?_
    refine lv_i2l (v := r12.1.toInt64) hx hb dX9_write_13 rfl ?_
    obtain rfl := Option.some.inj hF
    exact W.lret hx hb hr (fun t ht hW => ⟨⟨rfl, by rw [ht]; exact hP, hD⟩, hS.F ht⟩) hS.2.2 dX9_write_14
abbrev w_S_copy (E : kE) (h_t : Nat) (h_t_found : Nat) (h_t_sheets : Nat) (h_t_sheets_numbers : Nat) (h_t_sheets_sizes : Nat) (h_t_sheets_widths : Nat) (x_t_plain : Nat) (x_t_kept : Nat) (x_t_trial : Nat) (x_t_tape : Nat) (x_t_text : Nat) (x_t_choice : Nat) (c_t_isKept : Int32) (c_t_found : (Nat → Int32)) (c_t_sheets_numbers : (Nat → Int64)) (c_t_sheets_sizes : (Nat → Int32)) (c_t_sheets_widths : (Nat → Int32)) : va_W := [(h_t, .inr (7, [.ref x_t_plain, .ref x_t_kept, .ref x_t_trial, .ref x_t_tape, .ref x_t_text, .ref h_t_sheets, .ref x_t_choice, .ref h_t_found, .int c_t_isKept])), (h_t_found, .inl (eI E, 7, .inl c_t_found)), (h_t_sheets, .inr (4, [.ref h_t_sheets_widths, .ref h_t_sheets_sizes, .ref h_t_sheets_numbers])), (h_t_sheets_numbers, .inl (eJ E, 160, .inr (.inl c_t_sheets_numbers))), (h_t_sheets_sizes, .inl (eI E, 4, .inl c_t_sheets_sizes)), (h_t_sheets_widths, .inl (eI E, 4, .inl c_t_sheets_widths))]
set_option maxHeartbeats 4000000 in
set_option maxRecDepth 100000 in
theorem wk_S_copy_b14 {p : Program} {l : Launch} {e : Env} {s : State} {m : MethodId} {args : Array Value} {below : List Frame} {meth : Method} {c : Code} {A : Nat → Prop} (E : kE) (h_t : Nat) (h_t_found : Nat) (h_t_sheets : Nat) (h_t_sheets_numbers : Nat) (h_t_sheets_sizes : Nat) (h_t_sheets_widths : Nat) (x_t_plain : Nat) (x_t_kept : Nat) (x_t_trial : Nat) (x_t_tape : Nat) (x_t_text : Nat) (x_t_choice : Nat) (c_t_isKept : Int32) (c_t_sheets_sizes : (Nat → Int32)) (c_t_sheets_widths : (Nat → Int32)) (a1 : Int32) (a2 : Int32) (a3 : Int32) (a4 : Int32) (a5 : Int32) {out : Int32 × (Nat → Int32) × (Nat → Int64)} (C : kC RX9 cX9_copy 6 (some .int) p s m args meth c) (hA : ∀ q : Nat, s.heap.size ≤ q → A q) (hK : va_K (eD E) vwCl (eT E) s) (hT : sT E A s s.heap)  :
    ∀ (c_t_found : (Nat → Int32)) (c_t_sheets_numbers : (Nat → Int64)), f_S_copy_b14  c_t_sheets_sizes c_t_sheets_widths a1 a2 a3 a4 a5 c_t_found c_t_sheets_numbers = some out → ∀ (H : Heap) (locs : List Loc), va_P (eD E) vwCl (w_S_copy E h_t h_t_found h_t_sheets h_t_sheets_numbers h_t_sheets_sizes h_t_sheets_widths x_t_plain x_t_kept x_t_trial x_t_tape x_t_text x_t_choice c_t_isKept c_t_found c_t_sheets_numbers c_t_sheets_sizes c_t_sheets_widths) H → va_D A (w_S_copy E h_t h_t_found h_t_sheets h_t_sheets_numbers h_t_sheets_sizes h_t_sheets_widths x_t_plain x_t_kept x_t_trial x_t_tape x_t_text x_t_choice c_t_isKept c_t_found c_t_sheets_numbers c_t_sheets_sizes c_t_sheets_widths) → va_S A s.heap H locs → ∀ (ls : Array Slot), lv_has ls 6 [(0, .ref h_t)] → W p l e (rm 5) s m args below meth c H locs 0 0 (MQ below (qW (some (.int out.1)) E (w_S_copy E h_t h_t_found h_t_sheets h_t_sheets_numbers h_t_sheets_sizes h_t_sheets_widths x_t_plain x_t_kept x_t_trial x_t_tape x_t_text x_t_choice c_t_isKept out.2.1 out.2.2 c_t_sheets_sizes c_t_sheets_widths) A) args s 0 0 A) (F0 m 14 ls []) := by
  obtain ⟨hx, hb, hr, hml, hown, hw, hlocks⟩ := id C
  intro c_t_found c_t_sheets_numbers hF H locs hP hD hS ls hl
  rw [f_S_copy_b14] at hF
  refine lv_aload_n hx hb dX9_copy_14 rfl (lv_at hl 0 rfl) ?_
  refine lv_ldc (v := (-1000000001 : Int32)) hx hb hown (hw _ mw_237) dX9_copy_15 ?_
  obtain ⟨r1, er1, hF⟩ := kb hF
  refine kWV (rest := []) (Wr := [(h_t_sheets, .inr (4, [.ref h_t_sheets_widths, .ref h_t_sheets_sizes, .ref h_t_sheets_numbers])), (h_t_sheets_numbers, .inl (eJ E, 160, .inr (.inl c_t_sheets_numbers))), (h_t_sheets_sizes, .inl (eI E, 4, .inl c_t_sheets_sizes)), (h_t_sheets_widths, .inl (eI E, 4, .inl c_t_sheets_widths))]) (Wn := (w_S_copy E h_t h_t_found h_t_sheets h_t_sheets_numbers h_t_sheets_sizes h_t_sheets_widths x_t_plain x_t_kept x_t_trial x_t_tape x_t_text x_t_choice c_t_isKept r1.2 c_t_sheets_numbers c_t_sheets_sizes c_t_sheets_widths)) C (k_S_finding l E h_t h_t_found x_t_plain x_t_kept x_t_trial x_t_tape x_t_text h_t_sheets x_t_choice H.size c_t_isKept c_t_found (-1000000001 : Int32) r1 er1) fn_S_finding mw_238 ⟨Nat.le_of_ble_eq_true rfl, Nat.le_of_ble_eq_true rfl⟩ hK hT hS hA (va_recv hK hP (ci := 7) (q0 := 0) rfl rfl) hP hD [0, 1] rfl (by decide) [2, 3, 4, 5] rfl (by decide) (by decide) [4, 5, 0, 1, 2, 3] rfl (by decide) rfl rfl hl (Nat.le_of_ble_eq_true rfl) dX9_copy_17 (fun H locs hP hD hS => ?_)
  refine W.eq (g2 := F0 m 20 ls [.int r1.1]) rfl ?_
  obtain rfl := Option.some.inj hF
  exact W.iret hx hb hr (fun t ht hW => ⟨⟨rfl, by rw [ht]; exact hP, hD⟩, hS.F ht⟩) hS.2.2 dX9_copy_20
set_option maxHeartbeats 4000000 in
set_option maxRecDepth 100000 in
theorem wk_S_copy_b43 {p : Program} {l : Launch} {e : Env} {s : State} {m : MethodId} {args : Array Value} {below : List Frame} {meth : Method} {c : Code} {A : Nat → Prop} (E : kE) (h_t : Nat) (h_t_found : Nat) (h_t_sheets : Nat) (h_t_sheets_numbers : Nat) (h_t_sheets_sizes : Nat) (h_t_sheets_widths : Nat) (x_t_plain : Nat) (x_t_kept : Nat) (x_t_trial : Nat) (x_t_tape : Nat) (x_t_text : Nat) (x_t_choice : Nat) (c_t_isKept : Int32) (c_t_sheets_sizes : (Nat → Int32)) (c_t_sheets_widths : (Nat → Int32)) (a1 : Int32) (a2 : Int32) (a3 : Int32) (a4 : Int32) (a5 : Int32) {out : Int32 × (Nat → Int32) × (Nat → Int64)} (C : kC RX9 cX9_copy 6 (some .int) p s m args meth c) (hA : ∀ q : Nat, s.heap.size ≤ q → A q) (hK : va_K (eD E) vwCl (eT E) s) (hT : sT E A s s.heap)  :
    ∀ (c_t_found : (Nat → Int32)) (c_t_sheets_numbers : (Nat → Int64)), f_S_copy_b43  c_t_sheets_sizes c_t_sheets_widths a1 a2 a3 a4 a5 c_t_found c_t_sheets_numbers = some out → ∀ (H : Heap) (locs : List Loc), va_P (eD E) vwCl (w_S_copy E h_t h_t_found h_t_sheets h_t_sheets_numbers h_t_sheets_sizes h_t_sheets_widths x_t_plain x_t_kept x_t_trial x_t_tape x_t_text x_t_choice c_t_isKept c_t_found c_t_sheets_numbers c_t_sheets_sizes c_t_sheets_widths) H → va_D A (w_S_copy E h_t h_t_found h_t_sheets h_t_sheets_numbers h_t_sheets_sizes h_t_sheets_widths x_t_plain x_t_kept x_t_trial x_t_tape x_t_text x_t_choice c_t_isKept c_t_found c_t_sheets_numbers c_t_sheets_sizes c_t_sheets_widths) → va_S A s.heap H locs → ∀ (ls : Array Slot), lv_has ls 6 [(0, .ref h_t)] → W p l e (rm 5) s m args below meth c H locs 0 0 (MQ below (qW (some (.int out.1)) E (w_S_copy E h_t h_t_found h_t_sheets h_t_sheets_numbers h_t_sheets_sizes h_t_sheets_widths x_t_plain x_t_kept x_t_trial x_t_tape x_t_text x_t_choice c_t_isKept out.2.1 out.2.2 c_t_sheets_sizes c_t_sheets_widths) A) args s 0 0 A) (F0 m 43 ls []) := by
  obtain ⟨hx, hb, hr, hml, hown, hw, hlocks⟩ := id C
  intro c_t_found c_t_sheets_numbers hF H locs hP hD hS ls hl
  rw [f_S_copy_b43] at hF
  refine lv_aload_n hx hb dX9_copy_43 rfl (lv_at hl 0 rfl) ?_
  refine lv_ldc (v := (-1000000006 : Int32)) hx hb hown (hw _ mw_782) dX9_copy_44 ?_
  obtain ⟨r2, er2, hF⟩ := kb hF
  refine kWV (rest := []) (Wr := [(h_t_sheets, .inr (4, [.ref h_t_sheets_widths, .ref h_t_sheets_sizes, .ref h_t_sheets_numbers])), (h_t_sheets_numbers, .inl (eJ E, 160, .inr (.inl c_t_sheets_numbers))), (h_t_sheets_sizes, .inl (eI E, 4, .inl c_t_sheets_sizes)), (h_t_sheets_widths, .inl (eI E, 4, .inl c_t_sheets_widths))]) (Wn := (w_S_copy E h_t h_t_found h_t_sheets h_t_sheets_numbers h_t_sheets_sizes h_t_sheets_widths x_t_plain x_t_kept x_t_trial x_t_tape x_t_text x_t_choice c_t_isKept r2.2 c_t_sheets_numbers c_t_sheets_sizes c_t_sheets_widths)) C (k_S_finding l E h_t h_t_found x_t_plain x_t_kept x_t_trial x_t_tape x_t_text h_t_sheets x_t_choice H.size c_t_isKept c_t_found (-1000000006 : Int32) r2 er2) fn_S_finding mw_238 ⟨Nat.le_of_ble_eq_true rfl, Nat.le_of_ble_eq_true rfl⟩ hK hT hS hA (va_recv hK hP (ci := 7) (q0 := 0) rfl rfl) hP hD [0, 1] rfl (by decide) [2, 3, 4, 5] rfl (by decide) (by decide) [4, 5, 0, 1, 2, 3] rfl (by decide) rfl rfl hl (Nat.le_of_ble_eq_true rfl) dX9_copy_46 (fun H locs hP hD hS => ?_)
  refine W.eq (g2 := F0 m 49 ls [.int r2.1]) rfl ?_
  obtain rfl := Option.some.inj hF
  exact W.iret hx hb hr (fun t ht hW => ⟨⟨rfl, by rw [ht]; exact hP, hD⟩, hS.F ht⟩) hS.2.2 dX9_copy_49
set_option maxHeartbeats 4000000 in
set_option maxRecDepth 100000 in
theorem wk_S_copy_b98 {p : Program} {l : Launch} {e : Env} {s : State} {m : MethodId} {args : Array Value} {below : List Frame} {meth : Method} {c : Code} {A : Nat → Prop} (E : kE) (h_t : Nat) (h_t_found : Nat) (h_t_sheets : Nat) (h_t_sheets_numbers : Nat) (h_t_sheets_sizes : Nat) (h_t_sheets_widths : Nat) (x_t_plain : Nat) (x_t_kept : Nat) (x_t_trial : Nat) (x_t_tape : Nat) (x_t_text : Nat) (x_t_choice : Nat) (c_t_isKept : Int32) (c_t_sheets_sizes : (Nat → Int32)) (c_t_sheets_widths : (Nat → Int32)) (a1 : Int32) (a2 : Int32) (a3 : Int32) (a4 : Int32) (a5 : Int32) {out : Int32 × (Nat → Int32) × (Nat → Int64)} (C : kC RX9 cX9_copy 6 (some .int) p s m args meth c) (hA : ∀ q : Nat, s.heap.size ≤ q → A q) (hK : va_K (eD E) vwCl (eT E) s) (hT : sT E A s s.heap)  :
    ∀ (c_t_found : (Nat → Int32)) (c_t_sheets_numbers : (Nat → Int64)), f_S_copy_b98  c_t_sheets_sizes c_t_sheets_widths a1 a2 a3 a4 a5 c_t_found c_t_sheets_numbers = some out → ∀ (H : Heap) (locs : List Loc), va_P (eD E) vwCl (w_S_copy E h_t h_t_found h_t_sheets h_t_sheets_numbers h_t_sheets_sizes h_t_sheets_widths x_t_plain x_t_kept x_t_trial x_t_tape x_t_text x_t_choice c_t_isKept c_t_found c_t_sheets_numbers c_t_sheets_sizes c_t_sheets_widths) H → va_D A (w_S_copy E h_t h_t_found h_t_sheets h_t_sheets_numbers h_t_sheets_sizes h_t_sheets_widths x_t_plain x_t_kept x_t_trial x_t_tape x_t_text x_t_choice c_t_isKept c_t_found c_t_sheets_numbers c_t_sheets_sizes c_t_sheets_widths) → va_S A s.heap H locs → ∀ (ls : Array Slot), lv_has ls 6 [(0, .ref h_t)] → W p l e (rm 5) s m args below meth c H locs 0 0 (MQ below (qW (some (.int out.1)) E (w_S_copy E h_t h_t_found h_t_sheets h_t_sheets_numbers h_t_sheets_sizes h_t_sheets_widths x_t_plain x_t_kept x_t_trial x_t_tape x_t_text x_t_choice c_t_isKept out.2.1 out.2.2 c_t_sheets_sizes c_t_sheets_widths) A) args s 0 0 A) (F0 m 98 ls []) := by
  obtain ⟨hx, hb, hr, hml, hown, hw, hlocks⟩ := id C
  intro c_t_found c_t_sheets_numbers hF H locs hP hD hS ls hl
  rw [f_S_copy_b98] at hF
  refine lv_aload_n hx hb dX9_copy_98 rfl (lv_at hl 0 rfl) ?_
  refine lv_ldc (v := (-1000000001 : Int32)) hx hb hown (hw _ mw_237) dX9_copy_99 ?_
  obtain ⟨r3, er3, hF⟩ := kb hF
  refine kWV (rest := []) (Wr := [(h_t_sheets, .inr (4, [.ref h_t_sheets_widths, .ref h_t_sheets_sizes, .ref h_t_sheets_numbers])), (h_t_sheets_numbers, .inl (eJ E, 160, .inr (.inl c_t_sheets_numbers))), (h_t_sheets_sizes, .inl (eI E, 4, .inl c_t_sheets_sizes)), (h_t_sheets_widths, .inl (eI E, 4, .inl c_t_sheets_widths))]) (Wn := (w_S_copy E h_t h_t_found h_t_sheets h_t_sheets_numbers h_t_sheets_sizes h_t_sheets_widths x_t_plain x_t_kept x_t_trial x_t_tape x_t_text x_t_choice c_t_isKept r3.2 c_t_sheets_numbers c_t_sheets_sizes c_t_sheets_widths)) C (k_S_finding l E h_t h_t_found x_t_plain x_t_kept x_t_trial x_t_tape x_t_text h_t_sheets x_t_choice H.size c_t_isKept c_t_found (-1000000001 : Int32) r3 er3) fn_S_finding mw_238 ⟨Nat.le_of_ble_eq_true rfl, Nat.le_of_ble_eq_true rfl⟩ hK hT hS hA (va_recv hK hP (ci := 7) (q0 := 0) rfl rfl) hP hD [0, 1] rfl (by decide) [2, 3, 4, 5] rfl (by decide) (by decide) [4, 5, 0, 1, 2, 3] rfl (by decide) rfl rfl hl (Nat.le_of_ble_eq_true rfl) dX9_copy_101 (fun H locs hP hD hS => ?_)
  refine W.eq (g2 := F0 m 104 ls [.int r3.1]) rfl ?_
  obtain rfl := Option.some.inj hF
  exact W.iret hx hb hr (fun t ht hW => ⟨⟨rfl, by rw [ht]; exact hP, hD⟩, hS.F ht⟩) hS.2.2 dX9_copy_104
set_option maxHeartbeats 4000000 in
set_option maxRecDepth 100000 in
theorem k_S_copy (l : Launch) (E : kE) (h_t : Nat) (h_t_found : Nat) (h_t_sheets : Nat) (h_t_sheets_numbers : Nat) (h_t_sheets_sizes : Nat) (h_t_sheets_widths : Nat) (x_t_plain : Nat) (x_t_kept : Nat) (x_t_trial : Nat) (x_t_tape : Nat) (x_t_text : Nat) (x_t_choice : Nat) (sz : Nat) (c_t_isKept : Int32) (c_t_found : (Nat → Int32)) (c_t_sheets_numbers : (Nat → Int64)) (c_t_sheets_sizes : (Nat → Int32)) (c_t_sheets_widths : (Nat → Int32)) (a1 : Int32) (a2 : Int32) (a3 : Int32) (a4 : Int32) (a5 : Int32) (out : Int32 × (Nat → Int32) × (Nat → Int64)) (hF : f_S_copy c_t_found c_t_sheets_numbers c_t_sheets_sizes c_t_sheets_widths a1 a2 a3 a4 a5 = some out) : Met l yX9_copy (Cond.code yX9_copy cX9_copy 6 (some .int) :: wG) (rm 5) (pW E (w_S_copy E h_t h_t_found h_t_sheets h_t_sheets_numbers h_t_sheets_sizes h_t_sheets_widths x_t_plain x_t_kept x_t_trial x_t_tape x_t_text x_t_choice c_t_isKept c_t_found c_t_sheets_numbers c_t_sheets_sizes c_t_sheets_widths) sz [.ref h_t, .int a1, .int a2, .int a3, .int a4, .int a5]) (qW (some (.int out.1)) E (w_S_copy E h_t h_t_found h_t_sheets h_t_sheets_numbers h_t_sheets_sizes h_t_sheets_widths x_t_plain x_t_kept x_t_trial x_t_tape x_t_text x_t_choice c_t_isKept out.2.1 out.2.2 c_t_sheets_sizes c_t_sheets_widths) (va_A (w_S_copy E h_t h_t_found h_t_sheets h_t_sheets_numbers h_t_sheets_sizes h_t_sheets_widths x_t_plain x_t_kept x_t_trial x_t_tape x_t_text x_t_choice c_t_isKept c_t_found c_t_sheets_numbers c_t_sheets_sizes c_t_sheets_widths) sz)) 0 0 (va_A (w_S_copy E h_t h_t_found h_t_sheets h_t_sheets_numbers h_t_sheets_sizes h_t_sheets_widths x_t_plain x_t_kept x_t_trial x_t_tape x_t_text x_t_choice c_t_isKept c_t_found c_t_sheets_numbers c_t_sheets_sizes c_t_sheets_widths) sz) := by
  refine met_W (by decide) (Nat.le_of_ble_eq_true rfl) ?_
  intro p e s m args below meth c A ls C hP hD hS hA hK hT hl
  obtain ⟨hx, hb, hr, hml, hown, hw, hlocks⟩ := id C
  have hl : lv_has ls 6 [(0, .ref h_t), (1, .int a1), (2, .int a2), (3, .int a3), (4, .int a4), (5, .int a5)] := hl
  rw [f_S_copy] at hF
  refine lv_iload_n hx hb dX9_copy_0 rfl (lv_at hl 1 rfl) ?_
  obtain ⟨r4, er4, hF⟩ := kb hF
  refine kRS (rest := []) C (k_Sheets_isSheet l E a1 r4 er4) fn_Sheets_isSheet mw_762 ⟨Nat.le_of_ble_eq_true rfl, Nat.le_of_ble_eq_true rfl⟩ hK hT hS hP [] rfl rfl rfl hl (Nat.le_of_ble_eq_true rfl) dX9_copy_1 ?_
  refine lv_if_eq (tgt := 14) hx hb dX9_copy_4 (by decide) (fun q5 => ?_) (fun q5 => ?_)
  · have hF := kp hF q5
    exact wk_S_copy_b14 E h_t h_t_found h_t_sheets h_t_sheets_numbers h_t_sheets_sizes h_t_sheets_widths x_t_plain x_t_kept x_t_trial x_t_tape x_t_text x_t_choice c_t_isKept c_t_sheets_sizes c_t_sheets_widths a1 a2 a3 a4 a5 C hA  hK hT  c_t_found c_t_sheets_numbers hF _ _ hP hD hS _ (lv_sub hl [0] rfl)
  · have hF := kn hF q5
    refine lv_iload_n hx hb dX9_copy_7 rfl (lv_at hl 3 rfl) ?_
    obtain ⟨r6, er6, hF⟩ := kb hF
    refine kRS (rest := []) C (k_Sheets_isSheet l E a3 r6 er6) fn_Sheets_isSheet mw_762 ⟨Nat.le_of_ble_eq_true rfl, Nat.le_of_ble_eq_true rfl⟩ hK hT hS hP [] rfl rfl rfl hl (Nat.le_of_ble_eq_true rfl) dX9_copy_8 ?_
    refine lv_if_ne (tgt := 21) hx hb dX9_copy_11 (by decide) (fun q7 => ?_) (fun q7 => ?_)
    · have hF := kn hF q7
      refine lv_aload_n hx hb dX9_copy_21 rfl (lv_at hl 0 rfl) ?_
      refine va_get (D := eD E) (ci := 7) (C := RX9) (T := TX9) (N := 9) (v := .ref h_t_sheets) hx hb hw inX9 hown hK hP 0 rfl rfl 5 (by decide) (hw _ mw_207) (fun _ h9 => h9) rfl dX9_copy_22 ?_
      refine lv_iload_n hx hb dX9_copy_25 rfl (lv_at hl 1 rfl) ?_
      obtain ⟨r8, er8, hF⟩ := kb hF
      refine kRV (rest := []) C (k_Sheets_isMissing l E h_t_sheets h_t_sheets_widths h_t_sheets_sizes h_t_sheets_numbers c_t_sheets_widths a1 r8 er8) fn_Sheets_isMissing mw_778 ⟨Nat.le_of_ble_eq_true rfl, Nat.le_of_ble_eq_true rfl⟩ hK hT hS (va_recv hK hP (ci := 4) (q0 := 2) rfl rfl) hP [2, 5] rfl rfl rfl hl (Nat.le_of_ble_eq_true rfl) dX9_copy_26 ?_
      refine lv_if_ne (tgt := 43) hx hb dX9_copy_29 (by decide) (fun q9 => ?_) (fun q9 => ?_)
      · have hF := kn hF q9
        exact wk_S_copy_b43 E h_t h_t_found h_t_sheets h_t_sheets_numbers h_t_sheets_sizes h_t_sheets_widths x_t_plain x_t_kept x_t_trial x_t_tape x_t_text x_t_choice c_t_isKept c_t_sheets_sizes c_t_sheets_widths a1 a2 a3 a4 a5 C hA  hK hT  c_t_found c_t_sheets_numbers hF _ _ hP hD hS _ (lv_sub hl [0] rfl)
      · have hF := kp hF q9
        refine lv_aload_n hx hb dX9_copy_32 rfl (lv_at hl 0 rfl) ?_
        refine va_get (D := eD E) (ci := 7) (C := RX9) (T := TX9) (N := 9) (v := .ref h_t_sheets) hx hb hw inX9 hown hK hP 0 rfl rfl 5 (by decide) (hw _ mw_207) (fun _ h9 => h9) rfl dX9_copy_33 ?_
        refine lv_iload_n hx hb dX9_copy_36 rfl (lv_at hl 3 rfl) ?_
        obtain ⟨r10, er10, hF⟩ := kb hF
        refine kRV (rest := []) C (k_Sheets_isMissing l E h_t_sheets h_t_sheets_widths h_t_sheets_sizes h_t_sheets_numbers c_t_sheets_widths a3 r10 er10) fn_Sheets_isMissing mw_778 ⟨Nat.le_of_ble_eq_true rfl, Nat.le_of_ble_eq_true rfl⟩ hK hT hS (va_recv hK hP (ci := 4) (q0 := 2) rfl rfl) hP [2, 5] rfl rfl rfl hl (Nat.le_of_ble_eq_true rfl) dX9_copy_37 ?_
        refine lv_if_eq (tgt := 50) hx hb dX9_copy_40 (by decide) (fun q11 => ?_) (fun q11 => ?_)
        · have hF := kp hF q11
          refine lv_aload_n hx hb dX9_copy_50 rfl (lv_at hl 0 rfl) ?_
          refine va_get (D := eD E) (ci := 7) (C := RX9) (T := TX9) (N := 9) (v := .ref h_t_sheets) hx hb hw inX9 hown hK hP 0 rfl rfl 5 (by decide) (hw _ mw_207) (fun _ h9 => h9) rfl dX9_copy_51 ?_
          refine lv_iload_n hx hb dX9_copy_54 rfl (lv_at hl 1 rfl) ?_
          refine lv_iload_n hx hb dX9_copy_55 rfl (lv_at hl 3 rfl) ?_
          obtain ⟨r12, er12, hF⟩ := kb hF
          refine kRV (rest := []) C (k_Sheets_areAlike l E h_t_sheets h_t_sheets_widths h_t_sheets_sizes h_t_sheets_numbers c_t_sheets_widths a1 a3 r12 er12) fn_Sheets_areAlike mw_803 ⟨Nat.le_of_ble_eq_true rfl, Nat.le_of_ble_eq_true rfl⟩ hK hT hS (va_recv hK hP (ci := 4) (q0 := 2) rfl rfl) hP [2, 5] rfl rfl rfl hl (Nat.le_of_ble_eq_true rfl) dX9_copy_56 ?_
          refine lv_if_ne (tgt := 69) hx hb dX9_copy_59 (by decide) (fun q13 => ?_) (fun q13 => ?_)
          · have hF := kn hF q13
            refine lv_aload_n hx hb dX9_copy_69 rfl (lv_at hl 0 rfl) ?_
            refine va_get (D := eD E) (ci := 7) (C := RX9) (T := TX9) (N := 9) (v := .ref h_t_sheets) hx hb hw inX9 hown hK hP 0 rfl rfl 5 (by decide) (hw _ mw_207) (fun _ h9 => h9) rfl dX9_copy_70 ?_
            refine lv_iload_n hx hb dX9_copy_73 rfl (lv_at hl 1 rfl) ?_
            refine lv_iload_n hx hb dX9_copy_74 rfl (lv_at hl 2 rfl) ?_
            refine lv_iload hx hb dX9_copy_75 (lv_at hl 5 rfl) ?_
            obtain ⟨r14, er14, hF⟩ := kb hF
            refine kRV (rest := []) C (k_Sheets_holds l E h_t_sheets h_t_sheets_sizes h_t_sheets_widths h_t_sheets_numbers c_t_sheets_sizes a1 a2 a5 r14 er14) fn_Sheets_holds mw_807 ⟨Nat.le_of_ble_eq_true rfl, Nat.le_of_ble_eq_true rfl⟩ hK hT hS (va_recv hK hP (ci := 4) (q0 := 2) rfl rfl) hP [2, 4] rfl rfl rfl hl (Nat.le_of_ble_eq_true rfl) dX9_copy_77 ?_
            refine lv_if_eq (tgt := 98) hx hb dX9_copy_80 (by decide) (fun q15 => ?_) (fun q15 => ?_)
            · have hF := kp hF q15
              exact wk_S_copy_b98 E h_t h_t_found h_t_sheets h_t_sheets_numbers h_t_sheets_sizes h_t_sheets_widths x_t_plain x_t_kept x_t_trial x_t_tape x_t_text x_t_choice c_t_isKept c_t_sheets_sizes c_t_sheets_widths a1 a2 a3 a4 a5 C hA  hK hT  c_t_found c_t_sheets_numbers hF _ _ hP hD hS _ (lv_sub hl [0] rfl)
            · have hF := kn hF q15
              refine lv_aload_n hx hb dX9_copy_83 rfl (lv_at hl 0 rfl) ?_
              refine va_get (D := eD E) (ci := 7) (C := RX9) (T := TX9) (N := 9) (v := .ref h_t_sheets) hx hb hw inX9 hown hK hP 0 rfl rfl 5 (by decide) (hw _ mw_207) (fun _ h9 => h9) rfl dX9_copy_84 ?_
              refine lv_iload_n hx hb dX9_copy_87 rfl (lv_at hl 3 rfl) ?_
              refine lv_iload hx hb dX9_copy_88 (lv_at hl 4 rfl) ?_
              refine lv_iload hx hb dX9_copy_90 (lv_at hl 5 rfl) ?_
              obtain ⟨r16, er16, hF⟩ := kb hF
              refine kRV (rest := []) C (k_Sheets_holds l E h_t_sheets h_t_sheets_sizes h_t_sheets_widths h_t_sheets_numbers c_t_sheets_sizes a3 a4 a5 r16 er16) fn_Sheets_holds mw_807 ⟨Nat.le_of_ble_eq_true rfl, Nat.le_of_ble_eq_true rfl⟩ hK hT hS (va_recv hK hP (ci := 4) (q0 := 2) rfl rfl) hP [2, 4] rfl rfl rfl hl (Nat.le_of_ble_eq_true rfl) dX9_copy_92 ?_
              refine lv_if_ne (tgt := 105) hx hb dX9_copy_95 (by decide) (fun q17 => ?_) (fun q17 => ?_)
              · have hF := kn hF q17
                refine lv_aload_n hx hb dX9_copy_105 rfl (lv_at hl 0 rfl) ?_
                refine va_get (D := eD E) (ci := 7) (C := RX9) (T := TX9) (N := 9) (v := .ref h_t_sheets) hx hb hw inX9 hown hK hP 0 rfl rfl 5 (by decide) (hw _ mw_207) (fun _ h9 => h9) rfl dX9_copy_106 ?_
                refine lv_iload_n hx hb dX9_copy_109 rfl (lv_at hl 1 rfl) ?_
                refine lv_iload_n hx hb dX9_copy_110 rfl (lv_at hl 2 rfl) ?_
                refine lv_iload_n hx hb dX9_copy_111 rfl (lv_at hl 3 rfl) ?_
                refine lv_iload hx hb dX9_copy_112 (lv_at hl 4 rfl) ?_
                refine lv_iload hx hb dX9_copy_114 (lv_at hl 5 rfl) ?_
                obtain ⟨r18, er18, hF⟩ := kb hF
                refine kWV (rest := []) (Wr := [(h_t, .inr (7, [.ref x_t_plain, .ref x_t_kept, .ref x_t_trial, .ref x_t_tape, .ref x_t_text, .ref h_t_sheets, .ref x_t_choice, .ref h_t_found, .int c_t_isKept])), (h_t_found, .inl (eI E, 7, .inl c_t_found)), (h_t_sheets_widths, .inl (eI E, 4, .inl c_t_sheets_widths))]) (Wn := (w_S_copy E h_t h_t_found h_t_sheets h_t_sheets_numbers h_t_sheets_sizes h_t_sheets_widths x_t_plain x_t_kept x_t_trial x_t_tape x_t_text x_t_choice c_t_isKept c_t_found r18 c_t_sheets_sizes c_t_sheets_widths)) C (k_Sheets_move l E h_t_sheets h_t_sheets_numbers h_t_sheets_sizes h_t_sheets_widths s.heap.size c_t_sheets_numbers c_t_sheets_sizes a1 a2 a3 a4 a5 r18 er18) fn_Sheets_move mw_811 ⟨Nat.le_of_ble_eq_true rfl, Nat.le_of_ble_eq_true rfl⟩ hK hT hS hA (va_recv hK hP (ci := 4) (q0 := 2) rfl rfl) hP hD [2, 3, 4] rfl (by decide) [0, 1, 5] rfl (by decide) (by decide) [0, 1, 3, 4, 5, 2] rfl (by decide) rfl rfl hl (Nat.le_of_ble_eq_true rfl) dX9_copy_116 (fun H locs hP hD hS => ?_)
                refine W.eq (g2 := F0 m 119 ls []) rfl ?_
                refine lv_iload hx hb dX9_copy_119 (lv_at hl 5 rfl) ?_
                obtain rfl := Option.some.inj hF
                exact W.iret hx hb hr (fun t ht hW => ⟨⟨rfl, by rw [ht]; exact hP, hD⟩, hS.F ht⟩) hS.2.2 dX9_copy_121
              · have hF := kp hF q17
                exact wk_S_copy_b98 E h_t h_t_found h_t_sheets h_t_sheets_numbers h_t_sheets_sizes h_t_sheets_widths x_t_plain x_t_kept x_t_trial x_t_tape x_t_text x_t_choice c_t_isKept c_t_sheets_sizes c_t_sheets_widths a1 a2 a3 a4 a5 C hA  hK hT  c_t_found c_t_sheets_numbers hF _ _ hP hD hS _ (lv_sub hl [0] rfl)
          · have hF := kp hF q13
            refine lv_aload_n hx hb dX9_copy_62 rfl (lv_at hl 0 rfl) ?_
            refine lv_ldc (v := (-1000000003 : Int32)) hx hb hown (hw _ mw_490) dX9_copy_63 ?_
            obtain ⟨r19, er19, hF⟩ := kb hF
            refine kWV (rest := []) (Wr := [(h_t_sheets, .inr (4, [.ref h_t_sheets_widths, .ref h_t_sheets_sizes, .ref h_t_sheets_numbers])), (h_t_sheets_numbers, .inl (eJ E, 160, .inr (.inl c_t_sheets_numbers))), (h_t_sheets_sizes, .inl (eI E, 4, .inl c_t_sheets_sizes)), (h_t_sheets_widths, .inl (eI E, 4, .inl c_t_sheets_widths))]) (Wn := (w_S_copy E h_t h_t_found h_t_sheets h_t_sheets_numbers h_t_sheets_sizes h_t_sheets_widths x_t_plain x_t_kept x_t_trial x_t_tape x_t_text x_t_choice c_t_isKept r19.2 c_t_sheets_numbers c_t_sheets_sizes c_t_sheets_widths)) C (k_S_finding l E h_t h_t_found x_t_plain x_t_kept x_t_trial x_t_tape x_t_text h_t_sheets x_t_choice s.heap.size c_t_isKept c_t_found (-1000000003 : Int32) r19 er19) fn_S_finding mw_238 ⟨Nat.le_of_ble_eq_true rfl, Nat.le_of_ble_eq_true rfl⟩ hK hT hS hA (va_recv hK hP (ci := 7) (q0 := 0) rfl rfl) hP hD [0, 1] rfl (by decide) [2, 3, 4, 5] rfl (by decide) (by decide) [4, 5, 0, 1, 2, 3] rfl (by decide) rfl rfl hl (Nat.le_of_ble_eq_true rfl) dX9_copy_65 (fun H locs hP hD hS => ?_)
            refine W.eq (g2 := F0 m 68 ls [.int r19.1]) rfl ?_
            obtain rfl := Option.some.inj hF
            exact W.iret hx hb hr (fun t ht hW => ⟨⟨rfl, by rw [ht]; exact hP, hD⟩, hS.F ht⟩) hS.2.2 dX9_copy_68
        · have hF := kn hF q11
          exact wk_S_copy_b43 E h_t h_t_found h_t_sheets h_t_sheets_numbers h_t_sheets_sizes h_t_sheets_widths x_t_plain x_t_kept x_t_trial x_t_tape x_t_text x_t_choice c_t_isKept c_t_sheets_sizes c_t_sheets_widths a1 a2 a3 a4 a5 C hA  hK hT  c_t_found c_t_sheets_numbers hF _ _ hP hD hS _ (lv_sub hl [0] rfl)
    · have hF := kp hF q7
      exact wk_S_copy_b14 E h_t h_t_found h_t_sheets h_t_sheets_numbers h_t_sheets_sizes h_t_sheets_widths x_t_plain x_t_kept x_t_trial x_t_tape x_t_text x_t_choice c_t_isKept c_t_sheets_sizes c_t_sheets_widths a1 a2 a3 a4 a5 C hA  hK hT  c_t_found c_t_sheets_numbers hF _ _ hP hD hS _ (lv_sub hl [0] rfl)
abbrev w_S_lays (E : kE) (h_t : Nat) (h_t_found : Nat) (h_t_plain : Nat) (h_t_plain_book : Nat) (h_t_plain_book_forms : Nat) (h_t_sheets : Nat) (h_t_sheets_numbers : Nat) (h_t_sheets_sizes : Nat) (h_t_sheets_widths : Nat) (x_t_kept : Nat) (x_t_trial : Nat) (x_t_tape : Nat) (x_t_text : Nat) (x_t_choice : Nat) (x_t_plain_kinds : Nat) (x_t_plain_forms : Nat) (x_t_plain_deeps : Nat) (c_t_isKept : Int32) (c_t_found : (Nat → Int32)) (c_t_plain_size : Int32) (c_t_plain_hour : Int32) (c_t_plain_sunny : Int32) (c_t_plain_book_forms : (Nat → Int32)) (c_t_sheets_numbers : (Nat → Int64)) (c_t_sheets_sizes : (Nat → Int32)) (c_t_sheets_widths : (Nat → Int32)) : va_W := [(h_t, .inr (7, [.ref h_t_plain, .ref x_t_kept, .ref x_t_trial, .ref x_t_tape, .ref x_t_text, .ref h_t_sheets, .ref x_t_choice, .ref h_t_found, .int c_t_isKept])), (h_t_found, .inl (eI E, 7, .inl c_t_found)), (h_t_plain, .inr (3, [.ref h_t_plain_book, .ref x_t_plain_kinds, .ref x_t_plain_forms, .ref x_t_plain_deeps, .int c_t_plain_size, .int c_t_plain_hour, .int c_t_plain_sunny])), (h_t_plain_book, .inr (0, [.ref h_t_plain_book_forms])), (h_t_plain_book_forms, .inl (eI E, 26, .inl c_t_plain_book_forms)), (h_t_sheets, .inr (4, [.ref h_t_sheets_widths, .ref h_t_sheets_sizes, .ref h_t_sheets_numbers])), (h_t_sheets_numbers, .inl (eJ E, 160, .inr (.inl c_t_sheets_numbers))), (h_t_sheets_sizes, .inl (eI E, 4, .inl c_t_sheets_sizes)), (h_t_sheets_widths, .inl (eI E, 4, .inl c_t_sheets_widths))]
set_option maxHeartbeats 4000000 in
set_option maxRecDepth 100000 in
theorem k_S_lays (l : Launch) (E : kE) (h_t : Nat) (h_t_found : Nat) (h_t_plain : Nat) (h_t_plain_book : Nat) (h_t_plain_book_forms : Nat) (h_t_sheets : Nat) (h_t_sheets_numbers : Nat) (h_t_sheets_sizes : Nat) (h_t_sheets_widths : Nat) (x_t_kept : Nat) (x_t_trial : Nat) (x_t_tape : Nat) (x_t_text : Nat) (x_t_choice : Nat) (x_t_plain_kinds : Nat) (x_t_plain_forms : Nat) (x_t_plain_deeps : Nat) (sz : Nat) (c_t_isKept : Int32) (c_t_found : (Nat → Int32)) (c_t_plain_size : Int32) (c_t_plain_hour : Int32) (c_t_plain_sunny : Int32) (c_t_plain_book_forms : (Nat → Int32)) (c_t_sheets_numbers : (Nat → Int64)) (c_t_sheets_sizes : (Nat → Int32)) (c_t_sheets_widths : (Nat → Int32)) (a1 : Int32) (out : Int32 × (Nat → Int32) × (Nat → Int32)) (hF : f_S_lays c_t_found c_t_plain_book_forms c_t_sheets_numbers c_t_sheets_sizes c_t_sheets_widths a1 = some out) : Met l yX9_lays (Cond.code yX9_lays cX9_lays 2 (some .int) :: wG) (rm 5) (pW E (w_S_lays E h_t h_t_found h_t_plain h_t_plain_book h_t_plain_book_forms h_t_sheets h_t_sheets_numbers h_t_sheets_sizes h_t_sheets_widths x_t_kept x_t_trial x_t_tape x_t_text x_t_choice x_t_plain_kinds x_t_plain_forms x_t_plain_deeps c_t_isKept c_t_found c_t_plain_size c_t_plain_hour c_t_plain_sunny c_t_plain_book_forms c_t_sheets_numbers c_t_sheets_sizes c_t_sheets_widths) sz [.ref h_t, .int a1]) (qW (some (.int out.1)) E (w_S_lays E h_t h_t_found h_t_plain h_t_plain_book h_t_plain_book_forms h_t_sheets h_t_sheets_numbers h_t_sheets_sizes h_t_sheets_widths x_t_kept x_t_trial x_t_tape x_t_text x_t_choice x_t_plain_kinds x_t_plain_forms x_t_plain_deeps c_t_isKept out.2.1 c_t_plain_size c_t_plain_hour c_t_plain_sunny out.2.2 c_t_sheets_numbers c_t_sheets_sizes c_t_sheets_widths) (va_A (w_S_lays E h_t h_t_found h_t_plain h_t_plain_book h_t_plain_book_forms h_t_sheets h_t_sheets_numbers h_t_sheets_sizes h_t_sheets_widths x_t_kept x_t_trial x_t_tape x_t_text x_t_choice x_t_plain_kinds x_t_plain_forms x_t_plain_deeps c_t_isKept c_t_found c_t_plain_size c_t_plain_hour c_t_plain_sunny c_t_plain_book_forms c_t_sheets_numbers c_t_sheets_sizes c_t_sheets_widths) sz)) 0 0 (va_A (w_S_lays E h_t h_t_found h_t_plain h_t_plain_book h_t_plain_book_forms h_t_sheets h_t_sheets_numbers h_t_sheets_sizes h_t_sheets_widths x_t_kept x_t_trial x_t_tape x_t_text x_t_choice x_t_plain_kinds x_t_plain_forms x_t_plain_deeps c_t_isKept c_t_found c_t_plain_size c_t_plain_hour c_t_plain_sunny c_t_plain_book_forms c_t_sheets_numbers c_t_sheets_sizes c_t_sheets_widths) sz) := by
  refine met_W (by decide) (Nat.le_of_ble_eq_true rfl) ?_
  intro p e s m args below meth c A ls C hP hD hS hA hK hT hl
  obtain ⟨hx, hb, hr, hml, hown, hw, hlocks⟩ := id C
  have hl : lv_has ls 2 [(0, .ref h_t), (1, .int a1)] := hl
  rw [f_S_lays] at hF
  refine lv_iload_n hx hb dX9_lays_0 rfl (lv_at hl 1 rfl) ?_
  obtain ⟨r1, er1, hF⟩ := kb hF
  refine kRS (rest := []) C (k_Sheets_isSheet l E a1 r1 er1) fn_Sheets_isSheet mw_762 ⟨Nat.le_of_ble_eq_true rfl, Nat.le_of_ble_eq_true rfl⟩ hK hT hS hP [] rfl rfl rfl hl (Nat.le_of_ble_eq_true rfl) dX9_lays_1 ?_
  refine lv_if_ne (tgt := 14) hx hb dX9_lays_4 (by decide) (fun q2 => ?_) (fun q2 => ?_)
  · have hF := kn hF q2
    refine lv_aload_n hx hb dX9_lays_14 rfl (lv_at hl 0 rfl) ?_
    refine va_get (D := eD E) (ci := 7) (C := RX9) (T := TX9) (N := 9) (v := .ref h_t_sheets) hx hb hw inX9 hown hK hP 0 rfl rfl 5 (by decide) (hw _ mw_207) (fun _ h9 => h9) rfl dX9_lays_15 ?_
    refine lv_iload_n hx hb dX9_lays_18 rfl (lv_at hl 1 rfl) ?_
    obtain ⟨r3, er3, hF⟩ := kb hF
    refine kRV (rest := []) C (k_Sheets_isMissing l E h_t_sheets h_t_sheets_widths h_t_sheets_sizes h_t_sheets_numbers c_t_sheets_widths a1 r3 er3) fn_Sheets_isMissing mw_778 ⟨Nat.le_of_ble_eq_true rfl, Nat.le_of_ble_eq_true rfl⟩ hK hT hS (va_recv hK hP (ci := 4) (q0 := 5) rfl rfl) hP [5, 8] rfl rfl rfl hl (Nat.le_of_ble_eq_true rfl) dX9_lays_19 ?_
    refine lv_if_eq (tgt := 32) hx hb dX9_lays_22 (by decide) (fun q4 => ?_) (fun q4 => ?_)
    · have hF := kp hF q4
      refine lv_aload_n hx hb dX9_lays_32 rfl (lv_at hl 0 rfl) ?_
      refine va_get (D := eD E) (ci := 7) (C := RX9) (T := TX9) (N := 9) (v := .ref h_t_sheets) hx hb hw inX9 hown hK hP 0 rfl rfl 5 (by decide) (hw _ mw_207) (fun _ h9 => h9) rfl dX9_lays_33 ?_
      refine lv_iload_n hx hb dX9_lays_36 rfl (lv_at hl 1 rfl) ?_
      refine lv_aload_n hx hb dX9_lays_37 rfl (lv_at hl 0 rfl) ?_
      refine va_get (D := eD E) (ci := 7) (C := RX9) (T := TX9) (N := 9) (v := .ref h_t_plain) hx hb hw inX9 hown hK hP 0 rfl rfl 0 (by decide) (hw _ mw_202) (fun _ h9 => h9) rfl dX9_lays_38 ?_
      refine va_getN (D := eD E) (ci := 3) (C := RX5) (T := TX5) (N := 7) (v := .ref h_t_plain_book) hx hb hw inX5 hown hK hP 2 rfl rfl 0 (by decide) ((sF_1 hT).use rfl) (fun _ h9 => h9) rfl dX9_lays_41 ?_
      obtain ⟨r5, er5, hF⟩ := kb hF
      refine kWV (rest := []) (Wr := [(h_t, .inr (7, [.ref h_t_plain, .ref x_t_kept, .ref x_t_trial, .ref x_t_tape, .ref x_t_text, .ref h_t_sheets, .ref x_t_choice, .ref h_t_found, .int c_t_isKept])), (h_t_found, .inl (eI E, 7, .inl c_t_found)), (h_t_plain, .inr (3, [.ref h_t_plain_book, .ref x_t_plain_kinds, .ref x_t_plain_forms, .ref x_t_plain_deeps, .int c_t_plain_size, .int c_t_plain_hour, .int c_t_plain_sunny])), (h_t_sheets_widths, .inl (eI E, 4, .inl c_t_sheets_widths))]) (Wn := (w_S_lays E h_t h_t_found h_t_plain h_t_plain_book h_t_plain_book_forms h_t_sheets h_t_sheets_numbers h_t_sheets_sizes h_t_sheets_widths x_t_kept x_t_trial x_t_tape x_t_text x_t_choice x_t_plain_kinds x_t_plain_forms x_t_plain_deeps c_t_isKept c_t_found c_t_plain_size c_t_plain_hour c_t_plain_sunny r5.2 c_t_sheets_numbers c_t_sheets_sizes c_t_sheets_widths)) C (k_Sheets_toBook l E h_t_sheets h_t_sheets_numbers h_t_sheets_sizes h_t_plain_book h_t_plain_book_forms h_t_sheets_widths s.heap.size c_t_sheets_numbers c_t_sheets_sizes c_t_plain_book_forms a1 r5 er5) fn_Sheets_toBook mw_821 ⟨Nat.le_of_ble_eq_true rfl, Nat.le_of_ble_eq_true rfl⟩ hK hT hS hA (va_recv hK hP (ci := 4) (q0 := 5) rfl rfl) hP hD [5, 6, 7, 3, 4] rfl (by decide) [0, 1, 2, 8] rfl (by decide) (by decide) [0, 1, 2, 7, 8, 4, 5, 6, 3] rfl (by decide) rfl rfl hl (Nat.le_of_ble_eq_true rfl) dX9_lays_44 (fun H locs hP hD hS => ?_)
      refine W.eq (g2 := F0 m 47 ls [.int r5.1]) rfl ?_
      obtain rfl := Option.some.inj hF
      exact W.iret hx hb hr (fun t ht hW => ⟨⟨rfl, by rw [ht]; exact hP, hD⟩, hS.F ht⟩) hS.2.2 dX9_lays_47
    · have hF := kn hF q4
      refine lv_aload_n hx hb dX9_lays_25 rfl (lv_at hl 0 rfl) ?_
      refine lv_ldc (v := (-1000000006 : Int32)) hx hb hown (hw _ mw_782) dX9_lays_26 ?_
      obtain ⟨r6, er6, hF⟩ := kb hF
      refine kWV (rest := []) (Wr := [(h_t_plain, .inr (3, [.ref h_t_plain_book, .ref x_t_plain_kinds, .ref x_t_plain_forms, .ref x_t_plain_deeps, .int c_t_plain_size, .int c_t_plain_hour, .int c_t_plain_sunny])), (h_t_plain_book, .inr (0, [.ref h_t_plain_book_forms])), (h_t_plain_book_forms, .inl (eI E, 26, .inl c_t_plain_book_forms)), (h_t_sheets, .inr (4, [.ref h_t_sheets_widths, .ref h_t_sheets_sizes, .ref h_t_sheets_numbers])), (h_t_sheets_numbers, .inl (eJ E, 160, .inr (.inl c_t_sheets_numbers))), (h_t_sheets_sizes, .inl (eI E, 4, .inl c_t_sheets_sizes)), (h_t_sheets_widths, .inl (eI E, 4, .inl c_t_sheets_widths))]) (Wn := (w_S_lays E h_t h_t_found h_t_plain h_t_plain_book h_t_plain_book_forms h_t_sheets h_t_sheets_numbers h_t_sheets_sizes h_t_sheets_widths x_t_kept x_t_trial x_t_tape x_t_text x_t_choice x_t_plain_kinds x_t_plain_forms x_t_plain_deeps c_t_isKept r6.2 c_t_plain_size c_t_plain_hour c_t_plain_sunny c_t_plain_book_forms c_t_sheets_numbers c_t_sheets_sizes c_t_sheets_widths)) C (k_S_finding l E h_t h_t_found h_t_plain x_t_kept x_t_trial x_t_tape x_t_text h_t_sheets x_t_choice s.heap.size c_t_isKept c_t_found (-1000000006 : Int32) r6 er6) fn_S_finding mw_238 ⟨Nat.le_of_ble_eq_true rfl, Nat.le_of_ble_eq_true rfl⟩ hK hT hS hA (va_recv hK hP (ci := 7) (q0 := 0) rfl rfl) hP hD [0, 1] rfl (by decide) [2, 3, 4, 5, 6, 7, 8] rfl (by decide) (by decide) [7, 8, 0, 1, 2, 3, 4, 5, 6] rfl (by decide) rfl rfl hl (Nat.le_of_ble_eq_true rfl) dX9_lays_28 (fun H locs hP hD hS => ?_)
      refine W.eq (g2 := F0 m 31 ls [.int r6.1]) rfl ?_
      obtain rfl := Option.some.inj hF
      exact W.iret hx hb hr (fun t ht hW => ⟨⟨rfl, by rw [ht]; exact hP, hD⟩, hS.F ht⟩) hS.2.2 dX9_lays_31
  · have hF := kp hF q2
    refine lv_aload_n hx hb dX9_lays_7 rfl (lv_at hl 0 rfl) ?_
    refine lv_ldc (v := (-1000000001 : Int32)) hx hb hown (hw _ mw_237) dX9_lays_8 ?_
    obtain ⟨r7, er7, hF⟩ := kb hF
    refine kWV (rest := []) (Wr := [(h_t_plain, .inr (3, [.ref h_t_plain_book, .ref x_t_plain_kinds, .ref x_t_plain_forms, .ref x_t_plain_deeps, .int c_t_plain_size, .int c_t_plain_hour, .int c_t_plain_sunny])), (h_t_plain_book, .inr (0, [.ref h_t_plain_book_forms])), (h_t_plain_book_forms, .inl (eI E, 26, .inl c_t_plain_book_forms)), (h_t_sheets, .inr (4, [.ref h_t_sheets_widths, .ref h_t_sheets_sizes, .ref h_t_sheets_numbers])), (h_t_sheets_numbers, .inl (eJ E, 160, .inr (.inl c_t_sheets_numbers))), (h_t_sheets_sizes, .inl (eI E, 4, .inl c_t_sheets_sizes)), (h_t_sheets_widths, .inl (eI E, 4, .inl c_t_sheets_widths))]) (Wn := (w_S_lays E h_t h_t_found h_t_plain h_t_plain_book h_t_plain_book_forms h_t_sheets h_t_sheets_numbers h_t_sheets_sizes h_t_sheets_widths x_t_kept x_t_trial x_t_tape x_t_text x_t_choice x_t_plain_kinds x_t_plain_forms x_t_plain_deeps c_t_isKept r7.2 c_t_plain_size c_t_plain_hour c_t_plain_sunny c_t_plain_book_forms c_t_sheets_numbers c_t_sheets_sizes c_t_sheets_widths)) C (k_S_finding l E h_t h_t_found h_t_plain x_t_kept x_t_trial x_t_tape x_t_text h_t_sheets x_t_choice s.heap.size c_t_isKept c_t_found (-1000000001 : Int32) r7 er7) fn_S_finding mw_238 ⟨Nat.le_of_ble_eq_true rfl, Nat.le_of_ble_eq_true rfl⟩ hK hT hS hA (va_recv hK hP (ci := 7) (q0 := 0) rfl rfl) hP hD [0, 1] rfl (by decide) [2, 3, 4, 5, 6, 7, 8] rfl (by decide) (by decide) [7, 8, 0, 1, 2, 3, 4, 5, 6] rfl (by decide) rfl rfl hl (Nat.le_of_ble_eq_true rfl) dX9_lays_10 (fun H locs hP hD hS => ?_)
    refine W.eq (g2 := F0 m 13 ls [.int r7.1]) rfl ?_
    obtain rfl := Option.some.inj hF
    exact W.iret hx hb hr (fun t ht hW => ⟨⟨rfl, by rw [ht]; exact hP, hD⟩, hS.F ht⟩) hS.2.2 dX9_lays_13
abbrev w_S_show (E : kE) (h_t : Nat) (h_t_found : Nat) (h_t_plain : Nat) (h_t_plain_book : Nat) (h_t_plain_book_forms : Nat) (h_t_plain_deeps : Nat) (h_t_plain_forms : Nat) (h_t_plain_kinds : Nat) (h_t_sheets : Nat) (h_t_sheets_numbers : Nat) (h_t_sheets_sizes : Nat) (h_t_sheets_widths : Nat) (x_t_kept : Nat) (x_t_trial : Nat) (x_t_tape : Nat) (x_t_text : Nat) (x_t_choice : Nat) (c_t_isKept : Int32) (c_t_found : (Nat → Int32)) (c_t_plain_size : Int32) (c_t_plain_hour : Int32) (c_t_plain_sunny : Int32) (c_t_plain_book_forms : (Nat → Int32)) (c_t_plain_deeps : (Nat → Int32)) (c_t_plain_forms : (Nat → Int32)) (c_t_plain_kinds : (Nat → Int32)) (c_t_sheets_numbers : (Nat → Int64)) (c_t_sheets_sizes : (Nat → Int32)) (c_t_sheets_widths : (Nat → Int32)) : va_W := [(h_t, .inr (7, [.ref h_t_plain, .ref x_t_kept, .ref x_t_trial, .ref x_t_tape, .ref x_t_text, .ref h_t_sheets, .ref x_t_choice, .ref h_t_found, .int c_t_isKept])), (h_t_found, .inl (eI E, 7, .inl c_t_found)), (h_t_plain, .inr (3, [.ref h_t_plain_book, .ref h_t_plain_kinds, .ref h_t_plain_forms, .ref h_t_plain_deeps, .int c_t_plain_size, .int c_t_plain_hour, .int c_t_plain_sunny])), (h_t_plain_book, .inr (0, [.ref h_t_plain_book_forms])), (h_t_plain_book_forms, .inl (eI E, 26, .inl c_t_plain_book_forms)), (h_t_plain_deeps, .inl (eI E, 12, .inl c_t_plain_deeps)), (h_t_plain_forms, .inl (eI E, 12, .inl c_t_plain_forms)), (h_t_plain_kinds, .inl (eI E, 12, .inl c_t_plain_kinds)), (h_t_sheets, .inr (4, [.ref h_t_sheets_widths, .ref h_t_sheets_sizes, .ref h_t_sheets_numbers])), (h_t_sheets_numbers, .inl (eJ E, 160, .inr (.inl c_t_sheets_numbers))), (h_t_sheets_sizes, .inl (eI E, 4, .inl c_t_sheets_sizes)), (h_t_sheets_widths, .inl (eI E, 4, .inl c_t_sheets_widths))]
set_option maxHeartbeats 4000000 in
set_option maxRecDepth 100000 in
theorem wk_S_show_b53 {p : Program} {l : Launch} {e : Env} {s : State} {m : MethodId} {args : Array Value} {below : List Frame} {meth : Method} {c : Code} {A : Nat → Prop} (E : kE) (h_t : Nat) (h_t_found : Nat) (h_t_plain : Nat) (h_t_plain_book : Nat) (h_t_plain_book_forms : Nat) (h_t_plain_deeps : Nat) (h_t_plain_forms : Nat) (h_t_plain_kinds : Nat) (h_t_sheets : Nat) (h_t_sheets_numbers : Nat) (h_t_sheets_sizes : Nat) (h_t_sheets_widths : Nat) (x_t_kept : Nat) (x_t_trial : Nat) (x_t_tape : Nat) (x_t_text : Nat) (x_t_choice : Nat) (c_t_isKept : Int32) (c_t_plain_size : Int32) (c_t_plain_hour : Int32) (c_t_plain_sunny : Int32) (c_t_plain_book_forms : (Nat → Int32)) (c_t_plain_deeps : (Nat → Int32)) (c_t_plain_forms : (Nat → Int32)) (c_t_plain_kinds : (Nat → Int32)) (c_t_sheets_sizes : (Nat → Int32)) (c_t_sheets_widths : (Nat → Int32)) (a1 : Int32) {out : Int32 × (Nat → Int32) × (Nat → Int64)} (C : kC RX9 cX9_show 4 (some .int) p s m args meth c) (hA : ∀ q : Nat, s.heap.size ≤ q → A q) (hK : va_K (eD E) vwCl (eT E) s) (hT : sT E A s s.heap)  :
    ∀ (n : Nat), ∀ (c_t_found : (Nat → Int32)) (c_t_sheets_numbers : (Nat → Int64)) (v2 : Int32) (v3 : Int32), f_S_show_b53  c_t_plain_size c_t_plain_hour c_t_plain_sunny c_t_plain_book_forms c_t_plain_deeps c_t_plain_forms c_t_plain_kinds c_t_sheets_sizes c_t_sheets_widths a1 n c_t_found c_t_sheets_numbers v2 v3 = some out → ∀ (H : Heap) (locs : List Loc), va_P (eD E) vwCl (w_S_show E h_t h_t_found h_t_plain h_t_plain_book h_t_plain_book_forms h_t_plain_deeps h_t_plain_forms h_t_plain_kinds h_t_sheets h_t_sheets_numbers h_t_sheets_sizes h_t_sheets_widths x_t_kept x_t_trial x_t_tape x_t_text x_t_choice c_t_isKept c_t_found c_t_plain_size c_t_plain_hour c_t_plain_sunny c_t_plain_book_forms c_t_plain_deeps c_t_plain_forms c_t_plain_kinds c_t_sheets_numbers c_t_sheets_sizes c_t_sheets_widths) H → va_D A (w_S_show E h_t h_t_found h_t_plain h_t_plain_book h_t_plain_book_forms h_t_plain_deeps h_t_plain_forms h_t_plain_kinds h_t_sheets h_t_sheets_numbers h_t_sheets_sizes h_t_sheets_widths x_t_kept x_t_trial x_t_tape x_t_text x_t_choice c_t_isKept c_t_found c_t_plain_size c_t_plain_hour c_t_plain_sunny c_t_plain_book_forms c_t_plain_deeps c_t_plain_forms c_t_plain_kinds c_t_sheets_numbers c_t_sheets_sizes c_t_sheets_widths) → va_S A s.heap H locs → ∀ (ls : Array Slot), lv_has ls 4 [(0, .ref h_t), (1, .int a1), (2, .int v2), (3, .int v3)] → W p l e (rm 5) s m args below meth c H locs 0 0 (MQ below (qW (some (.int out.1)) E (w_S_show E h_t h_t_found h_t_plain h_t_plain_book h_t_plain_book_forms h_t_plain_deeps h_t_plain_forms h_t_plain_kinds h_t_sheets h_t_sheets_numbers h_t_sheets_sizes h_t_sheets_widths x_t_kept x_t_trial x_t_tape x_t_text x_t_choice c_t_isKept out.2.1 c_t_plain_size c_t_plain_hour c_t_plain_sunny c_t_plain_book_forms c_t_plain_deeps c_t_plain_forms c_t_plain_kinds out.2.2 c_t_sheets_sizes c_t_sheets_widths) A) args s 0 0 A) (F0 m 53 ls []) := by
  obtain ⟨hx, hb, hr, hml, hown, hw, hlocks⟩ := id C
  intro n
  induction n with
  | zero =>
    intro c_t_found c_t_sheets_numbers v2 v3 hF
    exact absurd (show (none : Option (Int32 × (Nat → Int32) × (Nat → Int64))) = some out from hF) nofun
  | succ n ih =>
    intro c_t_found c_t_sheets_numbers v2 v3 hF H locs hP hD hS ls hl
    rw [f_S_show_b53] at hF
    refine lv_iload_n hx hb dX9_show_53 rfl (lv_at hl 3 rfl) ?_
    refine lv_iload_n hx hb dX9_show_54 rfl (lv_at hl 2 rfl) ?_
    refine lv_icmp_ge (tgt := 82) hx hb dX9_show_55 (by decide) (fun q1 => ?_) (fun q1 => ?_)
    · have hF := kp hF q1
      refine lv_iload_n hx hb dX9_show_82 rfl (lv_at hl 2 rfl) ?_
      obtain rfl := Option.some.inj hF
      exact W.iret hx hb hr (fun t ht hW => ⟨⟨rfl, by rw [ht]; exact hP, hD⟩, hS.F ht⟩) hS.2.2 dX9_show_83
    · have hF := kn hF q1
      refine lv_aload_n hx hb dX9_show_58 rfl (lv_at hl 0 rfl) ?_
      refine va_get (D := eD E) (ci := 7) (C := RX9) (T := TX9) (N := 9) (v := .ref h_t_sheets) hx hb hw inX9 hown hK hP 0 rfl rfl 5 (by decide) (hw _ mw_207) (fun _ h9 => h9) rfl dX9_show_59 ?_
      refine lv_iload_n hx hb dX9_show_62 rfl (lv_at hl 1 rfl) ?_
      refine lv_iload_n hx hb dX9_show_63 rfl (lv_at hl 3 rfl) ?_
      refine lv_aload_n hx hb dX9_show_64 rfl (lv_at hl 0 rfl) ?_
      refine va_get (D := eD E) (ci := 7) (C := RX9) (T := TX9) (N := 9) (v := .ref h_t_plain) hx hb hw inX9 hown hK hP 0 rfl rfl 0 (by decide) (hw _ mw_202) (fun _ h9 => h9) rfl dX9_show_65 ?_
      refine lv_iload_n hx hb dX9_show_68 rfl (lv_at hl 3 rfl) ?_
      obtain ⟨r2, er2, hF⟩ := kb hF
      refine kRV (rest := [.int v3, .int a1, .ref h_t_sheets]) C (k_Plain_seenAs l E h_t_plain h_t_plain_book h_t_plain_book_forms h_t_plain_deeps h_t_plain_forms h_t_plain_kinds c_t_plain_size c_t_plain_hour c_t_plain_sunny c_t_plain_book_forms c_t_plain_deeps c_t_plain_forms c_t_plain_kinds v3 r2 er2) fn_Plain_seenAs mw_466 ⟨Nat.le_of_ble_eq_true rfl, Nat.le_of_ble_eq_true rfl⟩ hK hT hS (va_recv hK hP (ci := 3) (q0 := 2) rfl rfl) hP [2, 3, 4, 5, 6, 7] rfl rfl rfl hl (Nat.le_of_ble_eq_true rfl) dX9_show_69 ?_
      refine lv_i2l (v := r2.toInt64) hx hb dX9_show_72 rfl ?_
      obtain ⟨r3, er3, hF⟩ := kb hF
      refine kWV (rest := []) (Wr := [(h_t, .inr (7, [.ref h_t_plain, .ref x_t_kept, .ref x_t_trial, .ref x_t_tape, .ref x_t_text, .ref h_t_sheets, .ref x_t_choice, .ref h_t_found, .int c_t_isKept])), (h_t_found, .inl (eI E, 7, .inl c_t_found)), (h_t_plain, .inr (3, [.ref h_t_plain_book, .ref h_t_plain_kinds, .ref h_t_plain_forms, .ref h_t_plain_deeps, .int c_t_plain_size, .int c_t_plain_hour, .int c_t_plain_sunny])), (h_t_plain_book, .inr (0, [.ref h_t_plain_book_forms])), (h_t_plain_book_forms, .inl (eI E, 26, .inl c_t_plain_book_forms)), (h_t_plain_deeps, .inl (eI E, 12, .inl c_t_plain_deeps)), (h_t_plain_forms, .inl (eI E, 12, .inl c_t_plain_forms)), (h_t_plain_kinds, .inl (eI E, 12, .inl c_t_plain_kinds))]) (Wn := (w_S_show E h_t h_t_found h_t_plain h_t_plain_book h_t_plain_book_forms h_t_plain_deeps h_t_plain_forms h_t_plain_kinds h_t_sheets h_t_sheets_numbers h_t_sheets_sizes h_t_sheets_widths x_t_kept x_t_trial x_t_tape x_t_text x_t_choice c_t_isKept c_t_found c_t_plain_size c_t_plain_hour c_t_plain_sunny c_t_plain_book_forms c_t_plain_deeps c_t_plain_forms c_t_plain_kinds r3 c_t_sheets_sizes c_t_sheets_widths)) C (k_Sheets_put l E h_t_sheets h_t_sheets_numbers h_t_sheets_sizes h_t_sheets_widths H.size c_t_sheets_numbers c_t_sheets_sizes c_t_sheets_widths a1 v3 r2.toInt64 r3 er3) fn_Sheets_put mw_792 ⟨Nat.le_of_ble_eq_true rfl, Nat.le_of_ble_eq_true rfl⟩ hK hT hS hA (va_recv hK hP (ci := 4) (q0 := 8) rfl rfl) hP hD [8, 9, 10, 11] rfl (by decide) [0, 1, 2, 3, 4, 5, 6, 7] rfl (by decide) (by decide) [0, 1, 2, 3, 4, 5, 6, 7, 8, 9, 10, 11] rfl (by decide) rfl rfl hl (Nat.le_of_ble_eq_true rfl) dX9_show_73 (fun H locs hP hD hS => ?_)
      refine W.eq (g2 := F0 m 76 ls []) rfl ?_
      refine lv_iinc (v := (v3 + (1))) (lv' := [(3, .int (v3 + (1))), (0, .ref h_t), (1, .int a1), (2, .int v2)]) hx hb dX9_show_76 hl (k := 3) rfl rfl (by decide) rfl (fun ls hl => ?_)
      refine lv_goto (tgt := 53) hx hb dX9_show_79 (by decide) ?_
      exact ih c_t_found r3 v2 (v3 + (1)) hF _ _ hP hD hS _ (lv_sub hl [1, 2, 3, 0] rfl)
set_option maxHeartbeats 4000000 in
set_option maxRecDepth 100000 in
theorem k_S_show (l : Launch) (E : kE) (h_t : Nat) (h_t_found : Nat) (h_t_plain : Nat) (h_t_plain_book : Nat) (h_t_plain_book_forms : Nat) (h_t_plain_deeps : Nat) (h_t_plain_forms : Nat) (h_t_plain_kinds : Nat) (h_t_sheets : Nat) (h_t_sheets_numbers : Nat) (h_t_sheets_sizes : Nat) (h_t_sheets_widths : Nat) (x_t_kept : Nat) (x_t_trial : Nat) (x_t_tape : Nat) (x_t_text : Nat) (x_t_choice : Nat) (sz : Nat) (c_t_isKept : Int32) (c_t_found : (Nat → Int32)) (c_t_plain_size : Int32) (c_t_plain_hour : Int32) (c_t_plain_sunny : Int32) (c_t_plain_book_forms : (Nat → Int32)) (c_t_plain_deeps : (Nat → Int32)) (c_t_plain_forms : (Nat → Int32)) (c_t_plain_kinds : (Nat → Int32)) (c_t_sheets_numbers : (Nat → Int64)) (c_t_sheets_sizes : (Nat → Int32)) (c_t_sheets_widths : (Nat → Int32)) (a1 : Int32) (out : Int32 × (Nat → Int32) × (Nat → Int64)) (hF : f_S_show c_t_found c_t_plain_size c_t_plain_hour c_t_plain_sunny c_t_plain_book_forms c_t_plain_deeps c_t_plain_forms c_t_plain_kinds c_t_sheets_numbers c_t_sheets_sizes c_t_sheets_widths a1 = some out) : Met l yX9_show (Cond.code yX9_show cX9_show 4 (some .int) :: wG) (rm 5) (pW E (w_S_show E h_t h_t_found h_t_plain h_t_plain_book h_t_plain_book_forms h_t_plain_deeps h_t_plain_forms h_t_plain_kinds h_t_sheets h_t_sheets_numbers h_t_sheets_sizes h_t_sheets_widths x_t_kept x_t_trial x_t_tape x_t_text x_t_choice c_t_isKept c_t_found c_t_plain_size c_t_plain_hour c_t_plain_sunny c_t_plain_book_forms c_t_plain_deeps c_t_plain_forms c_t_plain_kinds c_t_sheets_numbers c_t_sheets_sizes c_t_sheets_widths) sz [.ref h_t, .int a1]) (qW (some (.int out.1)) E (w_S_show E h_t h_t_found h_t_plain h_t_plain_book h_t_plain_book_forms h_t_plain_deeps h_t_plain_forms h_t_plain_kinds h_t_sheets h_t_sheets_numbers h_t_sheets_sizes h_t_sheets_widths x_t_kept x_t_trial x_t_tape x_t_text x_t_choice c_t_isKept out.2.1 c_t_plain_size c_t_plain_hour c_t_plain_sunny c_t_plain_book_forms c_t_plain_deeps c_t_plain_forms c_t_plain_kinds out.2.2 c_t_sheets_sizes c_t_sheets_widths) (va_A (w_S_show E h_t h_t_found h_t_plain h_t_plain_book h_t_plain_book_forms h_t_plain_deeps h_t_plain_forms h_t_plain_kinds h_t_sheets h_t_sheets_numbers h_t_sheets_sizes h_t_sheets_widths x_t_kept x_t_trial x_t_tape x_t_text x_t_choice c_t_isKept c_t_found c_t_plain_size c_t_plain_hour c_t_plain_sunny c_t_plain_book_forms c_t_plain_deeps c_t_plain_forms c_t_plain_kinds c_t_sheets_numbers c_t_sheets_sizes c_t_sheets_widths) sz)) 0 0 (va_A (w_S_show E h_t h_t_found h_t_plain h_t_plain_book h_t_plain_book_forms h_t_plain_deeps h_t_plain_forms h_t_plain_kinds h_t_sheets h_t_sheets_numbers h_t_sheets_sizes h_t_sheets_widths x_t_kept x_t_trial x_t_tape x_t_text x_t_choice c_t_isKept c_t_found c_t_plain_size c_t_plain_hour c_t_plain_sunny c_t_plain_book_forms c_t_plain_deeps c_t_plain_forms c_t_plain_kinds c_t_sheets_numbers c_t_sheets_sizes c_t_sheets_widths) sz) := by
  refine met_W (by decide) (Nat.le_of_ble_eq_true rfl) ?_
  intro p e s m args below meth c A ls C hP hD hS hA hK hT hl
  obtain ⟨hx, hb, hr, hml, hown, hw, hlocks⟩ := id C
  have hl : lv_has ls 4 [(0, .ref h_t), (1, .int a1)] := hl
  rw [f_S_show] at hF
  refine lv_iload_n hx hb dX9_show_0 rfl (lv_at hl 1 rfl) ?_
  obtain ⟨r4, er4, hF⟩ := kb hF
  refine kRS (rest := []) C (k_Sheets_isSheet l E a1 r4 er4) fn_Sheets_isSheet mw_762 ⟨Nat.le_of_ble_eq_true rfl, Nat.le_of_ble_eq_true rfl⟩ hK hT hS hP [] rfl rfl rfl hl (Nat.le_of_ble_eq_true rfl) dX9_show_1 ?_
  refine lv_if_ne (tgt := 14) hx hb dX9_show_4 (by decide) (fun q5 => ?_) (fun q5 => ?_)
  · have hF := kn hF q5
    refine lv_aload_n hx hb dX9_show_14 rfl (lv_at hl 0 rfl) ?_
    refine va_get (D := eD E) (ci := 7) (C := RX9) (T := TX9) (N := 9) (v := .ref h_t_sheets) hx hb hw inX9 hown hK hP 0 rfl rfl 5 (by decide) (hw _ mw_207) (fun _ h9 => h9) rfl dX9_show_15 ?_
    refine lv_iload_n hx hb dX9_show_18 rfl (lv_at hl 1 rfl) ?_
    obtain ⟨r6, er6, hF⟩ := kb hF
    refine kRV (rest := []) C (k_Sheets_isMissing l E h_t_sheets h_t_sheets_widths h_t_sheets_sizes h_t_sheets_numbers c_t_sheets_widths a1 r6 er6) fn_Sheets_isMissing mw_778 ⟨Nat.le_of_ble_eq_true rfl, Nat.le_of_ble_eq_true rfl⟩ hK hT hS (va_recv hK hP (ci := 4) (q0 := 8) rfl rfl) hP [8, 11] rfl rfl rfl hl (Nat.le_of_ble_eq_true rfl) dX9_show_19 ?_
    refine lv_if_eq (tgt := 32) hx hb dX9_show_22 (by decide) (fun q7 => ?_) (fun q7 => ?_)
    · have hF := kp hF q7
      refine lv_aload_n hx hb dX9_show_32 rfl (lv_at hl 0 rfl) ?_
      refine va_get (D := eD E) (ci := 7) (C := RX9) (T := TX9) (N := 9) (v := .ref h_t_plain) hx hb hw inX9 hown hK hP 0 rfl rfl 0 (by decide) (hw _ mw_202) (fun _ h9 => h9) rfl dX9_show_33 ?_
      refine va_getN (D := eD E) (ci := 3) (C := RX5) (T := TX5) (N := 7) (v := .int c_t_plain_size) hx hb hw inX5 hown hK hP 2 rfl rfl 4 (by decide) ((sF_6 hT).use rfl) (fun _ h9 => h9) rfl dX9_show_36 ?_
      refine lv_aload_n hx hb dX9_show_39 rfl (lv_at hl 0 rfl) ?_
      refine va_get (D := eD E) (ci := 7) (C := RX9) (T := TX9) (N := 9) (v := .ref h_t_sheets) hx hb hw inX9 hown hK hP 0 rfl rfl 5 (by decide) (hw _ mw_207) (fun _ h9 => h9) rfl dX9_show_40 ?_
      refine lv_iload_n hx hb dX9_show_43 rfl (lv_at hl 1 rfl) ?_
      obtain ⟨r8, er8, hF⟩ := kb hF
      refine kRV (rest := [.int c_t_plain_size]) C (k_Sheets_sizeOf l E h_t_sheets h_t_sheets_sizes h_t_sheets_widths h_t_sheets_numbers c_t_sheets_sizes a1 r8 er8) fn_Sheets_sizeOf mw_783 ⟨Nat.le_of_ble_eq_true rfl, Nat.le_of_ble_eq_true rfl⟩ hK hT hS (va_recv hK hP (ci := 4) (q0 := 8) rfl rfl) hP [8, 10] rfl rfl rfl hl (Nat.le_of_ble_eq_true rfl) dX9_show_44 ?_
      refine va_mmin hx hb (hml.trans hl.1.symm) hown (hw _ mw_833) (hw _ mw_711) (hw _ mw_49) (hw _ mw_712) (Nat.le_of_ble_eq_true rfl) (Nat.le_of_ble_eq_true rfl) (Nat.zero_le _) (Nat.zero_le _) dX9_show_47 ?_
      refine lv_istore_n (lv' := [(2, .int (if r8 < c_t_plain_size then r8 else c_t_plain_size)), (0, .ref h_t), (1, .int a1)]) hx hb dX9_show_50 rfl hl (by decide) rfl (fun ls hl => ?_)
      refine lv_iconst (v := (0 : Int32)) hx hb dX9_show_51 (by decide) ?_
      refine lv_istore_n (lv' := [(3, .int (0 : Int32)), (2, .int (if r8 < c_t_plain_size then r8 else c_t_plain_size)), (0, .ref h_t), (1, .int a1)]) hx hb dX9_show_52 rfl hl (by decide) rfl (fun ls hl => ?_)
      exact wk_S_show_b53 E h_t h_t_found h_t_plain h_t_plain_book h_t_plain_book_forms h_t_plain_deeps h_t_plain_forms h_t_plain_kinds h_t_sheets h_t_sheets_numbers h_t_sheets_sizes h_t_sheets_widths x_t_kept x_t_trial x_t_tape x_t_text x_t_choice c_t_isKept c_t_plain_size c_t_plain_hour c_t_plain_sunny c_t_plain_book_forms c_t_plain_deeps c_t_plain_forms c_t_plain_kinds c_t_sheets_sizes c_t_sheets_widths a1 C hA  hK hT  5000 c_t_found c_t_sheets_numbers (if r8 < c_t_plain_size then r8 else c_t_plain_size) (0 : Int32) hF _ _ hP hD hS _ (lv_sub hl [2, 3, 1, 0] rfl)
    · have hF := kn hF q7
      refine lv_aload_n hx hb dX9_show_25 rfl (lv_at hl 0 rfl) ?_
      refine lv_ldc (v := (-1000000006 : Int32)) hx hb hown (hw _ mw_782) dX9_show_26 ?_
      obtain ⟨r9, er9, hF⟩ := kb hF
      refine kWV (rest := []) (Wr := [(h_t_plain, .inr (3, [.ref h_t_plain_book, .ref h_t_plain_kinds, .ref h_t_plain_forms, .ref h_t_plain_deeps, .int c_t_plain_size, .int c_t_plain_hour, .int c_t_plain_sunny])), (h_t_plain_book, .inr (0, [.ref h_t_plain_book_forms])), (h_t_plain_book_forms, .inl (eI E, 26, .inl c_t_plain_book_forms)), (h_t_plain_deeps, .inl (eI E, 12, .inl c_t_plain_deeps)), (h_t_plain_forms, .inl (eI E, 12, .inl c_t_plain_forms)), (h_t_plain_kinds, .inl (eI E, 12, .inl c_t_plain_kinds)), (h_t_sheets, .inr (4, [.ref h_t_sheets_widths, .ref h_t_sheets_sizes, .ref h_t_sheets_numbers])), (h_t_sheets_numbers, .inl (eJ E, 160, .inr (.inl c_t_sheets_numbers))), (h_t_sheets_sizes, .inl (eI E, 4, .inl c_t_sheets_sizes)), (h_t_sheets_widths, .inl (eI E, 4, .inl c_t_sheets_widths))]) (Wn := (w_S_show E h_t h_t_found h_t_plain h_t_plain_book h_t_plain_book_forms h_t_plain_deeps h_t_plain_forms h_t_plain_kinds h_t_sheets h_t_sheets_numbers h_t_sheets_sizes h_t_sheets_widths x_t_kept x_t_trial x_t_tape x_t_text x_t_choice c_t_isKept r9.2 c_t_plain_size c_t_plain_hour c_t_plain_sunny c_t_plain_book_forms c_t_plain_deeps c_t_plain_forms c_t_plain_kinds c_t_sheets_numbers c_t_sheets_sizes c_t_sheets_widths)) C (k_S_finding l E h_t h_t_found h_t_plain x_t_kept x_t_trial x_t_tape x_t_text h_t_sheets x_t_choice s.heap.size c_t_isKept c_t_found (-1000000006 : Int32) r9 er9) fn_S_finding mw_238 ⟨Nat.le_of_ble_eq_true rfl, Nat.le_of_ble_eq_true rfl⟩ hK hT hS hA (va_recv hK hP (ci := 7) (q0 := 0) rfl rfl) hP hD [0, 1] rfl (by decide) [2, 3, 4, 5, 6, 7, 8, 9, 10, 11] rfl (by decide) (by decide) [10, 11, 0, 1, 2, 3, 4, 5, 6, 7, 8, 9] rfl (by decide) rfl rfl hl (Nat.le_of_ble_eq_true rfl) dX9_show_28 (fun H locs hP hD hS => ?_)
      refine W.eq (g2 := F0 m 31 ls [.int r9.1]) rfl ?_
      obtain rfl := Option.some.inj hF
      exact W.iret hx hb hr (fun t ht hW => ⟨⟨rfl, by rw [ht]; exact hP, hD⟩, hS.F ht⟩) hS.2.2 dX9_show_31
  · have hF := kp hF q5
    refine lv_aload_n hx hb dX9_show_7 rfl (lv_at hl 0 rfl) ?_
    refine lv_ldc (v := (-1000000001 : Int32)) hx hb hown (hw _ mw_237) dX9_show_8 ?_
    obtain ⟨r10, er10, hF⟩ := kb hF
    refine kWV (rest := []) (Wr := [(h_t_plain, .inr (3, [.ref h_t_plain_book, .ref h_t_plain_kinds, .ref h_t_plain_forms, .ref h_t_plain_deeps, .int c_t_plain_size, .int c_t_plain_hour, .int c_t_plain_sunny])), (h_t_plain_book, .inr (0, [.ref h_t_plain_book_forms])), (h_t_plain_book_forms, .inl (eI E, 26, .inl c_t_plain_book_forms)), (h_t_plain_deeps, .inl (eI E, 12, .inl c_t_plain_deeps)), (h_t_plain_forms, .inl (eI E, 12, .inl c_t_plain_forms)), (h_t_plain_kinds, .inl (eI E, 12, .inl c_t_plain_kinds)), (h_t_sheets, .inr (4, [.ref h_t_sheets_widths, .ref h_t_sheets_sizes, .ref h_t_sheets_numbers])), (h_t_sheets_numbers, .inl (eJ E, 160, .inr (.inl c_t_sheets_numbers))), (h_t_sheets_sizes, .inl (eI E, 4, .inl c_t_sheets_sizes)), (h_t_sheets_widths, .inl (eI E, 4, .inl c_t_sheets_widths))]) (Wn := (w_S_show E h_t h_t_found h_t_plain h_t_plain_book h_t_plain_book_forms h_t_plain_deeps h_t_plain_forms h_t_plain_kinds h_t_sheets h_t_sheets_numbers h_t_sheets_sizes h_t_sheets_widths x_t_kept x_t_trial x_t_tape x_t_text x_t_choice c_t_isKept r10.2 c_t_plain_size c_t_plain_hour c_t_plain_sunny c_t_plain_book_forms c_t_plain_deeps c_t_plain_forms c_t_plain_kinds c_t_sheets_numbers c_t_sheets_sizes c_t_sheets_widths)) C (k_S_finding l E h_t h_t_found h_t_plain x_t_kept x_t_trial x_t_tape x_t_text h_t_sheets x_t_choice s.heap.size c_t_isKept c_t_found (-1000000001 : Int32) r10 er10) fn_S_finding mw_238 ⟨Nat.le_of_ble_eq_true rfl, Nat.le_of_ble_eq_true rfl⟩ hK hT hS hA (va_recv hK hP (ci := 7) (q0 := 0) rfl rfl) hP hD [0, 1] rfl (by decide) [2, 3, 4, 5, 6, 7, 8, 9, 10, 11] rfl (by decide) (by decide) [10, 11, 0, 1, 2, 3, 4, 5, 6, 7, 8, 9] rfl (by decide) rfl rfl hl (Nat.le_of_ble_eq_true rfl) dX9_show_10 (fun H locs hP hD hS => ?_)
    refine W.eq (g2 := F0 m 13 ls [.int r10.1]) rfl ?_
    obtain rfl := Option.some.inj hF
    exact W.iret hx hb hr (fun t ht hW => ⟨⟨rfl, by rw [ht]; exact hP, hD⟩, hS.F ht⟩) hS.2.2 dX9_show_13
abbrev w_S_walk (E : kE) (h_t : Nat) (h_t_found : Nat) (h_t_sheets : Nat) (h_t_sheets_numbers : Nat) (h_t_sheets_sizes : Nat) (h_t_sheets_widths : Nat) (x_t_plain : Nat) (x_t_kept : Nat) (x_t_trial : Nat) (x_t_tape : Nat) (x_t_text : Nat) (x_t_choice : Nat) (c_t_isKept : Int32) (c_t_found : (Nat → Int32)) (c_t_sheets_numbers : (Nat → Int64)) (c_t_sheets_sizes : (Nat → Int32)) (c_t_sheets_widths : (Nat → Int32)) : va_W := [(h_t, .inr (7, [.ref x_t_plain, .ref x_t_kept, .ref x_t_trial, .ref x_t_tape, .ref x_t_text, .ref h_t_sheets, .ref x_t_choice, .ref h_t_found, .int c_t_isKept])), (h_t_found, .inl (eI E, 7, .inl c_t_found)), (h_t_sheets, .inr (4, [.ref h_t_sheets_widths, .ref h_t_sheets_sizes, .ref h_t_sheets_numbers])), (h_t_sheets_numbers, .inl (eJ E, 160, .inr (.inl c_t_sheets_numbers))), (h_t_sheets_sizes, .inl (eI E, 4, .inl c_t_sheets_sizes)), (h_t_sheets_widths, .inl (eI E, 4, .inl c_t_sheets_widths))]
set_option maxHeartbeats 4000000 in
set_option maxRecDepth 100000 in
theorem k_S_walk (l : Launch) (E : kE) (h_t : Nat) (h_t_found : Nat) (h_t_sheets : Nat) (h_t_sheets_numbers : Nat) (h_t_sheets_sizes : Nat) (h_t_sheets_widths : Nat) (x_t_plain : Nat) (x_t_kept : Nat) (x_t_trial : Nat) (x_t_tape : Nat) (x_t_text : Nat) (x_t_choice : Nat) (sz : Nat) (c_t_isKept : Int32) (c_t_found : (Nat → Int32)) (c_t_sheets_numbers : (Nat → Int64)) (c_t_sheets_sizes : (Nat → Int32)) (c_t_sheets_widths : (Nat → Int32)) (a1 : Int32) (a2 : Int32) (out : Int32 × (Nat → Int32)) (hF : f_S_walk c_t_found c_t_sheets_numbers c_t_sheets_sizes c_t_sheets_widths a1 a2 = some out) : Met l yX9_walk (Cond.code yX9_walk cX9_walk 3 (some .int) :: wG) (rm 5) (pW E (w_S_walk E h_t h_t_found h_t_sheets h_t_sheets_numbers h_t_sheets_sizes h_t_sheets_widths x_t_plain x_t_kept x_t_trial x_t_tape x_t_text x_t_choice c_t_isKept c_t_found c_t_sheets_numbers c_t_sheets_sizes c_t_sheets_widths) sz [.ref h_t, .int a1, .int a2]) (qW (some (.int out.1)) E (w_S_walk E h_t h_t_found h_t_sheets h_t_sheets_numbers h_t_sheets_sizes h_t_sheets_widths x_t_plain x_t_kept x_t_trial x_t_tape x_t_text x_t_choice c_t_isKept out.2 c_t_sheets_numbers c_t_sheets_sizes c_t_sheets_widths) (va_A (w_S_walk E h_t h_t_found h_t_sheets h_t_sheets_numbers h_t_sheets_sizes h_t_sheets_widths x_t_plain x_t_kept x_t_trial x_t_tape x_t_text x_t_choice c_t_isKept c_t_found c_t_sheets_numbers c_t_sheets_sizes c_t_sheets_widths) sz)) 0 0 (va_A (w_S_walk E h_t h_t_found h_t_sheets h_t_sheets_numbers h_t_sheets_sizes h_t_sheets_widths x_t_plain x_t_kept x_t_trial x_t_tape x_t_text x_t_choice c_t_isKept c_t_found c_t_sheets_numbers c_t_sheets_sizes c_t_sheets_widths) sz) := by
  refine met_W (by decide) (Nat.le_of_ble_eq_true rfl) ?_
  intro p e s m args below meth c A ls C hP hD hS hA hK hT hl
  obtain ⟨hx, hb, hr, hml, hown, hw, hlocks⟩ := id C
  have hl : lv_has ls 3 [(0, .ref h_t), (1, .int a1), (2, .int a2)] := hl
  rw [f_S_walk] at hF
  refine lv_iload_n hx hb dX9_walk_0 rfl (lv_at hl 1 rfl) ?_
  obtain ⟨r1, er1, hF⟩ := kb hF
  refine kRS (rest := []) C (k_Sheets_isSheet l E a1 r1 er1) fn_Sheets_isSheet mw_762 ⟨Nat.le_of_ble_eq_true rfl, Nat.le_of_ble_eq_true rfl⟩ hK hT hS hP [] rfl rfl rfl hl (Nat.le_of_ble_eq_true rfl) dX9_walk_1 ?_
  refine lv_if_ne (tgt := 14) hx hb dX9_walk_4 (by decide) (fun q2 => ?_) (fun q2 => ?_)
  · have hF := kn hF q2
    refine lv_aload_n hx hb dX9_walk_14 rfl (lv_at hl 0 rfl) ?_
    refine va_get (D := eD E) (ci := 7) (C := RX9) (T := TX9) (N := 9) (v := .ref h_t_sheets) hx hb hw inX9 hown hK hP 0 rfl rfl 5 (by decide) (hw _ mw_207) (fun _ h9 => h9) rfl dX9_walk_15 ?_
    refine lv_iload_n hx hb dX9_walk_18 rfl (lv_at hl 1 rfl) ?_
    obtain ⟨r3, er3, hF⟩ := kb hF
    refine kRV (rest := []) C (k_Sheets_isMissing l E h_t_sheets h_t_sheets_widths h_t_sheets_sizes h_t_sheets_numbers c_t_sheets_widths a1 r3 er3) fn_Sheets_isMissing mw_778 ⟨Nat.le_of_ble_eq_true rfl, Nat.le_of_ble_eq_true rfl⟩ hK hT hS (va_recv hK hP (ci := 4) (q0 := 2) rfl rfl) hP [2, 5] rfl rfl rfl hl (Nat.le_of_ble_eq_true rfl) dX9_walk_19 ?_
    refine lv_if_eq (tgt := 32) hx hb dX9_walk_22 (by decide) (fun q4 => ?_) (fun q4 => ?_)
    · have hF := kp hF q4
      refine lv_iload_n hx hb dX9_walk_32 rfl (lv_at hl 2 rfl) ?_
      obtain ⟨r5, er5, hF⟩ := kb hF
      refine kRS (rest := []) C (k_Forms_isForm l E a2 r5 er5) fn_Forms_isForm mw_234 ⟨Nat.le_of_ble_eq_true rfl, Nat.le_of_ble_eq_true rfl⟩ hK hT hS hP [] rfl rfl rfl hl (Nat.le_of_ble_eq_true rfl) dX9_walk_33 ?_
      refine lv_if_ne (tgt := 46) hx hb dX9_walk_36 (by decide) (fun q6 => ?_) (fun q6 => ?_)
      · have hF := kn hF q6
        refine lv_aload_n hx hb dX9_walk_46 rfl (lv_at hl 0 rfl) ?_
        refine va_get (D := eD E) (ci := 7) (C := RX9) (T := TX9) (N := 9) (v := .ref h_t_sheets) hx hb hw inX9 hown hK hP 0 rfl rfl 5 (by decide) (hw _ mw_207) (fun _ h9 => h9) rfl dX9_walk_47 ?_
        refine lv_iload_n hx hb dX9_walk_50 rfl (lv_at hl 1 rfl) ?_
        refine lv_iload_n hx hb dX9_walk_51 rfl (lv_at hl 2 rfl) ?_
        obtain ⟨r7, er7, hF⟩ := kb hF
        refine kRV (rest := []) C (k_Sheets_walkOver l E h_t_sheets h_t_sheets_numbers h_t_sheets_sizes h_t_sheets_widths c_t_sheets_numbers c_t_sheets_sizes a1 a2 r7 er7) fn_Sheets_walkOver mw_838 ⟨Nat.le_of_ble_eq_true rfl, Nat.le_of_ble_eq_true rfl⟩ hK hT hS (va_recv hK hP (ci := 4) (q0 := 2) rfl rfl) hP [2, 3, 4] rfl rfl rfl hl (Nat.le_of_ble_eq_true rfl) dX9_walk_52 ?_
        obtain rfl := Option.some.inj hF
        exact W.iret hx hb hr (fun t ht hW => ⟨⟨rfl, by rw [ht]; exact hP, hD⟩, hS.F ht⟩) hS.2.2 dX9_walk_55
      · have hF := kp hF q6
        refine lv_aload_n hx hb dX9_walk_39 rfl (lv_at hl 0 rfl) ?_
        refine lv_ldc (v := (-1000000001 : Int32)) hx hb hown (hw _ mw_237) dX9_walk_40 ?_
        obtain ⟨r8, er8, hF⟩ := kb hF
        refine kWV (rest := []) (Wr := [(h_t_sheets, .inr (4, [.ref h_t_sheets_widths, .ref h_t_sheets_sizes, .ref h_t_sheets_numbers])), (h_t_sheets_numbers, .inl (eJ E, 160, .inr (.inl c_t_sheets_numbers))), (h_t_sheets_sizes, .inl (eI E, 4, .inl c_t_sheets_sizes)), (h_t_sheets_widths, .inl (eI E, 4, .inl c_t_sheets_widths))]) (Wn := (w_S_walk E h_t h_t_found h_t_sheets h_t_sheets_numbers h_t_sheets_sizes h_t_sheets_widths x_t_plain x_t_kept x_t_trial x_t_tape x_t_text x_t_choice c_t_isKept r8.2 c_t_sheets_numbers c_t_sheets_sizes c_t_sheets_widths)) C (k_S_finding l E h_t h_t_found x_t_plain x_t_kept x_t_trial x_t_tape x_t_text h_t_sheets x_t_choice s.heap.size c_t_isKept c_t_found (-1000000001 : Int32) r8 er8) fn_S_finding mw_238 ⟨Nat.le_of_ble_eq_true rfl, Nat.le_of_ble_eq_true rfl⟩ hK hT hS hA (va_recv hK hP (ci := 7) (q0 := 0) rfl rfl) hP hD [0, 1] rfl (by decide) [2, 3, 4, 5] rfl (by decide) (by decide) [4, 5, 0, 1, 2, 3] rfl (by decide) rfl rfl hl (Nat.le_of_ble_eq_true rfl) dX9_walk_42 (fun H locs hP hD hS => ?_)
        refine W.eq (g2 := F0 m 45 ls [.int r8.1]) rfl ?_
        obtain rfl := Option.some.inj hF
        exact W.iret hx hb hr (fun t ht hW => ⟨⟨rfl, by rw [ht]; exact hP, hD⟩, hS.F ht⟩) hS.2.2 dX9_walk_45
    · have hF := kn hF q4
      refine lv_aload_n hx hb dX9_walk_25 rfl (lv_at hl 0 rfl) ?_
      refine lv_ldc (v := (-1000000006 : Int32)) hx hb hown (hw _ mw_782) dX9_walk_26 ?_
      obtain ⟨r9, er9, hF⟩ := kb hF
      refine kWV (rest := []) (Wr := [(h_t_sheets, .inr (4, [.ref h_t_sheets_widths, .ref h_t_sheets_sizes, .ref h_t_sheets_numbers])), (h_t_sheets_numbers, .inl (eJ E, 160, .inr (.inl c_t_sheets_numbers))), (h_t_sheets_sizes, .inl (eI E, 4, .inl c_t_sheets_sizes)), (h_t_sheets_widths, .inl (eI E, 4, .inl c_t_sheets_widths))]) (Wn := (w_S_walk E h_t h_t_found h_t_sheets h_t_sheets_numbers h_t_sheets_sizes h_t_sheets_widths x_t_plain x_t_kept x_t_trial x_t_tape x_t_text x_t_choice c_t_isKept r9.2 c_t_sheets_numbers c_t_sheets_sizes c_t_sheets_widths)) C (k_S_finding l E h_t h_t_found x_t_plain x_t_kept x_t_trial x_t_tape x_t_text h_t_sheets x_t_choice s.heap.size c_t_isKept c_t_found (-1000000006 : Int32) r9 er9) fn_S_finding mw_238 ⟨Nat.le_of_ble_eq_true rfl, Nat.le_of_ble_eq_true rfl⟩ hK hT hS hA (va_recv hK hP (ci := 7) (q0 := 0) rfl rfl) hP hD [0, 1] rfl (by decide) [2, 3, 4, 5] rfl (by decide) (by decide) [4, 5, 0, 1, 2, 3] rfl (by decide) rfl rfl hl (Nat.le_of_ble_eq_true rfl) dX9_walk_28 (fun H locs hP hD hS => ?_)
      refine W.eq (g2 := F0 m 31 ls [.int r9.1]) rfl ?_
      obtain rfl := Option.some.inj hF
      exact W.iret hx hb hr (fun t ht hW => ⟨⟨rfl, by rw [ht]; exact hP, hD⟩, hS.F ht⟩) hS.2.2 dX9_walk_31
  · have hF := kp hF q2
    refine lv_aload_n hx hb dX9_walk_7 rfl (lv_at hl 0 rfl) ?_
    refine lv_ldc (v := (-1000000001 : Int32)) hx hb hown (hw _ mw_237) dX9_walk_8 ?_
    obtain ⟨r10, er10, hF⟩ := kb hF
    refine kWV (rest := []) (Wr := [(h_t_sheets, .inr (4, [.ref h_t_sheets_widths, .ref h_t_sheets_sizes, .ref h_t_sheets_numbers])), (h_t_sheets_numbers, .inl (eJ E, 160, .inr (.inl c_t_sheets_numbers))), (h_t_sheets_sizes, .inl (eI E, 4, .inl c_t_sheets_sizes)), (h_t_sheets_widths, .inl (eI E, 4, .inl c_t_sheets_widths))]) (Wn := (w_S_walk E h_t h_t_found h_t_sheets h_t_sheets_numbers h_t_sheets_sizes h_t_sheets_widths x_t_plain x_t_kept x_t_trial x_t_tape x_t_text x_t_choice c_t_isKept r10.2 c_t_sheets_numbers c_t_sheets_sizes c_t_sheets_widths)) C (k_S_finding l E h_t h_t_found x_t_plain x_t_kept x_t_trial x_t_tape x_t_text h_t_sheets x_t_choice s.heap.size c_t_isKept c_t_found (-1000000001 : Int32) r10 er10) fn_S_finding mw_238 ⟨Nat.le_of_ble_eq_true rfl, Nat.le_of_ble_eq_true rfl⟩ hK hT hS hA (va_recv hK hP (ci := 7) (q0 := 0) rfl rfl) hP hD [0, 1] rfl (by decide) [2, 3, 4, 5] rfl (by decide) (by decide) [4, 5, 0, 1, 2, 3] rfl (by decide) rfl rfl hl (Nat.le_of_ble_eq_true rfl) dX9_walk_10 (fun H locs hP hD hS => ?_)
    refine W.eq (g2 := F0 m 13 ls [.int r10.1]) rfl ?_
    obtain rfl := Option.some.inj hF
    exact W.iret hx hb hr (fun t ht hW => ⟨⟨rfl, by rw [ht]; exact hP, hD⟩, hS.F ht⟩) hS.2.2 dX9_walk_13
abbrev w_S_image (E : kE) (h_t : Nat) (h_t_kept : Nat) (h_t_kept_book : Nat) (h_t_kept_book_forms : Nat) (h_t_kept_deeps : Nat) (h_t_kept_forms : Nat) (h_t_kept_kinds : Nat) (h_t_plain : Nat) (h_t_plain_book : Nat) (h_t_plain_book_forms : Nat) (h_t_plain_deeps : Nat) (h_t_plain_forms : Nat) (h_t_plain_kinds : Nat) (x_t_trial : Nat) (x_t_tape : Nat) (x_t_text : Nat) (x_t_sheets : Nat) (x_t_choice : Nat) (x_t_found : Nat) (c_t_isKept : Int32) (c_t_kept_size : Int32) (c_t_kept_hour : Int32) (c_t_kept_sunny : Int32) (c_t_kept_book_forms : (Nat → Int32)) (c_t_kept_deeps : (Nat → Int32)) (c_t_kept_forms : (Nat → Int32)) (c_t_kept_kinds : (Nat → Int32)) (c_t_plain_size : Int32) (c_t_plain_hour : Int32) (c_t_plain_sunny : Int32) (c_t_plain_book_forms : (Nat → Int32)) (c_t_plain_deeps : (Nat → Int32)) (c_t_plain_forms : (Nat → Int32)) (c_t_plain_kinds : (Nat → Int32)) : va_W := [(h_t, .inr (7, [.ref h_t_plain, .ref h_t_kept, .ref x_t_trial, .ref x_t_tape, .ref x_t_text, .ref x_t_sheets, .ref x_t_choice, .ref x_t_found, .int c_t_isKept])), (h_t_kept, .inr (3, [.ref h_t_kept_book, .ref h_t_kept_kinds, .ref h_t_kept_forms, .ref h_t_kept_deeps, .int c_t_kept_size, .int c_t_kept_hour, .int c_t_kept_sunny])), (h_t_kept_book, .inr (0, [.ref h_t_kept_book_forms])), (h_t_kept_book_forms, .inl (eI E, 26, .inl c_t_kept_book_forms)), (h_t_kept_deeps, .inl (eI E, 12, .inl c_t_kept_deeps)), (h_t_kept_forms, .inl (eI E, 12, .inl c_t_kept_forms)), (h_t_kept_kinds, .inl (eI E, 12, .inl c_t_kept_kinds)), (h_t_plain, .inr (3, [.ref h_t_plain_book, .ref h_t_plain_kinds, .ref h_t_plain_forms, .ref h_t_plain_deeps, .int c_t_plain_size, .int c_t_plain_hour, .int c_t_plain_sunny])), (h_t_plain_book, .inr (0, [.ref h_t_plain_book_forms])), (h_t_plain_book_forms, .inl (eI E, 26, .inl c_t_plain_book_forms)), (h_t_plain_deeps, .inl (eI E, 12, .inl c_t_plain_deeps)), (h_t_plain_forms, .inl (eI E, 12, .inl c_t_plain_forms)), (h_t_plain_kinds, .inl (eI E, 12, .inl c_t_plain_kinds))]
set_option maxHeartbeats 4000000 in
set_option maxRecDepth 100000 in
theorem k_S_image (l : Launch) (E : kE) (h_t : Nat) (h_t_kept : Nat) (h_t_kept_book : Nat) (h_t_kept_book_forms : Nat) (h_t_kept_deeps : Nat) (h_t_kept_forms : Nat) (h_t_kept_kinds : Nat) (h_t_plain : Nat) (h_t_plain_book : Nat) (h_t_plain_book_forms : Nat) (h_t_plain_deeps : Nat) (h_t_plain_forms : Nat) (h_t_plain_kinds : Nat) (x_t_trial : Nat) (x_t_tape : Nat) (x_t_text : Nat) (x_t_sheets : Nat) (x_t_choice : Nat) (x_t_found : Nat) (sz : Nat) (c_t_isKept : Int32) (c_t_kept_size : Int32) (c_t_kept_hour : Int32) (c_t_kept_sunny : Int32) (c_t_kept_book_forms : (Nat → Int32)) (c_t_kept_deeps : (Nat → Int32)) (c_t_kept_forms : (Nat → Int32)) (c_t_kept_kinds : (Nat → Int32)) (c_t_plain_size : Int32) (c_t_plain_hour : Int32) (c_t_plain_sunny : Int32) (c_t_plain_book_forms : (Nat → Int32)) (c_t_plain_deeps : (Nat → Int32)) (c_t_plain_forms : (Nat → Int32)) (c_t_plain_kinds : (Nat → Int32))  (out : Int32 × Int32 × Int32 × Int32 × Int32 × (Nat → Int32) × (Nat → Int32) × (Nat → Int32) × (Nat → Int32)) (hF : f_S_image c_t_isKept c_t_kept_size c_t_kept_hour c_t_kept_sunny c_t_kept_book_forms c_t_kept_deeps c_t_kept_forms c_t_kept_kinds c_t_plain_size c_t_plain_hour c_t_plain_sunny c_t_plain_book_forms c_t_plain_deeps c_t_plain_forms c_t_plain_kinds  = some out) : Met l yX9_image (Cond.code yX9_image cX9_image 1 (some .int) :: wG) (rm 4) (pW E (w_S_image E h_t h_t_kept h_t_kept_book h_t_kept_book_forms h_t_kept_deeps h_t_kept_forms h_t_kept_kinds h_t_plain h_t_plain_book h_t_plain_book_forms h_t_plain_deeps h_t_plain_forms h_t_plain_kinds x_t_trial x_t_tape x_t_text x_t_sheets x_t_choice x_t_found c_t_isKept c_t_kept_size c_t_kept_hour c_t_kept_sunny c_t_kept_book_forms c_t_kept_deeps c_t_kept_forms c_t_kept_kinds c_t_plain_size c_t_plain_hour c_t_plain_sunny c_t_plain_book_forms c_t_plain_deeps c_t_plain_forms c_t_plain_kinds) sz [.ref h_t]) (qW (some (.int out.1)) E (w_S_image E h_t h_t_kept h_t_kept_book h_t_kept_book_forms h_t_kept_deeps h_t_kept_forms h_t_kept_kinds h_t_plain h_t_plain_book h_t_plain_book_forms h_t_plain_deeps h_t_plain_forms h_t_plain_kinds x_t_trial x_t_tape x_t_text x_t_sheets x_t_choice x_t_found out.2.1 out.2.2.1 out.2.2.2.1 out.2.2.2.2.1 out.2.2.2.2.2.1 out.2.2.2.2.2.2.1 out.2.2.2.2.2.2.2.1 out.2.2.2.2.2.2.2.2 c_t_plain_size c_t_plain_hour c_t_plain_sunny c_t_plain_book_forms c_t_plain_deeps c_t_plain_forms c_t_plain_kinds) (va_A (w_S_image E h_t h_t_kept h_t_kept_book h_t_kept_book_forms h_t_kept_deeps h_t_kept_forms h_t_kept_kinds h_t_plain h_t_plain_book h_t_plain_book_forms h_t_plain_deeps h_t_plain_forms h_t_plain_kinds x_t_trial x_t_tape x_t_text x_t_sheets x_t_choice x_t_found c_t_isKept c_t_kept_size c_t_kept_hour c_t_kept_sunny c_t_kept_book_forms c_t_kept_deeps c_t_kept_forms c_t_kept_kinds c_t_plain_size c_t_plain_hour c_t_plain_sunny c_t_plain_book_forms c_t_plain_deeps c_t_plain_forms c_t_plain_kinds) sz)) 0 0 (va_A (w_S_image E h_t h_t_kept h_t_kept_book h_t_kept_book_forms h_t_kept_deeps h_t_kept_forms h_t_kept_kinds h_t_plain h_t_plain_book h_t_plain_book_forms h_t_plain_deeps h_t_plain_forms h_t_plain_kinds x_t_trial x_t_tape x_t_text x_t_sheets x_t_choice x_t_found c_t_isKept c_t_kept_size c_t_kept_hour c_t_kept_sunny c_t_kept_book_forms c_t_kept_deeps c_t_kept_forms c_t_kept_kinds c_t_plain_size c_t_plain_hour c_t_plain_sunny c_t_plain_book_forms c_t_plain_deeps c_t_plain_forms c_t_plain_kinds) sz) := by
  refine met_W (by decide) (Nat.le_of_ble_eq_true rfl) ?_
  intro p e s m args below meth c A ls C hP hD hS hA hK hT hl
  obtain ⟨hx, hb, hr, hml, hown, hw, hlocks⟩ := id C
  have hl : lv_has ls 1 [(0, .ref h_t)] := hl
  rw [f_S_image] at hF
  refine lv_aload_n hx hb dX9_image_0 rfl (lv_at hl 0 rfl) ?_
  refine va_get (D := eD E) (ci := 7) (C := RX9) (T := TX9) (N := 9) (v := .ref h_t_kept) hx hb hw inX9 hown hK hP 0 rfl rfl 1 (by decide) (hw _ mw_203) (fun _ h9 => h9) rfl dX9_image_1 ?_
  refine lv_aload_n hx hb dX9_image_4 rfl (lv_at hl 0 rfl) ?_
  refine va_get (D := eD E) (ci := 7) (C := RX9) (T := TX9) (N := 9) (v := .ref h_t_plain) hx hb hw inX9 hown hK hP 0 rfl rfl 0 (by decide) (hw _ mw_202) (fun _ h9 => h9) rfl dX9_image_5 ?_
  obtain ⟨r1, er1, hF⟩ := kb hF
  refine kWV (rest := []) (Wr := [(h_t, .inr (7, [.ref h_t_plain, .ref h_t_kept, .ref x_t_trial, .ref x_t_tape, .ref x_t_text, .ref x_t_sheets, .ref x_t_choice, .ref x_t_found, .int c_t_isKept]))]) (Wn := (w_S_image E h_t h_t_kept h_t_kept_book h_t_kept_book_forms h_t_kept_deeps h_t_kept_forms h_t_kept_kinds h_t_plain h_t_plain_book h_t_plain_book_forms h_t_plain_deeps h_t_plain_forms h_t_plain_kinds x_t_trial x_t_tape x_t_text x_t_sheets x_t_choice x_t_found c_t_isKept r1.1 r1.2.1 r1.2.2.1 r1.2.2.2.1 r1.2.2.2.2.1 r1.2.2.2.2.2.1 r1.2.2.2.2.2.2 c_t_plain_size c_t_plain_hour c_t_plain_sunny c_t_plain_book_forms c_t_plain_deeps c_t_plain_forms c_t_plain_kinds)) C (k_Plain_become l E h_t_kept h_t_kept_book h_t_kept_book_forms h_t_kept_deeps h_t_kept_forms h_t_kept_kinds h_t_plain h_t_plain_book h_t_plain_book_forms h_t_plain_deeps h_t_plain_forms h_t_plain_kinds s.heap.size c_t_kept_size c_t_kept_hour c_t_kept_sunny c_t_kept_book_forms c_t_kept_deeps c_t_kept_forms c_t_kept_kinds c_t_plain_size c_t_plain_hour c_t_plain_sunny c_t_plain_book_forms c_t_plain_deeps c_t_plain_forms c_t_plain_kinds r1 er1) fn_Plain_become mw_608 ⟨Nat.le_of_ble_eq_true rfl, Nat.le_of_ble_eq_true rfl⟩ hK hT hS hA (va_recv hK hP (ci := 3) (q0 := 1) rfl rfl) hP hD [1, 2, 3, 4, 5, 6, 7, 8, 9, 10, 11, 12] rfl (by decide) [0] rfl (by decide) (by decide) [0, 1, 2, 3, 4, 5, 6, 7, 8, 9, 10, 11, 12] rfl (by decide) rfl rfl hl (Nat.le_of_ble_eq_true rfl) dX9_image_8 (fun H locs hP hD hS => ?_)
  refine W.eq (g2 := F0 m 11 ls []) rfl ?_
  refine lv_aload_n hx hb dX9_image_11 rfl (lv_at hl 0 rfl) ?_
  refine lv_iconst (v := (1 : Int32)) hx hb dX9_image_12 (by decide) ?_
  refine va_put (D := eD E) (ci := 7) (v := .int (1 : Int32)) (ty := .boolean) (C := RX9) (T := TX9) (N := 9) hx hb hw inX9 tyX9 tyX9_ok nmX9 hown hK hP hD hS 0 rfl rfl 8 (by decide) (hw _ mw_210) (fun _ h9 => h9) rfl (by decide +kernel) rfl rfl (Nat.le_of_ble_eq_true rfl) dX9_image_13 (fun H locs hP hD hS => ?_)
  have hP : va_P (eD E) vwCl (w_S_image E h_t h_t_kept h_t_kept_book h_t_kept_book_forms h_t_kept_deeps h_t_kept_forms h_t_kept_kinds h_t_plain h_t_plain_book h_t_plain_book_forms h_t_plain_deeps h_t_plain_forms h_t_plain_kinds x_t_trial x_t_tape x_t_text x_t_sheets x_t_choice x_t_found (1 : Int32) r1.1 r1.2.1 r1.2.2.1 r1.2.2.2.1 r1.2.2.2.2.1 r1.2.2.2.2.2.1 r1.2.2.2.2.2.2 c_t_plain_size c_t_plain_hour c_t_plain_sunny c_t_plain_book_forms c_t_plain_deeps c_t_plain_forms c_t_plain_kinds) H := hP
  have hD : va_D A (w_S_image E h_t h_t_kept h_t_kept_book h_t_kept_book_forms h_t_kept_deeps h_t_kept_forms h_t_kept_kinds h_t_plain h_t_plain_book h_t_plain_book_forms h_t_plain_deeps h_t_plain_forms h_t_plain_kinds x_t_trial x_t_tape x_t_text x_t_sheets x_t_choice x_t_found (1 : Int32) r1.1 r1.2.1 r1.2.2.1 r1.2.2.2.1 r1.2.2.2.2.1 r1.2.2.2.2.2.1 r1.2.2.2.2.2.2 c_t_plain_size c_t_plain_hour c_t_plain_sunny c_t_plain_book_forms c_t_plain_deeps c_t_plain_forms c_t_plain_kinds) := hD
  refine lv_iconst (v := (1 : Int32)) hx hb dX9_image_16 (by decide) ?_
  obtain rfl := Option.some.inj hF
  exact W.iret hx hb hr (fun t ht hW => ⟨⟨rfl, by rw [ht]; exact hP, hD⟩, hS.F ht⟩) hS.2.2 dX9_image_17
abbrev w_S_undo (E : kE) (h_t : Nat) (h_t_found : Nat) (h_t_kept : Nat) (h_t_kept_book : Nat) (h_t_kept_book_forms : Nat) (h_t_kept_deeps : Nat) (h_t_kept_forms : Nat) (h_t_kept_kinds : Nat) (h_t_plain : Nat) (h_t_plain_book : Nat) (h_t_plain_book_forms : Nat) (h_t_plain_deeps : Nat) (h_t_plain_forms : Nat) (h_t_plain_kinds : Nat) (x_t_trial : Nat) (x_t_tape : Nat) (x_t_text : Nat) (x_t_sheets : Nat) (x_t_choice : Nat) (c_t_isKept : Int32) (c_t_found : (Nat → Int32)) (c_t_kept_size : Int32) (c_t_kept_hour : Int32) (c_t_kept_sunny : Int32) (c_t_kept_book_forms : (Nat → Int32)) (c_t_kept_deeps : (Nat → Int32)) (c_t_kept_forms : (Nat → Int32)) (c_t_kept_kinds : (Nat → Int32)) (c_t_plain_size : Int32) (c_t_plain_hour : Int32) (c_t_plain_sunny : Int32) (c_t_plain_book_forms : (Nat → Int32)) (c_t_plain_deeps : (Nat → Int32)) (c_t_plain_forms : (Nat → Int32)) (c_t_plain_kinds : (Nat → Int32)) : va_W := [(h_t, .inr (7, [.ref h_t_plain, .ref h_t_kept, .ref x_t_trial, .ref x_t_tape, .ref x_t_text, .ref x_t_sheets, .ref x_t_choice, .ref h_t_found, .int c_t_isKept])), (h_t_found, .inl (eI E, 7, .inl c_t_found)), (h_t_kept, .inr (3, [.ref h_t_kept_book, .ref h_t_kept_kinds, .ref h_t_kept_forms, .ref h_t_kept_deeps, .int c_t_kept_size, .int c_t_kept_hour, .int c_t_kept_sunny])), (h_t_kept_book, .inr (0, [.ref h_t_kept_book_forms])), (h_t_kept_book_forms, .inl (eI E, 26, .inl c_t_kept_book_forms)), (h_t_kept_deeps, .inl (eI E, 12, .inl c_t_kept_deeps)), (h_t_kept_forms, .inl (eI E, 12, .inl c_t_kept_forms)), (h_t_kept_kinds, .inl (eI E, 12, .inl c_t_kept_kinds)), (h_t_plain, .inr (3, [.ref h_t_plain_book, .ref h_t_plain_kinds, .ref h_t_plain_forms, .ref h_t_plain_deeps, .int c_t_plain_size, .int c_t_plain_hour, .int c_t_plain_sunny])), (h_t_plain_book, .inr (0, [.ref h_t_plain_book_forms])), (h_t_plain_book_forms, .inl (eI E, 26, .inl c_t_plain_book_forms)), (h_t_plain_deeps, .inl (eI E, 12, .inl c_t_plain_deeps)), (h_t_plain_forms, .inl (eI E, 12, .inl c_t_plain_forms)), (h_t_plain_kinds, .inl (eI E, 12, .inl c_t_plain_kinds))]
set_option maxHeartbeats 4000000 in
set_option maxRecDepth 100000 in
theorem k_S_undo (l : Launch) (E : kE) (h_t : Nat) (h_t_found : Nat) (h_t_kept : Nat) (h_t_kept_book : Nat) (h_t_kept_book_forms : Nat) (h_t_kept_deeps : Nat) (h_t_kept_forms : Nat) (h_t_kept_kinds : Nat) (h_t_plain : Nat) (h_t_plain_book : Nat) (h_t_plain_book_forms : Nat) (h_t_plain_deeps : Nat) (h_t_plain_forms : Nat) (h_t_plain_kinds : Nat) (x_t_trial : Nat) (x_t_tape : Nat) (x_t_text : Nat) (x_t_sheets : Nat) (x_t_choice : Nat) (sz : Nat) (c_t_isKept : Int32) (c_t_found : (Nat → Int32)) (c_t_kept_size : Int32) (c_t_kept_hour : Int32) (c_t_kept_sunny : Int32) (c_t_kept_book_forms : (Nat → Int32)) (c_t_kept_deeps : (Nat → Int32)) (c_t_kept_forms : (Nat → Int32)) (c_t_kept_kinds : (Nat → Int32)) (c_t_plain_size : Int32) (c_t_plain_hour : Int32) (c_t_plain_sunny : Int32) (c_t_plain_book_forms : (Nat → Int32)) (c_t_plain_deeps : (Nat → Int32)) (c_t_plain_forms : (Nat → Int32)) (c_t_plain_kinds : (Nat → Int32))  (out : Int32 × (Nat → Int32) × Int32 × Int32 × Int32 × (Nat → Int32) × (Nat → Int32) × (Nat → Int32) × (Nat → Int32)) (hF : f_S_undo c_t_isKept c_t_found c_t_kept_size c_t_kept_hour c_t_kept_sunny c_t_kept_book_forms c_t_kept_deeps c_t_kept_forms c_t_kept_kinds c_t_plain_size c_t_plain_hour c_t_plain_sunny c_t_plain_book_forms c_t_plain_deeps c_t_plain_forms c_t_plain_kinds  = some out) : Met l yX9_undo (Cond.code yX9_undo cX9_undo 1 (some .int) :: wG) (rm 4) (pW E (w_S_undo E h_t h_t_found h_t_kept h_t_kept_book h_t_kept_book_forms h_t_kept_deeps h_t_kept_forms h_t_kept_kinds h_t_plain h_t_plain_book h_t_plain_book_forms h_t_plain_deeps h_t_plain_forms h_t_plain_kinds x_t_trial x_t_tape x_t_text x_t_sheets x_t_choice c_t_isKept c_t_found c_t_kept_size c_t_kept_hour c_t_kept_sunny c_t_kept_book_forms c_t_kept_deeps c_t_kept_forms c_t_kept_kinds c_t_plain_size c_t_plain_hour c_t_plain_sunny c_t_plain_book_forms c_t_plain_deeps c_t_plain_forms c_t_plain_kinds) sz [.ref h_t]) (qW (some (.int out.1)) E (w_S_undo E h_t h_t_found h_t_kept h_t_kept_book h_t_kept_book_forms h_t_kept_deeps h_t_kept_forms h_t_kept_kinds h_t_plain h_t_plain_book h_t_plain_book_forms h_t_plain_deeps h_t_plain_forms h_t_plain_kinds x_t_trial x_t_tape x_t_text x_t_sheets x_t_choice c_t_isKept out.2.1 c_t_kept_size c_t_kept_hour c_t_kept_sunny c_t_kept_book_forms c_t_kept_deeps c_t_kept_forms c_t_kept_kinds out.2.2.1 out.2.2.2.1 out.2.2.2.2.1 out.2.2.2.2.2.1 out.2.2.2.2.2.2.1 out.2.2.2.2.2.2.2.1 out.2.2.2.2.2.2.2.2) (va_A (w_S_undo E h_t h_t_found h_t_kept h_t_kept_book h_t_kept_book_forms h_t_kept_deeps h_t_kept_forms h_t_kept_kinds h_t_plain h_t_plain_book h_t_plain_book_forms h_t_plain_deeps h_t_plain_forms h_t_plain_kinds x_t_trial x_t_tape x_t_text x_t_sheets x_t_choice c_t_isKept c_t_found c_t_kept_size c_t_kept_hour c_t_kept_sunny c_t_kept_book_forms c_t_kept_deeps c_t_kept_forms c_t_kept_kinds c_t_plain_size c_t_plain_hour c_t_plain_sunny c_t_plain_book_forms c_t_plain_deeps c_t_plain_forms c_t_plain_kinds) sz)) 0 0 (va_A (w_S_undo E h_t h_t_found h_t_kept h_t_kept_book h_t_kept_book_forms h_t_kept_deeps h_t_kept_forms h_t_kept_kinds h_t_plain h_t_plain_book h_t_plain_book_forms h_t_plain_deeps h_t_plain_forms h_t_plain_kinds x_t_trial x_t_tape x_t_text x_t_sheets x_t_choice c_t_isKept c_t_found c_t_kept_size c_t_kept_hour c_t_kept_sunny c_t_kept_book_forms c_t_kept_deeps c_t_kept_forms c_t_kept_kinds c_t_plain_size c_t_plain_hour c_t_plain_sunny c_t_plain_book_forms c_t_plain_deeps c_t_plain_forms c_t_plain_kinds) sz) := by
  refine met_W (by decide) (Nat.le_of_ble_eq_true rfl) ?_
  intro p e s m args below meth c A ls C hP hD hS hA hK hT hl
  obtain ⟨hx, hb, hr, hml, hown, hw, hlocks⟩ := id C
  have hl : lv_has ls 1 [(0, .ref h_t)] := hl
  rw [f_S_undo] at hF
  refine lv_aload_n hx hb dX9_undo_0 rfl (lv_at hl 0 rfl) ?_
  refine va_get (D := eD E) (ci := 7) (C := RX9) (T := TX9) (N := 9) (v := .int c_t_isKept) hx hb hw inX9 hown hK hP 0 rfl rfl 8 (by decide) (hw _ mw_210) (fun _ h9 => h9) rfl dX9_undo_1 ?_
  refine lv_if_ne (tgt := 14) hx hb dX9_undo_4 (by decide) (fun q1 => ?_) (fun q1 => ?_)
  · have hF := kn hF q1
    refine lv_aload_n hx hb dX9_undo_14 rfl (lv_at hl 0 rfl) ?_
    refine va_get (D := eD E) (ci := 7) (C := RX9) (T := TX9) (N := 9) (v := .ref h_t_plain) hx hb hw inX9 hown hK hP 0 rfl rfl 0 (by decide) (hw _ mw_202) (fun _ h9 => h9) rfl dX9_undo_15 ?_
    refine lv_aload_n hx hb dX9_undo_18 rfl (lv_at hl 0 rfl) ?_
    refine va_get (D := eD E) (ci := 7) (C := RX9) (T := TX9) (N := 9) (v := .ref h_t_kept) hx hb hw inX9 hown hK hP 0 rfl rfl 1 (by decide) (hw _ mw_203) (fun _ h9 => h9) rfl dX9_undo_19 ?_
    obtain ⟨r2, er2, hF⟩ := kb hF
    refine kWV (rest := []) (Wr := [(h_t, .inr (7, [.ref h_t_plain, .ref h_t_kept, .ref x_t_trial, .ref x_t_tape, .ref x_t_text, .ref x_t_sheets, .ref x_t_choice, .ref h_t_found, .int c_t_isKept])), (h_t_found, .inl (eI E, 7, .inl c_t_found))]) (Wn := (w_S_undo E h_t h_t_found h_t_kept h_t_kept_book h_t_kept_book_forms h_t_kept_deeps h_t_kept_forms h_t_kept_kinds h_t_plain h_t_plain_book h_t_plain_book_forms h_t_plain_deeps h_t_plain_forms h_t_plain_kinds x_t_trial x_t_tape x_t_text x_t_sheets x_t_choice c_t_isKept c_t_found c_t_kept_size c_t_kept_hour c_t_kept_sunny c_t_kept_book_forms c_t_kept_deeps c_t_kept_forms c_t_kept_kinds r2.1 r2.2.1 r2.2.2.1 r2.2.2.2.1 r2.2.2.2.2.1 r2.2.2.2.2.2.1 r2.2.2.2.2.2.2)) C (k_Plain_become l E h_t_plain h_t_plain_book h_t_plain_book_forms h_t_plain_deeps h_t_plain_forms h_t_plain_kinds h_t_kept h_t_kept_book h_t_kept_book_forms h_t_kept_deeps h_t_kept_forms h_t_kept_kinds s.heap.size c_t_plain_size c_t_plain_hour c_t_plain_sunny c_t_plain_book_forms c_t_plain_deeps c_t_plain_forms c_t_plain_kinds c_t_kept_size c_t_kept_hour c_t_kept_sunny c_t_kept_book_forms c_t_kept_deeps c_t_kept_forms c_t_kept_kinds r2 er2) fn_Plain_become mw_608 ⟨Nat.le_of_ble_eq_true rfl, Nat.le_of_ble_eq_true rfl⟩ hK hT hS hA (va_recv hK hP (ci := 3) (q0 := 8) rfl rfl) hP hD [8, 9, 10, 11, 12, 13, 2, 3, 4, 5, 6, 7] rfl (by decide) [0, 1] rfl (by decide) (by decide) [0, 1, 8, 9, 10, 11, 12, 13, 2, 3, 4, 5, 6, 7] rfl (by decide) rfl rfl hl (Nat.le_of_ble_eq_true rfl) dX9_undo_22 (fun H locs hP hD hS => ?_)
    refine W.eq (g2 := F0 m 25 ls []) rfl ?_
    refine lv_aload_n hx hb dX9_undo_25 rfl (lv_at hl 0 rfl) ?_
    refine va_get (D := eD E) (ci := 7) (C := RX9) (T := TX9) (N := 9) (v := .ref h_t_plain) hx hb hw inX9 hown hK hP 0 rfl rfl 0 (by decide) (hw _ mw_202) (fun _ h9 => h9) rfl dX9_undo_26 ?_
    refine va_getN (D := eD E) (ci := 3) (C := RX5) (T := TX5) (N := 7) (v := .int r2.1) hx hb hw inX5 hown hK hP 8 rfl rfl 4 (by decide) ((sF_6 hT).use rfl) (fun _ h9 => h9) rfl dX9_undo_29 ?_
    obtain rfl := Option.some.inj hF
    exact W.iret hx hb hr (fun t ht hW => ⟨⟨rfl, by rw [ht]; exact hP, hD⟩, hS.F ht⟩) hS.2.2 dX9_undo_32
  · have hF := kp hF q1
    refine lv_aload_n hx hb dX9_undo_7 rfl (lv_at hl 0 rfl) ?_
    refine lv_ldc (v := (-1000000004 : Int32)) hx hb hown (hw _ mw_325) dX9_undo_8 ?_
    obtain ⟨r3, er3, hF⟩ := kb hF
    refine kWV (rest := []) (Wr := [(h_t_kept, .inr (3, [.ref h_t_kept_book, .ref h_t_kept_kinds, .ref h_t_kept_forms, .ref h_t_kept_deeps, .int c_t_kept_size, .int c_t_kept_hour, .int c_t_kept_sunny])), (h_t_kept_book, .inr (0, [.ref h_t_kept_book_forms])), (h_t_kept_book_forms, .inl (eI E, 26, .inl c_t_kept_book_forms)), (h_t_kept_deeps, .inl (eI E, 12, .inl c_t_kept_deeps)), (h_t_kept_forms, .inl (eI E, 12, .inl c_t_kept_forms)), (h_t_kept_kinds, .inl (eI E, 12, .inl c_t_kept_kinds)), (h_t_plain, .inr (3, [.ref h_t_plain_book, .ref h_t_plain_kinds, .ref h_t_plain_forms, .ref h_t_plain_deeps, .int c_t_plain_size, .int c_t_plain_hour, .int c_t_plain_sunny])), (h_t_plain_book, .inr (0, [.ref h_t_plain_book_forms])), (h_t_plain_book_forms, .inl (eI E, 26, .inl c_t_plain_book_forms)), (h_t_plain_deeps, .inl (eI E, 12, .inl c_t_plain_deeps)), (h_t_plain_forms, .inl (eI E, 12, .inl c_t_plain_forms)), (h_t_plain_kinds, .inl (eI E, 12, .inl c_t_plain_kinds))]) (Wn := (w_S_undo E h_t h_t_found h_t_kept h_t_kept_book h_t_kept_book_forms h_t_kept_deeps h_t_kept_forms h_t_kept_kinds h_t_plain h_t_plain_book h_t_plain_book_forms h_t_plain_deeps h_t_plain_forms h_t_plain_kinds x_t_trial x_t_tape x_t_text x_t_sheets x_t_choice c_t_isKept r3.2 c_t_kept_size c_t_kept_hour c_t_kept_sunny c_t_kept_book_forms c_t_kept_deeps c_t_kept_forms c_t_kept_kinds c_t_plain_size c_t_plain_hour c_t_plain_sunny c_t_plain_book_forms c_t_plain_deeps c_t_plain_forms c_t_plain_kinds)) C (k_S_finding l E h_t h_t_found h_t_plain h_t_kept x_t_trial x_t_tape x_t_text x_t_sheets x_t_choice s.heap.size c_t_isKept c_t_found (-1000000004 : Int32) r3 er3) fn_S_finding mw_238 ⟨Nat.le_of_ble_eq_true rfl, Nat.le_of_ble_eq_true rfl⟩ hK hT hS hA (va_recv hK hP (ci := 7) (q0 := 0) rfl rfl) hP hD [0, 1] rfl (by decide) [2, 3, 4, 5, 6, 7, 8, 9, 10, 11, 12, 13] rfl (by decide) (by decide) [12, 13, 0, 1, 2, 3, 4, 5, 6, 7, 8, 9, 10, 11] rfl (by decide) rfl rfl hl (Nat.le_of_ble_eq_true rfl) dX9_undo_10 (fun H locs hP hD hS => ?_)
    refine W.eq (g2 := F0 m 13 ls [.int r3.1]) rfl ?_
    obtain rfl := Option.some.inj hF
    exact W.iret hx hb hr (fun t ht hW => ⟨⟨rfl, by rw [ht]; exact hP, hD⟩, hS.F ht⟩) hS.2.2 dX9_undo_13
abbrev w_S_tear (E : kE) (h_t : Nat) (x_t_plain : Nat) (x_t_kept : Nat) (x_t_trial : Nat) (x_t_tape : Nat) (x_t_text : Nat) (x_t_sheets : Nat) (x_t_choice : Nat) (x_t_found : Nat) (c_t_isKept : Int32) : va_W := [(h_t, .inr (7, [.ref x_t_plain, .ref x_t_kept, .ref x_t_trial, .ref x_t_tape, .ref x_t_text, .ref x_t_sheets, .ref x_t_choice, .ref x_t_found, .int c_t_isKept]))]
set_option maxHeartbeats 4000000 in
set_option maxRecDepth 100000 in
theorem wk_S_tear_b12 {p : Program} {l : Launch} {e : Env} {s : State} {m : MethodId} {args : Array Value} {below : List Frame} {meth : Method} {c : Code} {A : Nat → Prop} (E : kE) (h_t : Nat) (x_t_plain : Nat) (x_t_kept : Nat) (x_t_trial : Nat) (x_t_tape : Nat) (x_t_text : Nat) (x_t_sheets : Nat) (x_t_choice : Nat) (x_t_found : Nat)   {out : Int32 × Int32} (C : kC RX9 cX9_tear 2 (some .int) p s m args meth c) (hA : ∀ q : Nat, s.heap.size ≤ q → A q) (hK : va_K (eD E) vwCl (eT E) s) (hT : sT E A s s.heap)  :
    ∀ (c_t_isKept : Int32) (s0 : Int32), f_S_tear_b12   c_t_isKept s0 = some out → ∀ (H : Heap) (locs : List Loc), va_P (eD E) vwCl (w_S_tear E h_t x_t_plain x_t_kept x_t_trial x_t_tape x_t_text x_t_sheets x_t_choice x_t_found c_t_isKept) H → va_D A (w_S_tear E h_t x_t_plain x_t_kept x_t_trial x_t_tape x_t_text x_t_sheets x_t_choice x_t_found c_t_isKept) → va_S A s.heap H locs → ∀ (ls : Array Slot), lv_has ls 2 [(0, .ref h_t)] → W p l e (rm 1) s m args below meth c H locs 0 0 (MQ below (qW (some (.int out.1)) E (w_S_tear E h_t x_t_plain x_t_kept x_t_trial x_t_tape x_t_text x_t_sheets x_t_choice x_t_found out.2) A) args s 0 0 A) (F0 m 12 ls [.int s0]) := by
  obtain ⟨hx, hb, hr, hml, hown, hw, hlocks⟩ := id C
  intro c_t_isKept s0 hF H locs hP hD hS ls hl
  rw [f_S_tear_b12] at hF
  refine lv_istore_n (lv' := [(1, .int s0), (0, .ref h_t)]) hx hb dX9_tear_12 rfl hl (by decide) rfl (fun ls hl => ?_)
  refine lv_aload_n hx hb dX9_tear_13 rfl (lv_at hl 1 rfl) ?_
  refine lv_iconst (v := (0 : Int32)) hx hb dX9_tear_14 (by decide) ?_
  refine va_put (D := eD E) (ci := 7) (v := .int (0 : Int32)) (ty := .boolean) (C := RX9) (T := TX9) (N := 9) hx hb hw inX9 tyX9 tyX9_ok nmX9 hown hK hP hD hS 0 rfl rfl 8 (by decide) (hw _ mw_210) (fun _ h9 => h9) rfl (by decide +kernel) rfl rfl (Nat.le_of_ble_eq_true rfl) dX9_tear_15 (fun H locs hP hD hS => ?_)
  have hP : va_P (eD E) vwCl (w_S_tear E h_t x_t_plain x_t_kept x_t_trial x_t_tape x_t_text x_t_sheets x_t_choice x_t_found (0 : Int32)) H := hP
  have hD : va_D A (w_S_tear E h_t x_t_plain x_t_kept x_t_trial x_t_tape x_t_text x_t_sheets x_t_choice x_t_found (0 : Int32)) := hD
  refine lv_iload_n hx hb dX9_tear_18 rfl (lv_at hl 0 rfl) ?_
  obtain rfl := Option.some.inj hF
  exact W.iret hx hb hr (fun t ht hW => ⟨⟨rfl, by rw [ht]; exact hP, hD⟩, hS.F ht⟩) hS.2.2 dX9_tear_19
set_option maxHeartbeats 4000000 in
set_option maxRecDepth 100000 in
theorem k_S_tear (l : Launch) (E : kE) (h_t : Nat) (x_t_plain : Nat) (x_t_kept : Nat) (x_t_trial : Nat) (x_t_tape : Nat) (x_t_text : Nat) (x_t_sheets : Nat) (x_t_choice : Nat) (x_t_found : Nat) (sz : Nat) (c_t_isKept : Int32)  (out : Int32 × Int32) (hF : f_S_tear c_t_isKept  = some out) : Met l yX9_tear (Cond.code yX9_tear cX9_tear 2 (some .int) :: wG) (rm 1) (pW E (w_S_tear E h_t x_t_plain x_t_kept x_t_trial x_t_tape x_t_text x_t_sheets x_t_choice x_t_found c_t_isKept) sz [.ref h_t]) (qW (some (.int out.1)) E (w_S_tear E h_t x_t_plain x_t_kept x_t_trial x_t_tape x_t_text x_t_sheets x_t_choice x_t_found out.2) (va_A (w_S_tear E h_t x_t_plain x_t_kept x_t_trial x_t_tape x_t_text x_t_sheets x_t_choice x_t_found c_t_isKept) sz)) 0 0 (va_A (w_S_tear E h_t x_t_plain x_t_kept x_t_trial x_t_tape x_t_text x_t_sheets x_t_choice x_t_found c_t_isKept) sz) := by
  refine met_W (by decide) (Nat.le_of_ble_eq_true rfl) ?_
  intro p e s m args below meth c A ls C hP hD hS hA hK hT hl
  obtain ⟨hx, hb, hr, hml, hown, hw, hlocks⟩ := id C
  have hl : lv_has ls 2 [(0, .ref h_t)] := hl
  rw [f_S_tear] at hF
  refine lv_aload_n hx hb dX9_tear_0 rfl (lv_at hl 0 rfl) ?_
  refine va_get (D := eD E) (ci := 7) (C := RX9) (T := TX9) (N := 9) (v := .int c_t_isKept) hx hb hw inX9 hown hK hP 0 rfl rfl 8 (by decide) (hw _ mw_210) (fun _ h9 => h9) rfl dX9_tear_1 ?_
  refine lv_if_eq (tgt := 11) hx hb dX9_tear_4 (by decide) (fun q1 => ?_) (fun q1 => ?_)
  · have hF := kp hF q1
    refine lv_iconst (v := (0 : Int32)) hx hb dX9_tear_11 (by decide) ?_
    exact wk_S_tear_b12 E h_t x_t_plain x_t_kept x_t_trial x_t_tape x_t_text x_t_sheets x_t_choice x_t_found  C hA  hK hT  c_t_isKept (0 : Int32) hF _ _ hP hD hS _ (lv_sub hl [0] rfl)
  · have hF := kn hF q1
    refine lv_iconst (v := (1 : Int32)) hx hb dX9_tear_7 (by decide) ?_
    refine lv_goto (tgt := 12) hx hb dX9_tear_8 (by decide) ?_
    exact wk_S_tear_b12 E h_t x_t_plain x_t_kept x_t_trial x_t_tape x_t_text x_t_sheets x_t_choice x_t_found  C hA  hK hT  c_t_isKept (1 : Int32) hF _ _ hP hD hS _ (lv_sub hl [0] rfl)
abbrev w_S_count (E : kE) (h_t : Nat) (h_t_found : Nat) (h_t_plain : Nat) (h_t_plain_book : Nat) (h_t_plain_book_forms : Nat) (h_t_plain_forms : Nat) (h_t_tape : Nat) (x_t_kept : Nat) (x_t_trial : Nat) (x_t_text : Nat) (x_t_sheets : Nat) (x_t_choice : Nat) (x_t_plain_kinds : Nat) (x_t_plain_deeps : Nat) (x_t_tape_bytes : Nat) (c_t_isKept : Int32) (c_t_found : (Nat → Int32)) (c_t_plain_size : Int32) (c_t_plain_hour : Int32) (c_t_plain_sunny : Int32) (c_t_plain_book_forms : (Nat → Int32)) (c_t_plain_forms : (Nat → Int32)) (c_t_tape_length : Int32) : va_W := [(h_t, .inr (7, [.ref h_t_plain, .ref x_t_kept, .ref x_t_trial, .ref h_t_tape, .ref x_t_text, .ref x_t_sheets, .ref x_t_choice, .ref h_t_found, .int c_t_isKept])), (h_t_found, .inl (eI E, 7, .inl c_t_found)), (h_t_plain, .inr (3, [.ref h_t_plain_book, .ref x_t_plain_kinds, .ref h_t_plain_forms, .ref x_t_plain_deeps, .int c_t_plain_size, .int c_t_plain_hour, .int c_t_plain_sunny])), (h_t_plain_book, .inr (0, [.ref h_t_plain_book_forms])), (h_t_plain_book_forms, .inl (eI E, 26, .inl c_t_plain_book_forms)), (h_t_plain_forms, .inl (eI E, 12, .inl c_t_plain_forms)), (h_t_tape, .inr (5, [.ref x_t_tape_bytes, .int c_t_tape_length]))]
set_option maxHeartbeats 4000000 in
set_option maxRecDepth 100000 in
theorem k_S_count (l : Launch) (E : kE) (h_t : Nat) (h_t_found : Nat) (h_t_plain : Nat) (h_t_plain_book : Nat) (h_t_plain_book_forms : Nat) (h_t_plain_forms : Nat) (h_t_tape : Nat) (x_t_kept : Nat) (x_t_trial : Nat) (x_t_text : Nat) (x_t_sheets : Nat) (x_t_choice : Nat) (x_t_plain_kinds : Nat) (x_t_plain_deeps : Nat) (x_t_tape_bytes : Nat) (sz : Nat) (c_t_isKept : Int32) (c_t_found : (Nat → Int32)) (c_t_plain_size : Int32) (c_t_plain_hour : Int32) (c_t_plain_sunny : Int32) (c_t_plain_book_forms : (Nat → Int32)) (c_t_plain_forms : (Nat → Int32)) (c_t_tape_length : Int32) (a1 : Int32) (out : Int32 × (Nat → Int32)) (hF : f_S_count c_t_found c_t_plain_size c_t_plain_book_forms c_t_plain_forms c_t_tape_length a1 = some out) : Met l yX9_count (Cond.code yX9_count cX9_count 2 (some .int) :: wG) (rm 3) (pW E (w_S_count E h_t h_t_found h_t_plain h_t_plain_book h_t_plain_book_forms h_t_plain_forms h_t_tape x_t_kept x_t_trial x_t_text x_t_sheets x_t_choice x_t_plain_kinds x_t_plain_deeps x_t_tape_bytes c_t_isKept c_t_found c_t_plain_size c_t_plain_hour c_t_plain_sunny c_t_plain_book_forms c_t_plain_forms c_t_tape_length) sz [.ref h_t, .int a1]) (qW (some (.int out.1)) E (w_S_count E h_t h_t_found h_t_plain h_t_plain_book h_t_plain_book_forms h_t_plain_forms h_t_tape x_t_kept x_t_trial x_t_text x_t_sheets x_t_choice x_t_plain_kinds x_t_plain_deeps x_t_tape_bytes c_t_isKept out.2 c_t_plain_size c_t_plain_hour c_t_plain_sunny c_t_plain_book_forms c_t_plain_forms c_t_tape_length) (va_A (w_S_count E h_t h_t_found h_t_plain h_t_plain_book h_t_plain_book_forms h_t_plain_forms h_t_tape x_t_kept x_t_trial x_t_text x_t_sheets x_t_choice x_t_plain_kinds x_t_plain_deeps x_t_tape_bytes c_t_isKept c_t_found c_t_plain_size c_t_plain_hour c_t_plain_sunny c_t_plain_book_forms c_t_plain_forms c_t_tape_length) sz)) 0 0 (va_A (w_S_count E h_t h_t_found h_t_plain h_t_plain_book h_t_plain_book_forms h_t_plain_forms h_t_tape x_t_kept x_t_trial x_t_text x_t_sheets x_t_choice x_t_plain_kinds x_t_plain_deeps x_t_tape_bytes c_t_isKept c_t_found c_t_plain_size c_t_plain_hour c_t_plain_sunny c_t_plain_book_forms c_t_plain_forms c_t_tape_length) sz) := by
  refine met_W (by decide) (Nat.le_of_ble_eq_true rfl) ?_
  intro p e s m args below meth c A ls C hP hD hS hA hK hT hl
  obtain ⟨hx, hb, hr, hml, hown, hw, hlocks⟩ := id C
  have hl : lv_has ls 2 [(0, .ref h_t), (1, .int a1)] := hl
  rw [f_S_count] at hF
  refine lv_iload_n hx hb dX9_count_0 rfl (lv_at hl 1 rfl) ?_
  by_cases q1_0 : a1 = (0 : Int32)
  · have hF := kp hF q1_0
    refine lv_tableIn (tgt := 32) (off := 31) hx hb dX9_count_1 (sw_in (lo := 0) (hi := 3) q1_0 (by decide)).1 (sw_in (lo := 0) (hi := 3) q1_0 (by decide)).2 (sw_at q1_0 rfl) (by decide) ?_
    refine lv_aload_n hx hb dX9_count_32 rfl (lv_at hl 0 rfl) ?_
    refine va_get (D := eD E) (ci := 7) (C := RX9) (T := TX9) (N := 9) (v := .ref h_t_plain) hx hb hw inX9 hown hK hP 0 rfl rfl 0 (by decide) (hw _ mw_202) (fun _ h9 => h9) rfl dX9_count_33 ?_
    refine va_getN (D := eD E) (ci := 3) (C := RX5) (T := TX5) (N := 7) (v := .int c_t_plain_size) hx hb hw inX5 hown hK hP 2 rfl rfl 4 (by decide) ((sF_6 hT).use rfl) (fun _ h9 => h9) rfl dX9_count_36 ?_
    obtain rfl := Option.some.inj hF
    exact W.iret hx hb hr (fun t ht hW => ⟨⟨rfl, by rw [ht]; exact hP, hD⟩, hS.F ht⟩) hS.2.2 dX9_count_39
  have hF := kn hF q1_0
  by_cases q1_1 : a1 = (1 : Int32)
  · have hF := kp hF q1_1
    refine lv_tableIn (tgt := 40) (off := 39) hx hb dX9_count_1 (sw_in (lo := 0) (hi := 3) q1_1 (by decide)).1 (sw_in (lo := 0) (hi := 3) q1_1 (by decide)).2 (sw_at q1_1 rfl) (by decide) ?_
    refine lv_aload_n hx hb dX9_count_40 rfl (lv_at hl 0 rfl) ?_
    refine va_get (D := eD E) (ci := 7) (C := RX9) (T := TX9) (N := 9) (v := .ref h_t_plain) hx hb hw inX9 hown hK hP 0 rfl rfl 0 (by decide) (hw _ mw_202) (fun _ h9 => h9) rfl dX9_count_41 ?_
    refine va_getN (D := eD E) (ci := 3) (C := RX5) (T := TX5) (N := 7) (v := .ref h_t_plain_book) hx hb hw inX5 hown hK hP 2 rfl rfl 0 (by decide) ((sF_1 hT).use rfl) (fun _ h9 => h9) rfl dX9_count_44 ?_
    obtain ⟨r2, er2, hF⟩ := kb hF
    refine kRV (rest := []) C (k_Book_countSigns l E h_t_plain_book h_t_plain_book_forms c_t_plain_book_forms r2 er2) fn_Book_countSigns mw_863 ⟨Nat.le_of_ble_eq_true rfl, Nat.le_of_ble_eq_true rfl⟩ hK hT hS (va_recv hK hP (ci := 0) (q0 := 3) rfl rfl) hP [3, 4] rfl rfl rfl hl (Nat.le_of_ble_eq_true rfl) dX9_count_47 ?_
    obtain rfl := Option.some.inj hF
    exact W.iret hx hb hr (fun t ht hW => ⟨⟨rfl, by rw [ht]; exact hP, hD⟩, hS.F ht⟩) hS.2.2 dX9_count_50
  have hF := kn hF q1_1
  by_cases q1_2 : a1 = (2 : Int32)
  · have hF := kp hF q1_2
    refine lv_tableIn (tgt := 51) (off := 50) hx hb dX9_count_1 (sw_in (lo := 0) (hi := 3) q1_2 (by decide)).1 (sw_in (lo := 0) (hi := 3) q1_2 (by decide)).2 (sw_at q1_2 rfl) (by decide) ?_
    refine lv_aload_n hx hb dX9_count_51 rfl (lv_at hl 0 rfl) ?_
    refine va_get (D := eD E) (ci := 7) (C := RX9) (T := TX9) (N := 9) (v := .ref h_t_tape) hx hb hw inX9 hown hK hP 0 rfl rfl 3 (by decide) (hw _ mw_205) (fun _ h9 => h9) rfl dX9_count_52 ?_
    refine va_getN (D := eD E) (ci := 5) (C := RX7) (T := TX7) (N := 2) (v := .int c_t_tape_length) hx hb hw inX7 hown hK hP 6 rfl rfl 1 (by decide) ((sF_11 hT).use rfl) (fun _ h9 => h9) rfl dX9_count_55 ?_
    obtain rfl := Option.some.inj hF
    exact W.iret hx hb hr (fun t ht hW => ⟨⟨rfl, by rw [ht]; exact hP, hD⟩, hS.F ht⟩) hS.2.2 dX9_count_58
  have hF := kn hF q1_2
  by_cases q1_3 : a1 = (3 : Int32)
  · have hF := kp hF q1_3
    refine lv_tableIn (tgt := 59) (off := 58) hx hb dX9_count_1 (sw_in (lo := 0) (hi := 3) q1_3 (by decide)).1 (sw_in (lo := 0) (hi := 3) q1_3 (by decide)).2 (sw_at q1_3 rfl) (by decide) ?_
    refine lv_aload_n hx hb dX9_count_59 rfl (lv_at hl 0 rfl) ?_
    refine va_get (D := eD E) (ci := 7) (C := RX9) (T := TX9) (N := 9) (v := .ref h_t_plain) hx hb hw inX9 hown hK hP 0 rfl rfl 0 (by decide) (hw _ mw_202) (fun _ h9 => h9) rfl dX9_count_60 ?_
    obtain ⟨r3, er3, hF⟩ := kb hF
    refine kRV (rest := []) C (k_Plain_strokesOfAll l E h_t_plain h_t_plain_forms h_t_plain_book x_t_plain_kinds x_t_plain_deeps c_t_plain_size c_t_plain_hour c_t_plain_sunny c_t_plain_forms r3 er3) fn_Plain_strokesOfAll mw_867 ⟨Nat.le_of_ble_eq_true rfl, Nat.le_of_ble_eq_true rfl⟩ hK hT hS (va_recv hK hP (ci := 3) (q0 := 2) rfl rfl) hP [2, 5] rfl rfl rfl hl (Nat.le_of_ble_eq_true rfl) dX9_count_63 ?_
    obtain rfl := Option.some.inj hF
    exact W.iret hx hb hr (fun t ht hW => ⟨⟨rfl, by rw [ht]; exact hP, hD⟩, hS.F ht⟩) hS.2.2 dX9_count_66
  have hF := kn hF q1_3
  refine lv_tableOut (tgt := 67) hx hb dX9_count_1 (by have z0 := lv_neT q1_0 (a := 0) (by decide); have z1 := lv_neT q1_1 (a := 1) (by decide); have z2 := lv_neT q1_2 (a := 2) (by decide); have z3 := lv_neT q1_3 (a := 3) (by decide); omega) (by decide) ?_
  refine lv_aload_n hx hb dX9_count_67 rfl (lv_at hl 0 rfl) ?_
  refine lv_ldc (v := (-1000000001 : Int32)) hx hb hown (hw _ mw_237) dX9_count_68 ?_
  obtain ⟨r4, er4, hF⟩ := kb hF
  refine kWV (rest := []) (Wr := [(h_t_plain, .inr (3, [.ref h_t_plain_book, .ref x_t_plain_kinds, .ref h_t_plain_forms, .ref x_t_plain_deeps, .int c_t_plain_size, .int c_t_plain_hour, .int c_t_plain_sunny])), (h_t_plain_book, .inr (0, [.ref h_t_plain_book_forms])), (h_t_plain_book_forms, .inl (eI E, 26, .inl c_t_plain_book_forms)), (h_t_plain_forms, .inl (eI E, 12, .inl c_t_plain_forms)), (h_t_tape, .inr (5, [.ref x_t_tape_bytes, .int c_t_tape_length]))]) (Wn := (w_S_count E h_t h_t_found h_t_plain h_t_plain_book h_t_plain_book_forms h_t_plain_forms h_t_tape x_t_kept x_t_trial x_t_text x_t_sheets x_t_choice x_t_plain_kinds x_t_plain_deeps x_t_tape_bytes c_t_isKept r4.2 c_t_plain_size c_t_plain_hour c_t_plain_sunny c_t_plain_book_forms c_t_plain_forms c_t_tape_length)) C (k_S_finding l E h_t h_t_found h_t_plain x_t_kept x_t_trial h_t_tape x_t_text x_t_sheets x_t_choice s.heap.size c_t_isKept c_t_found (-1000000001 : Int32) r4 er4) fn_S_finding mw_238 ⟨Nat.le_of_ble_eq_true rfl, Nat.le_of_ble_eq_true rfl⟩ hK hT hS hA (va_recv hK hP (ci := 7) (q0 := 0) rfl rfl) hP hD [0, 1] rfl (by decide) [2, 3, 4, 5, 6] rfl (by decide) (by decide) [5, 6, 0, 1, 2, 3, 4] rfl (by decide) rfl rfl hl (Nat.le_of_ble_eq_true rfl) dX9_count_70 (fun H locs hP hD hS => ?_)
  refine W.eq (g2 := F0 m 73 ls [.int r4.1]) rfl ?_
  obtain rfl := Option.some.inj hF
  exact W.iret hx hb hr (fun t ht hW => ⟨⟨rfl, by rw [ht]; exact hP, hD⟩, hS.F ht⟩) hS.2.2 dX9_count_73
abbrev w_S_status (E : kE) (h_t : Nat) (h_t_found : Nat) (x_t_plain : Nat) (x_t_kept : Nat) (x_t_trial : Nat) (x_t_tape : Nat) (x_t_text : Nat) (x_t_sheets : Nat) (x_t_choice : Nat) (c_t_isKept : Int32) (c_t_found : (Nat → Int32)) : va_W := [(h_t, .inr (7, [.ref x_t_plain, .ref x_t_kept, .ref x_t_trial, .ref x_t_tape, .ref x_t_text, .ref x_t_sheets, .ref x_t_choice, .ref h_t_found, .int c_t_isKept])), (h_t_found, .inl (eI E, 7, .inl c_t_found))]
set_option maxHeartbeats 4000000 in
set_option maxRecDepth 100000 in
theorem wk_S_status_b48 {p : Program} {l : Launch} {e : Env} {s : State} {m : MethodId} {args : Array Value} {below : List Frame} {meth : Method} {c : Code} {A : Nat → Prop} (E : kE) (h_t : Nat) (h_t_found : Nat) (x_t_plain : Nat) (x_t_kept : Nat) (x_t_trial : Nat) (x_t_tape : Nat) (x_t_text : Nat) (x_t_sheets : Nat) (x_t_choice : Nat) (c_t_isKept : Int32) (a1 : Int32) {out : Int32 × (Nat → Int32)} (C : kC RX9 cX9_status 4 (some .int) p s m args meth c) (hA : ∀ q : Nat, s.heap.size ≤ q → A q) (hK : va_K (eD E) vwCl (eT E) s) (hT : sT E A s s.heap)  :
    ∀ (c_t_found : (Nat → Int32)), f_S_status_b48  a1 c_t_found = some out → ∀ (H : Heap) (locs : List Loc), va_P (eD E) vwCl (w_S_status E h_t h_t_found x_t_plain x_t_kept x_t_trial x_t_tape x_t_text x_t_sheets x_t_choice c_t_isKept c_t_found) H → va_D A (w_S_status E h_t h_t_found x_t_plain x_t_kept x_t_trial x_t_tape x_t_text x_t_sheets x_t_choice c_t_isKept c_t_found) → va_S A s.heap H locs → ∀ (ls : Array Slot), lv_has ls 4 [(0, .ref h_t)] → W p l e (rm 2) s m args below meth c H locs 0 0 (MQ below (qW (some (.int out.1)) E (w_S_status E h_t h_t_found x_t_plain x_t_kept x_t_trial x_t_tape x_t_text x_t_sheets x_t_choice c_t_isKept out.2) A) args s 0 0 A) (F0 m 48 ls []) := by
  obtain ⟨hx, hb, hr, hml, hown, hw, hlocks⟩ := id C
  intro c_t_found hF H locs hP hD hS ls hl
  rw [f_S_status_b48] at hF
  refine lv_aload_n hx hb dX9_status_48 rfl (lv_at hl 0 rfl) ?_
  refine lv_ldc (v := (-1000000001 : Int32)) hx hb hown (hw _ mw_237) dX9_status_49 ?_
  obtain ⟨r1, er1, hF⟩ := kb hF
  refine kWV (rest := []) (Wr := []) (Wn := (w_S_status E h_t h_t_found x_t_plain x_t_kept x_t_trial x_t_tape x_t_text x_t_sheets x_t_choice c_t_isKept r1.2)) C (k_S_finding l E h_t h_t_found x_t_plain x_t_kept x_t_trial x_t_tape x_t_text x_t_sheets x_t_choice H.size c_t_isKept c_t_found (-1000000001 : Int32) r1 er1) fn_S_finding mw_238 ⟨Nat.le_of_ble_eq_true rfl, Nat.le_of_ble_eq_true rfl⟩ hK hT hS hA (va_recv hK hP (ci := 7) (q0 := 0) rfl rfl) hP hD [0, 1] rfl (by decide) [] rfl (by decide) (by decide) [0, 1] rfl (by decide) rfl rfl hl (Nat.le_of_ble_eq_true rfl) dX9_status_51 (fun H locs hP hD hS => ?_)
  refine W.eq (g2 := F0 m 54 ls [.int r1.1]) rfl ?_
  obtain rfl := Option.some.inj hF
  exact W.iret hx hb hr (fun t ht hW => ⟨⟨rfl, by rw [ht]; exact hP, hD⟩, hS.F ht⟩) hS.2.2 dX9_status_54
set_option maxHeartbeats 4000000 in
set_option maxRecDepth 100000 in
theorem wk_S_status_b9 {p : Program} {l : Launch} {e : Env} {s : State} {m : MethodId} {args : Array Value} {below : List Frame} {meth : Method} {c : Code} {A : Nat → Prop} (E : kE) (h_t : Nat) (h_t_found : Nat) (x_t_plain : Nat) (x_t_kept : Nat) (x_t_trial : Nat) (x_t_tape : Nat) (x_t_text : Nat) (x_t_sheets : Nat) (x_t_choice : Nat) (c_t_isKept : Int32) (a1 : Int32) {out : Int32 × (Nat → Int32)} (C : kC RX9 cX9_status 4 (some .int) p s m args meth c) (hA : ∀ q : Nat, s.heap.size ≤ q → A q) (hK : va_K (eD E) vwCl (eT E) s) (hT : sT E A s s.heap)  :
    ∀ (n : Nat), ∀ (c_t_found : (Nat → Int32)) (v2 : Int32) (v3 : Int32), f_S_status_b9  a1 n c_t_found v2 v3 = some out → ∀ (H : Heap) (locs : List Loc), va_P (eD E) vwCl (w_S_status E h_t h_t_found x_t_plain x_t_kept x_t_trial x_t_tape x_t_text x_t_sheets x_t_choice c_t_isKept c_t_found) H → va_D A (w_S_status E h_t h_t_found x_t_plain x_t_kept x_t_trial x_t_tape x_t_text x_t_sheets x_t_choice c_t_isKept c_t_found) → va_S A s.heap H locs → ∀ (ls : Array Slot), lv_has ls 4 [(0, .ref h_t), (2, .int v2), (3, .int v3)] → W p l e (rm 2) s m args below meth c H locs 0 0 (MQ below (qW (some (.int out.1)) E (w_S_status E h_t h_t_found x_t_plain x_t_kept x_t_trial x_t_tape x_t_text x_t_sheets x_t_choice c_t_isKept out.2) A) args s 0 0 A) (F0 m 9 ls []) := by
  obtain ⟨hx, hb, hr, hml, hown, hw, hlocks⟩ := id C
  intro n
  induction n with
  | zero =>
    intro c_t_found v2 v3 hF
    exact absurd (show (none : Option (Int32 × (Nat → Int32))) = some out from hF) nofun
  | succ n ih =>
    intro c_t_found v2 v3 hF H locs hP hD hS ls hl
    rw [f_S_status_b9] at hF
    refine lv_iload_n hx hb dX9_status_9 rfl (lv_at hl 2 rfl) ?_
    refine lv_aload_n hx hb dX9_status_10 rfl (lv_at hl 0 rfl) ?_
    refine va_get (D := eD E) (ci := 7) (C := RX9) (T := TX9) (N := 9) (v := .ref h_t_found) hx hb hw inX9 hown hK hP 0 rfl rfl 7 (by decide) (hw _ mw_209) (fun _ h9 => h9) rfl dX9_status_11 ?_
    refine va_alen (v := (7 : Int32)) hx hb hK hP 1 0 rfl rfl (show Int32.ofNat 7 = (7 : Int32) by decide) dX9_status_14 ?_
    refine lv_icmp_ge (tgt := 33) hx hb dX9_status_15 (by decide) (fun q2 => ?_) (fun q2 => ?_)
    · have hF := kp hF q2
      refine lv_iload_n hx hb dX9_status_33 rfl (lv_at hl 1 rfl) ?_
      obtain rfl := Option.some.inj hF
      exact W.iret hx hb hr (fun t ht hW => ⟨⟨rfl, by rw [ht]; exact hP, hD⟩, hS.F ht⟩) hS.2.2 dX9_status_34
    · have hF := kn hF q2
      refine lv_iload_n hx hb dX9_status_18 rfl (lv_at hl 1 rfl) ?_
      refine lv_aload_n hx hb dX9_status_19 rfl (lv_at hl 0 rfl) ?_
      refine va_get (D := eD E) (ci := 7) (C := RX9) (T := TX9) (N := 9) (v := .ref h_t_found) hx hb hw inX9 hown hK hP 0 rfl rfl 7 (by decide) (hw _ mw_209) (fun _ h9 => h9) rfl dX9_status_20 ?_
      refine lv_iload_n hx hb dX9_status_23 rfl (lv_at hl 2 rfl) ?_
      obtain ⟨r3, er3, hF⟩ := kb hF
      refine wa_iald hx hb hK hP 1 0 rfl rfl er3 dX9_status_24 ?_
      refine lv_iadd hx hb dX9_status_25 ?_
      refine lv_istore_n (lv' := [(2, .int (v2 + r3)), (0, .ref h_t), (3, .int v3)]) hx hb dX9_status_26 rfl hl (by decide) rfl (fun ls hl => ?_)
      refine lv_iinc (v := (v3 + (1))) (lv' := [(3, .int (v3 + (1))), (2, .int (v2 + r3)), (0, .ref h_t)]) hx hb dX9_status_27 hl (k := 2) rfl rfl (by decide) rfl (fun ls hl => ?_)
      refine lv_goto (tgt := 9) hx hb dX9_status_30 (by decide) ?_
      exact ih c_t_found (v2 + r3) (v3 + (1)) hF _ _ hP hD hS _ (lv_sub hl [2, 1, 0] rfl)
set_option maxHeartbeats 4000000 in
set_option maxRecDepth 100000 in
theorem k_S_status (l : Launch) (E : kE) (h_t : Nat) (h_t_found : Nat) (x_t_plain : Nat) (x_t_kept : Nat) (x_t_trial : Nat) (x_t_tape : Nat) (x_t_text : Nat) (x_t_sheets : Nat) (x_t_choice : Nat) (sz : Nat) (c_t_isKept : Int32) (c_t_found : (Nat → Int32)) (a1 : Int32) (out : Int32 × (Nat → Int32)) (hF : f_S_status c_t_found a1 = some out) : Met l yX9_status (Cond.code yX9_status cX9_status 4 (some .int) :: wG) (rm 2) (pW E (w_S_status E h_t h_t_found x_t_plain x_t_kept x_t_trial x_t_tape x_t_text x_t_sheets x_t_choice c_t_isKept c_t_found) sz [.ref h_t, .int a1]) (qW (some (.int out.1)) E (w_S_status E h_t h_t_found x_t_plain x_t_kept x_t_trial x_t_tape x_t_text x_t_sheets x_t_choice c_t_isKept out.2) (va_A (w_S_status E h_t h_t_found x_t_plain x_t_kept x_t_trial x_t_tape x_t_text x_t_sheets x_t_choice c_t_isKept c_t_found) sz)) 0 0 (va_A (w_S_status E h_t h_t_found x_t_plain x_t_kept x_t_trial x_t_tape x_t_text x_t_sheets x_t_choice c_t_isKept c_t_found) sz) := by
  refine met_W (by decide) (Nat.le_of_ble_eq_true rfl) ?_
  intro p e s m args below meth c A ls C hP hD hS hA hK hT hl
  obtain ⟨hx, hb, hr, hml, hown, hw, hlocks⟩ := id C
  have hl : lv_has ls 4 [(0, .ref h_t), (1, .int a1)] := hl
  rw [f_S_status] at hF
  refine lv_iload_n hx hb dX9_status_0 rfl (lv_at hl 1 rfl) ?_
  refine lv_iconst (v := (-1 : Int32)) hx hb dX9_status_1 (by decide) ?_
  refine lv_icmp_ne (tgt := 35) hx hb dX9_status_2 (by decide) (fun q4 => ?_) (fun q4 => ?_)
  · have hF := kn hF q4
    refine lv_iload_n hx hb dX9_status_35 rfl (lv_at hl 1 rfl) ?_
    refine lv_if_lt (tgt := 48) hx hb dX9_status_36 (by decide) (fun q5 => ?_) (fun q5 => ?_)
    · have hF := kp hF q5
      exact wk_S_status_b48 E h_t h_t_found x_t_plain x_t_kept x_t_trial x_t_tape x_t_text x_t_sheets x_t_choice c_t_isKept a1 C hA  hK hT  c_t_found hF _ _ hP hD hS _ (lv_sub hl [0] rfl)
    · have hF := kn hF q5
      refine lv_iload_n hx hb dX9_status_39 rfl (lv_at hl 1 rfl) ?_
      refine lv_aload_n hx hb dX9_status_40 rfl (lv_at hl 0 rfl) ?_
      refine va_get (D := eD E) (ci := 7) (C := RX9) (T := TX9) (N := 9) (v := .ref h_t_found) hx hb hw inX9 hown hK hP 0 rfl rfl 7 (by decide) (hw _ mw_209) (fun _ h9 => h9) rfl dX9_status_41 ?_
      refine va_alen (v := (7 : Int32)) hx hb hK hP 1 0 rfl rfl (show Int32.ofNat 7 = (7 : Int32) by decide) dX9_status_44 ?_
      refine lv_icmp_lt (tgt := 55) hx hb dX9_status_45 (by decide) (fun q6 => ?_) (fun q6 => ?_)
      · have hF := kp hF q6
        refine lv_aload_n hx hb dX9_status_55 rfl (lv_at hl 0 rfl) ?_
        refine va_get (D := eD E) (ci := 7) (C := RX9) (T := TX9) (N := 9) (v := .ref h_t_found) hx hb hw inX9 hown hK hP 0 rfl rfl 7 (by decide) (hw _ mw_209) (fun _ h9 => h9) rfl dX9_status_56 ?_
        refine lv_iload_n hx hb dX9_status_59 rfl (lv_at hl 1 rfl) ?_
        obtain ⟨r7, er7, hF⟩ := kb hF
        refine wa_iald hx hb hK hP 1 0 rfl rfl er7 dX9_status_60 ?_
        obtain rfl := Option.some.inj hF
        exact W.iret hx hb hr (fun t ht hW => ⟨⟨rfl, by rw [ht]; exact hP, hD⟩, hS.F ht⟩) hS.2.2 dX9_status_61
      · have hF := kn hF q6
        exact wk_S_status_b48 E h_t h_t_found x_t_plain x_t_kept x_t_trial x_t_tape x_t_text x_t_sheets x_t_choice c_t_isKept a1 C hA  hK hT  c_t_found hF _ _ hP hD hS _ (lv_sub hl [0] rfl)
  · have hF := kp hF q4
    refine lv_iconst (v := (0 : Int32)) hx hb dX9_status_5 (by decide) ?_
    refine lv_istore_n (lv' := [(2, .int (0 : Int32)), (0, .ref h_t), (1, .int a1)]) hx hb dX9_status_6 rfl hl (by decide) rfl (fun ls hl => ?_)
    refine lv_iconst (v := (0 : Int32)) hx hb dX9_status_7 (by decide) ?_
    refine lv_istore_n (lv' := [(3, .int (0 : Int32)), (2, .int (0 : Int32)), (0, .ref h_t), (1, .int a1)]) hx hb dX9_status_8 rfl hl (by decide) rfl (fun ls hl => ?_)
    exact wk_S_status_b9 E h_t h_t_found x_t_plain x_t_kept x_t_trial x_t_tape x_t_text x_t_sheets x_t_choice c_t_isKept a1 C hA  hK hT  5000 c_t_found (0 : Int32) (0 : Int32) hF _ _ hP hD hS _ (lv_sub hl [2, 1, 0] rfl)
