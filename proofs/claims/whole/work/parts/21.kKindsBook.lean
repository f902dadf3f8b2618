abbrev w_Book_isSign (E : kE)    : va_W := []
set_option maxHeartbeats 4000000 in
set_option maxRecDepth 100000 in
theorem k_Book_isSign (l : Launch) (E : kE)    (a0 : Int32) (out : Int32) (hF : f_Book_isSign  a0 = some out) : Met l yX0_isSign (Cond.code yX0_isSign cX0_isSign 1 (some .boolean) :: wG) (rm 1) (pR E (w_Book_isSign E ) [.int a0]) (qR (.int out)) 0 0 (fun _ => False) := by
  refine met_R (by decide) (Nat.le_of_ble_eq_true rfl) ?_
  intro p e s m args below meth c ls C hP hK hT hl
  obtain ⟨hx, hb, hr, hml, hown, hw, hlocks⟩ := id C
  have hS : va_S (fun _ => False) s.heap s.heap [] := va_S.rf
  have hl : lv_has ls 1 [(0, .int a0)] := hl
  rw [f_Book_isSign] at hF
  refine lv_iload_n hx hb dX0_isSign_0 rfl (lv_at hl 0 rfl) ?_
  refine lv_if_lt (tgt := 14) hx hb dX0_isSign_1 (by decide) (fun q1 => ?_) (fun q1 => ?_)
  · have hF := kp hF q1
    refine lv_iconst (v := (0 : Int32)) hx hb dX0_isSign_14 (by decide) ?_
    obtain rfl := Option.some.inj hF
    exact W.zret (ty := .boolean) hx hb hr rfl (fun t ht hW => ⟨rfl, ht⟩) nofun dX0_isSign_15
  · have hF := kn hF q1
    refine lv_iload_n hx hb dX0_isSign_4 rfl (lv_at hl 0 rfl) ?_
    refine lv_bipush (v := (26 : Int32)) hx hb dX0_isSign_5 (by decide) ?_
    refine lv_icmp_ge (tgt := 14) hx hb dX0_isSign_7 (by decide) (fun q2 => ?_) (fun q2 => ?_)
    · have hF := kp hF q2
      refine lv_iconst (v := (0 : Int32)) hx hb dX0_isSign_14 (by decide) ?_
      obtain rfl := Option.some.inj hF
      exact W.zret (ty := .boolean) hx hb hr rfl (fun t ht hW => ⟨rfl, ht⟩) nofun dX0_isSign_15
    · have hF := kn hF q2
      refine lv_iconst (v := (1 : Int32)) hx hb dX0_isSign_10 (by decide) ?_
      refine lv_goto (tgt := 15) hx hb dX0_isSign_11 (by decide) ?_
      obtain rfl := Option.some.inj hF
      exact W.zret (ty := .boolean) hx hb hr rfl (fun t ht hW => ⟨rfl, ht⟩) nofun dX0_isSign_15
abbrev w_Book_formAt (E : kE) (h_t : Nat) (h_t_forms : Nat)  (c_t_forms : (Nat → Int32)) : va_W := [(h_t, .inr (0, [.ref h_t_forms])), (h_t_forms, .inl (eI E, 26, .inl c_t_forms))]
set_option maxHeartbeats 4000000 in
set_option maxRecDepth 100000 in
theorem k_Book_formAt (l : Launch) (E : kE) (h_t : Nat) (h_t_forms : Nat)  (c_t_forms : (Nat → Int32)) (a1 : Int32) (out : Int32) (hF : f_Book_formAt c_t_forms a1 = some out) : Met l yX0_formAt (Cond.code yX0_formAt cX0_formAt 2 (some .int) :: wG) (rm 2) (pR E (w_Book_formAt E h_t h_t_forms c_t_forms) [.ref h_t, .int a1]) (qR (.int out)) 0 0 (fun _ => False) := by
  refine met_R (by decide) (Nat.le_of_ble_eq_true rfl) ?_
  intro p e s m args below meth c ls C hP hK hT hl
  obtain ⟨hx, hb, hr, hml, hown, hw, hlocks⟩ := id C
  have hS : va_S (fun _ => False) s.heap s.heap [] := va_S.rf
  have hl : lv_has ls 2 [(0, .ref h_t), (1, .int a1)] := hl
  rw [f_Book_formAt] at hF
  refine lv_iload_n hx hb dX0_formAt_0 rfl (lv_at hl 1 rfl) ?_
  obtain ⟨r1, er1, hF⟩ := kb hF
  refine kRS (rest := []) C (k_Book_isSign l E a1 r1 er1) fn_Book_isSign mw_356 ⟨Nat.le_of_ble_eq_true rfl, Nat.le_of_ble_eq_true rfl⟩ hK hT hS hP [] rfl rfl rfl hl (Nat.le_of_ble_eq_true rfl) dX0_formAt_1 ?_
  refine lv_if_eq (tgt := 16) hx hb dX0_formAt_4 (by decide) (fun q2 => ?_) (fun q2 => ?_)
  · have hF := kp hF q2
    refine lv_iconst (v := (0 : Int32)) hx hb dX0_formAt_16 (by decide) ?_
    obtain rfl := Option.some.inj hF
    exact W.iret hx hb hr (fun t ht hW => ⟨rfl, ht⟩) nofun dX0_formAt_17
  · have hF := kn hF q2
    refine lv_aload_n hx hb dX0_formAt_7 rfl (lv_at hl 0 rfl) ?_
    refine va_get (D := eD E) (ci := 0) (C := RX0) (T := TX0) (N := 1) (v := .ref h_t_forms) hx hb hw inX0 hown hK hP 0 rfl rfl 0 (by decide) (hw _ mw_76) (fun _ h9 => h9) rfl dX0_formAt_8 ?_
    refine lv_iload_n hx hb dX0_formAt_11 rfl (lv_at hl 1 rfl) ?_
    obtain ⟨r3, er3, hF⟩ := kb hF
    refine wa_iald hx hb hK hP 1 0 rfl rfl er3 dX0_formAt_12 ?_
    refine lv_goto (tgt := 17) hx hb dX0_formAt_13 (by decide) ?_
    obtain rfl := Option.some.inj hF
    exact W.iret hx hb hr (fun t ht hW => ⟨rfl, ht⟩) nofun dX0_formAt_17
abbrev w_Book_put (E : kE) (h_t : Nat) (h_t_forms : Nat)  (c_t_forms : (Nat → Int32)) : va_W := [(h_t, .inr (0, [.ref h_t_forms])), (h_t_forms, .inl (eI E, 26, .inl c_t_forms))]
set_option maxHeartbeats 4000000 in
set_option maxRecDepth 100000 in
theorem k_Book_put (l : Launch) (E : kE) (h_t : Nat) (h_t_forms : Nat)  (sz : Nat) (c_t_forms : (Nat → Int32)) (a1 : Int32) (a2 : Int32) (out : (Nat → Int32)) (hF : f_Book_put c_t_forms a1 a2 = some out) : Met l yX0_put (Cond.code yX0_put cX0_put 3 none :: wG) (rm 2) (pW E (w_Book_put E h_t h_t_forms c_t_forms) sz [.ref h_t, .int a1, .int a2]) (qW none E (w_Book_put E h_t h_t_forms out) (va_A (w_Book_put E h_t h_t_forms c_t_forms) sz)) 0 0 (va_A (w_Book_put E h_t h_t_forms c_t_forms) sz) := by
  refine met_W (by decide) (Nat.le_of_ble_eq_true rfl) ?_
  intro p e s m args below meth c A ls C hP hD hS hA hK hT hl
  obtain ⟨hx, hb, hr, hml, hown, hw, hlocks⟩ := id C
  have hl : lv_has ls 3 [(0, .ref h_t), (1, .int a1), (2, .int a2)] := hl
  rw [f_Book_put] at hF
  refine lv_iload_n hx hb dX0_put_0 rfl (lv_at hl 1 rfl) ?_
  obtain ⟨r1, er1, hF⟩ := kb hF
  refine kRS (rest := []) C (k_Book_isSign l E a1 r1 er1) fn_Book_isSign mw_356 ⟨Nat.le_of_ble_eq_true rfl, Nat.le_of_ble_eq_true rfl⟩ hK hT hS hP [] rfl rfl rfl hl (Nat.le_of_ble_eq_true rfl) dX0_put_1 ?_
  refine lv_if_eq (tgt := 14) hx hb dX0_put_4 (by decide) (fun q2 => ?_) (fun q2 => ?_)
  · have hF := kp hF q2
    obtain rfl := Option.some.inj hF
    exact W.vret hx hb hr (fun t ht hW => ⟨⟨rfl, by rw [ht]; exact hP, hD⟩, hS.F ht⟩) hS.2.2 dX0_put_14
  · have hF := kn hF q2
    refine lv_aload_n hx hb dX0_put_7 rfl (lv_at hl 0 rfl) ?_
    refine va_get (D := eD E) (ci := 0) (C := RX0) (T := TX0) (N := 1) (v := .ref h_t_forms) hx hb hw inX0 hown hK hP 0 rfl rfl 0 (by decide) (hw _ mw_76) (fun _ h9 => h9) rfl dX0_put_8 ?_
    refine lv_iload_n hx hb dX0_put_11 rfl (lv_at hl 1 rfl) ?_
    refine lv_iload_n hx hb dX0_put_12 rfl (lv_at hl 2 rfl) ?_
    obtain ⟨r3, er3, hF⟩ := kb hF
    refine wa_iast hx hb hK hP hD hS 1 0 rfl rfl er3 dX0_put_13 (fun H locs hP hD hS => ?_)
    have hP : va_P (eD E) vwCl (w_Book_put E h_t h_t_forms r3) H := hP
    have hD : va_D A (w_Book_put E h_t h_t_forms r3) := hD
    obtain rfl := Option.some.inj hF
    exact W.vret hx hb hr (fun t ht hW => ⟨⟨rfl, by rw [ht]; exact hP, hD⟩, hS.F ht⟩) hS.2.2 dX0_put_14
abbrev w_Book_nearest (E : kE) (h_t : Nat) (h_t_forms : Nat)  (c_t_forms : (Nat → Int32)) : va_W := [(h_t, .inr (0, [.ref h_t_forms])), (h_t_forms, .inl (eI E, 26, .inl c_t_forms))]
set_option maxHeartbeats 4000000 in
set_option maxRecDepth 100000 in
theorem wk_Book_nearest_b8 {p : Program} {l : Launch} {e : Env} {s : State} {m : MethodId} {args : Array Value} {below : List Frame} {meth : Method} {c : Code} (E : kE) (h_t : Nat) (h_t_forms : Nat)  (c_t_forms : (Nat → Int32)) (a1 : Int32) {out : Int32} (C : kC RX0 cX0_nearest 6 (some .int) p s m args meth c) (hP : va_P (eD E) vwCl (w_Book_nearest E h_t h_t_forms c_t_forms) s.heap) (hK : va_K (eD E) vwCl (eT E) s) (hT : sT E (fun _ => False) s s.heap)  :
    ∀ (n : Nat), ∀ (v2 : Int32) (v3 : Int32) (v4 : Int32), f_Book_nearest_b8  c_t_forms a1 n v2 v3 v4 = some out → ∀ (ls : Array Slot), lv_has ls 6 [(0, .ref h_t), (1, .int a1), (2, .int v2), (3, .int v3), (4, .int v4)] → W p l e (rm 3) s m args below meth c s.heap [] 0 0 (MQ below (qR (.int out)) args s 0 0 (fun _ => False)) (F0 m 8 ls []) := by
  obtain ⟨hx, hb, hr, hml, hown, hw, hlocks⟩ := id C
  have hS : va_S (fun _ => False) s.heap s.heap [] := va_S.rf
  intro n
  induction n with
  | zero =>
    intro v2 v3 v4 hF
    exact absurd (show (none : Option (Int32)) = some out from hF) nofun
  | succ n ih =>
    intro v2 v3 v4 hF ls hl
    rw [f_Book_nearest_b8] at hF
    refine lv_iload hx hb dX0_nearest_8 (lv_at hl 4 rfl) ?_
    refine lv_bipush (v := (26 : Int32)) hx hb dX0_nearest_10 (by decide) ?_
    refine lv_icmp_ge (tgt := 56) hx hb dX0_nearest_12 (by decide) (fun q1 => ?_) (fun q1 => ?_)
    · have hF := kp hF q1
      refine lv_iload_n hx hb dX0_nearest_56 rfl (lv_at hl 2 rfl) ?_
      obtain rfl := Option.some.inj hF
      exact W.iret hx hb hr (fun t ht hW => ⟨rfl, ht⟩) nofun dX0_nearest_57
    · have hF := kn hF q1
      refine lv_aload_n hx hb dX0_nearest_15 rfl (lv_at hl 0 rfl) ?_
      refine va_get (D := eD E) (ci := 0) (C := RX0) (T := TX0) (N := 1) (v := .ref h_t_forms) hx hb hw inX0 hown hK hP 0 rfl rfl 0 (by decide) (hw _ mw_76) (fun _ h9 => h9) rfl dX0_nearest_16 ?_
      refine lv_iload hx hb dX0_nearest_19 (lv_at hl 4 rfl) ?_
      obtain ⟨r2, er2, hF⟩ := kb hF
      refine wa_iald hx hb hK hP 1 0 rfl rfl er2 dX0_nearest_21 ?_
      refine lv_iload_n hx hb dX0_nearest_22 rfl (lv_at hl 1 rfl) ?_
      obtain ⟨r3, er3, hF⟩ := kb hF
      refine kRS (rest := []) C (k_Forms_differ l E r2 a1 r3 er3) fn_Forms_differ mw_373 ⟨Nat.le_of_ble_eq_true rfl, Nat.le_of_ble_eq_true rfl⟩ hK hT hS hP [] rfl rfl rfl hl (Nat.le_of_ble_eq_true rfl) dX0_nearest_23 ?_
      refine lv_istore (lv' := [(5, .int r3), (0, .ref h_t), (1, .int a1), (2, .int v2), (3, .int v3), (4, .int v4)]) hx hb dX0_nearest_26 hl (by decide) rfl (fun ls hl => ?_)
      refine lv_aload_n hx hb dX0_nearest_28 rfl (lv_at hl 1 rfl) ?_
      refine va_get (D := eD E) (ci := 0) (C := RX0) (T := TX0) (N := 1) (v := .ref h_t_forms) hx hb hw inX0 hown hK hP 0 rfl rfl 0 (by decide) (hw _ mw_76) (fun _ h9 => h9) rfl dX0_nearest_29 ?_
      refine lv_iload hx hb dX0_nearest_32 (lv_at hl 5 rfl) ?_
      obtain ⟨r4, er4, hF⟩ := kb hF
      refine wa_iald hx hb hK hP 1 0 rfl rfl er4 dX0_nearest_34 ?_
      refine lv_if_eq (tgt := 50) hx hb dX0_nearest_35 (by decide) (fun q5 => ?_) (fun q5 => ?_)
      · have hF := kp hF q5
        refine lv_iinc (v := (v4 + (1))) (lv' := [(4, .int (v4 + (1))), (5, .int r3), (0, .ref h_t), (1, .int a1), (2, .int v2), (3, .int v3)]) hx hb dX0_nearest_50 hl (k := 5) rfl rfl (by decide) rfl (fun ls hl => ?_)
        refine lv_goto (tgt := 8) hx hb dX0_nearest_53 (by decide) ?_
        exact ih v2 v3 (v4 + (1)) hF _ (lv_sub hl [2, 3, 4, 5, 0] rfl)
      · have hF := kn hF q5
        refine lv_iload hx hb dX0_nearest_38 (lv_at hl 0 rfl) ?_
        refine lv_iload_n hx hb dX0_nearest_40 rfl (lv_at hl 4 rfl) ?_
        refine lv_icmp_ge (tgt := 50) hx hb dX0_nearest_41 (by decide) (fun q6 => ?_) (fun q6 => ?_)
        · have hF := kp hF q6
          refine lv_iinc (v := (v4 + (1))) (lv' := [(4, .int (v4 + (1))), (5, .int r3), (0, .ref h_t), (1, .int a1), (2, .int v2), (3, .int v3)]) hx hb dX0_nearest_50 hl (k := 5) rfl rfl (by decide) rfl (fun ls hl => ?_)
          refine lv_goto (tgt := 8) hx hb dX0_nearest_53 (by decide) ?_
          exact ih v2 v3 (v4 + (1)) hF _ (lv_sub hl [2, 3, 4, 5, 0] rfl)
        · have hF := kn hF q6
          refine lv_iload hx hb dX0_nearest_44 (lv_at hl 0 rfl) ?_
          refine lv_istore_n (lv' := [(3, .int r3), (5, .int r3), (0, .ref h_t), (1, .int a1), (2, .int v2), (4, .int v4)]) hx hb dX0_nearest_46 rfl hl (by decide) rfl (fun ls hl => ?_)
          refine lv_iload hx hb dX0_nearest_47 (lv_at hl 5 rfl) ?_
          refine lv_istore_n (lv' := [(2, .int v4), (3, .int r3), (5, .int r3), (0, .ref h_t), (1, .int a1), (4, .int v4)]) hx hb dX0_nearest_49 rfl hl (by decide) rfl (fun ls hl => ?_)
          refine lv_iinc (v := (v4 + (1))) (lv' := [(4, .int (v4 + (1))), (2, .int v4), (3, .int r3), (5, .int r3), (0, .ref h_t), (1, .int a1)]) hx hb dX0_nearest_50 hl (k := 5) rfl rfl (by decide) rfl (fun ls hl => ?_)
          refine lv_goto (tgt := 8) hx hb dX0_nearest_53 (by decide) ?_
          exact ih v4 r3 (v4 + (1)) hF _ (lv_sub hl [4, 5, 1, 2, 0] rfl)
set_option maxHeartbeats 4000000 in
set_option maxRecDepth 100000 in
theorem k_Book_nearest (l : Launch) (E : kE) (h_t : Nat) (h_t_forms : Nat)  (c_t_forms : (Nat → Int32)) (a1 : Int32) (out : Int32) (hF : f_Book_nearest c_t_forms a1 = some out) : Met l yX0_nearest (Cond.code yX0_nearest cX0_nearest 6 (some .int) :: wG) (rm 3) (pR E (w_Book_nearest E h_t h_t_forms c_t_forms) [.ref h_t, .int a1]) (qR (.int out)) 0 0 (fun _ => False) := by
  refine met_R (by decide) (Nat.le_of_ble_eq_true rfl) ?_
  intro p e s m args below meth c ls C hP hK hT hl
  obtain ⟨hx, hb, hr, hml, hown, hw, hlocks⟩ := id C
  have hS : va_S (fun _ => False) s.heap s.heap [] := va_S.rf
  have hl : lv_has ls 6 [(0, .ref h_t), (1, .int a1)] := hl
  rw [f_Book_nearest] at hF
  refine lv_iconst (v := (-1 : Int32)) hx hb dX0_nearest_0 (by decide) ?_
  refine lv_istore_n (lv' := [(2, .int (-1 : Int32)), (0, .ref h_t), (1, .int a1)]) hx hb dX0_nearest_1 rfl hl (by decide) rfl (fun ls hl => ?_)
  refine lv_bipush (v := (13 : Int32)) hx hb dX0_nearest_2 (by decide) ?_
  refine lv_istore_n (lv' := [(3, .int (13 : Int32)), (2, .int (-1 : Int32)), (0, .ref h_t), (1, .int a1)]) hx hb dX0_nearest_4 rfl hl (by decide) rfl (fun ls hl => ?_)
  refine lv_iconst (v := (0 : Int32)) hx hb dX0_nearest_5 (by decide) ?_
  refine lv_istore (lv' := [(4, .int (0 : Int32)), (3, .int (13 : Int32)), (2, .int (-1 : Int32)), (0, .ref h_t), (1, .int a1)]) hx hb dX0_nearest_6 hl (by decide) rfl (fun ls hl => ?_)
  exact wk_Book_nearest_b8 E h_t h_t_forms c_t_forms a1 C hP  hK hT  5000 (-1 : Int32) (13 : Int32) (0 : Int32) hF _ (lv_sub hl [3, 4, 2, 1, 0] rfl)
abbrev w_Book_countAsNear (E : kE) (h_t : Nat) (h_t_forms : Nat)  (c_t_forms : (Nat → Int32)) : va_W := [(h_t, .inr (0, [.ref h_t_forms])), (h_t_forms, .inl (eI E, 26, .inl c_t_forms))]
set_option maxHeartbeats 4000000 in
set_option maxRecDepth 100000 in
theorem wk_Book_countAsNear_b16 {p : Program} {l : Launch} {e : Env} {s : State} {m : MethodId} {args : Array Value} {below : List Frame} {meth : Method} {c : Code} (E : kE) (h_t : Nat) (h_t_forms : Nat)  (c_t_forms : (Nat → Int32)) (a1 : Int32) (a2 : Int32) {out : Int32} (C : kC RX0 cX0_countAsNear 6 (some .int) p s m args meth c) (hP : va_P (eD E) vwCl (w_Book_countAsNear E h_t h_t_forms c_t_forms) s.heap) (hK : va_K (eD E) vwCl (eT E) s) (hT : sT E (fun _ => False) s s.heap)  :
    ∀ (n : Nat), ∀ (v3 : Int32) (v4 : Int32) (v5 : Int32), f_Book_countAsNear_b16  c_t_forms a1 a2 n v3 v4 v5 = some out → ∀ (ls : Array Slot), lv_has ls 6 [(0, .ref h_t), (1, .int a1), (3, .int v3), (4, .int v4), (5, .int v5)] → W p l e (rm 3) s m args below meth c s.heap [] 0 0 (MQ below (qR (.int out)) args s 0 0 (fun _ => False)) (F0 m 16 ls []) := by
  obtain ⟨hx, hb, hr, hml, hown, hw, hlocks⟩ := id C
  have hS : va_S (fun _ => False) s.heap s.heap [] := va_S.rf
  intro n
  induction n with
  | zero =>
    intro v3 v4 v5 hF
    exact absurd (show (none : Option (Int32)) = some out from hF) nofun
  | succ n ih =>
    intro v3 v4 v5 hF ls hl
    rw [f_Book_countAsNear_b16] at hF
    refine lv_iload hx hb dX0_countAsNear_16 (lv_at hl 4 rfl) ?_
    refine lv_bipush (v := (26 : Int32)) hx hb dX0_countAsNear_18 (by decide) ?_
    refine lv_icmp_ge (tgt := 57) hx hb dX0_countAsNear_20 (by decide) (fun q1 => ?_) (fun q1 => ?_)
    · have hF := kp hF q1
      refine lv_iload hx hb dX0_countAsNear_57 (lv_at hl 3 rfl) ?_
      obtain rfl := Option.some.inj hF
      exact W.iret hx hb hr (fun t ht hW => ⟨rfl, ht⟩) nofun dX0_countAsNear_59
    · have hF := kn hF q1
      refine lv_aload_n hx hb dX0_countAsNear_23 rfl (lv_at hl 0 rfl) ?_
      refine va_get (D := eD E) (ci := 0) (C := RX0) (T := TX0) (N := 1) (v := .ref h_t_forms) hx hb hw inX0 hown hK hP 0 rfl rfl 0 (by decide) (hw _ mw_76) (fun _ h9 => h9) rfl dX0_countAsNear_24 ?_
      refine lv_iload hx hb dX0_countAsNear_27 (lv_at hl 4 rfl) ?_
      obtain ⟨r2, er2, hF⟩ := kb hF
      refine wa_iald hx hb hK hP 1 0 rfl rfl er2 dX0_countAsNear_29 ?_
      refine lv_if_eq (tgt := 51) hx hb dX0_countAsNear_30 (by decide) (fun q3 => ?_) (fun q3 => ?_)
      · have hF := kp hF q3
        refine lv_iinc (v := (v5 + (1))) (lv' := [(5, .int (v5 + (1))), (0, .ref h_t), (1, .int a1), (3, .int v3), (4, .int v4)]) hx hb dX0_countAsNear_51 hl (k := 4) rfl rfl (by decide) rfl (fun ls hl => ?_)
        refine lv_goto (tgt := 16) hx hb dX0_countAsNear_54 (by decide) ?_
        exact ih v3 v4 (v5 + (1)) hF _ (lv_sub hl [1, 2, 3, 4, 0] rfl)
      · have hF := kn hF q3
        refine lv_aload_n hx hb dX0_countAsNear_33 rfl (lv_at hl 0 rfl) ?_
        refine va_get (D := eD E) (ci := 0) (C := RX0) (T := TX0) (N := 1) (v := .ref h_t_forms) hx hb hw inX0 hown hK hP 0 rfl rfl 0 (by decide) (hw _ mw_76) (fun _ h9 => h9) rfl dX0_countAsNear_34 ?_
        refine lv_iload hx hb dX0_countAsNear_37 (lv_at hl 4 rfl) ?_
        obtain ⟨r4, er4, hF⟩ := kb hF
        refine wa_iald hx hb hK hP 1 0 rfl rfl er4 dX0_countAsNear_39 ?_
        refine lv_iload_n hx hb dX0_countAsNear_40 rfl (lv_at hl 1 rfl) ?_
        obtain ⟨r5, er5, hF⟩ := kb hF
        refine kRS (rest := []) C (k_Forms_differ l E r4 a1 r5 er5) fn_Forms_differ mw_373 ⟨Nat.le_of_ble_eq_true rfl, Nat.le_of_ble_eq_true rfl⟩ hK hT hS hP [] rfl rfl rfl hl (Nat.le_of_ble_eq_true rfl) dX0_countAsNear_41 ?_
        refine lv_iload_n hx hb dX0_countAsNear_44 rfl (lv_at hl 2 rfl) ?_
        refine lv_icmp_ne (tgt := 51) hx hb dX0_countAsNear_45 (by decide) (fun q6 => ?_) (fun q6 => ?_)
        · have hF := kn hF q6
          refine lv_iinc (v := (v5 + (1))) (lv' := [(5, .int (v5 + (1))), (0, .ref h_t), (1, .int a1), (3, .int v3), (4, .int v4)]) hx hb dX0_countAsNear_51 hl (k := 4) rfl rfl (by decide) rfl (fun ls hl => ?_)
          refine lv_goto (tgt := 16) hx hb dX0_countAsNear_54 (by decide) ?_
          exact ih v3 v4 (v5 + (1)) hF _ (lv_sub hl [1, 2, 3, 4, 0] rfl)
        · have hF := kp hF q6
          refine lv_iinc (v := (v4 + (1))) (lv' := [(4, .int (v4 + (1))), (0, .ref h_t), (1, .int a1), (3, .int v3), (5, .int v5)]) hx hb dX0_countAsNear_48 hl (k := 3) rfl rfl (by decide) rfl (fun ls hl => ?_)
          refine lv_iinc (v := (v5 + (1))) (lv' := [(5, .int (v5 + (1))), (4, .int (v4 + (1))), (0, .ref h_t), (1, .int a1), (3, .int v3)]) hx hb dX0_countAsNear_51 hl (k := 4) rfl rfl (by decide) rfl (fun ls hl => ?_)
          refine lv_goto (tgt := 16) hx hb dX0_countAsNear_54 (by decide) ?_
          exact ih v3 (v4 + (1)) (v5 + (1)) hF _ (lv_sub hl [2, 3, 4, 1, 0] rfl)
set_option maxHeartbeats 4000000 in
set_option maxRecDepth 100000 in
theorem k_Book_countAsNear (l : Launch) (E : kE) (h_t : Nat) (h_t_forms : Nat)  (c_t_forms : (Nat → Int32)) (a1 : Int32) (a2 : Int32) (out : Int32) (hF : f_Book_countAsNear c_t_forms a1 a2 = some out) : Met l yX0_countAsNear (Cond.code yX0_countAsNear cX0_countAsNear 6 (some .int) :: wG) (rm 3) (pR E (w_Book_countAsNear E h_t h_t_forms c_t_forms) [.ref h_t, .int a1, .int a2]) (qR (.int out)) 0 0 (fun _ => False) := by
  refine met_R (by decide) (Nat.le_of_ble_eq_true rfl) ?_
  intro p e s m args below meth c ls C hP hK hT hl
  obtain ⟨hx, hb, hr, hml, hown, hw, hlocks⟩ := id C
  have hS : va_S (fun _ => False) s.heap s.heap [] := va_S.rf
  have hl : lv_has ls 6 [(0, .ref h_t), (1, .int a1), (2, .int a2)] := hl
  rw [f_Book_countAsNear] at hF
  refine lv_aload_n hx hb dX0_countAsNear_0 rfl (lv_at hl 0 rfl) ?_
  refine lv_iload_n hx hb dX0_countAsNear_1 rfl (lv_at hl 2 rfl) ?_
  obtain ⟨r7, er7, hF⟩ := kb hF
  refine kRV (rest := []) C (k_Book_formAt l E h_t h_t_forms c_t_forms a2 r7 er7) fn_Book_formAt mw_384 ⟨Nat.le_of_ble_eq_true rfl, Nat.le_of_ble_eq_true rfl⟩ hK hT hS (va_recv hK hP (ci := 0) (q0 := 0) rfl rfl) hP [0, 1] rfl rfl rfl hl (Nat.le_of_ble_eq_true rfl) dX0_countAsNear_2 ?_
  refine lv_iload_n hx hb dX0_countAsNear_5 rfl (lv_at hl 1 rfl) ?_
  obtain ⟨r8, er8, hF⟩ := kb hF
  refine kRS (rest := []) C (k_Forms_differ l E r7 a1 r8 er8) fn_Forms_differ mw_373 ⟨Nat.le_of_ble_eq_true rfl, Nat.le_of_ble_eq_true rfl⟩ hK hT hS hP [] rfl rfl rfl hl (Nat.le_of_ble_eq_true rfl) dX0_countAsNear_6 ?_
  refine lv_istore_n (lv' := [(3, .int r8), (0, .ref h_t), (1, .int a1), (2, .int a2)]) hx hb dX0_countAsNear_9 rfl hl (by decide) rfl (fun ls hl => ?_)
  refine lv_iconst (v := (0 : Int32)) hx hb dX0_countAsNear_10 (by decide) ?_
  refine lv_istore (lv' := [(4, .int (0 : Int32)), (3, .int r8), (0, .ref h_t), (1, .int a1), (2, .int a2)]) hx hb dX0_countAsNear_11 hl (by decide) rfl (fun ls hl => ?_)
  refine lv_iconst (v := (0 : Int32)) hx hb dX0_countAsNear_13 (by decide) ?_
  refine lv_istore (lv' := [(5, .int (0 : Int32)), (4, .int (0 : Int32)), (3, .int r8), (0, .ref h_t), (1, .int a1), (2, .int a2)]) hx hb dX0_countAsNear_14 hl (by decide) rfl (fun ls hl => ?_)
  exact wk_Book_countAsNear_b16 E h_t h_t_forms c_t_forms a1 a2 C hP  hK hT  5000 r8 (0 : Int32) (0 : Int32) hF _ (lv_sub hl [3, 4, 2, 1, 0] rfl)
abbrev w_Book_leastBetweenTwo (E : kE) (h_t : Nat) (h_t_forms : Nat)  (c_t_forms : (Nat → Int32)) : va_W := [(h_t, .inr (0, [.ref h_t_forms])), (h_t_forms, .inl (eI E, 26, .inl c_t_forms))]
set_option maxHeartbeats 4000000 in
set_option maxRecDepth 100000 in
theorem wk_Book_leastBetweenTwo_b62 {p : Program} {l : Launch} {e : Env} {s : State} {m : MethodId} {args : Array Value} {below : List Frame} {meth : Method} {c : Code} (E : kE) (h_t : Nat) (h_t_forms : Nat)  (c_t_forms : (Nat → Int32))  {out : Int32} (C : kC RX0 cX0_leastBetweenTwo 5 (some .int) p s m args meth c) (hP : va_P (eD E) vwCl (w_Book_leastBetweenTwo E h_t h_t_forms c_t_forms) s.heap) (hK : va_K (eD E) vwCl (eT E) s) (hT : sT E (fun _ => False) s s.heap) (k4 : Int32 → Int32 → Option (Int32)) (hk4 : ∀ (v1 : Int32) (v2 : Int32), k4 v1 v2 = some out → ∀ (ls : Array Slot), lv_has ls 5 [(0, .ref h_t), (1, .int v1), (2, .int v2)] → W p l e (rm 3) s m args below meth c s.heap [] 0 0 (MQ below (qR (.int out)) args s 0 0 (fun _ => False)) (F0 m 4 ls [])) (k12 : Int32 → Int32 → Int32 → Option (Int32)) (hk12 : ∀ (v1 : Int32) (v2 : Int32) (v3 : Int32), k12 v1 v2 v3 = some out → ∀ (ls : Array Slot), lv_has ls 5 [(0, .ref h_t), (1, .int v1), (2, .int v2), (3, .int v3)] → W p l e (rm 3) s m args below meth c s.heap [] 0 0 (MQ below (qR (.int out)) args s 0 0 (fun _ => False)) (F0 m 12 ls [])) :
    ∀ (v2 : Int32) (v3 : Int32) (v4 : Int32), f_Book_leastBetweenTwo_b62 k4 k12 c_t_forms v2 v3 v4 = some out → ∀ (ls : Array Slot), lv_has ls 5 [(0, .ref h_t), (2, .int v2), (3, .int v3), (4, .int v4)] → W p l e (rm 3) s m args below meth c s.heap [] 0 0 (MQ below (qR (.int out)) args s 0 0 (fun _ => False)) (F0 m 62 ls []) := by
  obtain ⟨hx, hb, hr, hml, hown, hw, hlocks⟩ := id C
  have hS : va_S (fun _ => False) s.heap s.heap [] := va_S.rf
  intro v2 v3 v4 hF ls hl
  rw [f_Book_leastBetweenTwo_b62] at hF
  refine lv_iload hx hb dX0_leastBetweenTwo_62 (lv_at hl 3 rfl) ?_
  refine lv_istore_n (lv' := [(1, .int v4), (0, .ref h_t), (2, .int v2), (3, .int v3), (4, .int v4)]) hx hb dX0_leastBetweenTwo_64 rfl hl (by decide) rfl (fun ls hl => ?_)
  refine lv_iinc (v := (v3 + (1))) (lv' := [(3, .int (v3 + (1))), (1, .int v4), (0, .ref h_t), (2, .int v2), (4, .int v4)]) hx hb dX0_leastBetweenTwo_65 hl (k := 3) rfl rfl (by decide) rfl (fun ls hl => ?_)
  refine lv_goto (tgt := 12) hx hb dX0_leastBetweenTwo_68 (by decide) ?_
  exact hk12 v4 v2 (v3 + (1)) hF _ (lv_sub hl [2, 1, 3, 0] rfl)
set_option maxHeartbeats 4000000 in
set_option maxRecDepth 100000 in
theorem wk_Book_leastBetweenTwo_b12 {p : Program} {l : Launch} {e : Env} {s : State} {m : MethodId} {args : Array Value} {below : List Frame} {meth : Method} {c : Code} (E : kE) (h_t : Nat) (h_t_forms : Nat)  (c_t_forms : (Nat → Int32))  {out : Int32} (C : kC RX0 cX0_leastBetweenTwo 5 (some .int) p s m args meth c) (hP : va_P (eD E) vwCl (w_Book_leastBetweenTwo E h_t h_t_forms c_t_forms) s.heap) (hK : va_K (eD E) vwCl (eT E) s) (hT : sT E (fun _ => False) s s.heap) (k4 : Int32 → Int32 → Option (Int32)) (hk4 : ∀ (v1 : Int32) (v2 : Int32), k4 v1 v2 = some out → ∀ (ls : Array Slot), lv_has ls 5 [(0, .ref h_t), (1, .int v1), (2, .int v2)] → W p l e (rm 3) s m args below meth c s.heap [] 0 0 (MQ below (qR (.int out)) args s 0 0 (fun _ => False)) (F0 m 4 ls [])) :
    ∀ (n : Nat), ∀ (v1 : Int32) (v2 : Int32) (v3 : Int32), f_Book_leastBetweenTwo_b12 k4 c_t_forms n v1 v2 v3 = some out → ∀ (ls : Array Slot), lv_has ls 5 [(0, .ref h_t), (1, .int v1), (2, .int v2), (3, .int v3)] → W p l e (rm 3) s m args below meth c s.heap [] 0 0 (MQ below (qR (.int out)) args s 0 0 (fun _ => False)) (F0 m 12 ls []) := by
  obtain ⟨hx, hb, hr, hml, hown, hw, hlocks⟩ := id C
  have hS : va_S (fun _ => False) s.heap s.heap [] := va_S.rf
  intro n
  induction n with
  | zero =>
    intro v1 v2 v3 hF
    exact absurd (show (none : Option (Int32)) = some out from hF) nofun
  | succ n ih =>
    intro v1 v2 v3 hF ls hl
    rw [f_Book_leastBetweenTwo_b12] at hF
    refine lv_iload_n hx hb dX0_leastBetweenTwo_12 rfl (lv_at hl 3 rfl) ?_
    refine lv_iload_n hx hb dX0_leastBetweenTwo_13 rfl (lv_at hl 2 rfl) ?_
    refine lv_icmp_ge (tgt := 71) hx hb dX0_leastBetweenTwo_14 (by decide) (fun q1 => ?_) (fun q1 => ?_)
    · have hF := kp hF q1
      refine lv_iinc (v := (v2 + (1))) (lv' := [(2, .int (v2 + (1))), (0, .ref h_t), (1, .int v1), (3, .int v3)]) hx hb dX0_leastBetweenTwo_71 hl (k := 2) rfl rfl (by decide) rfl (fun ls hl => ?_)
      refine lv_goto (tgt := 4) hx hb dX0_leastBetweenTwo_74 (by decide) ?_
      exact hk4 v1 (v2 + (1)) hF _ (lv_sub hl [1, 2, 0] rfl)
    · have hF := kn hF q1
      refine lv_aload_n hx hb dX0_leastBetweenTwo_17 rfl (lv_at hl 0 rfl) ?_
      refine va_get (D := eD E) (ci := 0) (C := RX0) (T := TX0) (N := 1) (v := .ref h_t_forms) hx hb hw inX0 hown hK hP 0 rfl rfl 0 (by decide) (hw _ mw_76) (fun _ h9 => h9) rfl dX0_leastBetweenTwo_18 ?_
      refine lv_iload_n hx hb dX0_leastBetweenTwo_21 rfl (lv_at hl 2 rfl) ?_
      obtain ⟨r2, er2, hF⟩ := kb hF
      refine wa_iald hx hb hK hP 1 0 rfl rfl er2 dX0_leastBetweenTwo_22 ?_
      refine lv_aload_n hx hb dX0_leastBetweenTwo_23 rfl (lv_at hl 0 rfl) ?_
      refine va_get (D := eD E) (ci := 0) (C := RX0) (T := TX0) (N := 1) (v := .ref h_t_forms) hx hb hw inX0 hown hK hP 0 rfl rfl 0 (by decide) (hw _ mw_76) (fun _ h9 => h9) rfl dX0_leastBetweenTwo_24 ?_
      refine lv_iload_n hx hb dX0_leastBetweenTwo_27 rfl (lv_at hl 3 rfl) ?_
      obtain ⟨r3, er3, hF⟩ := kb hF
      refine wa_iald hx hb hK hP 1 0 rfl rfl er3 dX0_leastBetweenTwo_28 ?_
      obtain ⟨r4, er4, hF⟩ := kb hF
      refine kRS (rest := []) C (k_Forms_differ l E r2 r3 r4 er4) fn_Forms_differ mw_373 ⟨Nat.le_of_ble_eq_true rfl, Nat.le_of_ble_eq_true rfl⟩ hK hT hS hP [] rfl rfl rfl hl (Nat.le_of_ble_eq_true rfl) dX0_leastBetweenTwo_29 ?_
      refine lv_istore (lv' := [(4, .int r4), (0, .ref h_t), (1, .int v1), (2, .int v2), (3, .int v3)]) hx hb dX0_leastBetweenTwo_32 hl (by decide) rfl (fun ls hl => ?_)
      refine lv_aload_n hx hb dX0_leastBetweenTwo_34 rfl (lv_at hl 1 rfl) ?_
      refine va_get (D := eD E) (ci := 0) (C := RX0) (T := TX0) (N := 1) (v := .ref h_t_forms) hx hb hw inX0 hown hK hP 0 rfl rfl 0 (by decide) (hw _ mw_76) (fun _ h9 => h9) rfl dX0_leastBetweenTwo_35 ?_
      refine lv_iload_n hx hb dX0_leastBetweenTwo_38 rfl (lv_at hl 3 rfl) ?_
      obtain ⟨r5, er5, hF⟩ := kb hF
      refine wa_iald hx hb hK hP 1 0 rfl rfl er5 dX0_leastBetweenTwo_39 ?_
      refine lv_if_eq (tgt := 65) hx hb dX0_leastBetweenTwo_40 (by decide) (fun q6 => ?_) (fun q6 => ?_)
      · have hF := kp hF q6
        refine lv_iinc (v := (v3 + (1))) (lv' := [(3, .int (v3 + (1))), (4, .int r4), (0, .ref h_t), (1, .int v1), (2, .int v2)]) hx hb dX0_leastBetweenTwo_65 hl (k := 4) rfl rfl (by decide) rfl (fun ls hl => ?_)
        refine lv_goto (tgt := 12) hx hb dX0_leastBetweenTwo_68 (by decide) ?_
        exact ih v1 v2 (v3 + (1)) hF _ (lv_sub hl [2, 3, 4, 0] rfl)
      · have hF := kn hF q6
        refine lv_aload_n hx hb dX0_leastBetweenTwo_43 rfl (lv_at hl 1 rfl) ?_
        refine va_get (D := eD E) (ci := 0) (C := RX0) (T := TX0) (N := 1) (v := .ref h_t_forms) hx hb hw inX0 hown hK hP 0 rfl rfl 0 (by decide) (hw _ mw_76) (fun _ h9 => h9) rfl dX0_leastBetweenTwo_44 ?_
        refine lv_iload_n hx hb dX0_leastBetweenTwo_47 rfl (lv_at hl 4 rfl) ?_
        obtain ⟨r7, er7, hF⟩ := kb hF
        refine wa_iald hx hb hK hP 1 0 rfl rfl er7 dX0_leastBetweenTwo_48 ?_
        refine lv_if_eq (tgt := 65) hx hb dX0_leastBetweenTwo_49 (by decide) (fun q8 => ?_) (fun q8 => ?_)
        · have hF := kp hF q8
          refine lv_iinc (v := (v3 + (1))) (lv' := [(3, .int (v3 + (1))), (4, .int r4), (0, .ref h_t), (1, .int v1), (2, .int v2)]) hx hb dX0_leastBetweenTwo_65 hl (k := 4) rfl rfl (by decide) rfl (fun ls hl => ?_)
          refine lv_goto (tgt := 12) hx hb dX0_leastBetweenTwo_68 (by decide) ?_
          exact ih v1 v2 (v3 + (1)) hF _ (lv_sub hl [2, 3, 4, 0] rfl)
        · have hF := kn hF q8
          refine lv_iload_n hx hb dX0_leastBetweenTwo_52 rfl (lv_at hl 2 rfl) ?_
          refine lv_if_lt (tgt := 62) hx hb dX0_leastBetweenTwo_53 (by decide) (fun q9 => ?_) (fun q9 => ?_)
          · have hF := kp hF q9
            exact wk_Book_leastBetweenTwo_b62 E h_t h_t_forms c_t_forms  C hP  hK hT k4 hk4 (f_Book_leastBetweenTwo_b12 k4 c_t_forms n) ih v2 v3 r4 hF _ (lv_sub hl [1, 3, 4, 0] rfl)
          · have hF := kn hF q9
            refine lv_iload hx hb dX0_leastBetweenTwo_56 (lv_at hl 0 rfl) ?_
            refine lv_iload_n hx hb dX0_leastBetweenTwo_58 rfl (lv_at hl 2 rfl) ?_
            refine lv_icmp_ge (tgt := 65) hx hb dX0_leastBetweenTwo_59 (by decide) (fun q10 => ?_) (fun q10 => ?_)
            · have hF := kp hF q10
              refine lv_iinc (v := (v3 + (1))) (lv' := [(3, .int (v3 + (1))), (4, .int r4), (0, .ref h_t), (1, .int v1), (2, .int v2)]) hx hb dX0_leastBetweenTwo_65 hl (k := 4) rfl rfl (by decide) rfl (fun ls hl => ?_)
              refine lv_goto (tgt := 12) hx hb dX0_leastBetweenTwo_68 (by decide) ?_
              exact ih v1 v2 (v3 + (1)) hF _ (lv_sub hl [2, 3, 4, 0] rfl)
            · have hF := kn hF q10
              exact wk_Book_leastBetweenTwo_b62 E h_t h_t_forms c_t_forms  C hP  hK hT k4 hk4 (f_Book_leastBetweenTwo_b12 k4 c_t_forms n) ih v2 v3 r4 hF _ (lv_sub hl [1, 3, 4, 0] rfl)
set_option maxHeartbeats 4000000 in
set_option maxRecDepth 100000 in
theorem wk_Book_leastBetweenTwo_b4 {p : Program} {l : Launch} {e : Env} {s : State} {m : MethodId} {args : Array Value} {below : List Frame} {meth : Method} {c : Code} (E : kE) (h_t : Nat) (h_t_forms : Nat)  (c_t_forms : (Nat → Int32))  {out : Int32} (C : kC RX0 cX0_leastBetweenTwo 5 (some .int) p s m args meth c) (hP : va_P (eD E) vwCl (w_Book_leastBetweenTwo E h_t h_t_forms c_t_forms) s.heap) (hK : va_K (eD E) vwCl (eT E) s) (hT : sT E (fun _ => False) s s.heap)  :
    ∀ (n : Nat), ∀ (v1 : Int32) (v2 : Int32), f_Book_leastBetweenTwo_b4  c_t_forms n v1 v2 = some out → ∀ (ls : Array Slot), lv_has ls 5 [(0, .ref h_t), (1, .int v1), (2, .int v2)] → W p l e (rm 3) s m args below meth c s.heap [] 0 0 (MQ below (qR (.int out)) args s 0 0 (fun _ => False)) (F0 m 4 ls []) := by
  obtain ⟨hx, hb, hr, hml, hown, hw, hlocks⟩ := id C
  have hS : va_S (fun _ => False) s.heap s.heap [] := va_S.rf
  intro n
  induction n with
  | zero =>
    intro v1 v2 hF
    exact absurd (show (none : Option (Int32)) = some out from hF) nofun
  | succ n ih =>
    intro v1 v2 hF ls hl
    rw [f_Book_leastBetweenTwo_b4] at hF
    refine lv_iload_n hx hb dX0_leastBetweenTwo_4 rfl (lv_at hl 2 rfl) ?_
    refine lv_bipush (v := (26 : Int32)) hx hb dX0_leastBetweenTwo_5 (by decide) ?_
    refine lv_icmp_ge (tgt := 77) hx hb dX0_leastBetweenTwo_7 (by decide) (fun q11 => ?_) (fun q11 => ?_)
    · have hF := kp hF q11
      refine lv_iload_n hx hb dX0_leastBetweenTwo_77 rfl (lv_at hl 1 rfl) ?_
      obtain rfl := Option.some.inj hF
      exact W.iret hx hb hr (fun t ht hW => ⟨rfl, ht⟩) nofun dX0_leastBetweenTwo_78
    · have hF := kn hF q11
      refine lv_iconst (v := (0 : Int32)) hx hb dX0_leastBetweenTwo_10 (by decide) ?_
      refine lv_istore_n (lv' := [(3, .int (0 : Int32)), (0, .ref h_t), (1, .int v1), (2, .int v2)]) hx hb dX0_leastBetweenTwo_11 rfl hl (by decide) rfl (fun ls hl => ?_)
      exact wk_Book_leastBetweenTwo_b12 E h_t h_t_forms c_t_forms  C hP  hK hT (f_Book_leastBetweenTwo_b4  c_t_forms n) ih 5000 v1 v2 (0 : Int32) hF _ (lv_sub hl [1, 2, 3, 0] rfl)
set_option maxHeartbeats 4000000 in
set_option maxRecDepth 100000 in
theorem k_Book_leastBetweenTwo (l : Launch) (E : kE) (h_t : Nat) (h_t_forms : Nat)  (c_t_forms : (Nat → Int32))  (out : Int32) (hF : f_Book_leastBetweenTwo c_t_forms  = some out) : Met l yX0_leastBetweenTwo (Cond.code yX0_leastBetweenTwo cX0_leastBetweenTwo 5 (some .int) :: wG) (rm 3) (pR E (w_Book_leastBetweenTwo E h_t h_t_forms c_t_forms) [.ref h_t]) (qR (.int out)) 0 0 (fun _ => False) := by
  refine met_R (by decide) (Nat.le_of_ble_eq_true rfl) ?_
  intro p e s m args below meth c ls C hP hK hT hl
  obtain ⟨hx, hb, hr, hml, hown, hw, hlocks⟩ := id C
  have hS : va_S (fun _ => False) s.heap s.heap [] := va_S.rf
  have hl : lv_has ls 5 [(0, .ref h_t)] := hl
  rw [f_Book_leastBetweenTwo] at hF
  refine lv_iconst (v := (-1 : Int32)) hx hb dX0_leastBetweenTwo_0 (by decide) ?_
  refine lv_istore_n (lv' := [(1, .int (-1 : Int32)), (0, .ref h_t)]) hx hb dX0_leastBetweenTwo_1 rfl hl (by decide) rfl (fun ls hl => ?_)
  refine lv_iconst (v := (0 : Int32)) hx hb dX0_leastBetweenTwo_2 (by decide) ?_
  refine lv_istore_n (lv' := [(2, .int (0 : Int32)), (1, .int (-1 : Int32)), (0, .ref h_t)]) hx hb dX0_leastBetweenTwo_3 rfl hl (by decide) rfl (fun ls hl => ?_)
  exact wk_Book_leastBetweenTwo_b4 E h_t h_t_forms c_t_forms  C hP  hK hT  5000 (-1 : Int32) (0 : Int32) hF _ (lv_sub hl [2, 1, 0] rfl)
abbrev w_Book_signsThatStay (E : kE) (h_t : Nat) (h_t_forms : Nat)  (c_t_forms : (Nat → Int32)) : va_W := [(h_t, .inr (0, [.ref h_t_forms])), (h_t_forms, .inl (eI E, 26, .inl c_t_forms))]
set_option maxHeartbeats 4000000 in
set_option maxRecDepth 100000 in
theorem wk_Book_signsThatStay_b4 {p : Program} {l : Launch} {e : Env} {s : State} {m : MethodId} {args : Array Value} {below : List Frame} {meth : Method} {c : Code} (E : kE) (h_t : Nat) (h_t_forms : Nat)  (c_t_forms : (Nat → Int32)) (a1 : Int32) {out : Int32} (C : kC RX0 cX0_signsThatStay 4 (some .int) p s m args meth c) (hP : va_P (eD E) vwCl (w_Book_signsThatStay E h_t h_t_forms c_t_forms) s.heap) (hK : va_K (eD E) vwCl (eT E) s) (hT : sT E (fun _ => False) s s.heap)  :
    ∀ (n : Nat), ∀ (v2 : Int32) (v3 : Int32), f_Book_signsThatStay_b4  c_t_forms a1 n v2 v3 = some out → ∀ (ls : Array Slot), lv_has ls 4 [(0, .ref h_t), (1, .int a1), (2, .int v2), (3, .int v3)] → W p l e (rm 4) s m args below meth c s.heap [] 0 0 (MQ below (qR (.int out)) args s 0 0 (fun _ => False)) (F0 m 4 ls []) := by
  obtain ⟨hx, hb, hr, hml, hown, hw, hlocks⟩ := id C
  have hS : va_S (fun _ => False) s.heap s.heap [] := va_S.rf
  intro n
  induction n with
  | zero =>
    intro v2 v3 hF
    exact absurd (show (none : Option (Int32)) = some out from hF) nofun
  | succ n ih =>
    intro v2 v3 hF ls hl
    rw [f_Book_signsThatStay_b4] at hF
    refine lv_iload_n hx hb dX0_signsThatStay_4 rfl (lv_at hl 3 rfl) ?_
    refine lv_bipush (v := (26 : Int32)) hx hb dX0_signsThatStay_5 (by decide) ?_
    refine lv_icmp_ge (tgt := 49) hx hb dX0_signsThatStay_7 (by decide) (fun q1 => ?_) (fun q1 => ?_)
    · have hF := kp hF q1
      refine lv_iload_n hx hb dX0_signsThatStay_49 rfl (lv_at hl 2 rfl) ?_
      obtain rfl := Option.some.inj hF
      exact W.iret hx hb hr (fun t ht hW => ⟨rfl, ht⟩) nofun dX0_signsThatStay_50
    · have hF := kn hF q1
      refine lv_aload_n hx hb dX0_signsThatStay_10 rfl (lv_at hl 0 rfl) ?_
      refine va_get (D := eD E) (ci := 0) (C := RX0) (T := TX0) (N := 1) (v := .ref h_t_forms) hx hb hw inX0 hown hK hP 0 rfl rfl 0 (by decide) (hw _ mw_76) (fun _ h9 => h9) rfl dX0_signsThatStay_11 ?_
      refine lv_iload_n hx hb dX0_signsThatStay_14 rfl (lv_at hl 3 rfl) ?_
      obtain ⟨r2, er2, hF⟩ := kb hF
      refine wa_iald hx hb hK hP 1 0 rfl rfl er2 dX0_signsThatStay_15 ?_
      refine lv_if_eq (tgt := 43) hx hb dX0_signsThatStay_16 (by decide) (fun q3 => ?_) (fun q3 => ?_)
      · have hF := kp hF q3
        refine lv_iinc (v := (v3 + (1))) (lv' := [(3, .int (v3 + (1))), (0, .ref h_t), (1, .int a1), (2, .int v2)]) hx hb dX0_signsThatStay_43 hl (k := 3) rfl rfl (by decide) rfl (fun ls hl => ?_)
        refine lv_goto (tgt := 4) hx hb dX0_signsThatStay_46 (by decide) ?_
        exact ih v2 (v3 + (1)) hF _ (lv_sub hl [1, 2, 3, 0] rfl)
      · have hF := kn hF q3
        refine lv_aload_n hx hb dX0_signsThatStay_19 rfl (lv_at hl 0 rfl) ?_
        refine lv_aload_n hx hb dX0_signsThatStay_20 rfl (lv_at hl 0 rfl) ?_
        refine va_get (D := eD E) (ci := 0) (C := RX0) (T := TX0) (N := 1) (v := .ref h_t_forms) hx hb hw inX0 hown hK hP 0 rfl rfl 0 (by decide) (hw _ mw_76) (fun _ h9 => h9) rfl dX0_signsThatStay_21 ?_
        refine lv_iload_n hx hb dX0_signsThatStay_24 rfl (lv_at hl 3 rfl) ?_
        obtain ⟨r4, er4, hF⟩ := kb hF
        refine wa_iald hx hb hK hP 1 0 rfl rfl er4 dX0_signsThatStay_25 ?_
        refine lv_iload_n hx hb dX0_signsThatStay_26 rfl (lv_at hl 1 rfl) ?_
        refine lv_iconst (v := (-1 : Int32)) hx hb dX0_signsThatStay_27 (by decide) ?_
        refine lv_ixor hx hb dX0_signsThatStay_28 ?_
        refine lv_iand hx hb dX0_signsThatStay_29 ?_
        obtain ⟨r5, er5, hF⟩ := kb hF
        refine kRV (rest := []) C (k_Book_nearest l E h_t h_t_forms c_t_forms (r4 &&& (a1 ^^^ (-1 : Int32))) r5 er5) fn_Book_nearest mw_401 ⟨Nat.le_of_ble_eq_true rfl, Nat.le_of_ble_eq_true rfl⟩ hK hT hS (va_recv hK hP (ci := 0) (q0 := 0) rfl rfl) hP [0, 1] rfl rfl rfl hl (Nat.le_of_ble_eq_true rfl) dX0_signsThatStay_30 ?_
        refine lv_iload_n hx hb dX0_signsThatStay_33 rfl (lv_at hl 3 rfl) ?_
        refine lv_icmp_ne (tgt := 43) hx hb dX0_signsThatStay_34 (by decide) (fun q6 => ?_) (fun q6 => ?_)
        · have hF := kn hF q6
          refine lv_iinc (v := (v3 + (1))) (lv' := [(3, .int (v3 + (1))), (0, .ref h_t), (1, .int a1), (2, .int v2)]) hx hb dX0_signsThatStay_43 hl (k := 3) rfl rfl (by decide) rfl (fun ls hl => ?_)
          refine lv_goto (tgt := 4) hx hb dX0_signsThatStay_46 (by decide) ?_
          exact ih v2 (v3 + (1)) hF _ (lv_sub hl [1, 2, 3, 0] rfl)
        · have hF := kp hF q6
          refine lv_iload_n hx hb dX0_signsThatStay_37 rfl (lv_at hl 2 rfl) ?_
          refine lv_iconst (v := (1 : Int32)) hx hb dX0_signsThatStay_38 (by decide) ?_
          refine lv_iload_n hx hb dX0_signsThatStay_39 rfl (lv_at hl 3 rfl) ?_
          refine lv_ishl hx hb dX0_signsThatStay_40 ?_
          refine lv_ior hx hb dX0_signsThatStay_41 ?_
          refine lv_istore_n (lv' := [(2, .int (v2 ||| ((1 : Int32) <<< (v3 &&& 31)))), (0, .ref h_t), (1, .int a1), (3, .int v3)]) hx hb dX0_signsThatStay_42 rfl hl (by decide) rfl (fun ls hl => ?_)
          refine lv_iinc (v := (v3 + (1))) (lv' := [(3, .int (v3 + (1))), (2, .int (v2 ||| ((1 : Int32) <<< (v3 &&& 31)))), (0, .ref h_t), (1, .int a1)]) hx hb dX0_signsThatStay_43 hl (k := 3) rfl rfl (by decide) rfl (fun ls hl => ?_)
          refine lv_goto (tgt := 4) hx hb dX0_signsThatStay_46 (by decide) ?_
          exact ih (v2 ||| ((1 : Int32) <<< (v3 &&& 31))) (v3 + (1)) hF _ (lv_sub hl [2, 3, 1, 0] rfl)
set_option maxHeartbeats 4000000 in
set_option maxRecDepth 100000 in
theorem k_Book_signsThatStay (l : Launch) (E : kE) (h_t : Nat) (h_t_forms : Nat)  (c_t_forms : (Nat → Int32)) (a1 : Int32) (out : Int32) (hF : f_Book_signsThatStay c_t_forms a1 = some out) : Met l yX0_signsThatStay (Cond.code yX0_signsThatStay cX0_signsThatStay 4 (some .int) :: wG) (rm 4) (pR E (w_Book_signsThatStay E h_t h_t_forms c_t_forms) [.ref h_t, .int a1]) (qR (.int out)) 0 0 (fun _ => False) := by
  refine met_R (by decide) (Nat.le_of_ble_eq_true rfl) ?_
  intro p e s m args below meth c ls C hP hK hT hl
  obtain ⟨hx, hb, hr, hml, hown, hw, hlocks⟩ := id C
  have hS : va_S (fun _ => False) s.heap s.heap [] := va_S.rf
  have hl : lv_has ls 4 [(0, .ref h_t), (1, .int a1)] := hl
  rw [f_Book_signsThatStay] at hF
  refine lv_iconst (v := (0 : Int32)) hx hb dX0_signsThatStay_0 (by decide) ?_
  refine lv_istore_n (lv' := [(2, .int (0 : Int32)), (0, .ref h_t), (1, .int a1)]) hx hb dX0_signsThatStay_1 rfl hl (by decide) rfl (fun ls hl => ?_)
  refine lv_iconst (v := (0 : Int32)) hx hb dX0_signsThatStay_2 (by decide) ?_
  refine lv_istore_n (lv' := [(3, .int (0 : Int32)), (2, .int (0 : Int32)), (0, .ref h_t), (1, .int a1)]) hx hb dX0_signsThatStay_3 rfl hl (by decide) rfl (fun ls hl => ?_)
  exact wk_Book_signsThatStay_b4 E h_t h_t_forms c_t_forms a1 C hP  hK hT  5000 (0 : Int32) (0 : Int32) hF _ (lv_sub hl [2, 3, 1, 0] rfl)
abbrev w_Book_isReadAs (E : kE) (h_t : Nat) (h_t_forms : Nat)  (c_t_forms : (Nat → Int32)) : va_W := [(h_t, .inr (0, [.ref h_t_forms])), (h_t_forms, .inl (eI E, 26, .inl c_t_forms))]
set_option maxHeartbeats 4000000 in
set_option maxRecDepth 100000 in
theorem wk_Book_isReadAs_b33 {p : Program} {l : Launch} {e : Env} {s : State} {m : MethodId} {args : Array Value} {below : List Frame} {meth : Method} {c : Code} (E : kE) (h_t : Nat) (h_t_forms : Nat)  (c_t_forms : (Nat → Int32)) (a1 : Int32) (a2 : Int32) {out : Int32} (C : kC RX0 cX0_isReadAs 6 (some .boolean) p s m args meth c) (hP : va_P (eD E) vwCl (w_Book_isReadAs E h_t h_t_forms c_t_forms) s.heap) (hK : va_K (eD E) vwCl (eT E) s) (hT : sT E (fun _ => False) s s.heap) (k13 : Int32 → Int32 → Option (Int32)) (hk13 : ∀ (v3 : Int32) (v4 : Int32), k13 v3 v4 = some out → ∀ (ls : Array Slot), lv_has ls 6 [(0, .ref h_t), (1, .int a1), (2, .int a2), (3, .int v3), (4, .int v4)] → W p l e (rm 3) s m args below meth c s.heap [] 0 0 (MQ below (qR (.int out)) args s 0 0 (fun _ => False)) (F0 m 13 ls [])) :
    ∀ (v3 : Int32) (v4 : Int32) (s0 : Int32), f_Book_isReadAs_b33 k13 c_t_forms a1 a2 v3 v4 s0 = some out → ∀ (ls : Array Slot), lv_has ls 6 [(0, .ref h_t), (1, .int a1), (2, .int a2), (3, .int v3), (4, .int v4)] → W p l e (rm 3) s m args below meth c s.heap [] 0 0 (MQ below (qR (.int out)) args s 0 0 (fun _ => False)) (F0 m 33 ls [.int s0]) := by
  obtain ⟨hx, hb, hr, hml, hown, hw, hlocks⟩ := id C
  have hS : va_S (fun _ => False) s.heap s.heap [] := va_S.rf
  intro v3 v4 s0 hF ls hl
  rw [f_Book_isReadAs_b33] at hF
  refine lv_istore (lv' := [(5, .int s0), (0, .ref h_t), (1, .int a1), (2, .int a2), (3, .int v3), (4, .int v4)]) hx hb dX0_isReadAs_33 hl (by decide) rfl (fun ls hl => ?_)
  refine lv_aload_n hx hb dX0_isReadAs_35 rfl (lv_at hl 1 rfl) ?_
  refine va_get (D := eD E) (ci := 0) (C := RX0) (T := TX0) (N := 1) (v := .ref h_t_forms) hx hb hw inX0 hown hK hP 0 rfl rfl 0 (by decide) (hw _ mw_76) (fun _ h9 => h9) rfl dX0_isReadAs_36 ?_
  refine lv_iload hx hb dX0_isReadAs_39 (lv_at hl 5 rfl) ?_
  obtain ⟨r1, er1, hF⟩ := kb hF
  refine wa_iald hx hb hK hP 1 0 rfl rfl er1 dX0_isReadAs_41 ?_
  refine lv_if_eq (tgt := 63) hx hb dX0_isReadAs_42 (by decide) (fun q2 => ?_) (fun q2 => ?_)
  · have hF := kp hF q2
    refine lv_iinc (v := (v4 + (1))) (lv' := [(4, .int (v4 + (1))), (5, .int s0), (0, .ref h_t), (1, .int a1), (2, .int a2), (3, .int v3)]) hx hb dX0_isReadAs_63 hl (k := 5) rfl rfl (by decide) rfl (fun ls hl => ?_)
    refine lv_goto (tgt := 13) hx hb dX0_isReadAs_66 (by decide) ?_
    exact hk13 v3 (v4 + (1)) hF _ (lv_sub hl [2, 3, 4, 5, 0] rfl)
  · have hF := kn hF q2
    refine lv_aload_n hx hb dX0_isReadAs_45 rfl (lv_at hl 1 rfl) ?_
    refine va_get (D := eD E) (ci := 0) (C := RX0) (T := TX0) (N := 1) (v := .ref h_t_forms) hx hb hw inX0 hown hK hP 0 rfl rfl 0 (by decide) (hw _ mw_76) (fun _ h9 => h9) rfl dX0_isReadAs_46 ?_
    refine lv_iload hx hb dX0_isReadAs_49 (lv_at hl 5 rfl) ?_
    obtain ⟨r3, er3, hF⟩ := kb hF
    refine wa_iald hx hb hK hP 1 0 rfl rfl er3 dX0_isReadAs_51 ?_
    refine lv_iload_n hx hb dX0_isReadAs_52 rfl (lv_at hl 2 rfl) ?_
    obtain ⟨r4, er4, hF⟩ := kb hF
    refine kRS (rest := []) C (k_Forms_differ l E r3 a1 r4 er4) fn_Forms_differ mw_373 ⟨Nat.le_of_ble_eq_true rfl, Nat.le_of_ble_eq_true rfl⟩ hK hT hS hP [] rfl rfl rfl hl (Nat.le_of_ble_eq_true rfl) dX0_isReadAs_53 ?_
    refine lv_iload hx hb dX0_isReadAs_56 (lv_at hl 0 rfl) ?_
    refine lv_icmp_ge (tgt := 63) hx hb dX0_isReadAs_58 (by decide) (fun q5 => ?_) (fun q5 => ?_)
    · have hF := kp hF q5
      refine lv_iinc (v := (v4 + (1))) (lv' := [(4, .int (v4 + (1))), (5, .int s0), (0, .ref h_t), (1, .int a1), (2, .int a2), (3, .int v3)]) hx hb dX0_isReadAs_63 hl (k := 5) rfl rfl (by decide) rfl (fun ls hl => ?_)
      refine lv_goto (tgt := 13) hx hb dX0_isReadAs_66 (by decide) ?_
      exact hk13 v3 (v4 + (1)) hF _ (lv_sub hl [2, 3, 4, 5, 0] rfl)
    · have hF := kn hF q5
      refine lv_iconst (v := (0 : Int32)) hx hb dX0_isReadAs_61 (by decide) ?_
      obtain rfl := Option.some.inj hF
      exact W.zret (ty := .boolean) hx hb hr rfl (fun t ht hW => ⟨rfl, ht⟩) nofun dX0_isReadAs_62
set_option maxHeartbeats 4000000 in
set_option maxRecDepth 100000 in
theorem wk_Book_isReadAs_b13 {p : Program} {l : Launch} {e : Env} {s : State} {m : MethodId} {args : Array Value} {below : List Frame} {meth : Method} {c : Code} (E : kE) (h_t : Nat) (h_t_forms : Nat)  (c_t_forms : (Nat → Int32)) (a1 : Int32) (a2 : Int32) {out : Int32} (C : kC RX0 cX0_isReadAs 6 (some .boolean) p s m args meth c) (hP : va_P (eD E) vwCl (w_Book_isReadAs E h_t h_t_forms c_t_forms) s.heap) (hK : va_K (eD E) vwCl (eT E) s) (hT : sT E (fun _ => False) s s.heap)  :
    ∀ (n : Nat), ∀ (v3 : Int32) (v4 : Int32), f_Book_isReadAs_b13  c_t_forms a1 a2 n v3 v4 = some out → ∀ (ls : Array Slot), lv_has ls 6 [(0, .ref h_t), (1, .int a1), (2, .int a2), (3, .int v3), (4, .int v4)] → W p l e (rm 3) s m args below meth c s.heap [] 0 0 (MQ below (qR (.int out)) args s 0 0 (fun _ => False)) (F0 m 13 ls []) := by
  obtain ⟨hx, hb, hr, hml, hown, hw, hlocks⟩ := id C
  have hS : va_S (fun _ => False) s.heap s.heap [] := va_S.rf
  intro n
  induction n with
  | zero =>
    intro v3 v4 hF
    exact absurd (show (none : Option (Int32)) = some out from hF) nofun
  | succ n ih =>
    intro v3 v4 hF ls hl
    rw [f_Book_isReadAs_b13] at hF
    refine lv_iload hx hb dX0_isReadAs_13 (lv_at hl 4 rfl) ?_
    refine lv_bipush (v := (26 : Int32)) hx hb dX0_isReadAs_15 (by decide) ?_
    refine lv_icmp_ge (tgt := 69) hx hb dX0_isReadAs_17 (by decide) (fun q6 => ?_) (fun q6 => ?_)
    · have hF := kp hF q6
      refine lv_iconst (v := (1 : Int32)) hx hb dX0_isReadAs_69 (by decide) ?_
      obtain rfl := Option.some.inj hF
      exact W.zret (ty := .boolean) hx hb hr rfl (fun t ht hW => ⟨rfl, ht⟩) nofun dX0_isReadAs_70
    · have hF := kn hF q6
      refine lv_iload hx hb dX0_isReadAs_20 (lv_at hl 4 rfl) ?_
      refine lv_iload_n hx hb dX0_isReadAs_22 rfl (lv_at hl 2 rfl) ?_
      refine lv_icmp_ge (tgt := 32) hx hb dX0_isReadAs_23 (by decide) (fun q7 => ?_) (fun q7 => ?_)
      · have hF := kp hF q7
        refine lv_iload_n hx hb dX0_isReadAs_32 rfl (lv_at hl 3 rfl) ?_
        exact wk_Book_isReadAs_b33 E h_t h_t_forms c_t_forms a1 a2 C hP  hK hT (f_Book_isReadAs_b13  c_t_forms a1 a2 n) ih v3 v4 v3 hF _ (lv_sub hl [0, 1, 2, 3, 4] rfl)
      · have hF := kn hF q7
        refine lv_iload_n hx hb dX0_isReadAs_26 rfl (lv_at hl 3 rfl) ?_
        refine lv_iconst (v := (1 : Int32)) hx hb dX0_isReadAs_27 (by decide) ?_
        refine lv_iadd hx hb dX0_isReadAs_28 ?_
        refine lv_goto (tgt := 33) hx hb dX0_isReadAs_29 (by decide) ?_
        exact wk_Book_isReadAs_b33 E h_t h_t_forms c_t_forms a1 a2 C hP  hK hT (f_Book_isReadAs_b13  c_t_forms a1 a2 n) ih v3 v4 (v3 + (1 : Int32)) hF _ (lv_sub hl [0, 1, 2, 3, 4] rfl)
set_option maxHeartbeats 4000000 in
set_option maxRecDepth 100000 in
theorem k_Book_isReadAs (l : Launch) (E : kE) (h_t : Nat) (h_t_forms : Nat)  (c_t_forms : (Nat → Int32)) (a1 : Int32) (a2 : Int32) (out : Int32) (hF : f_Book_isReadAs c_t_forms a1 a2 = some out) : Met l yX0_isReadAs (Cond.code yX0_isReadAs cX0_isReadAs 6 (some .boolean) :: wG) (rm 3) (pR E (w_Book_isReadAs E h_t h_t_forms c_t_forms) [.ref h_t, .int a1, .int a2]) (qR (.int out)) 0 0 (fun _ => False) := by
  refine met_R (by decide) (Nat.le_of_ble_eq_true rfl) ?_
  intro p e s m args below meth c ls C hP hK hT hl
  obtain ⟨hx, hb, hr, hml, hown, hw, hlocks⟩ := id C
  have hS : va_S (fun _ => False) s.heap s.heap [] := va_S.rf
  have hl : lv_has ls 6 [(0, .ref h_t), (1, .int a1), (2, .int a2)] := hl
  rw [f_Book_isReadAs] at hF
  refine lv_aload_n hx hb dX0_isReadAs_0 rfl (lv_at hl 0 rfl) ?_
  refine lv_iload_n hx hb dX0_isReadAs_1 rfl (lv_at hl 2 rfl) ?_
  obtain ⟨r8, er8, hF⟩ := kb hF
  refine kRV (rest := []) C (k_Book_formAt l E h_t h_t_forms c_t_forms a2 r8 er8) fn_Book_formAt mw_384 ⟨Nat.le_of_ble_eq_true rfl, Nat.le_of_ble_eq_true rfl⟩ hK hT hS (va_recv hK hP (ci := 0) (q0 := 0) rfl rfl) hP [0, 1] rfl rfl rfl hl (Nat.le_of_ble_eq_true rfl) dX0_isReadAs_2 ?_
  refine lv_iload_n hx hb dX0_isReadAs_5 rfl (lv_at hl 1 rfl) ?_
  obtain ⟨r9, er9, hF⟩ := kb hF
  refine kRS (rest := []) C (k_Forms_differ l E r8 a1 r9 er9) fn_Forms_differ mw_373 ⟨Nat.le_of_ble_eq_true rfl, Nat.le_of_ble_eq_true rfl⟩ hK hT hS hP [] rfl rfl rfl hl (Nat.le_of_ble_eq_true rfl) dX0_isReadAs_6 ?_
  refine lv_istore_n (lv' := [(3, .int r9), (0, .ref h_t), (1, .int a1), (2, .int a2)]) hx hb dX0_isReadAs_9 rfl hl (by decide) rfl (fun ls hl => ?_)
  refine lv_iconst (v := (0 : Int32)) hx hb dX0_isReadAs_10 (by decide) ?_
  refine lv_istore (lv' := [(4, .int (0 : Int32)), (3, .int r9), (0, .ref h_t), (1, .int a1), (2, .int a2)]) hx hb dX0_isReadAs_11 hl (by decide) rfl (fun ls hl => ?_)
  exact wk_Book_isReadAs_b13 E h_t h_t_forms c_t_forms a1 a2 C hP  hK hT  5000 r9 (0 : Int32) hF _ (lv_sub hl [2, 3, 4, 1, 0] rfl)
abbrev w_Book_fewestToForge (E : kE) (h_t : Nat) (h_t_forms : Nat)  (c_t_forms : (Nat → Int32)) : va_W := [(h_t, .inr (0, [.ref h_t_forms])), (h_t_forms, .inl (eI E, 26, .inl c_t_forms))]
set_option maxHeartbeats 4000000 in
set_option maxRecDepth 100000 in
theorem wk_Book_fewestToForge_b81 {p : Program} {l : Launch} {e : Env} {s : State} {m : MethodId} {args : Array Value} {below : List Frame} {meth : Method} {c : Code} (E : kE) (h_t : Nat) (h_t_forms : Nat)  (c_t_forms : (Nat → Int32)) (a1 : Int32) (a2 : Int32) {out : Int32} (C : kC RX0 cX0_fewestToForge 9 (some .int) p s m args meth c) (hP : va_P (eD E) vwCl (w_Book_fewestToForge E h_t h_t_forms c_t_forms) s.heap) (hK : va_K (eD E) vwCl (eT E) s) (hT : sT E (fun _ => False) s s.heap) (k44 : Int32 → Int32 → Int32 → Int32 → Int32 → Option (Int32)) (hk44 : ∀ (v3 : Int32) (v5 : Int32) (v6 : Int32) (v7 : Int32) (v8 : Int32), k44 v3 v5 v6 v7 v8 = some out → ∀ (ls : Array Slot), lv_has ls 9 [(0, .ref h_t), (2, .int a2), (3, .int v3), (5, .int v5), (6, .int v6), (7, .int v7), (8, .int v8)] → W p l e (rm 4) s m args below meth c s.heap [] 0 0 (MQ below (qR (.int out)) args s 0 0 (fun _ => False)) (F0 m 44 ls [])) :
    ∀ (v3 : Int32) (v5 : Int32) (v6 : Int32) (v7 : Int32) (v8 : Int32), f_Book_fewestToForge_b81 k44 c_t_forms a1 a2 v3 v5 v6 v7 v8 = some out → ∀ (ls : Array Slot), lv_has ls 9 [(0, .ref h_t), (2, .int a2), (3, .int v3), (5, .int v5), (6, .int v6), (7, .int v7), (8, .int v8)] → W p l e (rm 4) s m args below meth c s.heap [] 0 0 (MQ below (qR (.int out)) args s 0 0 (fun _ => False)) (F0 m 81 ls []) := by
  obtain ⟨hx, hb, hr, hml, hown, hw, hlocks⟩ := id C
  have hS : va_S (fun _ => False) s.heap s.heap [] := va_S.rf
  intro v3 v5 v6 v7 v8 hF ls hl
  rw [f_Book_fewestToForge_b81] at hF
  refine lv_iload hx hb dX0_fewestToForge_81 (lv_at hl 5 rfl) ?_
  refine lv_iload hx hb dX0_fewestToForge_83 (lv_at hl 3 rfl) ?_
  obtain ⟨r1, er1, hF⟩ := kb hF
  refine kRS (rest := []) C (k_Forms_nextPart l E v7 v5 r1 er1) fn_Forms_nextPart mw_416 ⟨Nat.le_of_ble_eq_true rfl, Nat.le_of_ble_eq_true rfl⟩ hK hT hS hP [] rfl rfl rfl hl (Nat.le_of_ble_eq_true rfl) dX0_fewestToForge_85 ?_
  refine lv_istore (lv' := [(7, .int r1), (0, .ref h_t), (2, .int a2), (3, .int v3), (5, .int v5), (6, .int v6), (8, .int v8)]) hx hb dX0_fewestToForge_88 hl (by decide) rfl (fun ls hl => ?_)
  refine lv_iload hx hb dX0_fewestToForge_90 (lv_at hl 0 rfl) ?_
  refine lv_if_ne (tgt := 98) hx hb dX0_fewestToForge_92 (by decide) (fun q2 => ?_) (fun q2 => ?_)
  · have hF := kn hF q2
    refine lv_iinc (v := (v8 + (1))) (lv' := [(8, .int (v8 + (1))), (7, .int r1), (0, .ref h_t), (2, .int a2), (3, .int v3), (5, .int v5), (6, .int v6)]) hx hb dX0_fewestToForge_98 hl (k := 6) rfl rfl (by decide) rfl (fun ls hl => ?_)
    refine lv_goto (tgt := 44) hx hb dX0_fewestToForge_101 (by decide) ?_
    exact hk44 v3 v5 v6 r1 (v8 + (1)) hF _ (lv_sub hl [2, 3, 4, 5, 6, 1, 0] rfl)
  · have hF := kp hF q2
    refine lv_goto (tgt := 104) hx hb dX0_fewestToForge_95 (by decide) ?_
    refine lv_iload hx hb dX0_fewestToForge_104 (lv_at hl 5 rfl) ?_
    obtain rfl := Option.some.inj hF
    exact W.iret hx hb hr (fun t ht hW => ⟨rfl, ht⟩) nofun dX0_fewestToForge_106
set_option maxHeartbeats 4000000 in
set_option maxRecDepth 100000 in
theorem wk_Book_fewestToForge_b44 {p : Program} {l : Launch} {e : Env} {s : State} {m : MethodId} {args : Array Value} {below : List Frame} {meth : Method} {c : Code} (E : kE) (h_t : Nat) (h_t_forms : Nat)  (c_t_forms : (Nat → Int32)) (a1 : Int32) (a2 : Int32) {out : Int32} (C : kC RX0 cX0_fewestToForge 9 (some .int) p s m args meth c) (hP : va_P (eD E) vwCl (w_Book_fewestToForge E h_t h_t_forms c_t_forms) s.heap) (hK : va_K (eD E) vwCl (eT E) s) (hT : sT E (fun _ => False) s s.heap)  :
    ∀ (n : Nat), ∀ (v3 : Int32) (v5 : Int32) (v6 : Int32) (v7 : Int32) (v8 : Int32), f_Book_fewestToForge_b44  c_t_forms a1 a2 n v3 v5 v6 v7 v8 = some out → ∀ (ls : Array Slot), lv_has ls 9 [(0, .ref h_t), (2, .int a2), (3, .int v3), (5, .int v5), (6, .int v6), (7, .int v7), (8, .int v8)] → W p l e (rm 4) s m args below meth c s.heap [] 0 0 (MQ below (qR (.int out)) args s 0 0 (fun _ => False)) (F0 m 44 ls []) := by
  obtain ⟨hx, hb, hr, hml, hown, hw, hlocks⟩ := id C
  have hS : va_S (fun _ => False) s.heap s.heap [] := va_S.rf
  intro n
  induction n with
  | zero =>
    intro v3 v5 v6 v7 v8 hF
    exact absurd (show (none : Option (Int32)) = some out from hF) nofun
  | succ n ih =>
    intro v3 v5 v6 v7 v8 hF ls hl
    rw [f_Book_fewestToForge_b44] at hF
    refine lv_iload hx hb dX0_fewestToForge_44 (lv_at hl 6 rfl) ?_
    refine lv_sipush (v := (4095 : Int32)) hx hb dX0_fewestToForge_46 (by decide) ?_
    refine lv_icmp_gt (tgt := 104) hx hb dX0_fewestToForge_49 (by decide) (fun q3 => ?_) (fun q3 => ?_)
    · have hF := kp hF q3
      refine lv_iload hx hb dX0_fewestToForge_104 (lv_at hl 4 rfl) ?_
      obtain rfl := Option.some.inj hF
      exact W.iret hx hb hr (fun t ht hW => ⟨rfl, ht⟩) nofun dX0_fewestToForge_106
    · have hF := kn hF q3
      refine lv_iload hx hb dX0_fewestToForge_52 (lv_at hl 5 rfl) ?_
      obtain ⟨r4, er4, hF⟩ := kb hF
      refine kRS (rest := []) C (k_Int_bitCount l E v7 r4 er4) fn_Int_bitCount mw_411 ⟨Nat.le_of_ble_eq_true rfl, Nat.le_of_ble_eq_true rfl⟩ hK hT hS hP [] rfl rfl rfl hl (Nat.le_of_ble_eq_true rfl) dX0_fewestToForge_54 ?_
      refine lv_iload hx hb dX0_fewestToForge_57 (lv_at hl 4 rfl) ?_
      refine lv_icmp_ge (tgt := 81) hx hb dX0_fewestToForge_59 (by decide) (fun q5 => ?_) (fun q5 => ?_)
      · have hF := kp hF q5
        exact wk_Book_fewestToForge_b81 E h_t h_t_forms c_t_forms a1 a2 C hP  hK hT (f_Book_fewestToForge_b44  c_t_forms a1 a2 n) ih v3 v5 v6 v7 v8 hF _ (lv_sub hl [0, 1, 2, 3, 4, 5, 6] rfl)
      · have hF := kn hF q5
        refine lv_aload_n hx hb dX0_fewestToForge_62 rfl (lv_at hl 0 rfl) ?_
        refine lv_iload_n hx hb dX0_fewestToForge_63 rfl (lv_at hl 2 rfl) ?_
        refine lv_iload hx hb dX0_fewestToForge_64 (lv_at hl 5 rfl) ?_
        refine lv_ixor hx hb dX0_fewestToForge_66 ?_
        refine lv_iload_n hx hb dX0_fewestToForge_67 rfl (lv_at hl 1 rfl) ?_
        obtain ⟨r6, er6, hF⟩ := kb hF
        refine kRV (rest := []) C (k_Book_isReadAs l E h_t h_t_forms c_t_forms (v3 ^^^ v7) a2 r6 er6) fn_Book_isReadAs mw_412 ⟨Nat.le_of_ble_eq_true rfl, Nat.le_of_ble_eq_true rfl⟩ hK hT hS (va_recv hK hP (ci := 0) (q0 := 0) rfl rfl) hP [0, 1] rfl rfl rfl hl (Nat.le_of_ble_eq_true rfl) dX0_fewestToForge_68 ?_
        refine lv_if_eq (tgt := 81) hx hb dX0_fewestToForge_71 (by decide) (fun q7 => ?_) (fun q7 => ?_)
        · have hF := kp hF q7
          exact wk_Book_fewestToForge_b81 E h_t h_t_forms c_t_forms a1 a2 C hP  hK hT (f_Book_fewestToForge_b44  c_t_forms a1 a2 n) ih v3 v5 v6 v7 v8 hF _ (lv_sub hl [0, 1, 2, 3, 4, 5, 6] rfl)
        · have hF := kn hF q7
          refine lv_iload hx hb dX0_fewestToForge_74 (lv_at hl 5 rfl) ?_
          obtain ⟨r8, er8, hF⟩ := kb hF
          refine kRS (rest := []) C (k_Int_bitCount l E v7 r8 er8) fn_Int_bitCount mw_411 ⟨Nat.le_of_ble_eq_true rfl, Nat.le_of_ble_eq_true rfl⟩ hK hT hS hP [] rfl rfl rfl hl (Nat.le_of_ble_eq_true rfl) dX0_fewestToForge_76 ?_
          refine lv_istore (lv' := [(6, .int r8), (0, .ref h_t), (2, .int a2), (3, .int v3), (5, .int v5), (7, .int v7), (8, .int v8)]) hx hb dX0_fewestToForge_79 hl (by decide) rfl (fun ls hl => ?_)
          exact wk_Book_fewestToForge_b81 E h_t h_t_forms c_t_forms a1 a2 C hP  hK hT (f_Book_fewestToForge_b44  c_t_forms a1 a2 n) ih v3 v5 r8 v7 v8 hF _ (lv_sub hl [1, 2, 3, 4, 0, 5, 6] rfl)
set_option maxHeartbeats 4000000 in
set_option maxRecDepth 100000 in
theorem k_Book_fewestToForge (l : Launch) (E : kE) (h_t : Nat) (h_t_forms : Nat)  (c_t_forms : (Nat → Int32)) (a1 : Int32) (a2 : Int32) (out : Int32) (hF : f_Book_fewestToForge c_t_forms a1 a2 = some out) : Met l yX0_fewestToForge (Cond.code yX0_fewestToForge cX0_fewestToForge 9 (some .int) :: wG) (rm 4) (pR E (w_Book_fewestToForge E h_t h_t_forms c_t_forms) [.ref h_t, .int a1, .int a2]) (qR (.int out)) 0 0 (fun _ => False) := by
  refine met_R (by decide) (Nat.le_of_ble_eq_true rfl) ?_
  intro p e s m args below meth c ls C hP hK hT hl
  obtain ⟨hx, hb, hr, hml, hown, hw, hlocks⟩ := id C
  have hS : va_S (fun _ => False) s.heap s.heap [] := va_S.rf
  have hl : lv_has ls 9 [(0, .ref h_t), (1, .int a1), (2, .int a2)] := hl
  rw [f_Book_fewestToForge] at hF
  refine lv_aload_n hx hb dX0_fewestToForge_0 rfl (lv_at hl 0 rfl) ?_
  refine lv_iload_n hx hb dX0_fewestToForge_1 rfl (lv_at hl 1 rfl) ?_
  obtain ⟨r9, er9, hF⟩ := kb hF
  refine kRV (rest := []) C (k_Book_formAt l E h_t h_t_forms c_t_forms a1 r9 er9) fn_Book_formAt mw_384 ⟨Nat.le_of_ble_eq_true rfl, Nat.le_of_ble_eq_true rfl⟩ hK hT hS (va_recv hK hP (ci := 0) (q0 := 0) rfl rfl) hP [0, 1] rfl rfl rfl hl (Nat.le_of_ble_eq_true rfl) dX0_fewestToForge_2 ?_
  refine lv_istore_n (lv' := [(3, .int r9), (0, .ref h_t), (1, .int a1), (2, .int a2)]) hx hb dX0_fewestToForge_5 rfl hl (by decide) rfl (fun ls hl => ?_)
  refine lv_aload_n hx hb dX0_fewestToForge_6 rfl (lv_at hl 1 rfl) ?_
  refine lv_iload_n hx hb dX0_fewestToForge_7 rfl (lv_at hl 3 rfl) ?_
  obtain ⟨r10, er10, hF⟩ := kb hF
  refine kRV (rest := []) C (k_Book_formAt l E h_t h_t_forms c_t_forms a2 r10 er10) fn_Book_formAt mw_384 ⟨Nat.le_of_ble_eq_true rfl, Nat.le_of_ble_eq_true rfl⟩ hK hT hS (va_recv hK hP (ci := 0) (q0 := 0) rfl rfl) hP [0, 1] rfl rfl rfl hl (Nat.le_of_ble_eq_true rfl) dX0_fewestToForge_8 ?_
  refine lv_istore (lv' := [(4, .int r10), (3, .int r9), (0, .ref h_t), (1, .int a1), (2, .int a2)]) hx hb dX0_fewestToForge_11 hl (by decide) rfl (fun ls hl => ?_)
  refine lv_aload_n hx hb dX0_fewestToForge_13 rfl (lv_at hl 2 rfl) ?_
  refine lv_iload hx hb dX0_fewestToForge_14 (lv_at hl 0 rfl) ?_
  obtain ⟨r11, er11, hF⟩ := kb hF
  refine kRV (rest := []) C (k_Book_nearest l E h_t h_t_forms c_t_forms r10 r11 er11) fn_Book_nearest mw_401 ⟨Nat.le_of_ble_eq_true rfl, Nat.le_of_ble_eq_true rfl⟩ hK hT hS (va_recv hK hP (ci := 0) (q0 := 0) rfl rfl) hP [0, 1] rfl rfl rfl hl (Nat.le_of_ble_eq_true rfl) dX0_fewestToForge_16 ?_
  refine lv_iload_n hx hb dX0_fewestToForge_19 rfl (lv_at hl 4 rfl) ?_
  refine lv_icmp_eq (tgt := 25) hx hb dX0_fewestToForge_20 (by decide) (fun q12 => ?_) (fun q12 => ?_)
  · have hF := kp hF q12
    refine lv_iload_n hx hb dX0_fewestToForge_25 rfl (lv_at hl 1 rfl) ?_
    refine lv_iload hx hb dX0_fewestToForge_26 (lv_at hl 0 rfl) ?_
    refine lv_ixor hx hb dX0_fewestToForge_28 ?_
    refine lv_istore (lv' := [(5, .int (r9 ^^^ r10)), (4, .int r10), (3, .int r9), (0, .ref h_t), (1, .int a1), (2, .int a2)]) hx hb dX0_fewestToForge_29 hl (by decide) rfl (fun ls hl => ?_)
    refine lv_iload hx hb dX0_fewestToForge_31 (lv_at hl 0 rfl) ?_
    obtain ⟨r13, er13, hF⟩ := kb hF
    refine kRS (rest := []) C (k_Int_bitCount l E (r9 ^^^ r10) r13 er13) fn_Int_bitCount mw_411 ⟨Nat.le_of_ble_eq_true rfl, Nat.le_of_ble_eq_true rfl⟩ hK hT hS hP [] rfl rfl rfl hl (Nat.le_of_ble_eq_true rfl) dX0_fewestToForge_33 ?_
    refine lv_istore (lv' := [(6, .int r13), (5, .int (r9 ^^^ r10)), (4, .int r10), (3, .int r9), (0, .ref h_t), (1, .int a1), (2, .int a2)]) hx hb dX0_fewestToForge_36 hl (by decide) rfl (fun ls hl => ?_)
    refine lv_iconst (v := (0 : Int32)) hx hb dX0_fewestToForge_38 (by decide) ?_
    refine lv_istore (lv' := [(7, .int (0 : Int32)), (6, .int r13), (5, .int (r9 ^^^ r10)), (4, .int r10), (3, .int r9), (0, .ref h_t), (1, .int a1), (2, .int a2)]) hx hb dX0_fewestToForge_39 hl (by decide) rfl (fun ls hl => ?_)
    refine lv_iconst (v := (0 : Int32)) hx hb dX0_fewestToForge_41 (by decide) ?_
    refine lv_istore (lv' := [(8, .int (0 : Int32)), (7, .int (0 : Int32)), (6, .int r13), (5, .int (r9 ^^^ r10)), (4, .int r10), (3, .int r9), (0, .ref h_t), (1, .int a1), (2, .int a2)]) hx hb dX0_fewestToForge_42 hl (by decide) rfl (fun ls hl => ?_)
    exact wk_Book_fewestToForge_b44 E h_t h_t_forms c_t_forms a1 a2 C hP  hK hT  5000 r9 (r9 ^^^ r10) r13 (0 : Int32) (0 : Int32) hF _ (lv_sub hl [6, 8, 5, 3, 2, 1, 0] rfl)
  · have hF := kn hF q12
    refine lv_iconst (v := (-1 : Int32)) hx hb dX0_fewestToForge_23 (by decide) ?_
    obtain rfl := Option.some.inj hF
    exact W.iret hx hb hr (fun t ht hW => ⟨rfl, ht⟩) nofun dX0_fewestToForge_24
abbrev w_Kinds_isKind (E : kE)    : va_W := []
set_option maxHeartbeats 4000000 in
set_option maxRecDepth 100000 in
theorem k_Kinds_isKind (l : Launch) (E : kE)    (a0 : Int32) (out : Int32) (hF : f_Kinds_isKind  a0 = some out) : Met l yX4_isKind (Cond.code yX4_isKind cX4_isKind 1 (some .boolean) :: wG) (rm 1) (pR E (w_Kinds_isKind E ) [.int a0]) (qR (.int out)) 0 0 (fun _ => False) := by
  refine met_R (by decide) (Nat.le_of_ble_eq_true rfl) ?_
  intro p e s m args below meth c ls C hP hK hT hl
  obtain ⟨hx, hb, hr, hml, hown, hw, hlocks⟩ := id C
  have hS : va_S (fun _ => False) s.heap s.heap [] := va_S.rf
  have hl : lv_has ls 1 [(0, .int a0)] := hl
  rw [f_Kinds_isKind] at hF
  refine lv_iload_n hx hb dX4_isKind_0 rfl (lv_at hl 0 rfl) ?_
  refine lv_if_lt (tgt := 14) hx hb dX4_isKind_1 (by decide) (fun q1 => ?_) (fun q1 => ?_)
  · have hF := kp hF q1
    refine lv_iconst (v := (0 : Int32)) hx hb dX4_isKind_14 (by decide) ?_
    obtain rfl := Option.some.inj hF
    exact W.zret (ty := .boolean) hx hb hr rfl (fun t ht hW => ⟨rfl, ht⟩) nofun dX4_isKind_15
  · have hF := kn hF q1
    refine lv_iload_n hx hb dX4_isKind_4 rfl (lv_at hl 0 rfl) ?_
    refine lv_bipush (v := (6 : Int32)) hx hb dX4_isKind_5 (by decide) ?_
    refine lv_icmp_ge (tgt := 14) hx hb dX4_isKind_7 (by decide) (fun q2 => ?_) (fun q2 => ?_)
    · have hF := kp hF q2
      refine lv_iconst (v := (0 : Int32)) hx hb dX4_isKind_14 (by decide) ?_
      obtain rfl := Option.some.inj hF
      exact W.zret (ty := .boolean) hx hb hr rfl (fun t ht hW => ⟨rfl, ht⟩) nofun dX4_isKind_15
    · have hF := kn hF q2
      refine lv_iconst (v := (1 : Int32)) hx hb dX4_isKind_10 (by decide) ?_
      refine lv_goto (tgt := 15) hx hb dX4_isKind_11 (by decide) ?_
      obtain rfl := Option.some.inj hF
      exact W.zret (ty := .boolean) hx hb hr rfl (fun t ht hW => ⟨rfl, ht⟩) nofun dX4_isKind_15
abbrev w_Kinds_feet (E : kE)    : va_W := []
set_option maxHeartbeats 4000000 in
set_option maxRecDepth 100000 in
theorem k_Kinds_feet (l : Launch) (E : kE)    (a0 : Int32) (a1 : Int32) (out : Int32) (hF : f_Kinds_feet  a0 a1 = some out) : Met l yX4_feet (Cond.code yX4_feet cX4_feet 3 (some .int) :: wG) (rm 4) (pR E (w_Kinds_feet E ) [.int a0, .int a1]) (qR (.int out)) 0 0 (fun _ => False) := by
  refine met_R (by decide) (Nat.le_of_ble_eq_true rfl) ?_
  intro p e s m args below meth c ls C hP hK hT hl
  obtain ⟨hx, hb, hr, hml, hown, hw, hlocks⟩ := id C
  have hS : va_S (fun _ => False) s.heap s.heap [] := va_S.rf
  have hl : lv_has ls 3 [(0, .int a0), (1, .int a1)] := hl
  rw [f_Kinds_feet] at hF
  refine lv_iload_n hx hb dX4_feet_0 rfl (lv_at hl 1 rfl) ?_
  obtain ⟨r1, er1, hF⟩ := kb hF
  refine kRS (rest := []) C (k_Int_bitCount l E a1 r1 er1) fn_Int_bitCount mw_464 ⟨Nat.le_of_ble_eq_true rfl, Nat.le_of_ble_eq_true rfl⟩ hK hT hS hP [] rfl rfl rfl hl (Nat.le_of_ble_eq_true rfl) dX4_feet_1 ?_
  refine lv_iload_n hx hb dX4_feet_4 rfl (lv_at hl 1 rfl) ?_
  obtain ⟨r2, er2, hF⟩ := kb hF
  refine kRS (rest := [.int r1]) C (k_Forms_countStrays l E a1 r2 er2) fn_Forms_countStrays mw_465 ⟨Nat.le_of_ble_eq_true rfl, Nat.le_of_ble_eq_true rfl⟩ hK hT hS hP [] rfl rfl rfl hl (Nat.le_of_ble_eq_true rfl) dX4_feet_5 ?_
  refine lv_iadd hx hb dX4_feet_8 ?_
  refine lv_istore_n (lv' := [(2, .int (r1 + r2)), (0, .int a0), (1, .int a1)]) hx hb dX4_feet_9 rfl hl (by decide) rfl (fun ls hl => ?_)
  refine lv_iload_n hx hb dX4_feet_10 rfl (lv_at hl 1 rfl) ?_
  by_cases q3_1 : a0 = (1 : Int32)
  · have hF := kp hF q3_1
    refine lv_tableIn (tgt := 40) (off := 29) hx hb dX4_feet_11 (sw_in (lo := 1) (hi := 4) q3_1 (by decide)).1 (sw_in (lo := 1) (hi := 4) q3_1 (by decide)).2 (sw_at q3_1 rfl) (by decide) ?_
    refine lv_iconst (v := (2 : Int32)) hx hb dX4_feet_40 (by decide) ?_
    refine lv_iload_n hx hb dX4_feet_41 rfl (lv_at hl 0 rfl) ?_
    refine lv_imul hx hb dX4_feet_42 ?_
    obtain rfl := Option.some.inj hF
    exact W.iret hx hb hr (fun t ht hW => ⟨rfl, ht⟩) nofun dX4_feet_43
  have hF := kn hF q3_1
  by_cases q3_2 : a0 = (2 : Int32)
  · have hF := kp hF q3_2
    refine lv_tableIn (tgt := 54) (off := 43) hx hb dX4_feet_11 (sw_in (lo := 1) (hi := 4) q3_2 (by decide)).1 (sw_in (lo := 1) (hi := 4) q3_2 (by decide)).2 (sw_at q3_2 rfl) (by decide) ?_
    refine lv_iload_n hx hb dX4_feet_54 rfl (lv_at hl 0 rfl) ?_
    obtain rfl := Option.some.inj hF
    exact W.iret hx hb hr (fun t ht hW => ⟨rfl, ht⟩) nofun dX4_feet_55
  have hF := kn hF q3_2
  by_cases q3_3 : a0 = (3 : Int32)
  · have hF := kp hF q3_3
    refine lv_tableIn (tgt := 44) (off := 33) hx hb dX4_feet_11 (sw_in (lo := 1) (hi := 4) q3_3 (by decide)).1 (sw_in (lo := 1) (hi := 4) q3_3 (by decide)).2 (sw_at q3_3 rfl) (by decide) ?_
    refine lv_iload_n hx hb dX4_feet_44 rfl (lv_at hl 0 rfl) ?_
    refine lv_iconst (v := (2 : Int32)) hx hb dX4_feet_45 (by decide) ?_
    refine lv_iadd hx hb dX4_feet_46 ?_
    obtain rfl := Option.some.inj hF
    exact W.iret hx hb hr (fun t ht hW => ⟨rfl, ht⟩) nofun dX4_feet_47
  have hF := kn hF q3_3
  by_cases q3_4 : a0 = (4 : Int32)
  · have hF := kp hF q3_4
    refine lv_tableIn (tgt := 48) (off := 37) hx hb dX4_feet_11 (sw_in (lo := 1) (hi := 4) q3_4 (by decide)).1 (sw_in (lo := 1) (hi := 4) q3_4 (by decide)).2 (sw_at q3_4 rfl) (by decide) ?_
    refine lv_iconst (v := (2 : Int32)) hx hb dX4_feet_48 (by decide) ?_
    refine lv_iload_n hx hb dX4_feet_49 rfl (lv_at hl 0 rfl) ?_
    refine lv_imul hx hb dX4_feet_50 ?_
    refine lv_iconst (v := (2 : Int32)) hx hb dX4_feet_51 (by decide) ?_
    refine lv_iadd hx hb dX4_feet_52 ?_
    obtain rfl := Option.some.inj hF
    exact W.iret hx hb hr (fun t ht hW => ⟨rfl, ht⟩) nofun dX4_feet_53
  have hF := kn hF q3_4
  refine lv_tableOut (tgt := 54) hx hb dX4_feet_11 (by have z0 := lv_neT q3_1 (a := 1) (by decide); have z1 := lv_neT q3_2 (a := 2) (by decide); have z2 := lv_neT q3_3 (a := 3) (by decide); have z3 := lv_neT q3_4 (a := 4) (by decide); omega) (by decide) ?_
  refine lv_iload_n hx hb dX4_feet_54 rfl (lv_at hl 0 rfl) ?_
  obtain rfl := Option.some.inj hF
  exact W.iret hx hb hr (fun t ht hW => ⟨rfl, ht⟩) nofun dX4_feet_55
abbrev w_Kinds_lasts (E : kE)    : va_W := []
set_option maxHeartbeats 4000000 in
set_option maxRecDepth 100000 in
theorem k_Kinds_lasts (l : Launch) (E : kE)    (a0 : Int32) (a1 : Int32) (out : Int32) (hF : f_Kinds_lasts  a0 a1 = some out) : Met l yX4_lasts (Cond.code yX4_lasts cX4_lasts 2 (some .int) :: wG) (rm 1) (pR E (w_Kinds_lasts E ) [.int a0, .int a1]) (qR (.int out)) 0 0 (fun _ => False) := by
  refine met_R (by decide) (Nat.le_of_ble_eq_true rfl) ?_
  intro p e s m args below meth c ls C hP hK hT hl
  obtain ⟨hx, hb, hr, hml, hown, hw, hlocks⟩ := id C
  have hS : va_S (fun _ => False) s.heap s.heap [] := va_S.rf
  have hl : lv_has ls 2 [(0, .int a0), (1, .int a1)] := hl
  rw [f_Kinds_lasts] at hF
  refine lv_iload_n hx hb dX4_lasts_0 rfl (lv_at hl 0 rfl) ?_
  by_cases q1_1 : a0 = (1 : Int32)
  · have hF := kp hF q1_1
    refine lv_tableIn (tgt := 36) (off := 35) hx hb dX4_lasts_1 (sw_in (lo := 1) (hi := 5) q1_1 (by decide)).1 (sw_in (lo := 1) (hi := 5) q1_1 (by decide)).2 (sw_at q1_1 rfl) (by decide) ?_
    refine lv_iconst (v := (2 : Int32)) hx hb dX4_lasts_36 (by decide) ?_
    refine lv_iload_n hx hb dX4_lasts_37 rfl (lv_at hl 1 rfl) ?_
    refine lv_imul hx hb dX4_lasts_38 ?_
    obtain rfl := Option.some.inj hF
    exact W.iret hx hb hr (fun t ht hW => ⟨rfl, ht⟩) nofun dX4_lasts_39
  have hF := kn hF q1_1
  by_cases q1_2 : a0 = (2 : Int32)
  · have hF := kp hF q1_2
    refine lv_tableIn (tgt := 40) (off := 39) hx hb dX4_lasts_1 (sw_in (lo := 1) (hi := 5) q1_2 (by decide)).1 (sw_in (lo := 1) (hi := 5) q1_2 (by decide)).2 (sw_at q1_2 rfl) (by decide) ?_
    refine lv_iload_n hx hb dX4_lasts_40 rfl (lv_at hl 1 rfl) ?_
    refine lv_iconst (v := (2 : Int32)) hx hb dX4_lasts_41 (by decide) ?_
    refine lv_idiv hx hb dX4_lasts_42 (by decide) ?_
    obtain rfl := Option.some.inj hF
    exact W.iret hx hb hr (fun t ht hW => ⟨rfl, ht⟩) nofun dX4_lasts_43
  have hF := kn hF q1_2
  by_cases q1_3 : a0 = (3 : Int32)
  · have hF := kp hF q1_3
    refine lv_tableIn (tgt := 50) (off := 49) hx hb dX4_lasts_1 (sw_in (lo := 1) (hi := 5) q1_3 (by decide)).1 (sw_in (lo := 1) (hi := 5) q1_3 (by decide)).2 (sw_at q1_3 rfl) (by decide) ?_
    refine lv_iload_n hx hb dX4_lasts_50 rfl (lv_at hl 1 rfl) ?_
    obtain rfl := Option.some.inj hF
    exact W.iret hx hb hr (fun t ht hW => ⟨rfl, ht⟩) nofun dX4_lasts_51
  have hF := kn hF q1_3
  by_cases q1_4 : a0 = (4 : Int32)
  · have hF := kp hF q1_4
    refine lv_tableIn (tgt := 36) (off := 35) hx hb dX4_lasts_1 (sw_in (lo := 1) (hi := 5) q1_4 (by decide)).1 (sw_in (lo := 1) (hi := 5) q1_4 (by decide)).2 (sw_at q1_4 rfl) (by decide) ?_
    refine lv_iconst (v := (2 : Int32)) hx hb dX4_lasts_36 (by decide) ?_
    refine lv_iload_n hx hb dX4_lasts_37 rfl (lv_at hl 1 rfl) ?_
    refine lv_imul hx hb dX4_lasts_38 ?_
    obtain rfl := Option.some.inj hF
    exact W.iret hx hb hr (fun t ht hW => ⟨rfl, ht⟩) nofun dX4_lasts_39
  have hF := kn hF q1_4
  by_cases q1_5 : a0 = (5 : Int32)
  · have hF := kp hF q1_5
    refine lv_tableIn (tgt := 44) (off := 43) hx hb dX4_lasts_1 (sw_in (lo := 1) (hi := 5) q1_5 (by decide)).1 (sw_in (lo := 1) (hi := 5) q1_5 (by decide)).2 (sw_at q1_5 rfl) (by decide) ?_
    refine lv_iload_n hx hb dX4_lasts_44 rfl (lv_at hl 1 rfl) ?_
    refine lv_iconst (v := (2 : Int32)) hx hb dX4_lasts_45 (by decide) ?_
    refine lv_idiv hx hb dX4_lasts_46 (by decide) ?_
    refine lv_iconst (v := (4 : Int32)) hx hb dX4_lasts_47 (by decide) ?_
    refine lv_iadd hx hb dX4_lasts_48 ?_
    obtain rfl := Option.some.inj hF
    exact W.iret hx hb hr (fun t ht hW => ⟨rfl, ht⟩) nofun dX4_lasts_49
  have hF := kn hF q1_5
  refine lv_tableOut (tgt := 50) hx hb dX4_lasts_1 (by have z0 := lv_neT q1_1 (a := 1) (by decide); have z1 := lv_neT q1_2 (a := 2) (by decide); have z2 := lv_neT q1_3 (a := 3) (by decide); have z3 := lv_neT q1_4 (a := 4) (by decide); have z4 := lv_neT q1_5 (a := 5) (by decide); omega) (by decide) ?_
  refine lv_iload_n hx hb dX4_lasts_50 rfl (lv_at hl 1 rfl) ?_
  obtain rfl := Option.some.inj hF
  exact W.iret hx hb hr (fun t ht hW => ⟨rfl, ht⟩) nofun dX4_lasts_51
abbrev w_Kinds_shows (E : kE)    : va_W := []
set_option maxHeartbeats 4000000 in
set_option maxRecDepth 100000 in
theorem k_Kinds_shows (l : Launch) (E : kE)    (a0 : Int32) (a1 : Int32) (out : Int32) (hF : f_Kinds_shows  a0 a1 = some out) : Met l yX4_shows (Cond.code yX4_shows cX4_shows 2 (some .int) :: wG) (rm 1) (pR E (w_Kinds_shows E ) [.int a0, .int a1]) (qR (.int out)) 0 0 (fun _ => False) := by
  refine met_R (by decide) (Nat.le_of_ble_eq_true rfl) ?_
  intro p e s m args below meth c ls C hP hK hT hl
  obtain ⟨hx, hb, hr, hml, hown, hw, hlocks⟩ := id C
  have hS : va_S (fun _ => False) s.heap s.heap [] := va_S.rf
  have hl : lv_has ls 2 [(0, .int a0), (1, .int a1)] := hl
  rw [f_Kinds_shows] at hF
  refine lv_iload_n hx hb dX4_shows_0 rfl (lv_at hl 0 rfl) ?_
  by_cases q1_3 : a0 = (3 : Int32)
  · have hF := kp hF q1_3
    refine lv_lookup (tgt := 28) (off := 27) hx hb dX4_shows_1 (by decide) (by rw [q1_3]; decide) (by decide) ?_
    refine lv_iload_n hx hb dX4_shows_28 rfl (lv_at hl 1 rfl) ?_
    refine lv_bipush (v := (12 : Int32)) hx hb dX4_shows_29 (by decide) ?_
    refine lv_ior hx hb dX4_shows_31 ?_
    obtain rfl := Option.some.inj hF
    exact W.iret hx hb hr (fun t ht hW => ⟨rfl, ht⟩) nofun dX4_shows_32
  have hF := kn hF q1_3
  by_cases q1_4 : a0 = (4 : Int32)
  · have hF := kp hF q1_4
    refine lv_lookup (tgt := 33) (off := 32) hx hb dX4_shows_1 (by decide) (by rw [q1_4]; decide) (by decide) ?_
    refine lv_iload_n hx hb dX4_shows_33 rfl (lv_at hl 1 rfl) ?_
    refine lv_bipush (v := (48 : Int32)) hx hb dX4_shows_34 (by decide) ?_
    refine lv_ior hx hb dX4_shows_36 ?_
    obtain rfl := Option.some.inj hF
    exact W.iret hx hb hr (fun t ht hW => ⟨rfl, ht⟩) nofun dX4_shows_37
  have hF := kn hF q1_4
  refine lv_lookup (tgt := 38) (off := 37) hx hb dX4_shows_1 (by decide) (by rw [show ∀ (r : List (Int × Int)) (o d : Int), Op.lookupswitch.offset ((3, o) :: r) d (a0).toInt = Op.lookupswitch.offset r d (a0).toInt from fun r o d => lv_osw q1_3 (by decide)]; rw [show ∀ (r : List (Int × Int)) (o d : Int), Op.lookupswitch.offset ((4, o) :: r) d (a0).toInt = Op.lookupswitch.offset r d (a0).toInt from fun r o d => lv_osw q1_4 (by decide)]; rfl) (by decide) ?_
  refine lv_iload_n hx hb dX4_shows_38 rfl (lv_at hl 1 rfl) ?_
  obtain rfl := Option.some.inj hF
  exact W.iret hx hb hr (fun t ht hW => ⟨rfl, ht⟩) nofun dX4_shows_39
abbrev w_Kinds_above (E : kE)    : va_W := []
set_option maxHeartbeats 4000000 in
set_option maxRecDepth 100000 in
theorem k_Kinds_above (l : Launch) (E : kE)    (a0 : Int32) (out : Int32) (hF : f_Kinds_above  a0 = some out) : Met l yX4_above (Cond.code yX4_above cX4_above 1 (some .int) :: wG) (rm 1) (pR E (w_Kinds_above E ) [.int a0]) (qR (.int out)) 0 0 (fun _ => False) := by
  refine met_R (by decide) (Nat.le_of_ble_eq_true rfl) ?_
  intro p e s m args below meth c ls C hP hK hT hl
  obtain ⟨hx, hb, hr, hml, hown, hw, hlocks⟩ := id C
  have hS : va_S (fun _ => False) s.heap s.heap [] := va_S.rf
  have hl : lv_has ls 1 [(0, .int a0)] := hl
  rw [f_Kinds_above] at hF
  refine lv_iload_n hx hb dX4_above_0 rfl (lv_at hl 0 rfl) ?_
  by_cases q1_1 : a0 = (1 : Int32)
  · have hF := kp hF q1_1
    refine lv_tableIn (tgt := 36) (off := 35) hx hb dX4_above_1 (sw_in (lo := 1) (hi := 5) q1_1 (by decide)).1 (sw_in (lo := 1) (hi := 5) q1_1 (by decide)).2 (sw_at q1_1 rfl) (by decide) ?_
    refine lv_iconst (v := (0 : Int32)) hx hb dX4_above_36 (by decide) ?_
    obtain rfl := Option.some.inj hF
    exact W.iret hx hb hr (fun t ht hW => ⟨rfl, ht⟩) nofun dX4_above_37
  have hF := kn hF q1_1
  by_cases q1_2 : a0 = (2 : Int32)
  · have hF := kp hF q1_2
    refine lv_tableIn (tgt := 36) (off := 35) hx hb dX4_above_1 (sw_in (lo := 1) (hi := 5) q1_2 (by decide)).1 (sw_in (lo := 1) (hi := 5) q1_2 (by decide)).2 (sw_at q1_2 rfl) (by decide) ?_
    refine lv_iconst (v := (0 : Int32)) hx hb dX4_above_36 (by decide) ?_
    obtain rfl := Option.some.inj hF
    exact W.iret hx hb hr (fun t ht hW => ⟨rfl, ht⟩) nofun dX4_above_37
  have hF := kn hF q1_2
  by_cases q1_3 : a0 = (3 : Int32)
  · have hF := kp hF q1_3
    refine lv_tableIn (tgt := 36) (off := 35) hx hb dX4_above_1 (sw_in (lo := 1) (hi := 5) q1_3 (by decide)).1 (sw_in (lo := 1) (hi := 5) q1_3 (by decide)).2 (sw_at q1_3 rfl) (by decide) ?_
    refine lv_iconst (v := (0 : Int32)) hx hb dX4_above_36 (by decide) ?_
    obtain rfl := Option.some.inj hF
    exact W.iret hx hb hr (fun t ht hW => ⟨rfl, ht⟩) nofun dX4_above_37
  have hF := kn hF q1_3
  by_cases q1_4 : a0 = (4 : Int32)
  · have hF := kp hF q1_4
    refine lv_tableIn (tgt := 38) (off := 37) hx hb dX4_above_1 (sw_in (lo := 1) (hi := 5) q1_4 (by decide)).1 (sw_in (lo := 1) (hi := 5) q1_4 (by decide)).2 (sw_at q1_4 rfl) (by decide) ?_
    refine lv_iconst (v := (1 : Int32)) hx hb dX4_above_38 (by decide) ?_
    obtain rfl := Option.some.inj hF
    exact W.iret hx hb hr (fun t ht hW => ⟨rfl, ht⟩) nofun dX4_above_39
  have hF := kn hF q1_4
  by_cases q1_5 : a0 = (5 : Int32)
  · have hF := kp hF q1_5
    refine lv_tableIn (tgt := 40) (off := 39) hx hb dX4_above_1 (sw_in (lo := 1) (hi := 5) q1_5 (by decide)).1 (sw_in (lo := 1) (hi := 5) q1_5 (by decide)).2 (sw_at q1_5 rfl) (by decide) ?_
    refine lv_iconst (v := (2 : Int32)) hx hb dX4_above_40 (by decide) ?_
    obtain rfl := Option.some.inj hF
    exact W.iret hx hb hr (fun t ht hW => ⟨rfl, ht⟩) nofun dX4_above_41
  have hF := kn hF q1_5
  refine lv_tableOut (tgt := 42) hx hb dX4_above_1 (by have z0 := lv_neT q1_1 (a := 1) (by decide); have z1 := lv_neT q1_2 (a := 2) (by decide); have z2 := lv_neT q1_3 (a := 3) (by decide); have z3 := lv_neT q1_4 (a := 4) (by decide); have z4 := lv_neT q1_5 (a := 5) (by decide); omega) (by decide) ?_
  refine lv_iconst (v := (-1 : Int32)) hx hb dX4_above_42 (by decide) ?_
  obtain rfl := Option.some.inj hF
  exact W.iret hx hb hr (fun t ht hW => ⟨rfl, ht⟩) nofun dX4_above_43
abbrev w_Kinds_isUnder (E : kE)    : va_W := []
set_option maxHeartbeats 4000000 in
set_option maxRecDepth 100000 in
theorem wk_Kinds_isUnder_b4 {p : Program} {l : Launch} {e : Env} {s : State} {m : MethodId} {args : Array Value} {below : List Frame} {meth : Method} {c : Code} (E : kE)    (a0 : Int32) (a1 : Int32) {out : Int32} (C : kC RX4 cX4_isUnder 4 (some .boolean) p s m args meth c) (hP : va_P (eD E) vwCl (w_Kinds_isUnder E ) s.heap) (hK : va_K (eD E) vwCl (eT E) s) (hT : sT E (fun _ => False) s s.heap)  :
    ∀ (n : Nat), ∀ (v2 : Int32) (v3 : Int32), f_Kinds_isUnder_b4  a0 a1 n v2 v3 = some out → ∀ (ls : Array Slot), lv_has ls 4 [(1, .int a1), (2, .int v2), (3, .int v3)] → W p l e (rm 2) s m args below meth c s.heap [] 0 0 (MQ below (qR (.int out)) args s 0 0 (fun _ => False)) (F0 m 4 ls []) := by
  obtain ⟨hx, hb, hr, hml, hown, hw, hlocks⟩ := id C
  have hS : va_S (fun _ => False) s.heap s.heap [] := va_S.rf
  intro n
  induction n with
  | zero =>
    intro v2 v3 hF
    exact absurd (show (none : Option (Int32)) = some out from hF) nofun
  | succ n ih =>
    intro v2 v3 hF ls hl
    rw [f_Kinds_isUnder_b4] at hF
    refine lv_iload_n hx hb dX4_isUnder_4 rfl (lv_at hl 2 rfl) ?_
    refine lv_bipush (v := (6 : Int32)) hx hb dX4_isUnder_5 (by decide) ?_
    refine lv_icmp_ge (tgt := 32) hx hb dX4_isUnder_7 (by decide) (fun q1 => ?_) (fun q1 => ?_)
    · have hF := kp hF q1
      refine lv_iconst (v := (0 : Int32)) hx hb dX4_isUnder_32 (by decide) ?_
      obtain rfl := Option.some.inj hF
      exact W.zret (ty := .boolean) hx hb hr rfl (fun t ht hW => ⟨rfl, ht⟩) nofun dX4_isUnder_33
    · have hF := kn hF q1
      refine lv_iload_n hx hb dX4_isUnder_10 rfl (lv_at hl 1 rfl) ?_
      refine lv_if_lt (tgt := 32) hx hb dX4_isUnder_11 (by decide) (fun q2 => ?_) (fun q2 => ?_)
      · have hF := kp hF q2
        refine lv_iconst (v := (0 : Int32)) hx hb dX4_isUnder_32 (by decide) ?_
        obtain rfl := Option.some.inj hF
        exact W.zret (ty := .boolean) hx hb hr rfl (fun t ht hW => ⟨rfl, ht⟩) nofun dX4_isUnder_33
      · have hF := kn hF q2
        refine lv_iload_n hx hb dX4_isUnder_14 rfl (lv_at hl 1 rfl) ?_
        refine lv_iload_n hx hb dX4_isUnder_15 rfl (lv_at hl 0 rfl) ?_
        refine lv_icmp_ne (tgt := 21) hx hb dX4_isUnder_16 (by decide) (fun q3 => ?_) (fun q3 => ?_)
        · have hF := kn hF q3
          refine lv_iload_n hx hb dX4_isUnder_21 rfl (lv_at hl 1 rfl) ?_
          obtain ⟨r4, er4, hF⟩ := kb hF
          refine kRS (rest := []) C (k_Kinds_above l E v2 r4 er4) fn_Kinds_above mw_487 ⟨Nat.le_of_ble_eq_true rfl, Nat.le_of_ble_eq_true rfl⟩ hK hT hS hP [] rfl rfl rfl hl (Nat.le_of_ble_eq_true rfl) dX4_isUnder_22 ?_
          refine lv_istore_n (lv' := [(2, .int r4), (1, .int a1), (3, .int v3)]) hx hb dX4_isUnder_25 rfl hl (by decide) rfl (fun ls hl => ?_)
          refine lv_iinc (v := (v3 + (1))) (lv' := [(3, .int (v3 + (1))), (2, .int r4), (1, .int a1)]) hx hb dX4_isUnder_26 hl (k := 2) rfl rfl (by decide) rfl (fun ls hl => ?_)
          refine lv_goto (tgt := 4) hx hb dX4_isUnder_29 (by decide) ?_
          exact ih r4 (v3 + (1)) hF _ (lv_sub hl [2, 1, 0] rfl)
        · have hF := kp hF q3
          refine lv_iconst (v := (1 : Int32)) hx hb dX4_isUnder_19 (by decide) ?_
          obtain rfl := Option.some.inj hF
          exact W.zret (ty := .boolean) hx hb hr rfl (fun t ht hW => ⟨rfl, ht⟩) nofun dX4_isUnder_20
set_option maxHeartbeats 4000000 in
set_option maxRecDepth 100000 in
theorem k_Kinds_isUnder (l : Launch) (E : kE)    (a0 : Int32) (a1 : Int32) (out : Int32) (hF : f_Kinds_isUnder  a0 a1 = some out) : Met l yX4_isUnder (Cond.code yX4_isUnder cX4_isUnder 4 (some .boolean) :: wG) (rm 2) (pR E (w_Kinds_isUnder E ) [.int a0, .int a1]) (qR (.int out)) 0 0 (fun _ => False) := by
  refine met_R (by decide) (Nat.le_of_ble_eq_true rfl) ?_
  intro p e s m args below meth c ls C hP hK hT hl
  obtain ⟨hx, hb, hr, hml, hown, hw, hlocks⟩ := id C
  have hS : va_S (fun _ => False) s.heap s.heap [] := va_S.rf
  have hl : lv_has ls 4 [(0, .int a0), (1, .int a1)] := hl
  rw [f_Kinds_isUnder] at hF
  refine lv_iload_n hx hb dX4_isUnder_0 rfl (lv_at hl 0 rfl) ?_
  refine lv_istore_n (lv' := [(2, .int a0), (0, .int a0), (1, .int a1)]) hx hb dX4_isUnder_1 rfl hl (by decide) rfl (fun ls hl => ?_)
  refine lv_iconst (v := (0 : Int32)) hx hb dX4_isUnder_2 (by decide) ?_
  refine lv_istore_n (lv' := [(3, .int (0 : Int32)), (2, .int a0), (0, .int a0), (1, .int a1)]) hx hb dX4_isUnder_3 rfl hl (by decide) rfl (fun ls hl => ?_)
  exact wk_Kinds_isUnder_b4 E  a0 a1 C hP  hK hT  5000 a0 (0 : Int32) hF _ (lv_sub hl [3, 1, 0] rfl)
abbrev w_Kinds_lastsForFeet (E : kE)    : va_W := []
set_option maxHeartbeats 4000000 in
set_option maxRecDepth 100000 in
theorem k_Kinds_lastsForFeet (l : Launch) (E : kE)    (a0 : Int32) (a1 : Int32) (a2 : Int32) (out : Int32) (hF : f_Kinds_lastsForFeet  a0 a1 a2 = some out) : Met l yX4_lastsForFeet (Cond.code yX4_lastsForFeet cX4_lastsForFeet 4 (some .int) :: wG) (rm 5) (pR E (w_Kinds_lastsForFeet E ) [.int a0, .int a1, .int a2]) (qR (.int out)) 0 0 (fun _ => False) := by
  refine met_R (by decide) (Nat.le_of_ble_eq_true rfl) ?_
  intro p e s m args below meth c ls C hP hK hT hl
  obtain ⟨hx, hb, hr, hml, hown, hw, hlocks⟩ := id C
  have hS : va_S (fun _ => False) s.heap s.heap [] := va_S.rf
  have hl : lv_has ls 4 [(0, .int a0), (1, .int a1), (2, .int a2)] := hl
  rw [f_Kinds_lastsForFeet] at hF
  refine lv_iload_n hx hb dX4_lastsForFeet_0 rfl (lv_at hl 0 rfl) ?_
  refine lv_iload_n hx hb dX4_lastsForFeet_1 rfl (lv_at hl 1 rfl) ?_
  obtain ⟨r1, er1, hF⟩ := kb hF
  refine kRS (rest := []) C (k_Kinds_feet l E a0 a1 r1 er1) fn_Kinds_feet mw_539 ⟨Nat.le_of_ble_eq_true rfl, Nat.le_of_ble_eq_true rfl⟩ hK hT hS hP [] rfl rfl rfl hl (Nat.le_of_ble_eq_true rfl) dX4_lastsForFeet_2 ?_
  refine lv_istore_n (lv' := [(3, .int r1), (0, .int a0), (1, .int a1), (2, .int a2)]) hx hb dX4_lastsForFeet_5 rfl hl (by decide) rfl (fun ls hl => ?_)
  refine lv_iload_n hx hb dX4_lastsForFeet_6 rfl (lv_at hl 0 rfl) ?_
  refine lv_if_le (tgt := 23) hx hb dX4_lastsForFeet_7 (by decide) (fun q2 => ?_) (fun q2 => ?_)
  · have hF := kp hF q2
    refine lv_iconst (v := (0 : Int32)) hx hb dX4_lastsForFeet_23 (by decide) ?_
    obtain rfl := Option.some.inj hF
    exact W.iret hx hb hr (fun t ht hW => ⟨rfl, ht⟩) nofun dX4_lastsForFeet_24
  · have hF := kn hF q2
    refine lv_iload_n hx hb dX4_lastsForFeet_10 rfl (lv_at hl 1 rfl) ?_
    refine lv_iload_n hx hb dX4_lastsForFeet_11 rfl (lv_at hl 3 rfl) ?_
    obtain ⟨r3, er3, hF⟩ := kb hF
    refine kRS (rest := []) C (k_Kinds_lasts l E a0 a2 r3 er3) fn_Kinds_lasts mw_540 ⟨Nat.le_of_ble_eq_true rfl, Nat.le_of_ble_eq_true rfl⟩ hK hT hS hP [] rfl rfl rfl hl (Nat.le_of_ble_eq_true rfl) dX4_lastsForFeet_12 ?_
    refine lv_bipush (v := (100 : Int32)) hx hb dX4_lastsForFeet_15 (by decide) ?_
    refine lv_imul hx hb dX4_lastsForFeet_17 ?_
    refine lv_iload_n hx hb dX4_lastsForFeet_18 rfl (lv_at hl 0 rfl) ?_
    obtain ⟨q4, eq4, hF⟩ := kb hF
    refine wa_div hx hb eq4 dX4_lastsForFeet_19 ?_
    refine lv_goto (tgt := 24) hx hb dX4_lastsForFeet_20 (by decide) ?_
    obtain rfl := Option.some.inj hF
    exact W.iret hx hb hr (fun t ht hW => ⟨rfl, ht⟩) nofun dX4_lastsForFeet_24
abbrev w_Kinds_longestForFeet (E : kE)    : va_W := []
set_option maxHeartbeats 4000000 in
set_option maxRecDepth 100000 in
theorem wk_Kinds_longestForFeet_b12 {p : Program} {l : Launch} {e : Env} {s : State} {m : MethodId} {args : Array Value} {below : List Frame} {meth : Method} {c : Code} (E : kE)    (a0 : Int32) (a1 : Int32) {out : Int32} (C : kC RX4 cX4_longestForFeet 6 (some .int) p s m args meth c) (hP : va_P (eD E) vwCl (w_Kinds_longestForFeet E ) s.heap) (hK : va_K (eD E) vwCl (eT E) s) (hT : sT E (fun _ => False) s s.heap)  :
    ∀ (n : Nat), ∀ (v2 : Int32) (v3 : Int32) (v4 : Int32), f_Kinds_longestForFeet_b12  a0 a1 n v2 v3 v4 = some out → ∀ (ls : Array Slot), lv_has ls 6 [(0, .int a0), (1, .int a1), (2, .int v2), (3, .int v3), (4, .int v4)] → W p l e (rm 6) s m args below meth c s.heap [] 0 0 (MQ below (qR (.int out)) args s 0 0 (fun _ => False)) (F0 m 12 ls []) := by
  obtain ⟨hx, hb, hr, hml, hown, hw, hlocks⟩ := id C
  have hS : va_S (fun _ => False) s.heap s.heap [] := va_S.rf
  intro n
  induction n with
  | zero =>
    intro v2 v3 v4 hF
    exact absurd (show (none : Option (Int32)) = some out from hF) nofun
  | succ n ih =>
    intro v2 v3 v4 hF ls hl
    rw [f_Kinds_longestForFeet_b12] at hF
    refine lv_iload hx hb dX4_longestForFeet_12 (lv_at hl 4 rfl) ?_
    refine lv_bipush (v := (6 : Int32)) hx hb dX4_longestForFeet_14 (by decide) ?_
    refine lv_icmp_ge (tgt := 46) hx hb dX4_longestForFeet_16 (by decide) (fun q1 => ?_) (fun q1 => ?_)
    · have hF := kp hF q1
      refine lv_iload_n hx hb dX4_longestForFeet_46 rfl (lv_at hl 2 rfl) ?_
      obtain rfl := Option.some.inj hF
      exact W.iret hx hb hr (fun t ht hW => ⟨rfl, ht⟩) nofun dX4_longestForFeet_47
    · have hF := kn hF q1
      refine lv_iload hx hb dX4_longestForFeet_19 (lv_at hl 4 rfl) ?_
      refine lv_iload_n hx hb dX4_longestForFeet_21 rfl (lv_at hl 0 rfl) ?_
      refine lv_iload_n hx hb dX4_longestForFeet_22 rfl (lv_at hl 1 rfl) ?_
      obtain ⟨r2, er2, hF⟩ := kb hF
      refine kRS (rest := []) C (k_Kinds_lastsForFeet l E v4 a0 a1 r2 er2) fn_Kinds_lastsForFeet mw_536 ⟨Nat.le_of_ble_eq_true rfl, Nat.le_of_ble_eq_true rfl⟩ hK hT hS hP [] rfl rfl rfl hl (Nat.le_of_ble_eq_true rfl) dX4_longestForFeet_23 ?_
      refine lv_istore (lv' := [(5, .int r2), (0, .int a0), (1, .int a1), (2, .int v2), (3, .int v3), (4, .int v4)]) hx hb dX4_longestForFeet_26 hl (by decide) rfl (fun ls hl => ?_)
      refine lv_iload hx hb dX4_longestForFeet_28 (lv_at hl 0 rfl) ?_
      refine lv_iload_n hx hb dX4_longestForFeet_30 rfl (lv_at hl 4 rfl) ?_
      refine lv_icmp_le (tgt := 40) hx hb dX4_longestForFeet_31 (by decide) (fun q3 => ?_) (fun q3 => ?_)
      · have hF := kp hF q3
        refine lv_iinc (v := (v4 + (1))) (lv' := [(4, .int (v4 + (1))), (5, .int r2), (0, .int a0), (1, .int a1), (2, .int v2), (3, .int v3)]) hx hb dX4_longestForFeet_40 hl (k := 5) rfl rfl (by decide) rfl (fun ls hl => ?_)
        refine lv_goto (tgt := 12) hx hb dX4_longestForFeet_43 (by decide) ?_
        exact ih v2 v3 (v4 + (1)) hF _ (lv_sub hl [2, 3, 4, 5, 0] rfl)
      · have hF := kn hF q3
        refine lv_iload hx hb dX4_longestForFeet_34 (lv_at hl 0 rfl) ?_
        refine lv_istore_n (lv' := [(3, .int r2), (5, .int r2), (0, .int a0), (1, .int a1), (2, .int v2), (4, .int v4)]) hx hb dX4_longestForFeet_36 rfl hl (by decide) rfl (fun ls hl => ?_)
        refine lv_iload hx hb dX4_longestForFeet_37 (lv_at hl 5 rfl) ?_
        refine lv_istore_n (lv' := [(2, .int v4), (3, .int r2), (5, .int r2), (0, .int a0), (1, .int a1), (4, .int v4)]) hx hb dX4_longestForFeet_39 rfl hl (by decide) rfl (fun ls hl => ?_)
        refine lv_iinc (v := (v4 + (1))) (lv' := [(4, .int (v4 + (1))), (2, .int v4), (3, .int r2), (5, .int r2), (0, .int a0), (1, .int a1)]) hx hb dX4_longestForFeet_40 hl (k := 5) rfl rfl (by decide) rfl (fun ls hl => ?_)
        refine lv_goto (tgt := 12) hx hb dX4_longestForFeet_43 (by decide) ?_
        exact ih v4 r2 (v4 + (1)) hF _ (lv_sub hl [4, 5, 1, 2, 0] rfl)
set_option maxHeartbeats 4000000 in
set_option maxRecDepth 100000 in
theorem k_Kinds_longestForFeet (l : Launch) (E : kE)    (a0 : Int32) (a1 : Int32) (out : Int32) (hF : f_Kinds_longestForFeet  a0 a1 = some out) : Met l yX4_longestForFeet (Cond.code yX4_longestForFeet cX4_longestForFeet 6 (some .int) :: wG) (rm 6) (pR E (w_Kinds_longestForFeet E ) [.int a0, .int a1]) (qR (.int out)) 0 0 (fun _ => False) := by
  refine met_R (by decide) (Nat.le_of_ble_eq_true rfl) ?_
  intro p e s m args below meth c ls C hP hK hT hl
  obtain ⟨hx, hb, hr, hml, hown, hw, hlocks⟩ := id C
  have hS : va_S (fun _ => False) s.heap s.heap [] := va_S.rf
  have hl : lv_has ls 6 [(0, .int a0), (1, .int a1)] := hl
  rw [f_Kinds_longestForFeet] at hF
  refine lv_iconst (v := (0 : Int32)) hx hb dX4_longestForFeet_0 (by decide) ?_
  refine lv_istore_n (lv' := [(2, .int (0 : Int32)), (0, .int a0), (1, .int a1)]) hx hb dX4_longestForFeet_1 rfl hl (by decide) rfl (fun ls hl => ?_)
  refine lv_iconst (v := (0 : Int32)) hx hb dX4_longestForFeet_2 (by decide) ?_
  refine lv_iload_n hx hb dX4_longestForFeet_3 rfl (lv_at hl 1 rfl) ?_
  refine lv_iload_n hx hb dX4_longestForFeet_4 rfl (lv_at hl 2 rfl) ?_
  obtain ⟨r4, er4, hF⟩ := kb hF
  refine kRS (rest := []) C (k_Kinds_lastsForFeet l E (0 : Int32) a0 a1 r4 er4) fn_Kinds_lastsForFeet mw_536 ⟨Nat.le_of_ble_eq_true rfl, Nat.le_of_ble_eq_true rfl⟩ hK hT hS hP [] rfl rfl rfl hl (Nat.le_of_ble_eq_true rfl) dX4_longestForFeet_5 ?_
  refine lv_istore_n (lv' := [(3, .int r4), (2, .int (0 : Int32)), (0, .int a0), (1, .int a1)]) hx hb dX4_longestForFeet_8 rfl hl (by decide) rfl (fun ls hl => ?_)
  refine lv_iconst (v := (1 : Int32)) hx hb dX4_longestForFeet_9 (by decide) ?_
  refine lv_istore (lv' := [(4, .int (1 : Int32)), (3, .int r4), (2, .int (0 : Int32)), (0, .int a0), (1, .int a1)]) hx hb dX4_longestForFeet_10 hl (by decide) rfl (fun ls hl => ?_)
  exact wk_Kinds_longestForFeet_b12 E  a0 a1 C hP  hK hT  5000 (0 : Int32) r4 (1 : Int32) hF _ (lv_sub hl [3, 4, 2, 1, 0] rfl)
abbrev w_Book_signsLeftAs (E : kE) (h_t : Nat) (h_t_forms : Nat)  (c_t_forms : (Nat → Int32)) : va_W := [(h_t, .inr (0, [.ref h_t_forms])), (h_t_forms, .inl (eI E, 26, .inl c_t_forms))]
set_option maxHeartbeats 4000000 in
set_option maxRecDepth 100000 in
theorem wk_Book_signsLeftAs_b56 {p : Program} {l : Launch} {e : Env} {s : State} {m : MethodId} {args : Array Value} {below : List Frame} {meth : Method} {c : Code} (E : kE) (h_t : Nat) (h_t_forms : Nat)  (c_t_forms : (Nat → Int32)) (a1 : Int32) (a2 : Int32) {out : Int32} (C : kC RX0 cX0_signsLeftAs 7 (some .int) p s m args meth c) (hP : va_P (eD E) vwCl (w_Book_signsLeftAs E h_t h_t_forms c_t_forms) s.heap) (hK : va_K (eD E) vwCl (eT E) s) (hT : sT E (fun _ => False) s s.heap) (k5 : Int32 → Int32 → Option (Int32)) (hk5 : ∀ (v3 : Int32) (v4 : Int32), k5 v3 v4 = some out → ∀ (ls : Array Slot), lv_has ls 7 [(0, .ref h_t), (1, .int a1), (2, .int a2), (3, .int v3), (4, .int v4)] → W p l e (rm 1) s m args below meth c s.heap [] 0 0 (MQ below (qR (.int out)) args s 0 0 (fun _ => False)) (F0 m 5 ls [])) :
    ∀ (v3 : Int32) (v4 : Int32) (v5 : Int32) (s0 : Int32), f_Book_signsLeftAs_b56 k5 c_t_forms a1 a2 v3 v4 v5 s0 = some out → ∀ (ls : Array Slot), lv_has ls 7 [(0, .ref h_t), (1, .int a1), (2, .int a2), (3, .int v3), (4, .int v4), (5, .int v5)] → W p l e (rm 1) s m args below meth c s.heap [] 0 0 (MQ below (qR (.int out)) args s 0 0 (fun _ => False)) (F0 m 56 ls [.int s0]) := by
  obtain ⟨hx, hb, hr, hml, hown, hw, hlocks⟩ := id C
  have hS : va_S (fun _ => False) s.heap s.heap [] := va_S.rf
  intro v3 v4 v5 s0 hF ls hl
  rw [f_Book_signsLeftAs_b56] at hF
  refine lv_istore (lv' := [(6, .int s0), (0, .ref h_t), (1, .int a1), (2, .int a2), (3, .int v3), (4, .int v4), (5, .int v5)]) hx hb dX0_signsLeftAs_56 hl (by decide) rfl (fun ls hl => ?_)
  refine lv_aload_n hx hb dX0_signsLeftAs_58 rfl (lv_at hl 1 rfl) ?_
  refine va_get (D := eD E) (ci := 0) (C := RX0) (T := TX0) (N := 1) (v := .ref h_t_forms) hx hb hw inX0 hown hK hP 0 rfl rfl 0 (by decide) (hw _ mw_76) (fun _ h9 => h9) rfl dX0_signsLeftAs_59 ?_
  refine lv_iload hx hb dX0_signsLeftAs_62 (lv_at hl 5 rfl) ?_
  obtain ⟨r1, er1, hF⟩ := kb hF
  refine wa_iald hx hb hK hP 1 0 rfl rfl er1 dX0_signsLeftAs_64 ?_
  refine lv_if_eq (tgt := 85) hx hb dX0_signsLeftAs_65 (by decide) (fun q2 => ?_) (fun q2 => ?_)
  · have hF := kp hF q2
    refine lv_iinc (v := (v4 + (1))) (lv' := [(4, .int (v4 + (1))), (6, .int s0), (0, .ref h_t), (1, .int a1), (2, .int a2), (3, .int v3), (5, .int v5)]) hx hb dX0_signsLeftAs_85 hl (k := 5) rfl rfl (by decide) rfl (fun ls hl => ?_)
    refine lv_goto (tgt := 5) hx hb dX0_signsLeftAs_88 (by decide) ?_
    exact hk5 v3 (v4 + (1)) hF _ (lv_sub hl [2, 3, 4, 5, 0] rfl)
  · have hF := kn hF q2
    refine lv_iload hx hb dX0_signsLeftAs_68 (lv_at hl 6 rfl) ?_
    refine lv_if_eq (tgt := 85) hx hb dX0_signsLeftAs_70 (by decide) (fun q3 => ?_) (fun q3 => ?_)
    · have hF := kp hF q3
      refine lv_iinc (v := (v4 + (1))) (lv' := [(4, .int (v4 + (1))), (6, .int s0), (0, .ref h_t), (1, .int a1), (2, .int a2), (3, .int v3), (5, .int v5)]) hx hb dX0_signsLeftAs_85 hl (k := 5) rfl rfl (by decide) rfl (fun ls hl => ?_)
      refine lv_goto (tgt := 5) hx hb dX0_signsLeftAs_88 (by decide) ?_
      exact hk5 v3 (v4 + (1)) hF _ (lv_sub hl [2, 3, 4, 5, 0] rfl)
    · have hF := kn hF q3
      refine lv_iload hx hb dX0_signsLeftAs_73 (lv_at hl 0 rfl) ?_
      refine lv_if_eq (tgt := 85) hx hb dX0_signsLeftAs_75 (by decide) (fun q4 => ?_) (fun q4 => ?_)
      · have hF := kp hF q4
        refine lv_iinc (v := (v4 + (1))) (lv' := [(4, .int (v4 + (1))), (6, .int s0), (0, .ref h_t), (1, .int a1), (2, .int a2), (3, .int v3), (5, .int v5)]) hx hb dX0_signsLeftAs_85 hl (k := 5) rfl rfl (by decide) rfl (fun ls hl => ?_)
        refine lv_goto (tgt := 5) hx hb dX0_signsLeftAs_88 (by decide) ?_
        exact hk5 v3 (v4 + (1)) hF _ (lv_sub hl [2, 3, 4, 5, 0] rfl)
      · have hF := kn hF q4
        refine lv_iload_n hx hb dX0_signsLeftAs_78 rfl (lv_at hl 4 rfl) ?_
        refine lv_iconst (v := (1 : Int32)) hx hb dX0_signsLeftAs_79 (by decide) ?_
        refine lv_iload hx hb dX0_signsLeftAs_80 (lv_at hl 5 rfl) ?_
        refine lv_ishl hx hb dX0_signsLeftAs_82 ?_
        refine lv_ior hx hb dX0_signsLeftAs_83 ?_
        refine lv_istore_n (lv' := [(3, .int (v3 ||| ((1 : Int32) <<< (v4 &&& 31)))), (6, .int s0), (0, .ref h_t), (1, .int a1), (2, .int a2), (4, .int v4), (5, .int v5)]) hx hb dX0_signsLeftAs_84 rfl hl (by decide) rfl (fun ls hl => ?_)
        refine lv_iinc (v := (v4 + (1))) (lv' := [(4, .int (v4 + (1))), (3, .int (v3 ||| ((1 : Int32) <<< (v4 &&& 31)))), (6, .int s0), (0, .ref h_t), (1, .int a1), (2, .int a2), (5, .int v5)]) hx hb dX0_signsLeftAs_85 hl (k := 5) rfl rfl (by decide) rfl (fun ls hl => ?_)
        refine lv_goto (tgt := 5) hx hb dX0_signsLeftAs_88 (by decide) ?_
        exact hk5 (v3 ||| ((1 : Int32) <<< (v4 &&& 31))) (v4 + (1)) hF _ (lv_sub hl [3, 4, 5, 1, 0] rfl)
set_option maxHeartbeats 4000000 in
set_option maxRecDepth 100000 in
theorem wk_Book_signsLeftAs_b31 {p : Program} {l : Launch} {e : Env} {s : State} {m : MethodId} {args : Array Value} {below : List Frame} {meth : Method} {c : Code} (E : kE) (h_t : Nat) (h_t_forms : Nat)  (c_t_forms : (Nat → Int32)) (a1 : Int32) (a2 : Int32) {out : Int32} (C : kC RX0 cX0_signsLeftAs 7 (some .int) p s m args meth c) (hP : va_P (eD E) vwCl (w_Book_signsLeftAs E h_t h_t_forms c_t_forms) s.heap) (hK : va_K (eD E) vwCl (eT E) s) (hT : sT E (fun _ => False) s s.heap) (k5 : Int32 → Int32 → Option (Int32)) (hk5 : ∀ (v3 : Int32) (v4 : Int32), k5 v3 v4 = some out → ∀ (ls : Array Slot), lv_has ls 7 [(0, .ref h_t), (1, .int a1), (2, .int a2), (3, .int v3), (4, .int v4)] → W p l e (rm 1) s m args below meth c s.heap [] 0 0 (MQ below (qR (.int out)) args s 0 0 (fun _ => False)) (F0 m 5 ls [])) :
    ∀ (v3 : Int32) (v4 : Int32) (s0 : Int32), f_Book_signsLeftAs_b31 k5 c_t_forms a1 a2 v3 v4 s0 = some out → ∀ (ls : Array Slot), lv_has ls 7 [(0, .ref h_t), (1, .int a1), (2, .int a2), (3, .int v3), (4, .int v4)] → W p l e (rm 1) s m args below meth c s.heap [] 0 0 (MQ below (qR (.int out)) args s 0 0 (fun _ => False)) (F0 m 31 ls [.int s0]) := by
  obtain ⟨hx, hb, hr, hml, hown, hw, hlocks⟩ := id C
  have hS : va_S (fun _ => False) s.heap s.heap [] := va_S.rf
  intro v3 v4 s0 hF ls hl
  rw [f_Book_signsLeftAs_b31] at hF
  refine lv_istore (lv' := [(5, .int s0), (0, .ref h_t), (1, .int a1), (2, .int a2), (3, .int v3), (4, .int v4)]) hx hb dX0_signsLeftAs_31 hl (by decide) rfl (fun ls hl => ?_)
  refine lv_aload_n hx hb dX0_signsLeftAs_33 rfl (lv_at hl 1 rfl) ?_
  refine va_get (D := eD E) (ci := 0) (C := RX0) (T := TX0) (N := 1) (v := .ref h_t_forms) hx hb hw inX0 hown hK hP 0 rfl rfl 0 (by decide) (hw _ mw_76) (fun _ h9 => h9) rfl dX0_signsLeftAs_34 ?_
  refine lv_iload hx hb dX0_signsLeftAs_37 (lv_at hl 5 rfl) ?_
  obtain ⟨r5, er5, hF⟩ := kb hF
  refine wa_iald hx hb hK hP 1 0 rfl rfl er5 dX0_signsLeftAs_39 ?_
  refine lv_iload_n hx hb dX0_signsLeftAs_40 rfl (lv_at hl 2 rfl) ?_
  refine lv_iconst (v := (-1 : Int32)) hx hb dX0_signsLeftAs_41 (by decide) ?_
  refine lv_ixor hx hb dX0_signsLeftAs_42 ?_
  refine lv_iand hx hb dX0_signsLeftAs_43 ?_
  refine lv_iload_n hx hb dX0_signsLeftAs_44 rfl (lv_at hl 3 rfl) ?_
  refine lv_iconst (v := (-1 : Int32)) hx hb dX0_signsLeftAs_45 (by decide) ?_
  refine lv_ixor hx hb dX0_signsLeftAs_46 ?_
  refine lv_iand hx hb dX0_signsLeftAs_47 ?_
  refine lv_if_ne (tgt := 55) hx hb dX0_signsLeftAs_48 (by decide) (fun q6 => ?_) (fun q6 => ?_)
  · have hF := kn hF q6
    refine lv_iconst (v := (0 : Int32)) hx hb dX0_signsLeftAs_55 (by decide) ?_
    exact wk_Book_signsLeftAs_b56 E h_t h_t_forms c_t_forms a1 a2 C hP  hK hT k5 hk5 v3 v4 s0 (0 : Int32) hF _ (lv_sub hl [1, 2, 3, 4, 5, 0] rfl)
  · have hF := kp hF q6
    refine lv_iconst (v := (1 : Int32)) hx hb dX0_signsLeftAs_51 (by decide) ?_
    refine lv_goto (tgt := 56) hx hb dX0_signsLeftAs_52 (by decide) ?_
    exact wk_Book_signsLeftAs_b56 E h_t h_t_forms c_t_forms a1 a2 C hP  hK hT k5 hk5 v3 v4 s0 (1 : Int32) hF _ (lv_sub hl [1, 2, 3, 4, 5, 0] rfl)
set_option maxHeartbeats 4000000 in
set_option maxRecDepth 100000 in
theorem wk_Book_signsLeftAs_b5 {p : Program} {l : Launch} {e : Env} {s : State} {m : MethodId} {args : Array Value} {below : List Frame} {meth : Method} {c : Code} (E : kE) (h_t : Nat) (h_t_forms : Nat)  (c_t_forms : (Nat → Int32)) (a1 : Int32) (a2 : Int32) {out : Int32} (C : kC RX0 cX0_signsLeftAs 7 (some .int) p s m args meth c) (hP : va_P (eD E) vwCl (w_Book_signsLeftAs E h_t h_t_forms c_t_forms) s.heap) (hK : va_K (eD E) vwCl (eT E) s) (hT : sT E (fun _ => False) s s.heap)  :
    ∀ (n : Nat), ∀ (v3 : Int32) (v4 : Int32), f_Book_signsLeftAs_b5  c_t_forms a1 a2 n v3 v4 = some out → ∀ (ls : Array Slot), lv_has ls 7 [(0, .ref h_t), (1, .int a1), (2, .int a2), (3, .int v3), (4, .int v4)] → W p l e (rm 1) s m args below meth c s.heap [] 0 0 (MQ below (qR (.int out)) args s 0 0 (fun _ => False)) (F0 m 5 ls []) := by
  obtain ⟨hx, hb, hr, hml, hown, hw, hlocks⟩ := id C
  have hS : va_S (fun _ => False) s.heap s.heap [] := va_S.rf
  intro n
  induction n with
  | zero =>
    intro v3 v4 hF
    exact absurd (show (none : Option (Int32)) = some out from hF) nofun
  | succ n ih =>
    intro v3 v4 hF ls hl
    rw [f_Book_signsLeftAs_b5] at hF
    refine lv_iload hx hb dX0_signsLeftAs_5 (lv_at hl 4 rfl) ?_
    refine lv_bipush (v := (26 : Int32)) hx hb dX0_signsLeftAs_7 (by decide) ?_
    refine lv_icmp_ge (tgt := 91) hx hb dX0_signsLeftAs_9 (by decide) (fun q7 => ?_) (fun q7 => ?_)
    · have hF := kp hF q7
      refine lv_iload_n hx hb dX0_signsLeftAs_91 rfl (lv_at hl 3 rfl) ?_
      obtain rfl := Option.some.inj hF
      exact W.iret hx hb hr (fun t ht hW => ⟨rfl, ht⟩) nofun dX0_signsLeftAs_92
    · have hF := kn hF q7
      refine lv_iload_n hx hb dX0_signsLeftAs_12 rfl (lv_at hl 1 rfl) ?_
      refine lv_aload_n hx hb dX0_signsLeftAs_13 rfl (lv_at hl 0 rfl) ?_
      refine va_get (D := eD E) (ci := 0) (C := RX0) (T := TX0) (N := 1) (v := .ref h_t_forms) hx hb hw inX0 hown hK hP 0 rfl rfl 0 (by decide) (hw _ mw_76) (fun _ h9 => h9) rfl dX0_signsLeftAs_14 ?_
      refine lv_iload hx hb dX0_signsLeftAs_17 (lv_at hl 4 rfl) ?_
      obtain ⟨r8, er8, hF⟩ := kb hF
      refine wa_iald hx hb hK hP 1 0 rfl rfl er8 dX0_signsLeftAs_19 ?_
      refine lv_iconst (v := (-1 : Int32)) hx hb dX0_signsLeftAs_20 (by decide) ?_
      refine lv_ixor hx hb dX0_signsLeftAs_21 ?_
      refine lv_iand hx hb dX0_signsLeftAs_22 ?_
      refine lv_if_ne (tgt := 30) hx hb dX0_signsLeftAs_23 (by decide) (fun q9 => ?_) (fun q9 => ?_)
      · have hF := kn hF q9
        refine lv_iconst (v := (0 : Int32)) hx hb dX0_signsLeftAs_30 (by decide) ?_
        exact wk_Book_signsLeftAs_b31 E h_t h_t_forms c_t_forms a1 a2 C hP  hK hT (f_Book_signsLeftAs_b5  c_t_forms a1 a2 n) ih v3 v4 (0 : Int32) hF _ (lv_sub hl [0, 1, 2, 3, 4] rfl)
      · have hF := kp hF q9
        refine lv_iconst (v := (1 : Int32)) hx hb dX0_signsLeftAs_26 (by decide) ?_
        refine lv_goto (tgt := 31) hx hb dX0_signsLeftAs_27 (by decide) ?_
        exact wk_Book_signsLeftAs_b31 E h_t h_t_forms c_t_forms a1 a2 C hP  hK hT (f_Book_signsLeftAs_b5  c_t_forms a1 a2 n) ih v3 v4 (1 : Int32) hF _ (lv_sub hl [0, 1, 2, 3, 4] rfl)
set_option maxHeartbeats 4000000 in
set_option maxRecDepth 100000 in
theorem k_Book_signsLeftAs (l : Launch) (E : kE) (h_t : Nat) (h_t_forms : Nat)  (c_t_forms : (Nat → Int32)) (a1 : Int32) (a2 : Int32) (out : Int32) (hF : f_Book_signsLeftAs c_t_forms a1 a2 = some out) : Met l yX0_signsLeftAs (Cond.code yX0_signsLeftAs cX0_signsLeftAs 7 (some .int) :: wG) (rm 1) (pR E (w_Book_signsLeftAs E h_t h_t_forms c_t_forms) [.ref h_t, .int a1, .int a2]) (qR (.int out)) 0 0 (fun _ => False) := by
  refine met_R (by decide) (Nat.le_of_ble_eq_true rfl) ?_
  intro p e s m args below meth c ls C hP hK hT hl
  obtain ⟨hx, hb, hr, hml, hown, hw, hlocks⟩ := id C
  have hS : va_S (fun _ => False) s.heap s.heap [] := va_S.rf
  have hl : lv_has ls 7 [(0, .ref h_t), (1, .int a1), (2, .int a2)] := hl
  rw [f_Book_signsLeftAs] at hF
  refine lv_iconst (v := (0 : Int32)) hx hb dX0_signsLeftAs_0 (by decide) ?_
  refine lv_istore_n (lv' := [(3, .int (0 : Int32)), (0, .ref h_t), (1, .int a1), (2, .int a2)]) hx hb dX0_signsLeftAs_1 rfl hl (by decide) rfl (fun ls hl => ?_)
  refine lv_iconst (v := (0 : Int32)) hx hb dX0_signsLeftAs_2 (by decide) ?_
  refine lv_istore (lv' := [(4, .int (0 : Int32)), (3, .int (0 : Int32)), (0, .ref h_t), (1, .int a1), (2, .int a2)]) hx hb dX0_signsLeftAs_3 hl (by decide) rfl (fun ls hl => ?_)
  exact wk_Book_signsLeftAs_b5 E h_t h_t_forms c_t_forms a1 a2 C hP  hK hT  5000 (0 : Int32) (0 : Int32) hF _ (lv_sub hl [2, 3, 4, 1, 0] rfl)
abbrev w_Book_cheapest (E : kE) (h_t : Nat) (h_t_forms : Nat)  (c_t_forms : (Nat → Int32)) : va_W := [(h_t, .inr (0, [.ref h_t_forms])), (h_t_forms, .inl (eI E, 26, .inl c_t_forms))]
set_option maxHeartbeats 4000000 in
set_option maxRecDepth 100000 in
theorem wk_Book_cheapest_b47 {p : Program} {l : Launch} {e : Env} {s : State} {m : MethodId} {args : Array Value} {below : List Frame} {meth : Method} {c : Code} (E : kE) (h_t : Nat) (h_t_forms : Nat)  (c_t_forms : (Nat → Int32)) (a1 : Int32) {out : Int32} (C : kC RX0 cX0_cheapest 6 (some .int) p s m args meth c) (hP : va_P (eD E) vwCl (w_Book_cheapest E h_t h_t_forms c_t_forms) s.heap) (hK : va_K (eD E) vwCl (eT E) s) (hT : sT E (fun _ => False) s s.heap) (k7 : Int32 → Int32 → Int32 → Option (Int32)) (hk7 : ∀ (v2 : Int32) (v3 : Int32) (v4 : Int32), k7 v2 v3 v4 = some out → ∀ (ls : Array Slot), lv_has ls 6 [(0, .ref h_t), (1, .int a1), (2, .int v2), (3, .int v3), (4, .int v4)] → W p l e (rm 5) s m args below meth c s.heap [] 0 0 (MQ below (qR (.int out)) args s 0 0 (fun _ => False)) (F0 m 7 ls [])) :
    ∀ (v4 : Int32) (v5 : Int32), f_Book_cheapest_b47 k7 c_t_forms a1 v4 v5 = some out → ∀ (ls : Array Slot), lv_has ls 6 [(0, .ref h_t), (1, .int a1), (4, .int v4), (5, .int v5)] → W p l e (rm 5) s m args below meth c s.heap [] 0 0 (MQ below (qR (.int out)) args s 0 0 (fun _ => False)) (F0 m 47 ls []) := by
  obtain ⟨hx, hb, hr, hml, hown, hw, hlocks⟩ := id C
  have hS : va_S (fun _ => False) s.heap s.heap [] := va_S.rf
  intro v4 v5 hF ls hl
  rw [f_Book_cheapest_b47] at hF
  refine lv_iload hx hb dX0_cheapest_47 (lv_at hl 3 rfl) ?_
  refine lv_istore_n (lv' := [(3, .int v5), (0, .ref h_t), (1, .int a1), (4, .int v4), (5, .int v5)]) hx hb dX0_cheapest_49 rfl hl (by decide) rfl (fun ls hl => ?_)
  refine lv_iload hx hb dX0_cheapest_50 (lv_at hl 3 rfl) ?_
  refine lv_istore_n (lv' := [(2, .int v4), (3, .int v5), (0, .ref h_t), (1, .int a1), (4, .int v4), (5, .int v5)]) hx hb dX0_cheapest_52 rfl hl (by decide) rfl (fun ls hl => ?_)
  refine lv_iinc (v := (v4 + (1))) (lv' := [(4, .int (v4 + (1))), (2, .int v4), (3, .int v5), (0, .ref h_t), (1, .int a1), (5, .int v5)]) hx hb dX0_cheapest_53 hl (k := 4) rfl rfl (by decide) rfl (fun ls hl => ?_)
  refine lv_goto (tgt := 7) hx hb dX0_cheapest_56 (by decide) ?_
  exact hk7 v4 v5 (v4 + (1)) hF _ (lv_sub hl [3, 4, 1, 2, 0] rfl)
set_option maxHeartbeats 4000000 in
set_option maxRecDepth 100000 in
theorem wk_Book_cheapest_b7 {p : Program} {l : Launch} {e : Env} {s : State} {m : MethodId} {args : Array Value} {below : List Frame} {meth : Method} {c : Code} (E : kE) (h_t : Nat) (h_t_forms : Nat)  (c_t_forms : (Nat → Int32)) (a1 : Int32) {out : Int32} (C : kC RX0 cX0_cheapest 6 (some .int) p s m args meth c) (hP : va_P (eD E) vwCl (w_Book_cheapest E h_t h_t_forms c_t_forms) s.heap) (hK : va_K (eD E) vwCl (eT E) s) (hT : sT E (fun _ => False) s s.heap)  :
    ∀ (n : Nat), ∀ (v2 : Int32) (v3 : Int32) (v4 : Int32), f_Book_cheapest_b7  c_t_forms a1 n v2 v3 v4 = some out → ∀ (ls : Array Slot), lv_has ls 6 [(0, .ref h_t), (1, .int a1), (2, .int v2), (3, .int v3), (4, .int v4)] → W p l e (rm 5) s m args below meth c s.heap [] 0 0 (MQ below (qR (.int out)) args s 0 0 (fun _ => False)) (F0 m 7 ls []) := by
  obtain ⟨hx, hb, hr, hml, hown, hw, hlocks⟩ := id C
  have hS : va_S (fun _ => False) s.heap s.heap [] := va_S.rf
  intro n
  induction n with
  | zero =>
    intro v2 v3 v4 hF
    exact absurd (show (none : Option (Int32)) = some out from hF) nofun
  | succ n ih =>
    intro v2 v3 v4 hF ls hl
    rw [f_Book_cheapest_b7] at hF
    refine lv_iload hx hb dX0_cheapest_7 (lv_at hl 4 rfl) ?_
    refine lv_bipush (v := (26 : Int32)) hx hb dX0_cheapest_9 (by decide) ?_
    refine lv_icmp_ge (tgt := 59) hx hb dX0_cheapest_11 (by decide) (fun q1 => ?_) (fun q1 => ?_)
    · have hF := kp hF q1
      refine lv_iload_n hx hb dX0_cheapest_59 rfl (lv_at hl 2 rfl) ?_
      obtain rfl := Option.some.inj hF
      exact W.iret hx hb hr (fun t ht hW => ⟨rfl, ht⟩) nofun dX0_cheapest_60
    · have hF := kn hF q1
      refine lv_iload_n hx hb dX0_cheapest_14 rfl (lv_at hl 1 rfl) ?_
      refine lv_aload_n hx hb dX0_cheapest_15 rfl (lv_at hl 0 rfl) ?_
      refine va_get (D := eD E) (ci := 0) (C := RX0) (T := TX0) (N := 1) (v := .ref h_t_forms) hx hb hw inX0 hown hK hP 0 rfl rfl 0 (by decide) (hw _ mw_76) (fun _ h9 => h9) rfl dX0_cheapest_16 ?_
      refine lv_iload hx hb dX0_cheapest_19 (lv_at hl 4 rfl) ?_
      obtain ⟨r2, er2, hF⟩ := kb hF
      refine wa_iald hx hb hK hP 1 0 rfl rfl er2 dX0_cheapest_21 ?_
      obtain ⟨r3, er3, hF⟩ := kb hF
      refine kRS (rest := []) C (k_Kinds_feet l E a1 r2 r3 er3) fn_Kinds_feet mw_583 ⟨Nat.le_of_ble_eq_true rfl, Nat.le_of_ble_eq_true rfl⟩ hK hT hS hP [] rfl rfl rfl hl (Nat.le_of_ble_eq_true rfl) dX0_cheapest_22 ?_
      refine lv_istore (lv' := [(5, .int r3), (0, .ref h_t), (1, .int a1), (2, .int v2), (3, .int v3), (4, .int v4)]) hx hb dX0_cheapest_25 hl (by decide) rfl (fun ls hl => ?_)
      refine lv_aload_n hx hb dX0_cheapest_27 rfl (lv_at hl 1 rfl) ?_
      refine va_get (D := eD E) (ci := 0) (C := RX0) (T := TX0) (N := 1) (v := .ref h_t_forms) hx hb hw inX0 hown hK hP 0 rfl rfl 0 (by decide) (hw _ mw_76) (fun _ h9 => h9) rfl dX0_cheapest_28 ?_
      refine lv_iload hx hb dX0_cheapest_31 (lv_at hl 5 rfl) ?_
      obtain ⟨r4, er4, hF⟩ := kb hF
      refine wa_iald hx hb hK hP 1 0 rfl rfl er4 dX0_cheapest_33 ?_
      refine lv_if_eq (tgt := 53) hx hb dX0_cheapest_34 (by decide) (fun q5 => ?_) (fun q5 => ?_)
      · have hF := kp hF q5
        refine lv_iinc (v := (v4 + (1))) (lv' := [(4, .int (v4 + (1))), (5, .int r3), (0, .ref h_t), (1, .int a1), (2, .int v2), (3, .int v3)]) hx hb dX0_cheapest_53 hl (k := 5) rfl rfl (by decide) rfl (fun ls hl => ?_)
        refine lv_goto (tgt := 7) hx hb dX0_cheapest_56 (by decide) ?_
        exact ih v2 v3 (v4 + (1)) hF _ (lv_sub hl [2, 3, 4, 5, 0] rfl)
      · have hF := kn hF q5
        refine lv_iload_n hx hb dX0_cheapest_37 rfl (lv_at hl 3 rfl) ?_
        refine lv_if_lt (tgt := 47) hx hb dX0_cheapest_38 (by decide) (fun q6 => ?_) (fun q6 => ?_)
        · have hF := kp hF q6
          exact wk_Book_cheapest_b47 E h_t h_t_forms c_t_forms a1 C hP  hK hT (f_Book_cheapest_b7  c_t_forms a1 n) ih v4 r3 hF _ (lv_sub hl [1, 2, 5, 0] rfl)
        · have hF := kn hF q6
          refine lv_iload hx hb dX0_cheapest_41 (lv_at hl 0 rfl) ?_
          refine lv_iload_n hx hb dX0_cheapest_43 rfl (lv_at hl 4 rfl) ?_
          refine lv_icmp_ge (tgt := 53) hx hb dX0_cheapest_44 (by decide) (fun q7 => ?_) (fun q7 => ?_)
          · have hF := kp hF q7
            refine lv_iinc (v := (v4 + (1))) (lv' := [(4, .int (v4 + (1))), (5, .int r3), (0, .ref h_t), (1, .int a1), (2, .int v2), (3, .int v3)]) hx hb dX0_cheapest_53 hl (k := 5) rfl rfl (by decide) rfl (fun ls hl => ?_)
            refine lv_goto (tgt := 7) hx hb dX0_cheapest_56 (by decide) ?_
            exact ih v2 v3 (v4 + (1)) hF _ (lv_sub hl [2, 3, 4, 5, 0] rfl)
          · have hF := kn hF q7
            exact wk_Book_cheapest_b47 E h_t h_t_forms c_t_forms a1 C hP  hK hT (f_Book_cheapest_b7  c_t_forms a1 n) ih v4 r3 hF _ (lv_sub hl [1, 2, 5, 0] rfl)
set_option maxHeartbeats 4000000 in
set_option maxRecDepth 100000 in
theorem k_Book_cheapest (l : Launch) (E : kE) (h_t : Nat) (h_t_forms : Nat)  (c_t_forms : (Nat → Int32)) (a1 : Int32) (out : Int32) (hF : f_Book_cheapest c_t_forms a1 = some out) : Met l yX0_cheapest (Cond.code yX0_cheapest cX0_cheapest 6 (some .int) :: wG) (rm 5) (pR E (w_Book_cheapest E h_t h_t_forms c_t_forms) [.ref h_t, .int a1]) (qR (.int out)) 0 0 (fun _ => False) := by
  refine met_R (by decide) (Nat.le_of_ble_eq_true rfl) ?_
  intro p e s m args below meth c ls C hP hK hT hl
  obtain ⟨hx, hb, hr, hml, hown, hw, hlocks⟩ := id C
  have hS : va_S (fun _ => False) s.heap s.heap [] := va_S.rf
  have hl : lv_has ls 6 [(0, .ref h_t), (1, .int a1)] := hl
  rw [f_Book_cheapest] at hF
  refine lv_iconst (v := (-1 : Int32)) hx hb dX0_cheapest_0 (by decide) ?_
  refine lv_istore_n (lv' := [(2, .int (-1 : Int32)), (0, .ref h_t), (1, .int a1)]) hx hb dX0_cheapest_1 rfl hl (by decide) rfl (fun ls hl => ?_)
  refine lv_iconst (v := (0 : Int32)) hx hb dX0_cheapest_2 (by decide) ?_
  refine lv_istore_n (lv' := [(3, .int (0 : Int32)), (2, .int (-1 : Int32)), (0, .ref h_t), (1, .int a1)]) hx hb dX0_cheapest_3 rfl hl (by decide) rfl (fun ls hl => ?_)
  refine lv_iconst (v := (0 : Int32)) hx hb dX0_cheapest_4 (by decide) ?_
  refine lv_istore (lv' := [(4, .int (0 : Int32)), (3, .int (0 : Int32)), (2, .int (-1 : Int32)), (0, .ref h_t), (1, .int a1)]) hx hb dX0_cheapest_5 hl (by decide) rfl (fun ls hl => ?_)
  exact wk_Book_cheapest_b7 E h_t h_t_forms c_t_forms a1 C hP  hK hT  5000 (-1 : Int32) (0 : Int32) (0 : Int32) hF _ (lv_sub hl [3, 4, 2, 1, 0] rfl)
abbrev w_Book_become (E : kE) (h_t : Nat) (h_t_forms : Nat) (h_p1 : Nat) (h_p1_forms : Nat)  (c_t_forms : (Nat → Int32)) (c_p1_forms : (Nat → Int32)) : va_W := [(h_t, .inr (0, [.ref h_t_forms])), (h_t_forms, .inl (eI E, 26, .inl c_t_forms)), (h_p1, .inr (0, [.ref h_p1_forms])), (h_p1_forms, .inl (eI E, 26, .inl c_p1_forms))]
set_option maxHeartbeats 4000000 in
set_option maxRecDepth 100000 in
theorem k_Book_become (l : Launch) (E : kE) (h_t : Nat) (h_t_forms : Nat) (h_p1 : Nat) (h_p1_forms : Nat)  (sz : Nat) (c_t_forms : (Nat → Int32)) (c_p1_forms : (Nat → Int32))  (out : (Nat → Int32)) (hF : f_Book_become c_t_forms c_p1_forms  = some out) : Met l yX0_become (Cond.code yX0_become cX0_become 2 none :: wG) (rm 2) (pW E (w_Book_become E h_t h_t_forms h_p1 h_p1_forms c_t_forms c_p1_forms) sz [.ref h_t, .ref h_p1]) (qW none E (w_Book_become E h_t h_t_forms h_p1 h_p1_forms out c_p1_forms) (va_A (w_Book_become E h_t h_t_forms h_p1 h_p1_forms c_t_forms c_p1_forms) sz)) 0 0 (va_A (w_Book_become E h_t h_t_forms h_p1 h_p1_forms c_t_forms c_p1_forms) sz) := by
  refine met_W (by decide) (Nat.le_of_ble_eq_true rfl) ?_
  intro p e s m args below meth c A ls C hP hD hS hA hK hT hl
  obtain ⟨hx, hb, hr, hml, hown, hw, hlocks⟩ := id C
  have hl : lv_has ls 2 [(0, .ref h_t), (1, .ref h_p1)] := hl
  rw [f_Book_become] at hF
  refine lv_aload_n hx hb dX0_become_0 rfl (lv_at hl 1 rfl) ?_
  refine va_get (D := eD E) (ci := 0) (C := RX0) (T := TX0) (N := 1) (v := .ref h_p1_forms) hx hb hw inX0 hown hK hP 2 rfl rfl 0 (by decide) (hw _ mw_76) (fun _ h9 => h9) rfl dX0_become_1 ?_
  refine lv_iconst (v := (0 : Int32)) hx hb dX0_become_4 (by decide) ?_
  refine lv_aload_n hx hb dX0_become_5 rfl (lv_at hl 0 rfl) ?_
  refine va_get (D := eD E) (ci := 0) (C := RX0) (T := TX0) (N := 1) (v := .ref h_t_forms) hx hb hw inX0 hown hK hP 0 rfl rfl 0 (by decide) (hw _ mw_76) (fun _ h9 => h9) rfl dX0_become_6 ?_
  refine lv_iconst (v := (0 : Int32)) hx hb dX0_become_9 (by decide) ?_
  refine lv_bipush (v := (26 : Int32)) hx hb dX0_become_10 (by decide) ?_
  obtain ⟨r1, er1, hF⟩ := kb hF
  obtain ⟨g1r1, g2r1, g3r1, g4r1, g5r1, g6r1⟩ := cpy_some er1
  refine va_copyi hx hb (hml.trans hl.1.symm) hown (hw _ mw_616) (hw _ mw_618) (hw _ mw_617) (hw _ mw_51) hK hP hD hS 3 1 0 0 rfl rfl rfl rfl rfl g1r1 g2r1 g3r1 g4r1 g5r1 (fun _ _ => rfl) (Nat.le_of_ble_eq_true rfl) (Nat.le_of_ble_eq_true rfl) dX0_become_12 (fun H locs hP hD hS => ?_)
  rw [g6r1] at hP hD
  have hP : va_P (eD E) vwCl (w_Book_become E h_t h_t_forms h_p1 h_p1_forms r1 c_p1_forms) H := hP
  have hD : va_D A (w_Book_become E h_t h_t_forms h_p1 h_p1_forms r1 c_p1_forms) := hD
  obtain rfl := Option.some.inj hF
  exact W.vret hx hb hr (fun t ht hW => ⟨⟨rfl, by rw [ht]; exact hP, hD⟩, hS.F ht⟩) hS.2.2 dX0_become_15
abbrev w_Book_countSigns (E : kE) (h_t : Nat) (h_t_forms : Nat)  (c_t_forms : (Nat → Int32)) : va_W := [(h_t, .inr (0, [.ref h_t_forms])), (h_t_forms, .inl (eI E, 26, .inl c_t_forms))]
set_option maxHeartbeats 4000000 in
set_option maxRecDepth 100000 in
theorem wk_Book_countSigns_b4 {p : Program} {l : Launch} {e : Env} {s : State} {m : MethodId} {args : Array Value} {below : List Frame} {meth : Method} {c : Code} (E : kE) (h_t : Nat) (h_t_forms : Nat)  (c_t_forms : (Nat → Int32))  {out : Int32} (C : kC RX0 cX0_countSigns 3 (some .int) p s m args meth c) (hP : va_P (eD E) vwCl (w_Book_countSigns E h_t h_t_forms c_t_forms) s.heap) (hK : va_K (eD E) vwCl (eT E) s) (hT : sT E (fun _ => False) s s.heap)  :
    ∀ (n : Nat), ∀ (v1 : Int32) (v2 : Int32), f_Book_countSigns_b4  c_t_forms n v1 v2 = some out → ∀ (ls : Array Slot), lv_has ls 3 [(0, .ref h_t), (1, .int v1), (2, .int v2)] → W p l e (rm 1) s m args below meth c s.heap [] 0 0 (MQ below (qR (.int out)) args s 0 0 (fun _ => False)) (F0 m 4 ls []) := by
  obtain ⟨hx, hb, hr, hml, hown, hw, hlocks⟩ := id C
  have hS : va_S (fun _ => False) s.heap s.heap [] := va_S.rf
  intro n
  induction n with
  | zero =>
    intro v1 v2 hF
    exact absurd (show (none : Option (Int32)) = some out from hF) nofun
  | succ n ih =>
    intro v1 v2 hF ls hl
    rw [f_Book_countSigns_b4] at hF
    refine lv_iload_n hx hb dX0_countSigns_4 rfl (lv_at hl 2 rfl) ?_
    refine lv_bipush (v := (26 : Int32)) hx hb dX0_countSigns_5 (by decide) ?_
    refine lv_icmp_ge (tgt := 28) hx hb dX0_countSigns_7 (by decide) (fun q1 => ?_) (fun q1 => ?_)
    · have hF := kp hF q1
      refine lv_iload_n hx hb dX0_countSigns_28 rfl (lv_at hl 1 rfl) ?_
      obtain rfl := Option.some.inj hF
      exact W.iret hx hb hr (fun t ht hW => ⟨rfl, ht⟩) nofun dX0_countSigns_29
    · have hF := kn hF q1
      refine lv_aload_n hx hb dX0_countSigns_10 rfl (lv_at hl 0 rfl) ?_
      refine va_get (D := eD E) (ci := 0) (C := RX0) (T := TX0) (N := 1) (v := .ref h_t_forms) hx hb hw inX0 hown hK hP 0 rfl rfl 0 (by decide) (hw _ mw_76) (fun _ h9 => h9) rfl dX0_countSigns_11 ?_
      refine lv_iload_n hx hb dX0_countSigns_14 rfl (lv_at hl 2 rfl) ?_
      obtain ⟨r2, er2, hF⟩ := kb hF
      refine wa_iald hx hb hK hP 1 0 rfl rfl er2 dX0_countSigns_15 ?_
      refine lv_if_eq (tgt := 22) hx hb dX0_countSigns_16 (by decide) (fun q3 => ?_) (fun q3 => ?_)
      · have hF := kp hF q3
        refine lv_iinc (v := (v2 + (1))) (lv' := [(2, .int (v2 + (1))), (0, .ref h_t), (1, .int v1)]) hx hb dX0_countSigns_22 hl (k := 2) rfl rfl (by decide) rfl (fun ls hl => ?_)
        refine lv_goto (tgt := 4) hx hb dX0_countSigns_25 (by decide) ?_
        exact ih v1 (v2 + (1)) hF _ (lv_sub hl [1, 2, 0] rfl)
      · have hF := kn hF q3
        refine lv_iinc (v := (v1 + (1))) (lv' := [(1, .int (v1 + (1))), (0, .ref h_t), (2, .int v2)]) hx hb dX0_countSigns_19 hl (k := 1) rfl rfl (by decide) rfl (fun ls hl => ?_)
        refine lv_iinc (v := (v2 + (1))) (lv' := [(2, .int (v2 + (1))), (1, .int (v1 + (1))), (0, .ref h_t)]) hx hb dX0_countSigns_22 hl (k := 2) rfl rfl (by decide) rfl (fun ls hl => ?_)
        refine lv_goto (tgt := 4) hx hb dX0_countSigns_25 (by decide) ?_
        exact ih (v1 + (1)) (v2 + (1)) hF _ (lv_sub hl [2, 1, 0] rfl)
set_option maxHeartbeats 4000000 in
set_option maxRecDepth 100000 in
theorem k_Book_countSigns (l : Launch) (E : kE) (h_t : Nat) (h_t_forms : Nat)  (c_t_forms : (Nat → Int32))  (out : Int32) (hF : f_Book_countSigns c_t_forms  = some out) : Met l yX0_countSigns (Cond.code yX0_countSigns cX0_countSigns 3 (some .int) :: wG) (rm 1) (pR E (w_Book_countSigns E h_t h_t_forms c_t_forms) [.ref h_t]) (qR (.int out)) 0 0 (fun _ => False) := by
  refine met_R (by decide) (Nat.le_of_ble_eq_true rfl) ?_
  intro p e s m args below meth c ls C hP hK hT hl
  obtain ⟨hx, hb, hr, hml, hown, hw, hlocks⟩ := id C
  have hS : va_S (fun _ => False) s.heap s.heap [] := va_S.rf
  have hl : lv_has ls 3 [(0, .ref h_t)] := hl
  rw [f_Book_countSigns] at hF
  refine lv_iconst (v := (0 : Int32)) hx hb dX0_countSigns_0 (by decide) ?_
  refine lv_istore_n (lv' := [(1, .int (0 : Int32)), (0, .ref h_t)]) hx hb dX0_countSigns_1 rfl hl (by decide) rfl (fun ls hl => ?_)
  refine lv_iconst (v := (0 : Int32)) hx hb dX0_countSigns_2 (by decide) ?_
  refine lv_istore_n (lv' := [(2, .int (0 : Int32)), (1, .int (0 : Int32)), (0, .ref h_t)]) hx hb dX0_countSigns_3 rfl hl (by decide) rfl (fun ls hl => ?_)
  exact wk_Book_countSigns_b4 E h_t h_t_forms c_t_forms  C hP  hK hT  5000 (0 : Int32) (0 : Int32) hF _ (lv_sub hl [2, 1, 0] rfl)
