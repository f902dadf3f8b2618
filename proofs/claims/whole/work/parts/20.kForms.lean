abbrev w_Forms_isForm (E : kE)    : va_W := []
set_option maxHeartbeats 4000000 in
set_option maxRecDepth 100000 in
theorem k_Forms_isForm (l : Launch) (E : kE)    (a0 : Int32) (out : Int32) (hF : f_Forms_isForm  a0 = some out) : Met l yX3_isForm (Cond.code yX3_isForm cX3_isForm 1 (some .boolean) :: wG) (rm 1) (pR E (w_Forms_isForm E ) [.int a0]) (qR (.int out)) 0 0 (fun _ => False) := by
  refine met_R (by decide) (Nat.le_of_ble_eq_true rfl) ?_
  intro p e s m args below meth c ls C hP hK hT hl
  obtain ⟨hx, hb, hr, hml, hown, hw, hlocks⟩ := id C
  have hS : va_S (fun _ => False) s.heap s.heap [] := va_S.rf
  have hl : lv_has ls 1 [(0, .int a0)] := hl
  rw [f_Forms_isForm] at hF
  refine lv_iload_n hx hb dX3_isForm_0 rfl (lv_at hl 0 rfl) ?_
  refine lv_if_lt (tgt := 15) hx hb dX3_isForm_1 (by decide) (fun q1 => ?_) (fun q1 => ?_)
  · have hF := kp hF q1
    refine lv_iconst (v := (0 : Int32)) hx hb dX3_isForm_15 (by decide) ?_
    obtain rfl := Option.some.inj hF
    exact W.zret (ty := .boolean) hx hb hr rfl (fun t ht hW => ⟨rfl, ht⟩) nofun dX3_isForm_16
  · have hF := kn hF q1
    refine lv_iload_n hx hb dX3_isForm_4 rfl (lv_at hl 0 rfl) ?_
    refine lv_sipush (v := (4095 : Int32)) hx hb dX3_isForm_5 (by decide) ?_
    refine lv_icmp_gt (tgt := 15) hx hb dX3_isForm_8 (by decide) (fun q2 => ?_) (fun q2 => ?_)
    · have hF := kp hF q2
      refine lv_iconst (v := (0 : Int32)) hx hb dX3_isForm_15 (by decide) ?_
      obtain rfl := Option.some.inj hF
      exact W.zret (ty := .boolean) hx hb hr rfl (fun t ht hW => ⟨rfl, ht⟩) nofun dX3_isForm_16
    · have hF := kn hF q2
      refine lv_iconst (v := (1 : Int32)) hx hb dX3_isForm_11 (by decide) ?_
      refine lv_goto (tgt := 16) hx hb dX3_isForm_12 (by decide) ?_
      obtain rfl := Option.some.inj hF
      exact W.zret (ty := .boolean) hx hb hr rfl (fun t ht hW => ⟨rfl, ht⟩) nofun dX3_isForm_16
abbrev w_Forms_oddPoints (E : kE)    : va_W := []
set_option maxHeartbeats 4000000 in
set_option maxRecDepth 100000 in
theorem wk_Forms_oddPoints_b4 {p : Program} {l : Launch} {e : Env} {s : State} {m : MethodId} {args : Array Value} {below : List Frame} {meth : Method} {c : Code} (E : kE)    (a0 : Int32) {out : Int32} (C : kC RX3 cX3_oddPoints 3 (some .int) p s m args meth c) (hP : va_P (eD E) vwCl (w_Forms_oddPoints E ) s.heap) (hK : va_K (eD E) vwCl (eT E) s) (hT : sT E (fun _ => False) s s.heap)  :
    ∀ (n : Nat), ∀ (v1 : Int32) (v2 : Int32), f_Forms_oddPoints_b4  a0 n v1 v2 = some out → ∀ (ls : Array Slot), lv_has ls 3 [(0, .int a0), (1, .int v1), (2, .int v2)] → W p l e (rm 1) s m args below meth c s.heap [] 0 0 (MQ below (qR (.int out)) args s 0 0 (fun _ => False)) (F0 m 4 ls []) := by
  obtain ⟨hx, hb, hr, hml, hown, hw, hlocks⟩ := id C
  have hS : va_S (fun _ => False) s.heap s.heap [] := va_S.rf
  obtain ⟨t_ENDS, hZ_ENDS, hT_ENDS⟩ := hT.1.1
  intro n
  induction n with
  | zero =>
    intro v1 v2 hF
    exact absurd (show (none : Option (Int32)) = some out from hF) nofun
  | succ n ih =>
    intro v1 v2 hF ls hl
    rw [f_Forms_oddPoints_b4] at hF
    refine lv_iload_n hx hb dX3_oddPoints_4 rfl (lv_at hl 2 rfl) ?_
    refine lv_bipush (v := (12 : Int32)) hx hb dX3_oddPoints_5 (by decide) ?_
    refine lv_icmp_ge (tgt := 32) hx hb dX3_oddPoints_7 (by decide) (fun q1 => ?_) (fun q1 => ?_)
    · have hF := kp hF q1
      refine lv_iload_n hx hb dX3_oddPoints_32 rfl (lv_at hl 1 rfl) ?_
      obtain rfl := Option.some.inj hF
      exact W.iret hx hb hr (fun t ht hW => ⟨rfl, ht⟩) nofun dX3_oddPoints_33
    · have hF := kn hF q1
      refine lv_iload_n hx hb dX3_oddPoints_10 rfl (lv_at hl 0 rfl) ?_
      refine lv_iload_n hx hb dX3_oddPoints_11 rfl (lv_at hl 2 rfl) ?_
      refine lv_ishr hx hb dX3_oddPoints_12 ?_
      refine lv_iconst (v := (1 : Int32)) hx hb dX3_oddPoints_13 (by decide) ?_
      refine lv_iand hx hb dX3_oddPoints_14 ?_
      refine lv_if_eq (tgt := 26) hx hb dX3_oddPoints_15 (by decide) (fun q2 => ?_) (fun q2 => ?_)
      · have hF := kp hF q2
        refine lv_iinc (v := (v2 + (1))) (lv' := [(2, .int (v2 + (1))), (0, .int a0), (1, .int v1)]) hx hb dX3_oddPoints_26 hl (k := 2) rfl rfl (by decide) rfl (fun ls hl => ?_)
        refine lv_goto (tgt := 4) hx hb dX3_oddPoints_29 (by decide) ?_
        exact ih v1 (v2 + (1)) hF _ (lv_sub hl [1, 2, 0] rfl)
      · have hF := kn hF q2
        refine lv_iload_n hx hb dX3_oddPoints_18 rfl (lv_at hl 1 rfl) ?_
        refine va_gets (v := .ref t_ENDS) hx hb hZ_ENDS hS hown (hw _ mw_245) (fun _ h9 => h9) dX3_oddPoints_19 ?_
        refine lv_iload_n hx hb dX3_oddPoints_22 rfl (lv_at hl 2 rfl) ?_
        obtain ⟨r3, er3, hF⟩ := kb hF
        refine wa_ti hx hb hT_ENDS hS er3 dX3_oddPoints_23 ?_
        refine lv_ixor hx hb dX3_oddPoints_24 ?_
        refine lv_istore_n (lv' := [(1, .int (v1 ^^^ r3)), (0, .int a0), (2, .int v2)]) hx hb dX3_oddPoints_25 rfl hl (by decide) rfl (fun ls hl => ?_)
        refine lv_iinc (v := (v2 + (1))) (lv' := [(2, .int (v2 + (1))), (1, .int (v1 ^^^ r3)), (0, .int a0)]) hx hb dX3_oddPoints_26 hl (k := 2) rfl rfl (by decide) rfl (fun ls hl => ?_)
        refine lv_goto (tgt := 4) hx hb dX3_oddPoints_29 (by decide) ?_
        exact ih (v1 ^^^ r3) (v2 + (1)) hF _ (lv_sub hl [2, 1, 0] rfl)
set_option maxHeartbeats 4000000 in
set_option maxRecDepth 100000 in
theorem k_Forms_oddPoints (l : Launch) (E : kE)    (a0 : Int32) (out : Int32) (hF : f_Forms_oddPoints  a0 = some out) : Met l yX3_oddPoints (Cond.code yX3_oddPoints cX3_oddPoints 3 (some .int) :: wG) (rm 1) (pR E (w_Forms_oddPoints E ) [.int a0]) (qR (.int out)) 0 0 (fun _ => False) := by
  refine met_R (by decide) (Nat.le_of_ble_eq_true rfl) ?_
  intro p e s m args below meth c ls C hP hK hT hl
  obtain ⟨hx, hb, hr, hml, hown, hw, hlocks⟩ := id C
  have hS : va_S (fun _ => False) s.heap s.heap [] := va_S.rf
  have hl : lv_has ls 3 [(0, .int a0)] := hl
  obtain ⟨t_ENDS, hZ_ENDS, hT_ENDS⟩ := hT.1.1
  rw [f_Forms_oddPoints] at hF
  refine lv_iconst (v := (0 : Int32)) hx hb dX3_oddPoints_0 (by decide) ?_
  refine lv_istore_n (lv' := [(1, .int (0 : Int32)), (0, .int a0)]) hx hb dX3_oddPoints_1 rfl hl (by decide) rfl (fun ls hl => ?_)
  refine lv_iconst (v := (0 : Int32)) hx hb dX3_oddPoints_2 (by decide) ?_
  refine lv_istore_n (lv' := [(2, .int (0 : Int32)), (1, .int (0 : Int32)), (0, .int a0)]) hx hb dX3_oddPoints_3 rfl hl (by decide) rfl (fun ls hl => ?_)
  exact wk_Forms_oddPoints_b4 E  a0 C hP  hK hT  5000 (0 : Int32) (0 : Int32) hF _ (lv_sub hl [2, 1, 0] rfl)
abbrev w_Forms_firstPiece (E : kE)    : va_W := []
set_option maxHeartbeats 4000000 in
set_option maxRecDepth 100000 in
theorem wk_Forms_firstPiece_b57 {p : Program} {l : Launch} {e : Env} {s : State} {m : MethodId} {args : Array Value} {below : List Frame} {meth : Method} {c : Code} (E : kE)    (a0 : Int32) {out : Int32} (C : kC RX3 cX3_firstPiece 8 (some .int) p s m args meth c) (hP : va_P (eD E) vwCl (w_Forms_firstPiece E ) s.heap) (hK : va_K (eD E) vwCl (eT E) s) (hT : sT E (fun _ => False) s s.heap) (k9 : Int32 → Int32 → Int32 → Option (Int32)) (hk9 : ∀ (v1 : Int32) (v2 : Int32) (v3 : Int32), k9 v1 v2 v3 = some out → ∀ (ls : Array Slot), lv_has ls 8 [(0, .int a0), (1, .int v1), (2, .int v2), (3, .int v3)] → W p l e (rm 1) s m args below meth c s.heap [] 0 0 (MQ below (qR (.int out)) args s 0 0 (fun _ => False)) (F0 m 9 ls [])) (k21 : Int32 → Int32 → Int32 → Int32 → Int32 → Option (Int32)) (hk21 : ∀ (v1 : Int32) (v2 : Int32) (v3 : Int32) (v4 : Int32) (v5 : Int32), k21 v1 v2 v3 v4 v5 = some out → ∀ (ls : Array Slot), lv_has ls 8 [(0, .int a0), (1, .int v1), (2, .int v2), (3, .int v3), (4, .int v4), (5, .int v5)] → W p l e (rm 1) s m args below meth c s.heap [] 0 0 (MQ below (qR (.int out)) args s 0 0 (fun _ => False)) (F0 m 21 ls [])) :
    ∀ (v1 : Int32) (v2 : Int32) (v3 : Int32) (v4 : Int32) (v5 : Int32) (v6 : Int32) (s0 : Int32), f_Forms_firstPiece_b57 k9 k21 a0 v1 v2 v3 v4 v5 v6 s0 = some out → ∀ (ls : Array Slot), lv_has ls 8 [(0, .int a0), (1, .int v1), (2, .int v2), (3, .int v3), (4, .int v4), (5, .int v5), (6, .int v6)] → W p l e (rm 1) s m args below meth c s.heap [] 0 0 (MQ below (qR (.int out)) args s 0 0 (fun _ => False)) (F0 m 57 ls [.int s0]) := by
  obtain ⟨hx, hb, hr, hml, hown, hw, hlocks⟩ := id C
  have hS : va_S (fun _ => False) s.heap s.heap [] := va_S.rf
  obtain ⟨t_ENDS, hZ_ENDS, hT_ENDS⟩ := hT.1.1
  intro v1 v2 v3 v4 v5 v6 s0 hF ls hl
  rw [f_Forms_firstPiece_b57] at hF
  refine lv_istore (lv' := [(7, .int s0), (0, .int a0), (1, .int v1), (2, .int v2), (3, .int v3), (4, .int v4), (5, .int v5), (6, .int v6)]) hx hb dX3_firstPiece_57 hl (by decide) rfl (fun ls hl => ?_)
  refine lv_iload hx hb dX3_firstPiece_59 (lv_at hl 0 rfl) ?_
  refine lv_if_eq (tgt := 85) hx hb dX3_firstPiece_61 (by decide) (fun q1 => ?_) (fun q1 => ?_)
  · have hF := kp hF q1
    refine lv_iinc (v := (v5 + (1))) (lv' := [(5, .int (v5 + (1))), (7, .int s0), (0, .int a0), (1, .int v1), (2, .int v2), (3, .int v3), (4, .int v4), (6, .int v6)]) hx hb dX3_firstPiece_85 hl (k := 6) rfl rfl (by decide) rfl (fun ls hl => ?_)
    refine lv_goto (tgt := 21) hx hb dX3_firstPiece_88 (by decide) ?_
    exact hk21 v1 v2 v3 v4 (v5 + (1)) hF _ (lv_sub hl [2, 3, 4, 5, 6, 0] rfl)
  · have hF := kn hF q1
    refine lv_iload_n hx hb dX3_firstPiece_64 rfl (lv_at hl 1 rfl) ?_
    refine lv_iload hx hb dX3_firstPiece_65 (lv_at hl 7 rfl) ?_
    refine lv_iand hx hb dX3_firstPiece_67 ?_
    refine lv_if_eq (tgt := 85) hx hb dX3_firstPiece_68 (by decide) (fun q2 => ?_) (fun q2 => ?_)
    · have hF := kp hF q2
      refine lv_iinc (v := (v5 + (1))) (lv' := [(5, .int (v5 + (1))), (7, .int s0), (0, .int a0), (1, .int v1), (2, .int v2), (3, .int v3), (4, .int v4), (6, .int v6)]) hx hb dX3_firstPiece_85 hl (k := 6) rfl rfl (by decide) rfl (fun ls hl => ?_)
      refine lv_goto (tgt := 21) hx hb dX3_firstPiece_88 (by decide) ?_
      exact hk21 v1 v2 v3 v4 (v5 + (1)) hF _ (lv_sub hl [2, 3, 4, 5, 6, 0] rfl)
    · have hF := kn hF q2
      refine lv_iload_n hx hb dX3_firstPiece_71 rfl (lv_at hl 2 rfl) ?_
      refine lv_iload hx hb dX3_firstPiece_72 (lv_at hl 7 rfl) ?_
      refine lv_ior hx hb dX3_firstPiece_74 ?_
      refine lv_istore_n (lv' := [(1, .int (v1 ||| v6)), (7, .int s0), (0, .int a0), (2, .int v2), (3, .int v3), (4, .int v4), (5, .int v5), (6, .int v6)]) hx hb dX3_firstPiece_75 rfl hl (by decide) rfl (fun ls hl => ?_)
      refine lv_iload_n hx hb dX3_firstPiece_76 rfl (lv_at hl 3 rfl) ?_
      refine va_gets (v := .ref t_ENDS) hx hb hZ_ENDS hS hown (hw _ mw_245) (fun _ h9 => h9) dX3_firstPiece_77 ?_
      refine lv_iload hx hb dX3_firstPiece_80 (lv_at hl 6 rfl) ?_
      obtain ⟨r3, er3, hF⟩ := kb hF
      refine wa_ti hx hb hT_ENDS hS er3 dX3_firstPiece_82 ?_
      refine lv_ior hx hb dX3_firstPiece_83 ?_
      refine lv_istore_n (lv' := [(2, .int (v2 ||| r3)), (1, .int (v1 ||| v6)), (7, .int s0), (0, .int a0), (3, .int v3), (4, .int v4), (5, .int v5), (6, .int v6)]) hx hb dX3_firstPiece_84 rfl hl (by decide) rfl (fun ls hl => ?_)
      refine lv_iinc (v := (v5 + (1))) (lv' := [(5, .int (v5 + (1))), (2, .int (v2 ||| r3)), (1, .int (v1 ||| v6)), (7, .int s0), (0, .int a0), (3, .int v3), (4, .int v4), (6, .int v6)]) hx hb dX3_firstPiece_85 hl (k := 6) rfl rfl (by decide) rfl (fun ls hl => ?_)
      refine lv_goto (tgt := 21) hx hb dX3_firstPiece_88 (by decide) ?_
      exact hk21 (v1 ||| v6) (v2 ||| r3) v3 v4 (v5 + (1)) hF _ (lv_sub hl [4, 2, 1, 5, 6, 0] rfl)
set_option maxHeartbeats 4000000 in
set_option maxRecDepth 100000 in
theorem wk_Forms_firstPiece_b21 {p : Program} {l : Launch} {e : Env} {s : State} {m : MethodId} {args : Array Value} {below : List Frame} {meth : Method} {c : Code} (E : kE)    (a0 : Int32) {out : Int32} (C : kC RX3 cX3_firstPiece 8 (some .int) p s m args meth c) (hP : va_P (eD E) vwCl (w_Forms_firstPiece E ) s.heap) (hK : va_K (eD E) vwCl (eT E) s) (hT : sT E (fun _ => False) s s.heap) (k9 : Int32 → Int32 → Int32 → Option (Int32)) (hk9 : ∀ (v1 : Int32) (v2 : Int32) (v3 : Int32), k9 v1 v2 v3 = some out → ∀ (ls : Array Slot), lv_has ls 8 [(0, .int a0), (1, .int v1), (2, .int v2), (3, .int v3)] → W p l e (rm 1) s m args below meth c s.heap [] 0 0 (MQ below (qR (.int out)) args s 0 0 (fun _ => False)) (F0 m 9 ls [])) :
    ∀ (n : Nat), ∀ (v1 : Int32) (v2 : Int32) (v3 : Int32) (v4 : Int32) (v5 : Int32), f_Forms_firstPiece_b21 k9 a0 n v1 v2 v3 v4 v5 = some out → ∀ (ls : Array Slot), lv_has ls 8 [(0, .int a0), (1, .int v1), (2, .int v2), (3, .int v3), (4, .int v4), (5, .int v5)] → W p l e (rm 1) s m args below meth c s.heap [] 0 0 (MQ below (qR (.int out)) args s 0 0 (fun _ => False)) (F0 m 21 ls []) := by
  obtain ⟨hx, hb, hr, hml, hown, hw, hlocks⟩ := id C
  have hS : va_S (fun _ => False) s.heap s.heap [] := va_S.rf
  obtain ⟨t_ENDS, hZ_ENDS, hT_ENDS⟩ := hT.1.1
  intro n
  induction n with
  | zero =>
    intro v1 v2 v3 v4 v5 hF
    exact absurd (show (none : Option (Int32)) = some out from hF) nofun
  | succ n ih =>
    intro v1 v2 v3 v4 v5 hF ls hl
    rw [f_Forms_firstPiece_b21] at hF
    refine lv_iload hx hb dX3_firstPiece_21 (lv_at hl 5 rfl) ?_
    refine lv_bipush (v := (12 : Int32)) hx hb dX3_firstPiece_23 (by decide) ?_
    refine lv_icmp_ge (tgt := 91) hx hb dX3_firstPiece_25 (by decide) (fun q4 => ?_) (fun q4 => ?_)
    · have hF := kp hF q4
      refine lv_iload_n hx hb dX3_firstPiece_91 rfl (lv_at hl 2 rfl) ?_
      refine lv_iload hx hb dX3_firstPiece_92 (lv_at hl 4 rfl) ?_
      refine lv_icmp_ne (tgt := 100) hx hb dX3_firstPiece_94 (by decide) (fun q5 => ?_) (fun q5 => ?_)
      · have hF := kn hF q5
        refine lv_iinc (v := (v3 + (1))) (lv' := [(3, .int (v3 + (1))), (0, .int a0), (1, .int v1), (2, .int v2), (4, .int v4), (5, .int v5)]) hx hb dX3_firstPiece_100 hl (k := 3) rfl rfl (by decide) rfl (fun ls hl => ?_)
        refine lv_goto (tgt := 9) hx hb dX3_firstPiece_103 (by decide) ?_
        exact hk9 v1 v2 (v3 + (1)) hF _ (lv_sub hl [1, 2, 3, 0] rfl)
      · have hF := kp hF q5
        refine lv_goto (tgt := 106) hx hb dX3_firstPiece_97 (by decide) ?_
        refine lv_iload_n hx hb dX3_firstPiece_106 rfl (lv_at hl 1 rfl) ?_
        obtain rfl := Option.some.inj hF
        exact W.iret hx hb hr (fun t ht hW => ⟨rfl, ht⟩) nofun dX3_firstPiece_107
    · have hF := kn hF q4
      refine lv_iconst (v := (1 : Int32)) hx hb dX3_firstPiece_28 (by decide) ?_
      refine lv_iload hx hb dX3_firstPiece_29 (lv_at hl 5 rfl) ?_
      refine lv_ishl hx hb dX3_firstPiece_31 ?_
      refine lv_istore (lv' := [(6, .int ((1 : Int32) <<< (v5 &&& 31))), (0, .int a0), (1, .int v1), (2, .int v2), (3, .int v3), (4, .int v4), (5, .int v5)]) hx hb dX3_firstPiece_32 hl (by decide) rfl (fun ls hl => ?_)
      refine lv_iload_n hx hb dX3_firstPiece_34 rfl (lv_at hl 2 rfl) ?_
      refine lv_iload hx hb dX3_firstPiece_35 (lv_at hl 0 rfl) ?_
      refine lv_iand hx hb dX3_firstPiece_37 ?_
      refine lv_if_ne (tgt := 52) hx hb dX3_firstPiece_38 (by decide) (fun q6 => ?_) (fun q6 => ?_)
      · have hF := kn hF q6
        refine lv_iconst (v := (1 : Int32)) hx hb dX3_firstPiece_52 (by decide) ?_
        refine lv_goto (tgt := 57) hx hb dX3_firstPiece_53 (by decide) ?_
        exact wk_Forms_firstPiece_b57 E  a0 C hP  hK hT k9 hk9 (f_Forms_firstPiece_b21 k9 a0 n) ih v1 v2 v3 v4 v5 ((1 : Int32) <<< (v5 &&& 31)) (1 : Int32) hF _ (lv_sub hl [1, 2, 3, 4, 5, 6, 0] rfl)
      · have hF := kp hF q6
        refine lv_iload_n hx hb dX3_firstPiece_41 rfl (lv_at hl 3 rfl) ?_
        refine va_gets (v := .ref t_ENDS) hx hb hZ_ENDS hS hown (hw _ mw_245) (fun _ h9 => h9) dX3_firstPiece_42 ?_
        refine lv_iload hx hb dX3_firstPiece_45 (lv_at hl 6 rfl) ?_
        obtain ⟨r7, er7, hF⟩ := kb hF
        refine wa_ti hx hb hT_ENDS hS er7 dX3_firstPiece_47 ?_
        refine lv_iand hx hb dX3_firstPiece_48 ?_
        refine lv_if_eq (tgt := 56) hx hb dX3_firstPiece_49 (by decide) (fun q8 => ?_) (fun q8 => ?_)
        · have hF := kp hF q8
          refine lv_iconst (v := (0 : Int32)) hx hb dX3_firstPiece_56 (by decide) ?_
          exact wk_Forms_firstPiece_b57 E  a0 C hP  hK hT k9 hk9 (f_Forms_firstPiece_b21 k9 a0 n) ih v1 v2 v3 v4 v5 ((1 : Int32) <<< (v5 &&& 31)) (0 : Int32) hF _ (lv_sub hl [1, 2, 3, 4, 5, 6, 0] rfl)
        · have hF := kn hF q8
          refine lv_iconst (v := (1 : Int32)) hx hb dX3_firstPiece_52 (by decide) ?_
          refine lv_goto (tgt := 57) hx hb dX3_firstPiece_53 (by decide) ?_
          exact wk_Forms_firstPiece_b57 E  a0 C hP  hK hT k9 hk9 (f_Forms_firstPiece_b21 k9 a0 n) ih v1 v2 v3 v4 v5 ((1 : Int32) <<< (v5 &&& 31)) (1 : Int32) hF _ (lv_sub hl [1, 2, 3, 4, 5, 6, 0] rfl)
set_option maxHeartbeats 4000000 in
set_option maxRecDepth 100000 in
theorem wk_Forms_firstPiece_b9 {p : Program} {l : Launch} {e : Env} {s : State} {m : MethodId} {args : Array Value} {below : List Frame} {meth : Method} {c : Code} (E : kE)    (a0 : Int32) {out : Int32} (C : kC RX3 cX3_firstPiece 8 (some .int) p s m args meth c) (hP : va_P (eD E) vwCl (w_Forms_firstPiece E ) s.heap) (hK : va_K (eD E) vwCl (eT E) s) (hT : sT E (fun _ => False) s s.heap)  :
    ∀ (n : Nat), ∀ (v1 : Int32) (v2 : Int32) (v3 : Int32), f_Forms_firstPiece_b9  a0 n v1 v2 v3 = some out → ∀ (ls : Array Slot), lv_has ls 8 [(0, .int a0), (1, .int v1), (2, .int v2), (3, .int v3)] → W p l e (rm 1) s m args below meth c s.heap [] 0 0 (MQ below (qR (.int out)) args s 0 0 (fun _ => False)) (F0 m 9 ls []) := by
  obtain ⟨hx, hb, hr, hml, hown, hw, hlocks⟩ := id C
  have hS : va_S (fun _ => False) s.heap s.heap [] := va_S.rf
  obtain ⟨t_ENDS, hZ_ENDS, hT_ENDS⟩ := hT.1.1
  intro n
  induction n with
  | zero =>
    intro v1 v2 v3 hF
    exact absurd (show (none : Option (Int32)) = some out from hF) nofun
  | succ n ih =>
    intro v1 v2 v3 hF ls hl
    rw [f_Forms_firstPiece_b9] at hF
    refine lv_iload_n hx hb dX3_firstPiece_9 rfl (lv_at hl 3 rfl) ?_
    refine lv_bipush (v := (12 : Int32)) hx hb dX3_firstPiece_10 (by decide) ?_
    refine lv_icmp_ge (tgt := 106) hx hb dX3_firstPiece_12 (by decide) (fun q9 => ?_) (fun q9 => ?_)
    · have hF := kp hF q9
      refine lv_iload_n hx hb dX3_firstPiece_106 rfl (lv_at hl 1 rfl) ?_
      obtain rfl := Option.some.inj hF
      exact W.iret hx hb hr (fun t ht hW => ⟨rfl, ht⟩) nofun dX3_firstPiece_107
    · have hF := kn hF q9
      refine lv_iload_n hx hb dX3_firstPiece_15 rfl (lv_at hl 2 rfl) ?_
      refine lv_istore (lv' := [(4, .int v2), (0, .int a0), (1, .int v1), (2, .int v2), (3, .int v3)]) hx hb dX3_firstPiece_16 hl (by decide) rfl (fun ls hl => ?_)
      refine lv_iconst (v := (0 : Int32)) hx hb dX3_firstPiece_18 (by decide) ?_
      refine lv_istore (lv' := [(5, .int (0 : Int32)), (4, .int v2), (0, .int a0), (1, .int v1), (2, .int v2), (3, .int v3)]) hx hb dX3_firstPiece_19 hl (by decide) rfl (fun ls hl => ?_)
      exact wk_Forms_firstPiece_b21 E  a0 C hP  hK hT (f_Forms_firstPiece_b9  a0 n) ih 5000 v1 v2 v3 v2 (0 : Int32) hF _ (lv_sub hl [2, 3, 4, 5, 1, 0] rfl)
set_option maxHeartbeats 4000000 in
set_option maxRecDepth 100000 in
theorem k_Forms_firstPiece (l : Launch) (E : kE)    (a0 : Int32) (out : Int32) (hF : f_Forms_firstPiece  a0 = some out) : Met l yX3_firstPiece (Cond.code yX3_firstPiece cX3_firstPiece 8 (some .int) :: wG) (rm 1) (pR E (w_Forms_firstPiece E ) [.int a0]) (qR (.int out)) 0 0 (fun _ => False) := by
  refine met_R (by decide) (Nat.le_of_ble_eq_true rfl) ?_
  intro p e s m args below meth c ls C hP hK hT hl
  obtain ⟨hx, hb, hr, hml, hown, hw, hlocks⟩ := id C
  have hS : va_S (fun _ => False) s.heap s.heap [] := va_S.rf
  have hl : lv_has ls 8 [(0, .int a0)] := hl
  obtain ⟨t_ENDS, hZ_ENDS, hT_ENDS⟩ := hT.1.1
  rw [f_Forms_firstPiece] at hF
  refine lv_iload_n hx hb dX3_firstPiece_0 rfl (lv_at hl 0 rfl) ?_
  refine lv_iload_n hx hb dX3_firstPiece_1 rfl (lv_at hl 0 rfl) ?_
  refine lv_ineg hx hb dX3_firstPiece_2 ?_
  refine lv_iand hx hb dX3_firstPiece_3 ?_
  refine lv_istore_n (lv' := [(1, .int (a0 &&& (-a0))), (0, .int a0)]) hx hb dX3_firstPiece_4 rfl hl (by decide) rfl (fun ls hl => ?_)
  refine lv_iconst (v := (0 : Int32)) hx hb dX3_firstPiece_5 (by decide) ?_
  refine lv_istore_n (lv' := [(2, .int (0 : Int32)), (1, .int (a0 &&& (-a0))), (0, .int a0)]) hx hb dX3_firstPiece_6 rfl hl (by decide) rfl (fun ls hl => ?_)
  refine lv_iconst (v := (0 : Int32)) hx hb dX3_firstPiece_7 (by decide) ?_
  refine lv_istore_n (lv' := [(3, .int (0 : Int32)), (2, .int (0 : Int32)), (1, .int (a0 &&& (-a0))), (0, .int a0)]) hx hb dX3_firstPiece_8 rfl hl (by decide) rfl (fun ls hl => ?_)
  exact wk_Forms_firstPiece_b9 E  a0 C hP  hK hT  5000 (a0 &&& (-a0)) (0 : Int32) (0 : Int32) hF _ (lv_sub hl [3, 2, 1, 0] rfl)
abbrev w_Forms_countPieces (E : kE)    : va_W := []
set_option maxHeartbeats 4000000 in
set_option maxRecDepth 100000 in
theorem wk_Forms_countPieces_b6 {p : Program} {l : Launch} {e : Env} {s : State} {m : MethodId} {args : Array Value} {below : List Frame} {meth : Method} {c : Code} (E : kE)    (a0 : Int32) {out : Int32} (C : kC RX3 cX3_countPieces 4 (some .int) p s m args meth c) (hP : va_P (eD E) vwCl (w_Forms_countPieces E ) s.heap) (hK : va_K (eD E) vwCl (eT E) s) (hT : sT E (fun _ => False) s s.heap)  :
    ∀ (n : Nat), ∀ (v1 : Int32) (v2 : Int32) (v3 : Int32), f_Forms_countPieces_b6  a0 n v1 v2 v3 = some out → ∀ (ls : Array Slot), lv_has ls 4 [(1, .int v1), (2, .int v2), (3, .int v3)] → W p l e (rm 2) s m args below meth c s.heap [] 0 0 (MQ below (qR (.int out)) args s 0 0 (fun _ => False)) (F0 m 6 ls []) := by
  obtain ⟨hx, hb, hr, hml, hown, hw, hlocks⟩ := id C
  have hS : va_S (fun _ => False) s.heap s.heap [] := va_S.rf
  intro n
  induction n with
  | zero =>
    intro v1 v2 v3 hF
    exact absurd (show (none : Option (Int32)) = some out from hF) nofun
  | succ n ih =>
    intro v1 v2 v3 hF ls hl
    rw [f_Forms_countPieces_b6] at hF
    refine lv_iload_n hx hb dX3_countPieces_6 rfl (lv_at hl 2 rfl) ?_
    refine lv_bipush (v := (12 : Int32)) hx hb dX3_countPieces_7 (by decide) ?_
    refine lv_icmp_ge (tgt := 34) hx hb dX3_countPieces_9 (by decide) (fun q1 => ?_) (fun q1 => ?_)
    · have hF := kp hF q1
      refine lv_iload_n hx hb dX3_countPieces_34 rfl (lv_at hl 0 rfl) ?_
      obtain rfl := Option.some.inj hF
      exact W.iret hx hb hr (fun t ht hW => ⟨rfl, ht⟩) nofun dX3_countPieces_35
    · have hF := kn hF q1
      refine lv_iload_n hx hb dX3_countPieces_12 rfl (lv_at hl 1 rfl) ?_
      refine lv_if_eq (tgt := 34) hx hb dX3_countPieces_13 (by decide) (fun q2 => ?_) (fun q2 => ?_)
      · have hF := kp hF q2
        refine lv_iload_n hx hb dX3_countPieces_34 rfl (lv_at hl 0 rfl) ?_
        obtain rfl := Option.some.inj hF
        exact W.iret hx hb hr (fun t ht hW => ⟨rfl, ht⟩) nofun dX3_countPieces_35
      · have hF := kn hF q2
        refine lv_iload_n hx hb dX3_countPieces_16 rfl (lv_at hl 1 rfl) ?_
        refine lv_iload_n hx hb dX3_countPieces_17 rfl (lv_at hl 1 rfl) ?_
        obtain ⟨r3, er3, hF⟩ := kb hF
        refine kRS (rest := [.int v2]) C (k_Forms_firstPiece l E v2 r3 er3) fn_Forms_firstPiece mw_254 ⟨Nat.le_of_ble_eq_true rfl, Nat.le_of_ble_eq_true rfl⟩ hK hT hS hP [] rfl rfl rfl hl (Nat.le_of_ble_eq_true rfl) dX3_countPieces_18 ?_
        refine lv_iconst (v := (-1 : Int32)) hx hb dX3_countPieces_21 (by decide) ?_
        refine lv_ixor hx hb dX3_countPieces_22 ?_
        refine lv_iand hx hb dX3_countPieces_23 ?_
        refine lv_istore_n (lv' := [(2, .int (v2 &&& (r3 ^^^ (-1 : Int32)))), (1, .int v1), (3, .int v3)]) hx hb dX3_countPieces_24 rfl hl (by decide) rfl (fun ls hl => ?_)
        refine lv_iinc (v := (v1 + (1))) (lv' := [(1, .int (v1 + (1))), (2, .int (v2 &&& (r3 ^^^ (-1 : Int32)))), (3, .int v3)]) hx hb dX3_countPieces_25 hl (k := 1) rfl rfl (by decide) rfl (fun ls hl => ?_)
        refine lv_iinc (v := (v3 + (1))) (lv' := [(3, .int (v3 + (1))), (1, .int (v1 + (1))), (2, .int (v2 &&& (r3 ^^^ (-1 : Int32))))]) hx hb dX3_countPieces_28 hl (k := 2) rfl rfl (by decide) rfl (fun ls hl => ?_)
        refine lv_goto (tgt := 6) hx hb dX3_countPieces_31 (by decide) ?_
        exact ih (v1 + (1)) (v2 &&& (r3 ^^^ (-1 : Int32))) (v3 + (1)) hF _ (lv_sub hl [1, 2, 0] rfl)
set_option maxHeartbeats 4000000 in
set_option maxRecDepth 100000 in
theorem k_Forms_countPieces (l : Launch) (E : kE)    (a0 : Int32) (out : Int32) (hF : f_Forms_countPieces  a0 = some out) : Met l yX3_countPieces (Cond.code yX3_countPieces cX3_countPieces 4 (some .int) :: wG) (rm 2) (pR E (w_Forms_countPieces E ) [.int a0]) (qR (.int out)) 0 0 (fun _ => False) := by
  refine met_R (by decide) (Nat.le_of_ble_eq_true rfl) ?_
  intro p e s m args below meth c ls C hP hK hT hl
  obtain ⟨hx, hb, hr, hml, hown, hw, hlocks⟩ := id C
  have hS : va_S (fun _ => False) s.heap s.heap [] := va_S.rf
  have hl : lv_has ls 4 [(0, .int a0)] := hl
  rw [f_Forms_countPieces] at hF
  refine lv_iconst (v := (0 : Int32)) hx hb dX3_countPieces_0 (by decide) ?_
  refine lv_istore_n (lv' := [(1, .int (0 : Int32)), (0, .int a0)]) hx hb dX3_countPieces_1 rfl hl (by decide) rfl (fun ls hl => ?_)
  refine lv_iload_n hx hb dX3_countPieces_2 rfl (lv_at hl 1 rfl) ?_
  refine lv_istore_n (lv' := [(2, .int a0), (1, .int (0 : Int32)), (0, .int a0)]) hx hb dX3_countPieces_3 rfl hl (by decide) rfl (fun ls hl => ?_)
  refine lv_iconst (v := (0 : Int32)) hx hb dX3_countPieces_4 (by decide) ?_
  refine lv_istore_n (lv' := [(3, .int (0 : Int32)), (2, .int a0), (1, .int (0 : Int32)), (0, .int a0)]) hx hb dX3_countPieces_5 rfl hl (by decide) rfl (fun ls hl => ?_)
  exact wk_Forms_countPieces_b6 E  a0 C hP  hK hT  5000 (0 : Int32) a0 (0 : Int32) hF _ (lv_sub hl [2, 1, 0] rfl)
abbrev w_Int_bitCount (E : kE)    : va_W := []
set_option maxHeartbeats 4000000 in
set_option maxRecDepth 100000 in
theorem k_Int_bitCount (l : Launch) (E : kE)    (a0 : Int32) (out : Int32) (hF : f_Int_bitCount  a0 = some out) : Met l yJ6_bitCount_0f7a4 (Cond.code yJ6_bitCount_0f7a4 cJ6_bitCount_0f7a4 1 (some .int) :: wG) (rm 1) (pR E (w_Int_bitCount E ) [.int a0]) (qR (.int out)) 0 0 (fun _ => False) := by
  refine met_R (by decide) (Nat.le_of_ble_eq_true rfl) ?_
  intro p e s m args below meth c ls C hP hK hT hl
  obtain ⟨hx, hb, hr, hml, hown, hw, hlocks⟩ := id C
  have hS : va_S (fun _ => False) s.heap s.heap [] := va_S.rf
  have hl : lv_has ls 1 [(0, .int a0)] := hl
  rw [f_Int_bitCount] at hF
  refine lv_iload_n hx hb dJ6_bitCount_0f7a4_0 rfl (lv_at hl 0 rfl) ?_
  refine lv_iload_n hx hb dJ6_bitCount_0f7a4_1 rfl (lv_at hl 0 rfl) ?_
  refine lv_iconst (v := (1 : Int32)) hx hb dJ6_bitCount_0f7a4_2 (by decide) ?_
  refine lv_iushr (v := (a0.toUInt32 >>> ((1 : Int32).toUInt32 &&& Int32.toUInt32 31)).toInt32) hx hb dJ6_bitCount_0f7a4_3 rfl ?_
  refine lv_ldcw (v := (1431655765 : Int32)) hx hb hown (hw _ mw_268) dJ6_bitCount_0f7a4_4 ?_
  refine lv_iand hx hb dJ6_bitCount_0f7a4_7 ?_
  refine lv_isub hx hb dJ6_bitCount_0f7a4_8 ?_
  refine lv_topi (fun x1 ex1 => ?_)
  have hF := kl_at hF ex1
  refine lv_istore_n (lv' := [(0, .int x1)]) hx hb dJ6_bitCount_0f7a4_9 rfl hl (by decide) rfl (fun ls hl => ?_)
  refine lv_iload_n hx hb dJ6_bitCount_0f7a4_10 rfl (lv_at hl 0 rfl) ?_
  refine lv_ldcw (v := (858993459 : Int32)) hx hb hown (hw _ mw_269) dJ6_bitCount_0f7a4_11 ?_
  refine lv_iand hx hb dJ6_bitCount_0f7a4_14 ?_
  refine lv_iload_n hx hb dJ6_bitCount_0f7a4_15 rfl (lv_at hl 0 rfl) ?_
  refine lv_iconst (v := (2 : Int32)) hx hb dJ6_bitCount_0f7a4_16 (by decide) ?_
  refine lv_iushr (v := (x1.toUInt32 >>> ((2 : Int32).toUInt32 &&& Int32.toUInt32 31)).toInt32) hx hb dJ6_bitCount_0f7a4_17 rfl ?_
  refine lv_ldcw (v := (858993459 : Int32)) hx hb hown (hw _ mw_269) dJ6_bitCount_0f7a4_18 ?_
  refine lv_iand hx hb dJ6_bitCount_0f7a4_21 ?_
  refine lv_iadd hx hb dJ6_bitCount_0f7a4_22 ?_
  refine lv_topi (fun x2 ex2 => ?_)
  have hF := kl_at hF ex2
  refine lv_istore_n (lv' := [(0, .int x2)]) hx hb dJ6_bitCount_0f7a4_23 rfl hl (by decide) rfl (fun ls hl => ?_)
  refine lv_iload_n hx hb dJ6_bitCount_0f7a4_24 rfl (lv_at hl 0 rfl) ?_
  refine lv_iload_n hx hb dJ6_bitCount_0f7a4_25 rfl (lv_at hl 0 rfl) ?_
  refine lv_iconst (v := (4 : Int32)) hx hb dJ6_bitCount_0f7a4_26 (by decide) ?_
  refine lv_iushr (v := (x2.toUInt32 >>> ((4 : Int32).toUInt32 &&& Int32.toUInt32 31)).toInt32) hx hb dJ6_bitCount_0f7a4_27 rfl ?_
  refine lv_iadd hx hb dJ6_bitCount_0f7a4_28 ?_
  refine lv_ldcw (v := (252645135 : Int32)) hx hb hown (hw _ mw_270) dJ6_bitCount_0f7a4_29 ?_
  refine lv_iand hx hb dJ6_bitCount_0f7a4_32 ?_
  refine lv_topi (fun x3 ex3 => ?_)
  have hF := kl_at hF ex3
  refine lv_istore_n (lv' := [(0, .int x3)]) hx hb dJ6_bitCount_0f7a4_33 rfl hl (by decide) rfl (fun ls hl => ?_)
  refine lv_iload_n hx hb dJ6_bitCount_0f7a4_34 rfl (lv_at hl 0 rfl) ?_
  refine lv_iload_n hx hb dJ6_bitCount_0f7a4_35 rfl (lv_at hl 0 rfl) ?_
  refine lv_bipush (v := (8 : Int32)) hx hb dJ6_bitCount_0f7a4_36 (by decide) ?_
  refine lv_iushr (v := (x3.toUInt32 >>> ((8 : Int32).toUInt32 &&& Int32.toUInt32 31)).toInt32) hx hb dJ6_bitCount_0f7a4_38 rfl ?_
  refine lv_iadd hx hb dJ6_bitCount_0f7a4_39 ?_
  refine lv_topi (fun x4 ex4 => ?_)
  have hF := kl_at hF ex4
  refine lv_istore_n (lv' := [(0, .int x4)]) hx hb dJ6_bitCount_0f7a4_40 rfl hl (by decide) rfl (fun ls hl => ?_)
  refine lv_iload_n hx hb dJ6_bitCount_0f7a4_41 rfl (lv_at hl 0 rfl) ?_
  refine lv_iload_n hx hb dJ6_bitCount_0f7a4_42 rfl (lv_at hl 0 rfl) ?_
  refine lv_bipush (v := (16 : Int32)) hx hb dJ6_bitCount_0f7a4_43 (by decide) ?_
  refine lv_iushr (v := (x4.toUInt32 >>> ((16 : Int32).toUInt32 &&& Int32.toUInt32 31)).toInt32) hx hb dJ6_bitCount_0f7a4_45 rfl ?_
  refine lv_iadd hx hb dJ6_bitCount_0f7a4_46 ?_
  refine lv_topi (fun x5 ex5 => ?_)
  have hF := kl_at hF ex5
  refine lv_istore_n (lv' := [(0, .int x5)]) hx hb dJ6_bitCount_0f7a4_47 rfl hl (by decide) rfl (fun ls hl => ?_)
  refine lv_iload_n hx hb dJ6_bitCount_0f7a4_48 rfl (lv_at hl 0 rfl) ?_
  refine lv_bipush (v := (63 : Int32)) hx hb dJ6_bitCount_0f7a4_49 (by decide) ?_
  refine lv_iand hx hb dJ6_bitCount_0f7a4_51 ?_
  obtain rfl := Option.some.inj hF
  exact W.iret hx hb hr (fun t ht hW => ⟨rfl, ht⟩) nofun dJ6_bitCount_0f7a4_52
abbrev w_Forms_countLines (E : kE)    : va_W := []
set_option maxHeartbeats 4000000 in
set_option maxRecDepth 100000 in
theorem wk_Forms_countLines_b6 {p : Program} {l : Launch} {e : Env} {s : State} {m : MethodId} {args : Array Value} {below : List Frame} {meth : Method} {c : Code} (E : kE)    (a0 : Int32) {out : Int32} (C : kC RX3 cX3_countLines 5 (some .int) p s m args meth c) (hP : va_P (eD E) vwCl (w_Forms_countLines E ) s.heap) (hK : va_K (eD E) vwCl (eT E) s) (hT : sT E (fun _ => False) s s.heap)  :
    ∀ (n : Nat), ∀ (v1 : Int32) (v2 : Int32) (v3 : Int32), f_Forms_countLines_b6  a0 n v1 v2 v3 = some out → ∀ (ls : Array Slot), lv_has ls 5 [(1, .int v1), (2, .int v2), (3, .int v3)] → W p l e (rm 2) s m args below meth c s.heap [] 0 0 (MQ below (qR (.int out)) args s 0 0 (fun _ => False)) (F0 m 6 ls []) := by
  obtain ⟨hx, hb, hr, hml, hown, hw, hlocks⟩ := id C
  have hS : va_S (fun _ => False) s.heap s.heap [] := va_S.rf
  intro n
  induction n with
  | zero =>
    intro v1 v2 v3 hF
    exact absurd (show (none : Option (Int32)) = some out from hF) nofun
  | succ n ih =>
    intro v1 v2 v3 hF ls hl
    rw [f_Forms_countLines_b6] at hF
    refine lv_iload_n hx hb dX3_countLines_6 rfl (lv_at hl 2 rfl) ?_
    refine lv_bipush (v := (12 : Int32)) hx hb dX3_countLines_7 (by decide) ?_
    refine lv_icmp_ge (tgt := 52) hx hb dX3_countLines_9 (by decide) (fun q1 => ?_) (fun q1 => ?_)
    · have hF := kp hF q1
      refine lv_iload_n hx hb dX3_countLines_52 rfl (lv_at hl 0 rfl) ?_
      obtain rfl := Option.some.inj hF
      exact W.iret hx hb hr (fun t ht hW => ⟨rfl, ht⟩) nofun dX3_countLines_53
    · have hF := kn hF q1
      refine lv_iload_n hx hb dX3_countLines_12 rfl (lv_at hl 1 rfl) ?_
      refine lv_if_eq (tgt := 52) hx hb dX3_countLines_13 (by decide) (fun q2 => ?_) (fun q2 => ?_)
      · have hF := kp hF q2
        refine lv_iload_n hx hb dX3_countLines_52 rfl (lv_at hl 0 rfl) ?_
        obtain rfl := Option.some.inj hF
        exact W.iret hx hb hr (fun t ht hW => ⟨rfl, ht⟩) nofun dX3_countLines_53
      · have hF := kn hF q2
        refine lv_iload_n hx hb dX3_countLines_16 rfl (lv_at hl 1 rfl) ?_
        obtain ⟨r3, er3, hF⟩ := kb hF
        refine kRS (rest := []) C (k_Forms_firstPiece l E v2 r3 er3) fn_Forms_firstPiece mw_254 ⟨Nat.le_of_ble_eq_true rfl, Nat.le_of_ble_eq_true rfl⟩ hK hT hS hP [] rfl rfl rfl hl (Nat.le_of_ble_eq_true rfl) dX3_countLines_17 ?_
        refine lv_istore (lv' := [(4, .int r3), (1, .int v1), (2, .int v2), (3, .int v3)]) hx hb dX3_countLines_20 hl (by decide) rfl (fun ls hl => ?_)
        refine lv_iload_n hx hb dX3_countLines_22 rfl (lv_at hl 1 rfl) ?_
        refine lv_iconst (v := (1 : Int32)) hx hb dX3_countLines_23 (by decide) ?_
        refine lv_iload hx hb dX3_countLines_24 (lv_at hl 0 rfl) ?_
        obtain ⟨r4, er4, hF⟩ := kb hF
        refine kRS (rest := [.int (1 : Int32), .int v1]) C (k_Forms_oddPoints l E r3 r4 er4) fn_Forms_oddPoints mw_264 ⟨Nat.le_of_ble_eq_true rfl, Nat.le_of_ble_eq_true rfl⟩ hK hT hS hP [] rfl rfl rfl hl (Nat.le_of_ble_eq_true rfl) dX3_countLines_26 ?_
        obtain ⟨r5, er5, hF⟩ := kb hF
        refine kRS (rest := [.int (1 : Int32), .int v1]) C (k_Int_bitCount l E r4 r5 er5) fn_Int_bitCount mw_265 ⟨Nat.le_of_ble_eq_true rfl, Nat.le_of_ble_eq_true rfl⟩ hK hT hS hP [] rfl rfl rfl hl (Nat.le_of_ble_eq_true rfl) dX3_countLines_29 ?_
        refine lv_iconst (v := (2 : Int32)) hx hb dX3_countLines_32 (by decide) ?_
        refine lv_idiv hx hb dX3_countLines_33 (by decide) ?_
        refine va_mmax hx hb (hml.trans hl.1.symm) hown (hw _ mw_271) (hw _ mw_272) (hw _ mw_49) (hw _ mw_273) (Nat.le_of_ble_eq_true rfl) (Nat.le_of_ble_eq_true rfl) (Nat.zero_le _) (Nat.zero_le _) dX3_countLines_34 ?_
        refine lv_iadd hx hb dX3_countLines_37 ?_
        refine lv_topi (fun x6 ex6 => ?_)
        have hF := kl_at hF ex6
        refine lv_istore_n (lv' := [(1, .int x6), (4, .int r3), (2, .int v2), (3, .int v3)]) hx hb dX3_countLines_38 rfl hl (by decide) rfl (fun ls hl => ?_)
        refine lv_iload_n hx hb dX3_countLines_39 rfl (lv_at hl 2 rfl) ?_
        refine lv_iload hx hb dX3_countLines_40 (lv_at hl 1 rfl) ?_
        refine lv_iconst (v := (-1 : Int32)) hx hb dX3_countLines_42 (by decide) ?_
        refine lv_ixor hx hb dX3_countLines_43 ?_
        refine lv_iand hx hb dX3_countLines_44 ?_
        refine lv_istore_n (lv' := [(2, .int (v2 &&& (r3 ^^^ (-1 : Int32)))), (1, .int x6), (4, .int r3), (3, .int v3)]) hx hb dX3_countLines_45 rfl hl (by decide) rfl (fun ls hl => ?_)
        refine lv_iinc (v := (v3 + (1))) (lv' := [(3, .int (v3 + (1))), (2, .int (v2 &&& (r3 ^^^ (-1 : Int32)))), (1, .int x6), (4, .int r3)]) hx hb dX3_countLines_46 hl (k := 3) rfl rfl (by decide) rfl (fun ls hl => ?_)
        refine lv_goto (tgt := 6) hx hb dX3_countLines_49 (by decide) ?_
        exact ih x6 (v2 &&& (r3 ^^^ (-1 : Int32))) (v3 + (1)) hF _ (lv_sub hl [2, 1, 0] rfl)
set_option maxHeartbeats 4000000 in
set_option maxRecDepth 100000 in
theorem k_Forms_countLines (l : Launch) (E : kE)    (a0 : Int32) (out : Int32) (hF : f_Forms_countLines  a0 = some out) : Met l yX3_countLines (Cond.code yX3_countLines cX3_countLines 5 (some .int) :: wG) (rm 2) (pR E (w_Forms_countLines E ) [.int a0]) (qR (.int out)) 0 0 (fun _ => False) := by
  refine met_R (by decide) (Nat.le_of_ble_eq_true rfl) ?_
  intro p e s m args below meth c ls C hP hK hT hl
  obtain ⟨hx, hb, hr, hml, hown, hw, hlocks⟩ := id C
  have hS : va_S (fun _ => False) s.heap s.heap [] := va_S.rf
  have hl : lv_has ls 5 [(0, .int a0)] := hl
  rw [f_Forms_countLines] at hF
  refine lv_iconst (v := (0 : Int32)) hx hb dX3_countLines_0 (by decide) ?_
  refine lv_istore_n (lv' := [(1, .int (0 : Int32)), (0, .int a0)]) hx hb dX3_countLines_1 rfl hl (by decide) rfl (fun ls hl => ?_)
  refine lv_iload_n hx hb dX3_countLines_2 rfl (lv_at hl 1 rfl) ?_
  refine lv_istore_n (lv' := [(2, .int a0), (1, .int (0 : Int32)), (0, .int a0)]) hx hb dX3_countLines_3 rfl hl (by decide) rfl (fun ls hl => ?_)
  refine lv_iconst (v := (0 : Int32)) hx hb dX3_countLines_4 (by decide) ?_
  refine lv_istore_n (lv' := [(3, .int (0 : Int32)), (2, .int a0), (1, .int (0 : Int32)), (0, .int a0)]) hx hb dX3_countLines_5 rfl hl (by decide) rfl (fun ls hl => ?_)
  exact wk_Forms_countLines_b6 E  a0 C hP  hK hT  5000 (0 : Int32) a0 (0 : Int32) hF _ (lv_sub hl [2, 1, 0] rfl)
abbrev w_Forms_countStrays (E : kE)    : va_W := []
set_option maxHeartbeats 4000000 in
set_option maxRecDepth 100000 in
theorem k_Forms_countStrays (l : Launch) (E : kE)    (a0 : Int32) (out : Int32) (hF : f_Forms_countStrays  a0 = some out) : Met l yX3_countStrays (Cond.code yX3_countStrays cX3_countStrays 1 (some .int) :: wG) (rm 3) (pR E (w_Forms_countStrays E ) [.int a0]) (qR (.int out)) 0 0 (fun _ => False) := by
  refine met_R (by decide) (Nat.le_of_ble_eq_true rfl) ?_
  intro p e s m args below meth c ls C hP hK hT hl
  obtain ⟨hx, hb, hr, hml, hown, hw, hlocks⟩ := id C
  have hS : va_S (fun _ => False) s.heap s.heap [] := va_S.rf
  have hl : lv_has ls 1 [(0, .int a0)] := hl
  rw [f_Forms_countStrays] at hF
  refine lv_iconst (v := (0 : Int32)) hx hb dX3_countStrays_0 (by decide) ?_
  refine lv_iload_n hx hb dX3_countStrays_1 rfl (lv_at hl 0 rfl) ?_
  obtain ⟨r1, er1, hF⟩ := kb hF
  refine kRS (rest := [.int (0 : Int32)]) C (k_Forms_countLines l E a0 r1 er1) fn_Forms_countLines mw_281 ⟨Nat.le_of_ble_eq_true rfl, Nat.le_of_ble_eq_true rfl⟩ hK hT hS hP [] rfl rfl rfl hl (Nat.le_of_ble_eq_true rfl) dX3_countStrays_2 ?_
  refine lv_iconst (v := (1 : Int32)) hx hb dX3_countStrays_5 (by decide) ?_
  refine lv_isub hx hb dX3_countStrays_6 ?_
  refine va_mmax hx hb (hml.trans hl.1.symm) hown (hw _ mw_271) (hw _ mw_272) (hw _ mw_49) (hw _ mw_273) (Nat.le_of_ble_eq_true rfl) (Nat.le_of_ble_eq_true rfl) (Nat.zero_le _) (Nat.zero_le _) dX3_countStrays_7 ?_
  obtain rfl := Option.some.inj hF
  exact W.iret hx hb hr (fun t ht hW => ⟨rfl, ht⟩) nofun dX3_countStrays_10
abbrev w_Forms_across (E : kE)    : va_W := []
set_option maxHeartbeats 4000000 in
set_option maxRecDepth 100000 in
theorem k_Forms_across (l : Launch) (E : kE)    (a0 : Int32) (a1 : Int32) (out : Int32) (hF : f_Forms_across  a0 a1 = some out) : Met l yX3_across (Cond.code yX3_across cX3_across 2 (some .int) :: wG) (rm 1) (pR E (w_Forms_across E ) [.int a0, .int a1]) (qR (.int out)) 0 0 (fun _ => False) := by
  refine met_R (by decide) (Nat.le_of_ble_eq_true rfl) ?_
  intro p e s m args below meth c ls C hP hK hT hl
  obtain ⟨hx, hb, hr, hml, hown, hw, hlocks⟩ := id C
  have hS : va_S (fun _ => False) s.heap s.heap [] := va_S.rf
  have hl : lv_has ls 2 [(0, .int a0), (1, .int a1)] := hl
  obtain ⟨t_ONE_END, hZ_ONE_END, hT_ONE_END⟩ := hT.1.2.1
  obtain ⟨t_OTHER_END, hZ_OTHER_END, hT_OTHER_END⟩ := hT.1.2.2.1
  rw [f_Forms_across] at hF
  refine lv_iload_n hx hb dX3_across_0 rfl (lv_at hl 0 rfl) ?_
  refine lv_if_lt (tgt := 10) hx hb dX3_across_1 (by decide) (fun q1 => ?_) (fun q1 => ?_)
  · have hF := kp hF q1
    refine lv_iconst (v := (-1 : Int32)) hx hb dX3_across_10 (by decide) ?_
    obtain rfl := Option.some.inj hF
    exact W.iret hx hb hr (fun t ht hW => ⟨rfl, ht⟩) nofun dX3_across_11
  · have hF := kn hF q1
    refine lv_iload_n hx hb dX3_across_4 rfl (lv_at hl 0 rfl) ?_
    refine lv_bipush (v := (12 : Int32)) hx hb dX3_across_5 (by decide) ?_
    refine lv_icmp_lt (tgt := 12) hx hb dX3_across_7 (by decide) (fun q2 => ?_) (fun q2 => ?_)
    · have hF := kp hF q2
      refine va_gets (v := .ref t_ONE_END) hx hb hZ_ONE_END hS hown (hw _ mw_302) (fun _ h9 => h9) dX3_across_12 ?_
      refine lv_iload_n hx hb dX3_across_15 rfl (lv_at hl 0 rfl) ?_
      obtain ⟨r3, er3, hF⟩ := kb hF
      refine wa_ti hx hb hT_ONE_END hS er3 dX3_across_16 ?_
      refine lv_iload_n hx hb dX3_across_17 rfl (lv_at hl 1 rfl) ?_
      refine lv_icmp_ne (tgt := 27) hx hb dX3_across_18 (by decide) (fun q4 => ?_) (fun q4 => ?_)
      · have hF := kn hF q4
        refine va_gets (v := .ref t_OTHER_END) hx hb hZ_OTHER_END hS hown (hw _ mw_304) (fun _ h9 => h9) dX3_across_27 ?_
        refine lv_iload_n hx hb dX3_across_30 rfl (lv_at hl 0 rfl) ?_
        obtain ⟨r5, er5, hF⟩ := kb hF
        refine wa_ti hx hb hT_OTHER_END hS er5 dX3_across_31 ?_
        refine lv_iload_n hx hb dX3_across_32 rfl (lv_at hl 1 rfl) ?_
        refine lv_icmp_ne (tgt := 44) hx hb dX3_across_33 (by decide) (fun q6 => ?_) (fun q6 => ?_)
        · have hF := kn hF q6
          refine lv_iconst (v := (-1 : Int32)) hx hb dX3_across_44 (by decide) ?_
          obtain rfl := Option.some.inj hF
          exact W.iret hx hb hr (fun t ht hW => ⟨rfl, ht⟩) nofun dX3_across_45
        · have hF := kp hF q6
          refine va_gets (v := .ref t_ONE_END) hx hb hZ_ONE_END hS hown (hw _ mw_302) (fun _ h9 => h9) dX3_across_36 ?_
          refine lv_iload_n hx hb dX3_across_39 rfl (lv_at hl 0 rfl) ?_
          obtain ⟨r7, er7, hF⟩ := kb hF
          refine wa_ti hx hb hT_ONE_END hS er7 dX3_across_40 ?_
          refine lv_goto (tgt := 45) hx hb dX3_across_41 (by decide) ?_
          obtain rfl := Option.some.inj hF
          exact W.iret hx hb hr (fun t ht hW => ⟨rfl, ht⟩) nofun dX3_across_45
      · have hF := kp hF q4
        refine va_gets (v := .ref t_OTHER_END) hx hb hZ_OTHER_END hS hown (hw _ mw_304) (fun _ h9 => h9) dX3_across_21 ?_
        refine lv_iload_n hx hb dX3_across_24 rfl (lv_at hl 0 rfl) ?_
        obtain ⟨r8, er8, hF⟩ := kb hF
        refine wa_ti hx hb hT_OTHER_END hS er8 dX3_across_25 ?_
        obtain rfl := Option.some.inj hF
        exact W.iret hx hb hr (fun t ht hW => ⟨rfl, ht⟩) nofun dX3_across_26
    · have hF := kn hF q2
      refine lv_iconst (v := (-1 : Int32)) hx hb dX3_across_10 (by decide) ?_
      obtain rfl := Option.some.inj hF
      exact W.iret hx hb hr (fun t ht hW => ⟨rfl, ht⟩) nofun dX3_across_11
abbrev w_Forms_hasStroke (E : kE)    : va_W := []
set_option maxHeartbeats 4000000 in
set_option maxRecDepth 100000 in
theorem k_Forms_hasStroke (l : Launch) (E : kE)    (a0 : Int32) (a1 : Int32) (out : Int32) (hF : f_Forms_hasStroke  a0 a1 = some out) : Met l yX3_hasStroke (Cond.code yX3_hasStroke cX3_hasStroke 2 (some .boolean) :: wG) (rm 1) (pR E (w_Forms_hasStroke E ) [.int a0, .int a1]) (qR (.int out)) 0 0 (fun _ => False) := by
  refine met_R (by decide) (Nat.le_of_ble_eq_true rfl) ?_
  intro p e s m args below meth c ls C hP hK hT hl
  obtain ⟨hx, hb, hr, hml, hown, hw, hlocks⟩ := id C
  have hS : va_S (fun _ => False) s.heap s.heap [] := va_S.rf
  have hl : lv_has ls 2 [(0, .int a0), (1, .int a1)] := hl
  rw [f_Forms_hasStroke] at hF
  refine lv_iload_n hx hb dX3_hasStroke_0 rfl (lv_at hl 0 rfl) ?_
  refine lv_iload_n hx hb dX3_hasStroke_1 rfl (lv_at hl 1 rfl) ?_
  refine lv_ishr hx hb dX3_hasStroke_2 ?_
  refine lv_iconst (v := (1 : Int32)) hx hb dX3_hasStroke_3 (by decide) ?_
  refine lv_iand hx hb dX3_hasStroke_4 ?_
  refine lv_if_eq (tgt := 12) hx hb dX3_hasStroke_5 (by decide) (fun q1 => ?_) (fun q1 => ?_)
  · have hF := kp hF q1
    refine lv_iconst (v := (0 : Int32)) hx hb dX3_hasStroke_12 (by decide) ?_
    obtain rfl := Option.some.inj hF
    exact W.zret (ty := .boolean) hx hb hr rfl (fun t ht hW => ⟨rfl, ht⟩) nofun dX3_hasStroke_13
  · have hF := kn hF q1
    refine lv_iconst (v := (1 : Int32)) hx hb dX3_hasStroke_8 (by decide) ?_
    refine lv_goto (tgt := 13) hx hb dX3_hasStroke_9 (by decide) ?_
    obtain rfl := Option.some.inj hF
    exact W.zret (ty := .boolean) hx hb hr rfl (fun t ht hW => ⟨rfl, ht⟩) nofun dX3_hasStroke_13
abbrev w_Forms_touches (E : kE)    : va_W := []
set_option maxHeartbeats 4000000 in
set_option maxRecDepth 100000 in
theorem wk_Forms_touches_b2 {p : Program} {l : Launch} {e : Env} {s : State} {m : MethodId} {args : Array Value} {below : List Frame} {meth : Method} {c : Code} (E : kE)    (a0 : Int32) (a1 : Int32) {out : Int32} (C : kC RX3 cX3_touches 3 (some .boolean) p s m args meth c) (hP : va_P (eD E) vwCl (w_Forms_touches E ) s.heap) (hK : va_K (eD E) vwCl (eT E) s) (hT : sT E (fun _ => False) s s.heap)  :
    ∀ (n : Nat), ∀ (v2 : Int32), f_Forms_touches_b2  a0 a1 n v2 = some out → ∀ (ls : Array Slot), lv_has ls 3 [(0, .int a0), (1, .int a1), (2, .int v2)] → W p l e (rm 2) s m args below meth c s.heap [] 0 0 (MQ below (qR (.int out)) args s 0 0 (fun _ => False)) (F0 m 2 ls []) := by
  obtain ⟨hx, hb, hr, hml, hown, hw, hlocks⟩ := id C
  have hS : va_S (fun _ => False) s.heap s.heap [] := va_S.rf
  intro n
  induction n with
  | zero =>
    intro v2 hF
    exact absurd (show (none : Option (Int32)) = some out from hF) nofun
  | succ n ih =>
    intro v2 hF ls hl
    rw [f_Forms_touches_b2] at hF
    refine lv_iload_n hx hb dX3_touches_2 rfl (lv_at hl 2 rfl) ?_
    refine lv_bipush (v := (12 : Int32)) hx hb dX3_touches_3 (by decide) ?_
    refine lv_icmp_ge (tgt := 32) hx hb dX3_touches_5 (by decide) (fun q1 => ?_) (fun q1 => ?_)
    · have hF := kp hF q1
      refine lv_iconst (v := (0 : Int32)) hx hb dX3_touches_32 (by decide) ?_
      obtain rfl := Option.some.inj hF
      exact W.zret (ty := .boolean) hx hb hr rfl (fun t ht hW => ⟨rfl, ht⟩) nofun dX3_touches_33
    · have hF := kn hF q1
      refine lv_iload_n hx hb dX3_touches_8 rfl (lv_at hl 0 rfl) ?_
      refine lv_iload_n hx hb dX3_touches_9 rfl (lv_at hl 2 rfl) ?_
      obtain ⟨r2, er2, hF⟩ := kb hF
      refine kRS (rest := []) C (k_Forms_hasStroke l E a0 v2 r2 er2) fn_Forms_hasStroke mw_296 ⟨Nat.le_of_ble_eq_true rfl, Nat.le_of_ble_eq_true rfl⟩ hK hT hS hP [] rfl rfl rfl hl (Nat.le_of_ble_eq_true rfl) dX3_touches_10 ?_
      refine lv_if_eq (tgt := 26) hx hb dX3_touches_13 (by decide) (fun q3 => ?_) (fun q3 => ?_)
      · have hF := kp hF q3
        refine lv_iinc (v := (v2 + (1))) (lv' := [(2, .int (v2 + (1))), (0, .int a0), (1, .int a1)]) hx hb dX3_touches_26 hl (k := 2) rfl rfl (by decide) rfl (fun ls hl => ?_)
        refine lv_goto (tgt := 2) hx hb dX3_touches_29 (by decide) ?_
        exact ih (v2 + (1)) hF _ (lv_sub hl [1, 2, 0] rfl)
      · have hF := kn hF q3
        refine lv_iload_n hx hb dX3_touches_16 rfl (lv_at hl 2 rfl) ?_
        refine lv_iload_n hx hb dX3_touches_17 rfl (lv_at hl 1 rfl) ?_
        obtain ⟨r4, er4, hF⟩ := kb hF
        refine kRS (rest := []) C (k_Forms_across l E v2 a1 r4 er4) fn_Forms_across mw_299 ⟨Nat.le_of_ble_eq_true rfl, Nat.le_of_ble_eq_true rfl⟩ hK hT hS hP [] rfl rfl rfl hl (Nat.le_of_ble_eq_true rfl) dX3_touches_18 ?_
        refine lv_if_lt (tgt := 26) hx hb dX3_touches_21 (by decide) (fun q5 => ?_) (fun q5 => ?_)
        · have hF := kp hF q5
          refine lv_iinc (v := (v2 + (1))) (lv' := [(2, .int (v2 + (1))), (0, .int a0), (1, .int a1)]) hx hb dX3_touches_26 hl (k := 2) rfl rfl (by decide) rfl (fun ls hl => ?_)
          refine lv_goto (tgt := 2) hx hb dX3_touches_29 (by decide) ?_
          exact ih (v2 + (1)) hF _ (lv_sub hl [1, 2, 0] rfl)
        · have hF := kn hF q5
          refine lv_iconst (v := (1 : Int32)) hx hb dX3_touches_24 (by decide) ?_
          obtain rfl := Option.some.inj hF
          exact W.zret (ty := .boolean) hx hb hr rfl (fun t ht hW => ⟨rfl, ht⟩) nofun dX3_touches_25
set_option maxHeartbeats 4000000 in
set_option maxRecDepth 100000 in
theorem k_Forms_touches (l : Launch) (E : kE)    (a0 : Int32) (a1 : Int32) (out : Int32) (hF : f_Forms_touches  a0 a1 = some out) : Met l yX3_touches (Cond.code yX3_touches cX3_touches 3 (some .boolean) :: wG) (rm 2) (pR E (w_Forms_touches E ) [.int a0, .int a1]) (qR (.int out)) 0 0 (fun _ => False) := by
  refine met_R (by decide) (Nat.le_of_ble_eq_true rfl) ?_
  intro p e s m args below meth c ls C hP hK hT hl
  obtain ⟨hx, hb, hr, hml, hown, hw, hlocks⟩ := id C
  have hS : va_S (fun _ => False) s.heap s.heap [] := va_S.rf
  have hl : lv_has ls 3 [(0, .int a0), (1, .int a1)] := hl
  rw [f_Forms_touches] at hF
  refine lv_iconst (v := (0 : Int32)) hx hb dX3_touches_0 (by decide) ?_
  refine lv_istore_n (lv' := [(2, .int (0 : Int32)), (0, .int a0), (1, .int a1)]) hx hb dX3_touches_1 rfl hl (by decide) rfl (fun ls hl => ?_)
  exact wk_Forms_touches_b2 E  a0 a1 C hP  hK hT  5000 (0 : Int32) hF _ (lv_sub hl [1, 2, 0] rfl)
abbrev w_Forms_canBeTrodden (E : kE)    : va_W := []
set_option maxHeartbeats 4000000 in
set_option maxRecDepth 100000 in
theorem wk_Forms_canBeTrodden_b49 {p : Program} {l : Launch} {e : Env} {s : State} {m : MethodId} {args : Array Value} {below : List Frame} {meth : Method} {c : Code} (E : kE)    (a0 : Int32) (a1 : Int32) {out : Int32} (C : kC RX3 cX3_canBeTrodden 3 (some .boolean) p s m args meth c) (hP : va_P (eD E) vwCl (w_Forms_canBeTrodden E ) s.heap) (hK : va_K (eD E) vwCl (eT E) s) (hT : sT E (fun _ => False) s s.heap)  :
    f_Forms_canBeTrodden_b49  a0 a1  = some out → ∀ (ls : Array Slot), lv_has ls 3 [] → W p l e (rm 3) s m args below meth c s.heap [] 0 0 (MQ below (qR (.int out)) args s 0 0 (fun _ => False)) (F0 m 49 ls []) := by
  obtain ⟨hx, hb, hr, hml, hown, hw, hlocks⟩ := id C
  have hS : va_S (fun _ => False) s.heap s.heap [] := va_S.rf
  intro  hF ls hl
  rw [f_Forms_canBeTrodden_b49] at hF
  refine lv_iconst (v := (1 : Int32)) hx hb dX3_canBeTrodden_49 (by decide) ?_
  refine lv_goto (tgt := 54) hx hb dX3_canBeTrodden_50 (by decide) ?_
  obtain rfl := Option.some.inj hF
  exact W.zret (ty := .boolean) hx hb hr rfl (fun t ht hW => ⟨rfl, ht⟩) nofun dX3_canBeTrodden_54
set_option maxHeartbeats 4000000 in
set_option maxRecDepth 100000 in
theorem k_Forms_canBeTrodden (l : Launch) (E : kE)    (a0 : Int32) (a1 : Int32) (out : Int32) (hF : f_Forms_canBeTrodden  a0 a1 = some out) : Met l yX3_canBeTrodden (Cond.code yX3_canBeTrodden cX3_canBeTrodden 3 (some .boolean) :: wG) (rm 3) (pR E (w_Forms_canBeTrodden E ) [.int a0, .int a1]) (qR (.int out)) 0 0 (fun _ => False) := by
  refine met_R (by decide) (Nat.le_of_ble_eq_true rfl) ?_
  intro p e s m args below meth c ls C hP hK hT hl
  obtain ⟨hx, hb, hr, hml, hown, hw, hlocks⟩ := id C
  have hS : va_S (fun _ => False) s.heap s.heap [] := va_S.rf
  have hl : lv_has ls 3 [(0, .int a0), (1, .int a1)] := hl
  rw [f_Forms_canBeTrodden] at hF
  refine lv_iload_n hx hb dX3_canBeTrodden_0 rfl (lv_at hl 0 rfl) ?_
  refine lv_if_ne (tgt := 6) hx hb dX3_canBeTrodden_1 (by decide) (fun q1 => ?_) (fun q1 => ?_)
  · have hF := kn hF q1
    refine lv_iload_n hx hb dX3_canBeTrodden_6 rfl (lv_at hl 0 rfl) ?_
    refine lv_iload_n hx hb dX3_canBeTrodden_7 rfl (lv_at hl 1 rfl) ?_
    obtain ⟨r2, er2, hF⟩ := kb hF
    refine kRS (rest := []) C (k_Forms_touches l E a0 a1 r2 er2) fn_Forms_touches mw_293 ⟨Nat.le_of_ble_eq_true rfl, Nat.le_of_ble_eq_true rfl⟩ hK hT hS hP [] rfl rfl rfl hl (Nat.le_of_ble_eq_true rfl) dX3_canBeTrodden_8 ?_
    refine lv_if_eq (tgt := 22) hx hb dX3_canBeTrodden_11 (by decide) (fun q3 => ?_) (fun q3 => ?_)
    · have hF := kp hF q3
      refine lv_iconst (v := (0 : Int32)) hx hb dX3_canBeTrodden_22 (by decide) ?_
      obtain rfl := Option.some.inj hF
      exact W.zret (ty := .boolean) hx hb hr rfl (fun t ht hW => ⟨rfl, ht⟩) nofun dX3_canBeTrodden_23
    · have hF := kn hF q3
      refine lv_iload_n hx hb dX3_canBeTrodden_14 rfl (lv_at hl 0 rfl) ?_
      obtain ⟨r4, er4, hF⟩ := kb hF
      refine kRS (rest := []) C (k_Forms_countPieces l E a0 r4 er4) fn_Forms_countPieces mw_306 ⟨Nat.le_of_ble_eq_true rfl, Nat.le_of_ble_eq_true rfl⟩ hK hT hS hP [] rfl rfl rfl hl (Nat.le_of_ble_eq_true rfl) dX3_canBeTrodden_15 ?_
      refine lv_iconst (v := (1 : Int32)) hx hb dX3_canBeTrodden_18 (by decide) ?_
      refine lv_icmp_eq (tgt := 24) hx hb dX3_canBeTrodden_19 (by decide) (fun q5 => ?_) (fun q5 => ?_)
      · have hF := kp hF q5
        refine lv_iload_n hx hb dX3_canBeTrodden_24 rfl (lv_at hl 0 rfl) ?_
        obtain ⟨r6, er6, hF⟩ := kb hF
        refine kRS (rest := []) C (k_Forms_oddPoints l E a0 r6 er6) fn_Forms_oddPoints mw_264 ⟨Nat.le_of_ble_eq_true rfl, Nat.le_of_ble_eq_true rfl⟩ hK hT hS hP [] rfl rfl rfl hl (Nat.le_of_ble_eq_true rfl) dX3_canBeTrodden_25 ?_
        refine lv_istore_n (lv' := [(2, .int r6), (0, .int a0), (1, .int a1)]) hx hb dX3_canBeTrodden_28 rfl hl (by decide) rfl (fun ls hl => ?_)
        refine lv_iload_n hx hb dX3_canBeTrodden_29 rfl (lv_at hl 0 rfl) ?_
        refine lv_if_eq (tgt := 49) hx hb dX3_canBeTrodden_30 (by decide) (fun q7 => ?_) (fun q7 => ?_)
        · have hF := kp hF q7
          exact wk_Forms_canBeTrodden_b49 E  a0 a1 C hP  hK hT   hF _ (lv_sub hl [] rfl)
        · have hF := kn hF q7
          refine lv_iload_n hx hb dX3_canBeTrodden_33 rfl (lv_at hl 0 rfl) ?_
          obtain ⟨r8, er8, hF⟩ := kb hF
          refine kRS (rest := []) C (k_Int_bitCount l E r6 r8 er8) fn_Int_bitCount mw_265 ⟨Nat.le_of_ble_eq_true rfl, Nat.le_of_ble_eq_true rfl⟩ hK hT hS hP [] rfl rfl rfl hl (Nat.le_of_ble_eq_true rfl) dX3_canBeTrodden_34 ?_
          refine lv_iconst (v := (2 : Int32)) hx hb dX3_canBeTrodden_37 (by decide) ?_
          refine lv_icmp_ne (tgt := 53) hx hb dX3_canBeTrodden_38 (by decide) (fun q9 => ?_) (fun q9 => ?_)
          · have hF := kn hF q9
            refine lv_iconst (v := (0 : Int32)) hx hb dX3_canBeTrodden_53 (by decide) ?_
            obtain rfl := Option.some.inj hF
            exact W.zret (ty := .boolean) hx hb hr rfl (fun t ht hW => ⟨rfl, ht⟩) nofun dX3_canBeTrodden_54
          · have hF := kp hF q9
            refine lv_iload_n hx hb dX3_canBeTrodden_41 rfl (lv_at hl 0 rfl) ?_
            refine lv_iload_n hx hb dX3_canBeTrodden_42 rfl (lv_at hl 2 rfl) ?_
            refine lv_ishr hx hb dX3_canBeTrodden_43 ?_
            refine lv_iconst (v := (1 : Int32)) hx hb dX3_canBeTrodden_44 (by decide) ?_
            refine lv_iand hx hb dX3_canBeTrodden_45 ?_
            refine lv_if_eq (tgt := 53) hx hb dX3_canBeTrodden_46 (by decide) (fun q10 => ?_) (fun q10 => ?_)
            · have hF := kp hF q10
              refine lv_iconst (v := (0 : Int32)) hx hb dX3_canBeTrodden_53 (by decide) ?_
              obtain rfl := Option.some.inj hF
              exact W.zret (ty := .boolean) hx hb hr rfl (fun t ht hW => ⟨rfl, ht⟩) nofun dX3_canBeTrodden_54
            · have hF := kn hF q10
              exact wk_Forms_canBeTrodden_b49 E  a0 a1 C hP  hK hT   hF _ (lv_sub hl [] rfl)
      · have hF := kn hF q5
        refine lv_iconst (v := (0 : Int32)) hx hb dX3_canBeTrodden_22 (by decide) ?_
        obtain rfl := Option.some.inj hF
        exact W.zret (ty := .boolean) hx hb hr rfl (fun t ht hW => ⟨rfl, ht⟩) nofun dX3_canBeTrodden_23
  · have hF := kp hF q1
    refine lv_iconst (v := (1 : Int32)) hx hb dX3_canBeTrodden_4 (by decide) ?_
    obtain rfl := Option.some.inj hF
    exact W.zret (ty := .boolean) hx hb hr rfl (fun t ht hW => ⟨rfl, ht⟩) nofun dX3_canBeTrodden_5
abbrev w_Forms_countWays (E : kE)    : va_W := []
set_option maxHeartbeats 4000000 in
set_option maxRecDepth 100000 in
theorem wk_Forms_countWays_b19 {p : Program} {l : Launch} {e : Env} {s : State} {m : MethodId} {args : Array Value} {below : List Frame} {meth : Method} {c : Code} (E : kE) {d : Nat} (rec : Int32 → Int32 → Int32 → Option (Int64)) (hrec : ∀ (E : kE) (a0 : Int32) (a1 : Int32) (a2 : Int32) (out : Int64), rec a0 a1 a2 = some out → Met l yX3_countWays (Cond.code yX3_countWays cX3_countWays 7 (some .long) :: wG) (rm (d + 5)) (pR E [] [.int a0, .int a1, .int a2]) (qR (.long out)) 0 0 (fun _ => False))    (a0 : Int32) (a1 : Int32) (a2 : Int32) {out : Int64} (C : kC RX3 cX3_countWays 7 (some .long) p s m args meth c) (hP : va_P (eD E) vwCl (w_Forms_countWays E ) s.heap) (hK : va_K (eD E) vwCl (eT E) s) (hT : sT E (fun _ => False) s s.heap)  :
    ∀ (n : Nat), ∀ (v3 : Int64) (v5 : Int32), f_Forms_countWays_b19  rec a0 a1 a2 n v3 v5 = some out → ∀ (ls : Array Slot), lv_has ls 7 [(0, .int a0), (1, .int a1), (2, .int a2), (3, .long v3), (5, .int v5)] → W p l e (rm (d + 6)) s m args below meth c s.heap [] 0 0 (MQ below (qR (.long out)) args s 0 0 (fun _ => False)) (F0 m 19 ls []) := by
  obtain ⟨hx, hb, hr, hml, hown, hw, hlocks⟩ := id C
  have hS : va_S (fun _ => False) s.heap s.heap [] := va_S.rf
  intro n
  induction n with
  | zero =>
    intro v3 v5 hF
    exact absurd (show (none : Option (Int64)) = some out from hF) nofun
  | succ n ih =>
    intro v3 v5 hF ls hl
    rw [f_Forms_countWays_b19] at hF
    refine lv_iload hx hb dX3_countWays_19 (lv_at hl 4 rfl) ?_
    refine lv_bipush (v := (12 : Int32)) hx hb dX3_countWays_21 (by decide) ?_
    refine lv_icmp_ge (tgt := 73) hx hb dX3_countWays_23 (by decide) (fun q1 => ?_) (fun q1 => ?_)
    · have hF := kp hF q1
      refine lv_lload_n hx hb dX3_countWays_73 rfl (lv_at hl 3 rfl) ?_
      obtain rfl := Option.some.inj hF
      exact W.lret hx hb hr (fun t ht hW => ⟨rfl, ht⟩) nofun dX3_countWays_74
    · have hF := kn hF q1
      refine lv_iload hx hb dX3_countWays_26 (lv_at hl 4 rfl) ?_
      refine lv_iload_n hx hb dX3_countWays_28 rfl (lv_at hl 1 rfl) ?_
      obtain ⟨r2, er2, hF⟩ := kb hF
      refine kRS (rest := []) C (k_Forms_across l E v5 a1 r2 er2) fn_Forms_across mw_299 ⟨by simp only [rm]; omega, by simp only [rm]; omega⟩ hK hT hS hP [] rfl rfl rfl hl (Nat.le_of_ble_eq_true rfl) dX3_countWays_29 ?_
      refine lv_istore (lv' := [(6, .int r2), (0, .int a0), (1, .int a1), (2, .int a2), (3, .long v3), (5, .int v5)]) hx hb dX3_countWays_32 hl (by decide) rfl (fun ls hl => ?_)
      refine lv_iload_n hx hb dX3_countWays_34 rfl (lv_at hl 1 rfl) ?_
      refine lv_iload hx hb dX3_countWays_35 (lv_at hl 5 rfl) ?_
      obtain ⟨r3, er3, hF⟩ := kb hF
      refine kRS (rest := []) C (k_Forms_hasStroke l E a0 v5 r3 er3) fn_Forms_hasStroke mw_296 ⟨by simp only [rm]; omega, by simp only [rm]; omega⟩ hK hT hS hP [] rfl rfl rfl hl (Nat.le_of_ble_eq_true rfl) dX3_countWays_37 ?_
      refine lv_if_eq (tgt := 67) hx hb dX3_countWays_40 (by decide) (fun q4 => ?_) (fun q4 => ?_)
      · have hF := kp hF q4
        refine lv_iinc (v := (v5 + (1))) (lv' := [(5, .int (v5 + (1))), (6, .int r2), (0, .int a0), (1, .int a1), (2, .int a2), (3, .long v3)]) hx hb dX3_countWays_67 hl (k := 5) rfl rfl (by decide) rfl (fun ls hl => ?_)
        refine lv_goto (tgt := 19) hx hb dX3_countWays_70 (by decide) ?_
        exact ih v3 (v5 + (1)) hF _ (lv_sub hl [2, 3, 4, 5, 0] rfl)
      · have hF := kn hF q4
        refine lv_iload hx hb dX3_countWays_43 (lv_at hl 0 rfl) ?_
        refine lv_if_lt (tgt := 67) hx hb dX3_countWays_45 (by decide) (fun q5 => ?_) (fun q5 => ?_)
        · have hF := kp hF q5
          refine lv_iinc (v := (v5 + (1))) (lv' := [(5, .int (v5 + (1))), (6, .int r2), (0, .int a0), (1, .int a1), (2, .int a2), (3, .long v3)]) hx hb dX3_countWays_67 hl (k := 5) rfl rfl (by decide) rfl (fun ls hl => ?_)
          refine lv_goto (tgt := 19) hx hb dX3_countWays_70 (by decide) ?_
          exact ih v3 (v5 + (1)) hF _ (lv_sub hl [2, 3, 4, 5, 0] rfl)
        · have hF := kn hF q5
          refine lv_lload_n hx hb dX3_countWays_48 rfl (lv_at hl 4 rfl) ?_
          refine lv_iload_n hx hb dX3_countWays_49 rfl (lv_at hl 1 rfl) ?_
          refine lv_iconst (v := (1 : Int32)) hx hb dX3_countWays_50 (by decide) ?_
          refine lv_iload hx hb dX3_countWays_51 (lv_at hl 5 rfl) ?_
          refine lv_ishl hx hb dX3_countWays_53 ?_
          refine lv_iconst (v := (-1 : Int32)) hx hb dX3_countWays_54 (by decide) ?_
          refine lv_ixor hx hb dX3_countWays_55 ?_
          refine lv_iand hx hb dX3_countWays_56 ?_
          refine lv_iload hx hb dX3_countWays_57 (lv_at hl 0 rfl) ?_
          refine lv_iload_n hx hb dX3_countWays_59 rfl (lv_at hl 3 rfl) ?_
          refine lv_iconst (v := (1 : Int32)) hx hb dX3_countWays_60 (by decide) ?_
          refine lv_iadd hx hb dX3_countWays_61 ?_
          obtain ⟨r6, er6, hF⟩ := kb hF
          refine kRS (rest := [.long v3]) C (hrec E (a0 &&& (((1 : Int32) <<< (v5 &&& 31)) ^^^ (-1 : Int32))) r2 (a2 + (1 : Int32)) r6 er6) fn_Forms_countWays mw_310 ⟨by simp only [rm]; omega, by simp only [rm]; omega⟩ hK hT hS hP [] rfl rfl rfl hl (Nat.le_of_ble_eq_true rfl) dX3_countWays_62 ?_
          refine lv_ladd hx hb dX3_countWays_65 ?_
          refine lv_lstore_n (lv' := [(3, .long (v3 + r6)), (6, .int r2), (0, .int a0), (1, .int a1), (2, .int a2), (5, .int v5)]) hx hb dX3_countWays_66 rfl hl (by decide) rfl (fun ls hl => ?_)
          refine lv_iinc (v := (v5 + (1))) (lv' := [(5, .int (v5 + (1))), (3, .long (v3 + r6)), (6, .int r2), (0, .int a0), (1, .int a1), (2, .int a2)]) hx hb dX3_countWays_67 hl (k := 5) rfl rfl (by decide) rfl (fun ls hl => ?_)
          refine lv_goto (tgt := 19) hx hb dX3_countWays_70 (by decide) ?_
          exact ih (v3 + r6) (v5 + (1)) hF _ (lv_sub hl [3, 4, 5, 1, 0] rfl)
set_option maxHeartbeats 4000000 in
set_option maxRecDepth 100000 in
theorem kr_Forms_countWays (l : Launch) : ∀ (d : Nat) (E : kE) (a0 : Int32) (a1 : Int32) (a2 : Int32) (out : Int64), f_Forms_countWays d a0 a1 a2 = some out → Met l yX3_countWays (Cond.code yX3_countWays cX3_countWays 7 (some .long) :: wG) (rm (d + 5)) (pR E [] [.int a0, .int a1, .int a2]) (qR (.long out)) 0 0 (fun _ => False) := by
  intro d
  induction d with
  | zero =>
    intro E a0 a1 a2 out hF
    exact absurd (show (none : Option (Int64)) = some out from hF) nofun
  | succ d hrec =>
    intro E a0 a1 a2 out hF
    rw [f_Forms_countWays] at hF
    generalize hrr : f_Forms_countWays d = rec at hF hrec
    rw [f_Forms_countWays_e] at hF
    refine met_R (by decide) (Nat.le_of_ble_eq_true rfl) ?_
    intro p e s m args below meth c ls C hP hK hT hl
    obtain ⟨hx, hb, hr, hml, hown, hw, hlocks⟩ := id C
    have hS : va_S (fun _ => False) s.heap s.heap [] := va_S.rf
    have hl : lv_has ls 7 [(0, .int a0), (1, .int a1), (2, .int a2)] := hl
    refine lv_iload_n hx hb dX3_countWays_0 rfl (lv_at hl 0 rfl) ?_
    refine lv_if_ne (tgt := 6) hx hb dX3_countWays_1 (by decide) (fun q7 => ?_) (fun q7 => ?_)
    · have hF := kn hF q7
      refine lv_iload_n hx hb dX3_countWays_6 rfl (lv_at hl 2 rfl) ?_
      refine lv_bipush (v := (12 : Int32)) hx hb dX3_countWays_7 (by decide) ?_
      refine lv_icmp_lt (tgt := 14) hx hb dX3_countWays_9 (by decide) (fun q8 => ?_) (fun q8 => ?_)
      · have hF := kp hF q8
        refine lv_lconst (v := (0 : Int64)) hx hb dX3_countWays_14 (by decide) ?_
        refine lv_lstore_n (lv' := [(3, .long (0 : Int64)), (0, .int a0), (1, .int a1), (2, .int a2)]) hx hb dX3_countWays_15 rfl hl (by decide) rfl (fun ls hl => ?_)
        refine lv_iconst (v := (0 : Int32)) hx hb dX3_countWays_16 (by decide) ?_
        refine lv_istore (lv' := [(5, .int (0 : Int32)), (3, .long (0 : Int64)), (0, .int a0), (1, .int a1), (2, .int a2)]) hx hb dX3_countWays_17 hl (by decide) rfl (fun ls hl => ?_)
        exact wk_Forms_countWays_b19 E rec hrec  a0 a1 a2 C hP  hK hT  5000 (0 : Int64) (0 : Int32) hF _ (lv_sub hl [2, 3, 4, 1, 0] rfl)
      · have hF := kn hF q8
        refine lv_lconst (v := (0 : Int64)) hx hb dX3_countWays_12 (by decide) ?_
        obtain rfl := Option.some.inj hF
        exact W.lret hx hb hr (fun t ht hW => ⟨rfl, ht⟩) nofun dX3_countWays_13
    · have hF := kp hF q7
      refine lv_lconst (v := (1 : Int64)) hx hb dX3_countWays_4 (by decide) ?_
      obtain rfl := Option.some.inj hF
      exact W.lret hx hb hr (fun t ht hW => ⟨rfl, ht⟩) nofun dX3_countWays_5
theorem k_Forms_countWays (l : Launch) (E : kE) (a0 : Int32) (a1 : Int32) (a2 : Int32) (out : Int64) (hF : f_Forms_countWays 14 a0 a1 a2 = some out) : Met l yX3_countWays (Cond.code yX3_countWays cX3_countWays 7 (some .long) :: wG) (rm 19) (pR E [] [.int a0, .int a1, .int a2]) (qR (.long out)) 0 0 (fun _ => False) := kr_Forms_countWays l 14 E a0 a1 a2 out hF
abbrev w_Forms_isPoint (E : kE)    : va_W := []
set_option maxHeartbeats 4000000 in
set_option maxRecDepth 100000 in
theorem k_Forms_isPoint (l : Launch) (E : kE)    (a0 : Int64) (out : Int32) (hF : f_Forms_isPoint  a0 = some out) : Met l yX3_isPoint (Cond.code yX3_isPoint cX3_isPoint 2 (some .boolean) :: wG) (rm 1) (pR E (w_Forms_isPoint E ) [.long a0]) (qR (.int out)) 0 0 (fun _ => False) := by
  refine met_R (by decide) (Nat.le_of_ble_eq_true rfl) ?_
  intro p e s m args below meth c ls C hP hK hT hl
  obtain ⟨hx, hb, hr, hml, hown, hw, hlocks⟩ := id C
  have hS : va_S (fun _ => False) s.heap s.heap [] := va_S.rf
  have hl : lv_has ls 2 [(0, .long a0)] := hl
  rw [f_Forms_isPoint] at hF
  refine lv_lload_n hx hb dX3_isPoint_0 rfl (lv_at hl 0 rfl) ?_
  refine lv_lconst (v := (0 : Int64)) hx hb dX3_isPoint_1 (by decide) ?_
  refine W.lcmp hx hb dX3_isPoint_2 ?_
  refine lv_if_lt (tgt := 18) hx hb dX3_isPoint_3 (by decide) (fun q1 => ?_) (fun q1 => ?_)
  · have hF := kp hF q1
    refine lv_iconst (v := (0 : Int32)) hx hb dX3_isPoint_18 (by decide) ?_
    obtain rfl := Option.some.inj hF
    exact W.zret (ty := .boolean) hx hb hr rfl (fun t ht hW => ⟨rfl, ht⟩) nofun dX3_isPoint_19
  · have hF := kn hF q1
    refine lv_lload_n hx hb dX3_isPoint_6 rfl (lv_at hl 0 rfl) ?_
    refine lv_ldc2 (v := (9 : Int64)) hx hb hown (hw _ mw_289) dX3_isPoint_7 ?_
    refine W.lcmp hx hb dX3_isPoint_10 ?_
    refine lv_if_ge (tgt := 18) hx hb dX3_isPoint_11 (by decide) (fun q2 => ?_) (fun q2 => ?_)
    · have hF := kp hF q2
      refine lv_iconst (v := (0 : Int32)) hx hb dX3_isPoint_18 (by decide) ?_
      obtain rfl := Option.some.inj hF
      exact W.zret (ty := .boolean) hx hb hr rfl (fun t ht hW => ⟨rfl, ht⟩) nofun dX3_isPoint_19
    · have hF := kn hF q2
      refine lv_iconst (v := (1 : Int32)) hx hb dX3_isPoint_14 (by decide) ?_
      refine lv_goto (tgt := 19) hx hb dX3_isPoint_15 (by decide) ?_
      obtain rfl := Option.some.inj hF
      exact W.zret (ty := .boolean) hx hb hr rfl (fun t ht hW => ⟨rfl, ht⟩) nofun dX3_isPoint_19
abbrev w_Forms_leastOnward (E : kE)    : va_W := []
set_option maxHeartbeats 4000000 in
set_option maxRecDepth 100000 in
theorem wk_Forms_leastOnward_b2 {p : Program} {l : Launch} {e : Env} {s : State} {m : MethodId} {args : Array Value} {below : List Frame} {meth : Method} {c : Code} (E : kE)    (a0 : Int32) (a1 : Int32) {out : Int32} (C : kC RX3 cX3_leastOnward 4 (some .int) p s m args meth c) (hP : va_P (eD E) vwCl (w_Forms_leastOnward E ) s.heap) (hK : va_K (eD E) vwCl (eT E) s) (hT : sT E (fun _ => False) s s.heap)  :
    ∀ (n : Nat), ∀ (v2 : Int32), f_Forms_leastOnward_b2  a0 a1 n v2 = some out → ∀ (ls : Array Slot), lv_has ls 4 [(0, .int a0), (1, .int a1), (2, .int v2)] → W p l e (rm 4) s m args below meth c s.heap [] 0 0 (MQ below (qR (.int out)) args s 0 0 (fun _ => False)) (F0 m 2 ls []) := by
  obtain ⟨hx, hb, hr, hml, hown, hw, hlocks⟩ := id C
  have hS : va_S (fun _ => False) s.heap s.heap [] := va_S.rf
  intro n
  induction n with
  | zero =>
    intro v2 hF
    exact absurd (show (none : Option (Int32)) = some out from hF) nofun
  | succ n ih =>
    intro v2 hF ls hl
    rw [f_Forms_leastOnward_b2] at hF
    refine lv_iload_n hx hb dX3_leastOnward_2 rfl (lv_at hl 2 rfl) ?_
    refine lv_bipush (v := (12 : Int32)) hx hb dX3_leastOnward_3 (by decide) ?_
    refine lv_icmp_ge (tgt := 48) hx hb dX3_leastOnward_5 (by decide) (fun q1 => ?_) (fun q1 => ?_)
    · have hF := kp hF q1
      refine lv_iconst (v := (-1 : Int32)) hx hb dX3_leastOnward_48 (by decide) ?_
      obtain rfl := Option.some.inj hF
      exact W.iret hx hb hr (fun t ht hW => ⟨rfl, ht⟩) nofun dX3_leastOnward_49
    · have hF := kn hF q1
      refine lv_iload_n hx hb dX3_leastOnward_8 rfl (lv_at hl 2 rfl) ?_
      refine lv_iload_n hx hb dX3_leastOnward_9 rfl (lv_at hl 1 rfl) ?_
      obtain ⟨r2, er2, hF⟩ := kb hF
      refine kRS (rest := []) C (k_Forms_across l E v2 a1 r2 er2) fn_Forms_across mw_299 ⟨Nat.le_of_ble_eq_true rfl, Nat.le_of_ble_eq_true rfl⟩ hK hT hS hP [] rfl rfl rfl hl (Nat.le_of_ble_eq_true rfl) dX3_leastOnward_10 ?_
      refine lv_istore_n (lv' := [(3, .int r2), (0, .int a0), (1, .int a1), (2, .int v2)]) hx hb dX3_leastOnward_13 rfl hl (by decide) rfl (fun ls hl => ?_)
      refine lv_iload_n hx hb dX3_leastOnward_14 rfl (lv_at hl 1 rfl) ?_
      refine lv_iload_n hx hb dX3_leastOnward_15 rfl (lv_at hl 3 rfl) ?_
      obtain ⟨r3, er3, hF⟩ := kb hF
      refine kRS (rest := []) C (k_Forms_hasStroke l E a0 v2 r3 er3) fn_Forms_hasStroke mw_296 ⟨Nat.le_of_ble_eq_true rfl, Nat.le_of_ble_eq_true rfl⟩ hK hT hS hP [] rfl rfl rfl hl (Nat.le_of_ble_eq_true rfl) dX3_leastOnward_16 ?_
      refine lv_if_eq (tgt := 42) hx hb dX3_leastOnward_19 (by decide) (fun q4 => ?_) (fun q4 => ?_)
      · have hF := kp hF q4
        refine lv_iinc (v := (v2 + (1))) (lv' := [(2, .int (v2 + (1))), (3, .int r2), (0, .int a0), (1, .int a1)]) hx hb dX3_leastOnward_42 hl (k := 3) rfl rfl (by decide) rfl (fun ls hl => ?_)
        refine lv_goto (tgt := 2) hx hb dX3_leastOnward_45 (by decide) ?_
        exact ih (v2 + (1)) hF _ (lv_sub hl [2, 3, 0] rfl)
      · have hF := kn hF q4
        refine lv_iload_n hx hb dX3_leastOnward_22 rfl (lv_at hl 0 rfl) ?_
        refine lv_if_lt (tgt := 42) hx hb dX3_leastOnward_23 (by decide) (fun q5 => ?_) (fun q5 => ?_)
        · have hF := kp hF q5
          refine lv_iinc (v := (v2 + (1))) (lv' := [(2, .int (v2 + (1))), (3, .int r2), (0, .int a0), (1, .int a1)]) hx hb dX3_leastOnward_42 hl (k := 3) rfl rfl (by decide) rfl (fun ls hl => ?_)
          refine lv_goto (tgt := 2) hx hb dX3_leastOnward_45 (by decide) ?_
          exact ih (v2 + (1)) hF _ (lv_sub hl [2, 3, 0] rfl)
        · have hF := kn hF q5
          refine lv_iload_n hx hb dX3_leastOnward_26 rfl (lv_at hl 1 rfl) ?_
          refine lv_iconst (v := (1 : Int32)) hx hb dX3_leastOnward_27 (by decide) ?_
          refine lv_iload_n hx hb dX3_leastOnward_28 rfl (lv_at hl 3 rfl) ?_
          refine lv_ishl hx hb dX3_leastOnward_29 ?_
          refine lv_iconst (v := (-1 : Int32)) hx hb dX3_leastOnward_30 (by decide) ?_
          refine lv_ixor hx hb dX3_leastOnward_31 ?_
          refine lv_iand hx hb dX3_leastOnward_32 ?_
          refine lv_iload_n hx hb dX3_leastOnward_33 rfl (lv_at hl 0 rfl) ?_
          obtain ⟨r6, er6, hF⟩ := kb hF
          refine kRS (rest := []) C (k_Forms_canBeTrodden l E (a0 &&& (((1 : Int32) <<< (v2 &&& 31)) ^^^ (-1 : Int32))) r2 r6 er6) fn_Forms_canBeTrodden mw_321 ⟨Nat.le_of_ble_eq_true rfl, Nat.le_of_ble_eq_true rfl⟩ hK hT hS hP [] rfl rfl rfl hl (Nat.le_of_ble_eq_true rfl) dX3_leastOnward_34 ?_
          refine lv_if_eq (tgt := 42) hx hb dX3_leastOnward_37 (by decide) (fun q7 => ?_) (fun q7 => ?_)
          · have hF := kp hF q7
            refine lv_iinc (v := (v2 + (1))) (lv' := [(2, .int (v2 + (1))), (3, .int r2), (0, .int a0), (1, .int a1)]) hx hb dX3_leastOnward_42 hl (k := 3) rfl rfl (by decide) rfl (fun ls hl => ?_)
            refine lv_goto (tgt := 2) hx hb dX3_leastOnward_45 (by decide) ?_
            exact ih (v2 + (1)) hF _ (lv_sub hl [2, 3, 0] rfl)
          · have hF := kn hF q7
            refine lv_iload_n hx hb dX3_leastOnward_40 rfl (lv_at hl 3 rfl) ?_
            obtain rfl := Option.some.inj hF
            exact W.iret hx hb hr (fun t ht hW => ⟨rfl, ht⟩) nofun dX3_leastOnward_41
set_option maxHeartbeats 4000000 in
set_option maxRecDepth 100000 in
theorem k_Forms_leastOnward (l : Launch) (E : kE)    (a0 : Int32) (a1 : Int32) (out : Int32) (hF : f_Forms_leastOnward  a0 a1 = some out) : Met l yX3_leastOnward (Cond.code yX3_leastOnward cX3_leastOnward 4 (some .int) :: wG) (rm 4) (pR E (w_Forms_leastOnward E ) [.int a0, .int a1]) (qR (.int out)) 0 0 (fun _ => False) := by
  refine met_R (by decide) (Nat.le_of_ble_eq_true rfl) ?_
  intro p e s m args below meth c ls C hP hK hT hl
  obtain ⟨hx, hb, hr, hml, hown, hw, hlocks⟩ := id C
  have hS : va_S (fun _ => False) s.heap s.heap [] := va_S.rf
  have hl : lv_has ls 4 [(0, .int a0), (1, .int a1)] := hl
  rw [f_Forms_leastOnward] at hF
  refine lv_iconst (v := (0 : Int32)) hx hb dX3_leastOnward_0 (by decide) ?_
  refine lv_istore_n (lv' := [(2, .int (0 : Int32)), (0, .int a0), (1, .int a1)]) hx hb dX3_leastOnward_1 rfl hl (by decide) rfl (fun ls hl => ?_)
  exact wk_Forms_leastOnward_b2 E  a0 a1 C hP  hK hT  5000 (0 : Int32) hF _ (lv_sub hl [1, 2, 0] rfl)
abbrev w_Forms_strokeOfFirstWay (E : kE)    : va_W := []
set_option maxHeartbeats 4000000 in
set_option maxRecDepth 100000 in
theorem wk_Forms_strokeOfFirstWay_b33 {p : Program} {l : Launch} {e : Env} {s : State} {m : MethodId} {args : Array Value} {below : List Frame} {meth : Method} {c : Code} (E : kE)    (a0 : Int32) (a1 : Int32) (a2 : Int32) {out : Int32} (C : kC RX3 cX3_strokeOfFirstWay 7 (some .int) p s m args meth c) (hP : va_P (eD E) vwCl (w_Forms_strokeOfFirstWay E ) s.heap) (hK : va_K (eD E) vwCl (eT E) s) (hT : sT E (fun _ => False) s s.heap)  :
    ∀ (n : Nat), ∀ (v3 : Int32) (v4 : Int32) (v5 : Int32) (v6 : Int32), f_Forms_strokeOfFirstWay_b33  a0 a1 a2 n v3 v4 v5 v6 = some out → ∀ (ls : Array Slot), lv_has ls 7 [(2, .int a2), (3, .int v3), (4, .int v4), (5, .int v5), (6, .int v6)] → W p l e (rm 5) s m args below meth c s.heap [] 0 0 (MQ below (qR (.int out)) args s 0 0 (fun _ => False)) (F0 m 33 ls []) := by
  obtain ⟨hx, hb, hr, hml, hown, hw, hlocks⟩ := id C
  have hS : va_S (fun _ => False) s.heap s.heap [] := va_S.rf
  intro n
  induction n with
  | zero =>
    intro v3 v4 v5 v6 hF
    exact absurd (show (none : Option (Int32)) = some out from hF) nofun
  | succ n ih =>
    intro v3 v4 v5 v6 hF ls hl
    rw [f_Forms_strokeOfFirstWay_b33] at hF
    refine lv_iload hx hb dX3_strokeOfFirstWay_33 (lv_at hl 4 rfl) ?_
    refine lv_iload_n hx hb dX3_strokeOfFirstWay_35 rfl (lv_at hl 0 rfl) ?_
    refine lv_icmp_gt (tgt := 78) hx hb dX3_strokeOfFirstWay_36 (by decide) (fun q1 => ?_) (fun q1 => ?_)
    · have hF := kp hF q1
      refine lv_iload hx hb dX3_strokeOfFirstWay_78 (lv_at hl 3 rfl) ?_
      obtain rfl := Option.some.inj hF
      exact W.iret hx hb hr (fun t ht hW => ⟨rfl, ht⟩) nofun dX3_strokeOfFirstWay_80
    · have hF := kn hF q1
      refine lv_iload_n hx hb dX3_strokeOfFirstWay_39 rfl (lv_at hl 1 rfl) ?_
      refine lv_iload hx hb dX3_strokeOfFirstWay_40 (lv_at hl 2 rfl) ?_
      obtain ⟨r2, er2, hF⟩ := kb hF
      refine kRS (rest := []) C (k_Forms_leastOnward l E v3 v4 r2 er2) fn_Forms_leastOnward mw_322 ⟨Nat.le_of_ble_eq_true rfl, Nat.le_of_ble_eq_true rfl⟩ hK hT hS hP [] rfl rfl rfl hl (Nat.le_of_ble_eq_true rfl) dX3_strokeOfFirstWay_42 ?_
      refine lv_istore (lv' := [(5, .int r2), (2, .int a2), (3, .int v3), (4, .int v4), (6, .int v6)]) hx hb dX3_strokeOfFirstWay_45 hl (by decide) rfl (fun ls hl => ?_)
      refine lv_iload hx hb dX3_strokeOfFirstWay_47 (lv_at hl 0 rfl) ?_
      refine lv_if_ge (tgt := 54) hx hb dX3_strokeOfFirstWay_49 (by decide) (fun q3 => ?_) (fun q3 => ?_)
      · have hF := kp hF q3
        refine lv_iload hx hb dX3_strokeOfFirstWay_54 (lv_at hl 0 rfl) ?_
        refine lv_iload hx hb dX3_strokeOfFirstWay_56 (lv_at hl 3 rfl) ?_
        obtain ⟨r4, er4, hF⟩ := kb hF
        refine kRS (rest := []) C (k_Forms_across l E r2 v4 r4 er4) fn_Forms_across mw_299 ⟨Nat.le_of_ble_eq_true rfl, Nat.le_of_ble_eq_true rfl⟩ hK hT hS hP [] rfl rfl rfl hl (Nat.le_of_ble_eq_true rfl) dX3_strokeOfFirstWay_58 ?_
        refine lv_istore (lv' := [(4, .int r4), (5, .int r2), (2, .int a2), (3, .int v3), (6, .int v6)]) hx hb dX3_strokeOfFirstWay_61 hl (by decide) rfl (fun ls hl => ?_)
        refine lv_iload_n hx hb dX3_strokeOfFirstWay_63 rfl (lv_at hl 3 rfl) ?_
        refine lv_iconst (v := (1 : Int32)) hx hb dX3_strokeOfFirstWay_64 (by decide) ?_
        refine lv_iload hx hb dX3_strokeOfFirstWay_65 (lv_at hl 1 rfl) ?_
        refine lv_ishl hx hb dX3_strokeOfFirstWay_67 ?_
        refine lv_iconst (v := (-1 : Int32)) hx hb dX3_strokeOfFirstWay_68 (by decide) ?_
        refine lv_ixor hx hb dX3_strokeOfFirstWay_69 ?_
        refine lv_iand hx hb dX3_strokeOfFirstWay_70 ?_
        refine lv_istore_n (lv' := [(3, .int (v3 &&& (((1 : Int32) <<< (r2 &&& 31)) ^^^ (-1 : Int32)))), (4, .int r4), (5, .int r2), (2, .int a2), (6, .int v6)]) hx hb dX3_strokeOfFirstWay_71 rfl hl (by decide) rfl (fun ls hl => ?_)
        refine lv_iinc (v := (v6 + (1))) (lv' := [(6, .int (v6 + (1))), (3, .int (v3 &&& (((1 : Int32) <<< (r2 &&& 31)) ^^^ (-1 : Int32)))), (4, .int r4), (5, .int r2), (2, .int a2)]) hx hb dX3_strokeOfFirstWay_72 hl (k := 4) rfl rfl (by decide) rfl (fun ls hl => ?_)
        refine lv_goto (tgt := 33) hx hb dX3_strokeOfFirstWay_75 (by decide) ?_
        exact ih (v3 &&& (((1 : Int32) <<< (r2 &&& 31)) ^^^ (-1 : Int32))) r4 r2 (v6 + (1)) hF _ (lv_sub hl [4, 1, 2, 3, 0] rfl)
      · have hF := kn hF q3
        refine lv_iconst (v := (-1 : Int32)) hx hb dX3_strokeOfFirstWay_52 (by decide) ?_
        obtain rfl := Option.some.inj hF
        exact W.iret hx hb hr (fun t ht hW => ⟨rfl, ht⟩) nofun dX3_strokeOfFirstWay_53
set_option maxHeartbeats 4000000 in
set_option maxRecDepth 100000 in
theorem k_Forms_strokeOfFirstWay (l : Launch) (E : kE)    (a0 : Int32) (a1 : Int32) (a2 : Int32) (out : Int32) (hF : f_Forms_strokeOfFirstWay  a0 a1 a2 = some out) : Met l yX3_strokeOfFirstWay (Cond.code yX3_strokeOfFirstWay cX3_strokeOfFirstWay 7 (some .int) :: wG) (rm 5) (pR E (w_Forms_strokeOfFirstWay E ) [.int a0, .int a1, .int a2]) (qR (.int out)) 0 0 (fun _ => False) := by
  refine met_R (by decide) (Nat.le_of_ble_eq_true rfl) ?_
  intro p e s m args below meth c ls C hP hK hT hl
  obtain ⟨hx, hb, hr, hml, hown, hw, hlocks⟩ := id C
  have hS : va_S (fun _ => False) s.heap s.heap [] := va_S.rf
  have hl : lv_has ls 7 [(0, .int a0), (1, .int a1), (2, .int a2)] := hl
  rw [f_Forms_strokeOfFirstWay] at hF
  refine lv_iload_n hx hb dX3_strokeOfFirstWay_0 rfl (lv_at hl 2 rfl) ?_
  refine lv_if_lt (tgt := 20) hx hb dX3_strokeOfFirstWay_1 (by decide) (fun q5 => ?_) (fun q5 => ?_)
  · have hF := kp hF q5
    refine lv_iconst (v := (-1 : Int32)) hx hb dX3_strokeOfFirstWay_20 (by decide) ?_
    obtain rfl := Option.some.inj hF
    exact W.iret hx hb hr (fun t ht hW => ⟨rfl, ht⟩) nofun dX3_strokeOfFirstWay_21
  · have hF := kn hF q5
    refine lv_iload_n hx hb dX3_strokeOfFirstWay_4 rfl (lv_at hl 2 rfl) ?_
    refine lv_iload_n hx hb dX3_strokeOfFirstWay_5 rfl (lv_at hl 0 rfl) ?_
    obtain ⟨r6, er6, hF⟩ := kb hF
    refine kRS (rest := [.int a2]) C (k_Int_bitCount l E a0 r6 er6) fn_Int_bitCount mw_265 ⟨Nat.le_of_ble_eq_true rfl, Nat.le_of_ble_eq_true rfl⟩ hK hT hS hP [] rfl rfl rfl hl (Nat.le_of_ble_eq_true rfl) dX3_strokeOfFirstWay_6 ?_
    refine lv_icmp_ge (tgt := 20) hx hb dX3_strokeOfFirstWay_9 (by decide) (fun q7 => ?_) (fun q7 => ?_)
    · have hF := kp hF q7
      refine lv_iconst (v := (-1 : Int32)) hx hb dX3_strokeOfFirstWay_20 (by decide) ?_
      obtain rfl := Option.some.inj hF
      exact W.iret hx hb hr (fun t ht hW => ⟨rfl, ht⟩) nofun dX3_strokeOfFirstWay_21
    · have hF := kn hF q7
      refine lv_iload_n hx hb dX3_strokeOfFirstWay_12 rfl (lv_at hl 0 rfl) ?_
      refine lv_iload_n hx hb dX3_strokeOfFirstWay_13 rfl (lv_at hl 1 rfl) ?_
      obtain ⟨r8, er8, hF⟩ := kb hF
      refine kRS (rest := []) C (k_Forms_canBeTrodden l E a0 a1 r8 er8) fn_Forms_canBeTrodden mw_321 ⟨Nat.le_of_ble_eq_true rfl, Nat.le_of_ble_eq_true rfl⟩ hK hT hS hP [] rfl rfl rfl hl (Nat.le_of_ble_eq_true rfl) dX3_strokeOfFirstWay_14 ?_
      refine lv_if_ne (tgt := 22) hx hb dX3_strokeOfFirstWay_17 (by decide) (fun q9 => ?_) (fun q9 => ?_)
      · have hF := kn hF q9
        refine lv_iload_n hx hb dX3_strokeOfFirstWay_22 rfl (lv_at hl 0 rfl) ?_
        refine lv_istore_n (lv' := [(3, .int a0), (0, .int a0), (1, .int a1), (2, .int a2)]) hx hb dX3_strokeOfFirstWay_23 rfl hl (by decide) rfl (fun ls hl => ?_)
        refine lv_iload_n hx hb dX3_strokeOfFirstWay_24 rfl (lv_at hl 2 rfl) ?_
        refine lv_istore (lv' := [(4, .int a1), (3, .int a0), (0, .int a0), (1, .int a1), (2, .int a2)]) hx hb dX3_strokeOfFirstWay_25 hl (by decide) rfl (fun ls hl => ?_)
        refine lv_iconst (v := (-1 : Int32)) hx hb dX3_strokeOfFirstWay_27 (by decide) ?_
        refine lv_istore (lv' := [(5, .int (-1 : Int32)), (4, .int a1), (3, .int a0), (0, .int a0), (1, .int a1), (2, .int a2)]) hx hb dX3_strokeOfFirstWay_28 hl (by decide) rfl (fun ls hl => ?_)
        refine lv_iconst (v := (0 : Int32)) hx hb dX3_strokeOfFirstWay_30 (by decide) ?_
        refine lv_istore (lv' := [(6, .int (0 : Int32)), (5, .int (-1 : Int32)), (4, .int a1), (3, .int a0), (0, .int a0), (1, .int a1), (2, .int a2)]) hx hb dX3_strokeOfFirstWay_31 hl (by decide) rfl (fun ls hl => ?_)
        exact wk_Forms_strokeOfFirstWay_b33 E  a0 a1 a2 C hP  hK hT  5000 a0 a1 (-1 : Int32) (0 : Int32) hF _ (lv_sub hl [6, 3, 2, 1, 0] rfl)
      · have hF := kp hF q9
        refine lv_iconst (v := (-1 : Int32)) hx hb dX3_strokeOfFirstWay_20 (by decide) ?_
        obtain rfl := Option.some.inj hF
        exact W.iret hx hb hr (fun t ht hW => ⟨rfl, ht⟩) nofun dX3_strokeOfFirstWay_21
abbrev w_Forms_nextPart (E : kE)    : va_W := []
set_option maxHeartbeats 4000000 in
set_option maxRecDepth 100000 in
theorem k_Forms_nextPart (l : Launch) (E : kE)    (a0 : Int32) (a1 : Int32) (out : Int32) (hF : f_Forms_nextPart  a0 a1 = some out) : Met l yX3_nextPart (Cond.code yX3_nextPart cX3_nextPart 2 (some .int) :: wG) (rm 1) (pR E (w_Forms_nextPart E ) [.int a0, .int a1]) (qR (.int out)) 0 0 (fun _ => False) := by
  refine met_R (by decide) (Nat.le_of_ble_eq_true rfl) ?_
  intro p e s m args below meth c ls C hP hK hT hl
  obtain ⟨hx, hb, hr, hml, hown, hw, hlocks⟩ := id C
  have hS : va_S (fun _ => False) s.heap s.heap [] := va_S.rf
  have hl : lv_has ls 2 [(0, .int a0), (1, .int a1)] := hl
  rw [f_Forms_nextPart] at hF
  refine lv_iload_n hx hb dX3_nextPart_0 rfl (lv_at hl 0 rfl) ?_
  refine lv_iload_n hx hb dX3_nextPart_1 rfl (lv_at hl 1 rfl) ?_
  refine lv_isub hx hb dX3_nextPart_2 ?_
  refine lv_iload_n hx hb dX3_nextPart_3 rfl (lv_at hl 1 rfl) ?_
  refine lv_iand hx hb dX3_nextPart_4 ?_
  obtain rfl := Option.some.inj hF
  exact W.iret hx hb hr (fun t ht hW => ⟨rfl, ht⟩) nofun dX3_nextPart_5
abbrev w_Forms_fewestToClose (E : kE)    : va_W := []
set_option maxHeartbeats 4000000 in
set_option maxRecDepth 100000 in
theorem wk_Forms_fewestToClose_b44 {p : Program} {l : Launch} {e : Env} {s : State} {m : MethodId} {args : Array Value} {below : List Frame} {meth : Method} {c : Code} (E : kE)    (a0 : Int32) {out : Int32} (C : kC RX3 cX3_fewestToClose 5 (some .int) p s m args meth c) (hP : va_P (eD E) vwCl (w_Forms_fewestToClose E ) s.heap) (hK : va_K (eD E) vwCl (eT E) s) (hT : sT E (fun _ => False) s s.heap) (k15 : Int32 → Int32 → Int32 → Int32 → Option (Int32)) (hk15 : ∀ (v1 : Int32) (v2 : Int32) (v3 : Int32) (v4 : Int32), k15 v1 v2 v3 v4 = some out → ∀ (ls : Array Slot), lv_has ls 5 [(0, .int a0), (1, .int v1), (2, .int v2), (3, .int v3), (4, .int v4)] → W p l e (rm 2) s m args below meth c s.heap [] 0 0 (MQ below (qR (.int out)) args s 0 0 (fun _ => False)) (F0 m 15 ls [])) :
    ∀ (v1 : Int32) (v2 : Int32) (v3 : Int32) (v4 : Int32), f_Forms_fewestToClose_b44 k15 a0 v1 v2 v3 v4 = some out → ∀ (ls : Array Slot), lv_has ls 5 [(0, .int a0), (1, .int v1), (2, .int v2), (3, .int v3), (4, .int v4)] → W p l e (rm 2) s m args below meth c s.heap [] 0 0 (MQ below (qR (.int out)) args s 0 0 (fun _ => False)) (F0 m 44 ls []) := by
  obtain ⟨hx, hb, hr, hml, hown, hw, hlocks⟩ := id C
  have hS : va_S (fun _ => False) s.heap s.heap [] := va_S.rf
  intro v1 v2 v3 v4 hF ls hl
  rw [f_Forms_fewestToClose_b44] at hF
  refine lv_iload_n hx hb dX3_fewestToClose_44 rfl (lv_at hl 3 rfl) ?_
  refine lv_iload_n hx hb dX3_fewestToClose_45 rfl (lv_at hl 0 rfl) ?_
  obtain ⟨r1, er1, hF⟩ := kb hF
  refine kRS (rest := []) C (k_Forms_nextPart l E v3 a0 r1 er1) fn_Forms_nextPart mw_333 ⟨Nat.le_of_ble_eq_true rfl, Nat.le_of_ble_eq_true rfl⟩ hK hT hS hP [] rfl rfl rfl hl (Nat.le_of_ble_eq_true rfl) dX3_fewestToClose_46 ?_
  refine lv_istore_n (lv' := [(3, .int r1), (0, .int a0), (1, .int v1), (2, .int v2), (4, .int v4)]) hx hb dX3_fewestToClose_49 rfl hl (by decide) rfl (fun ls hl => ?_)
  refine lv_iload_n hx hb dX3_fewestToClose_50 rfl (lv_at hl 0 rfl) ?_
  refine lv_if_ne (tgt := 57) hx hb dX3_fewestToClose_51 (by decide) (fun q2 => ?_) (fun q2 => ?_)
  · have hF := kn hF q2
    refine lv_iinc (v := (v4 + (1))) (lv' := [(4, .int (v4 + (1))), (3, .int r1), (0, .int a0), (1, .int v1), (2, .int v2)]) hx hb dX3_fewestToClose_57 hl (k := 4) rfl rfl (by decide) rfl (fun ls hl => ?_)
    refine lv_goto (tgt := 15) hx hb dX3_fewestToClose_60 (by decide) ?_
    exact hk15 v1 v2 r1 (v4 + (1)) hF _ (lv_sub hl [2, 3, 4, 1, 0] rfl)
  · have hF := kp hF q2
    refine lv_goto (tgt := 63) hx hb dX3_fewestToClose_54 (by decide) ?_
    refine lv_iload_n hx hb dX3_fewestToClose_63 rfl (lv_at hl 3 rfl) ?_
    obtain rfl := Option.some.inj hF
    exact W.iret hx hb hr (fun t ht hW => ⟨rfl, ht⟩) nofun dX3_fewestToClose_64
set_option maxHeartbeats 4000000 in
set_option maxRecDepth 100000 in
theorem wk_Forms_fewestToClose_b15 {p : Program} {l : Launch} {e : Env} {s : State} {m : MethodId} {args : Array Value} {below : List Frame} {meth : Method} {c : Code} (E : kE)    (a0 : Int32) {out : Int32} (C : kC RX3 cX3_fewestToClose 5 (some .int) p s m args meth c) (hP : va_P (eD E) vwCl (w_Forms_fewestToClose E ) s.heap) (hK : va_K (eD E) vwCl (eT E) s) (hT : sT E (fun _ => False) s s.heap)  :
    ∀ (n : Nat), ∀ (v1 : Int32) (v2 : Int32) (v3 : Int32) (v4 : Int32), f_Forms_fewestToClose_b15  a0 n v1 v2 v3 v4 = some out → ∀ (ls : Array Slot), lv_has ls 5 [(0, .int a0), (1, .int v1), (2, .int v2), (3, .int v3), (4, .int v4)] → W p l e (rm 2) s m args below meth c s.heap [] 0 0 (MQ below (qR (.int out)) args s 0 0 (fun _ => False)) (F0 m 15 ls []) := by
  obtain ⟨hx, hb, hr, hml, hown, hw, hlocks⟩ := id C
  have hS : va_S (fun _ => False) s.heap s.heap [] := va_S.rf
  intro n
  induction n with
  | zero =>
    intro v1 v2 v3 v4 hF
    exact absurd (show (none : Option (Int32)) = some out from hF) nofun
  | succ n ih =>
    intro v1 v2 v3 v4 hF ls hl
    rw [f_Forms_fewestToClose_b15] at hF
    refine lv_iload hx hb dX3_fewestToClose_15 (lv_at hl 4 rfl) ?_
    refine lv_sipush (v := (4095 : Int32)) hx hb dX3_fewestToClose_17 (by decide) ?_
    refine lv_icmp_gt (tgt := 63) hx hb dX3_fewestToClose_20 (by decide) (fun q3 => ?_) (fun q3 => ?_)
    · have hF := kp hF q3
      refine lv_iload_n hx hb dX3_fewestToClose_63 rfl (lv_at hl 2 rfl) ?_
      obtain rfl := Option.some.inj hF
      exact W.iret hx hb hr (fun t ht hW => ⟨rfl, ht⟩) nofun dX3_fewestToClose_64
    · have hF := kn hF q3
      refine lv_iload_n hx hb dX3_fewestToClose_23 rfl (lv_at hl 3 rfl) ?_
      obtain ⟨r4, er4, hF⟩ := kb hF
      refine kRS (rest := []) C (k_Int_bitCount l E v3 r4 er4) fn_Int_bitCount mw_265 ⟨Nat.le_of_ble_eq_true rfl, Nat.le_of_ble_eq_true rfl⟩ hK hT hS hP [] rfl rfl rfl hl (Nat.le_of_ble_eq_true rfl) dX3_fewestToClose_24 ?_
      refine lv_iload_n hx hb dX3_fewestToClose_27 rfl (lv_at hl 2 rfl) ?_
      refine lv_icmp_ge (tgt := 44) hx hb dX3_fewestToClose_28 (by decide) (fun q5 => ?_) (fun q5 => ?_)
      · have hF := kp hF q5
        exact wk_Forms_fewestToClose_b44 E  a0 C hP  hK hT (f_Forms_fewestToClose_b15  a0 n) ih v1 v2 v3 v4 hF _ (lv_sub hl [0, 1, 2, 3, 4] rfl)
      · have hF := kn hF q5
        refine lv_iload_n hx hb dX3_fewestToClose_31 rfl (lv_at hl 3 rfl) ?_
        obtain ⟨r6, er6, hF⟩ := kb hF
        refine kRS (rest := []) C (k_Forms_oddPoints l E v3 r6 er6) fn_Forms_oddPoints mw_264 ⟨Nat.le_of_ble_eq_true rfl, Nat.le_of_ble_eq_true rfl⟩ hK hT hS hP [] rfl rfl rfl hl (Nat.le_of_ble_eq_true rfl) dX3_fewestToClose_32 ?_
        refine lv_iload_n hx hb dX3_fewestToClose_35 rfl (lv_at hl 1 rfl) ?_
        refine lv_icmp_ne (tgt := 44) hx hb dX3_fewestToClose_36 (by decide) (fun q7 => ?_) (fun q7 => ?_)
        · have hF := kn hF q7
          exact wk_Forms_fewestToClose_b44 E  a0 C hP  hK hT (f_Forms_fewestToClose_b15  a0 n) ih v1 v2 v3 v4 hF _ (lv_sub hl [0, 1, 2, 3, 4] rfl)
        · have hF := kp hF q7
          refine lv_iload_n hx hb dX3_fewestToClose_39 rfl (lv_at hl 3 rfl) ?_
          obtain ⟨r8, er8, hF⟩ := kb hF
          refine kRS (rest := []) C (k_Int_bitCount l E v3 r8 er8) fn_Int_bitCount mw_265 ⟨Nat.le_of_ble_eq_true rfl, Nat.le_of_ble_eq_true rfl⟩ hK hT hS hP [] rfl rfl rfl hl (Nat.le_of_ble_eq_true rfl) dX3_fewestToClose_40 ?_
          refine lv_istore_n (lv' := [(2, .int r8), (0, .int a0), (1, .int v1), (3, .int v3), (4, .int v4)]) hx hb dX3_fewestToClose_43 rfl hl (by decide) rfl (fun ls hl => ?_)
          exact wk_Forms_fewestToClose_b44 E  a0 C hP  hK hT (f_Forms_fewestToClose_b15  a0 n) ih v1 r8 v3 v4 hF _ (lv_sub hl [1, 2, 0, 3, 4] rfl)
set_option maxHeartbeats 4000000 in
set_option maxRecDepth 100000 in
theorem k_Forms_fewestToClose (l : Launch) (E : kE)    (a0 : Int32) (out : Int32) (hF : f_Forms_fewestToClose  a0 = some out) : Met l yX3_fewestToClose (Cond.code yX3_fewestToClose cX3_fewestToClose 5 (some .int) :: wG) (rm 2) (pR E (w_Forms_fewestToClose E ) [.int a0]) (qR (.int out)) 0 0 (fun _ => False) := by
  refine met_R (by decide) (Nat.le_of_ble_eq_true rfl) ?_
  intro p e s m args below meth c ls C hP hK hT hl
  obtain ⟨hx, hb, hr, hml, hown, hw, hlocks⟩ := id C
  have hS : va_S (fun _ => False) s.heap s.heap [] := va_S.rf
  have hl : lv_has ls 5 [(0, .int a0)] := hl
  rw [f_Forms_fewestToClose] at hF
  refine lv_iload_n hx hb dX3_fewestToClose_0 rfl (lv_at hl 0 rfl) ?_
  obtain ⟨r9, er9, hF⟩ := kb hF
  refine kRS (rest := []) C (k_Forms_oddPoints l E a0 r9 er9) fn_Forms_oddPoints mw_264 ⟨Nat.le_of_ble_eq_true rfl, Nat.le_of_ble_eq_true rfl⟩ hK hT hS hP [] rfl rfl rfl hl (Nat.le_of_ble_eq_true rfl) dX3_fewestToClose_1 ?_
  refine lv_istore_n (lv' := [(1, .int r9), (0, .int a0)]) hx hb dX3_fewestToClose_4 rfl hl (by decide) rfl (fun ls hl => ?_)
  refine lv_iload_n hx hb dX3_fewestToClose_5 rfl (lv_at hl 1 rfl) ?_
  obtain ⟨r10, er10, hF⟩ := kb hF
  refine kRS (rest := []) C (k_Int_bitCount l E a0 r10 er10) fn_Int_bitCount mw_265 ⟨Nat.le_of_ble_eq_true rfl, Nat.le_of_ble_eq_true rfl⟩ hK hT hS hP [] rfl rfl rfl hl (Nat.le_of_ble_eq_true rfl) dX3_fewestToClose_6 ?_
  refine lv_istore_n (lv' := [(2, .int r10), (1, .int r9), (0, .int a0)]) hx hb dX3_fewestToClose_9 rfl hl (by decide) rfl (fun ls hl => ?_)
  refine lv_iconst (v := (0 : Int32)) hx hb dX3_fewestToClose_10 (by decide) ?_
  refine lv_istore_n (lv' := [(3, .int (0 : Int32)), (2, .int r10), (1, .int r9), (0, .int a0)]) hx hb dX3_fewestToClose_11 rfl hl (by decide) rfl (fun ls hl => ?_)
  refine lv_iconst (v := (0 : Int32)) hx hb dX3_fewestToClose_12 (by decide) ?_
  refine lv_istore (lv' := [(4, .int (0 : Int32)), (3, .int (0 : Int32)), (2, .int r10), (1, .int r9), (0, .int a0)]) hx hb dX3_fewestToClose_13 hl (by decide) rfl (fun ls hl => ?_)
  exact wk_Forms_fewestToClose_b15 E  a0 C hP  hK hT  5000 r9 r10 (0 : Int32) (0 : Int32) hF _ (lv_sub hl [4, 3, 2, 1, 0] rfl)
abbrev w_Forms_byAQuarter (E : kE)    : va_W := []
set_option maxHeartbeats 4000000 in
set_option maxRecDepth 100000 in
theorem wk_Forms_byAQuarter_b4 {p : Program} {l : Launch} {e : Env} {s : State} {m : MethodId} {args : Array Value} {below : List Frame} {meth : Method} {c : Code} (E : kE)    (a0 : Int32) {out : Int32} (C : kC RX3 cX3_byAQuarter 3 (some .int) p s m args meth c) (hP : va_P (eD E) vwCl (w_Forms_byAQuarter E ) s.heap) (hK : va_K (eD E) vwCl (eT E) s) (hT : sT E (fun _ => False) s s.heap)  :
    ∀ (n : Nat), ∀ (v1 : Int32) (v2 : Int32), f_Forms_byAQuarter_b4  a0 n v1 v2 = some out → ∀ (ls : Array Slot), lv_has ls 3 [(0, .int a0), (1, .int v1), (2, .int v2)] → W p l e (rm 2) s m args below meth c s.heap [] 0 0 (MQ below (qR (.int out)) args s 0 0 (fun _ => False)) (F0 m 4 ls []) := by
  obtain ⟨hx, hb, hr, hml, hown, hw, hlocks⟩ := id C
  have hS : va_S (fun _ => False) s.heap s.heap [] := va_S.rf
  obtain ⟨t_QUARTER, hZ_QUARTER, hT_QUARTER⟩ := hT.1.2.2.2
  intro n
  induction n with
  | zero =>
    intro v1 v2 hF
    exact absurd (show (none : Option (Int32)) = some out from hF) nofun
  | succ n ih =>
    intro v1 v2 hF ls hl
    rw [f_Forms_byAQuarter_b4] at hF
    refine lv_iload_n hx hb dX3_byAQuarter_4 rfl (lv_at hl 2 rfl) ?_
    refine va_gets (v := .ref t_QUARTER) hx hb hZ_QUARTER hS hown (hw _ mw_343) (fun _ h9 => h9) dX3_byAQuarter_5 ?_
    refine va_tlen (v := 12) hx hb hT_QUARTER hS (by decide) dX3_byAQuarter_8 ?_
    refine lv_icmp_ge (tgt := 36) hx hb dX3_byAQuarter_9 (by decide) (fun q1 => ?_) (fun q1 => ?_)
    · have hF := kp hF q1
      refine lv_iload_n hx hb dX3_byAQuarter_36 rfl (lv_at hl 1 rfl) ?_
      obtain rfl := Option.some.inj hF
      exact W.iret hx hb hr (fun t ht hW => ⟨rfl, ht⟩) nofun dX3_byAQuarter_37
    · have hF := kn hF q1
      refine lv_iload_n hx hb dX3_byAQuarter_12 rfl (lv_at hl 0 rfl) ?_
      refine lv_iload_n hx hb dX3_byAQuarter_13 rfl (lv_at hl 2 rfl) ?_
      obtain ⟨r2, er2, hF⟩ := kb hF
      refine kRS (rest := []) C (k_Forms_hasStroke l E a0 v2 r2 er2) fn_Forms_hasStroke mw_296 ⟨Nat.le_of_ble_eq_true rfl, Nat.le_of_ble_eq_true rfl⟩ hK hT hS hP [] rfl rfl rfl hl (Nat.le_of_ble_eq_true rfl) dX3_byAQuarter_14 ?_
      refine lv_if_eq (tgt := 30) hx hb dX3_byAQuarter_17 (by decide) (fun q3 => ?_) (fun q3 => ?_)
      · have hF := kp hF q3
        refine lv_iinc (v := (v2 + (1))) (lv' := [(2, .int (v2 + (1))), (0, .int a0), (1, .int v1)]) hx hb dX3_byAQuarter_30 hl (k := 2) rfl rfl (by decide) rfl (fun ls hl => ?_)
        refine lv_goto (tgt := 4) hx hb dX3_byAQuarter_33 (by decide) ?_
        exact ih v1 (v2 + (1)) hF _ (lv_sub hl [1, 2, 0] rfl)
      · have hF := kn hF q3
        refine lv_iload_n hx hb dX3_byAQuarter_20 rfl (lv_at hl 1 rfl) ?_
        refine lv_iconst (v := (1 : Int32)) hx hb dX3_byAQuarter_21 (by decide) ?_
        refine va_gets (v := .ref t_QUARTER) hx hb hZ_QUARTER hS hown (hw _ mw_343) (fun _ h9 => h9) dX3_byAQuarter_22 ?_
        refine lv_iload_n hx hb dX3_byAQuarter_25 rfl (lv_at hl 2 rfl) ?_
        obtain ⟨r4, er4, hF⟩ := kb hF
        refine wa_ti hx hb hT_QUARTER hS er4 dX3_byAQuarter_26 ?_
        refine lv_ishl hx hb dX3_byAQuarter_27 ?_
        refine lv_ior hx hb dX3_byAQuarter_28 ?_
        refine lv_istore_n (lv' := [(1, .int (v1 ||| ((1 : Int32) <<< (r4 &&& 31)))), (0, .int a0), (2, .int v2)]) hx hb dX3_byAQuarter_29 rfl hl (by decide) rfl (fun ls hl => ?_)
        refine lv_iinc (v := (v2 + (1))) (lv' := [(2, .int (v2 + (1))), (1, .int (v1 ||| ((1 : Int32) <<< (r4 &&& 31)))), (0, .int a0)]) hx hb dX3_byAQuarter_30 hl (k := 2) rfl rfl (by decide) rfl (fun ls hl => ?_)
        refine lv_goto (tgt := 4) hx hb dX3_byAQuarter_33 (by decide) ?_
        exact ih (v1 ||| ((1 : Int32) <<< (r4 &&& 31))) (v2 + (1)) hF _ (lv_sub hl [2, 1, 0] rfl)
set_option maxHeartbeats 4000000 in
set_option maxRecDepth 100000 in
theorem k_Forms_byAQuarter (l : Launch) (E : kE)    (a0 : Int32) (out : Int32) (hF : f_Forms_byAQuarter  a0 = some out) : Met l yX3_byAQuarter (Cond.code yX3_byAQuarter cX3_byAQuarter 3 (some .int) :: wG) (rm 2) (pR E (w_Forms_byAQuarter E ) [.int a0]) (qR (.int out)) 0 0 (fun _ => False) := by
  refine met_R (by decide) (Nat.le_of_ble_eq_true rfl) ?_
  intro p e s m args below meth c ls C hP hK hT hl
  obtain ⟨hx, hb, hr, hml, hown, hw, hlocks⟩ := id C
  have hS : va_S (fun _ => False) s.heap s.heap [] := va_S.rf
  have hl : lv_has ls 3 [(0, .int a0)] := hl
  obtain ⟨t_QUARTER, hZ_QUARTER, hT_QUARTER⟩ := hT.1.2.2.2
  rw [f_Forms_byAQuarter] at hF
  refine lv_iconst (v := (0 : Int32)) hx hb dX3_byAQuarter_0 (by decide) ?_
  refine lv_istore_n (lv' := [(1, .int (0 : Int32)), (0, .int a0)]) hx hb dX3_byAQuarter_1 rfl hl (by decide) rfl (fun ls hl => ?_)
  refine lv_iconst (v := (0 : Int32)) hx hb dX3_byAQuarter_2 (by decide) ?_
  refine lv_istore_n (lv' := [(2, .int (0 : Int32)), (1, .int (0 : Int32)), (0, .int a0)]) hx hb dX3_byAQuarter_3 rfl hl (by decide) rfl (fun ls hl => ?_)
  exact wk_Forms_byAQuarter_b4 E  a0 C hP  hK hT  5000 (0 : Int32) (0 : Int32) hF _ (lv_sub hl [2, 1, 0] rfl)
abbrev w_Forms_differ (E : kE)    : va_W := []
set_option maxHeartbeats 4000000 in
set_option maxRecDepth 100000 in
theorem k_Forms_differ (l : Launch) (E : kE)    (a0 : Int32) (a1 : Int32) (out : Int32) (hF : f_Forms_differ  a0 a1 = some out) : Met l yX3_differ (Cond.code yX3_differ cX3_differ 2 (some .int) :: wG) (rm 2) (pR E (w_Forms_differ E ) [.int a0, .int a1]) (qR (.int out)) 0 0 (fun _ => False) := by
  refine met_R (by decide) (Nat.le_of_ble_eq_true rfl) ?_
  intro p e s m args below meth c ls C hP hK hT hl
  obtain ⟨hx, hb, hr, hml, hown, hw, hlocks⟩ := id C
  have hS : va_S (fun _ => False) s.heap s.heap [] := va_S.rf
  have hl : lv_has ls 2 [(0, .int a0), (1, .int a1)] := hl
  rw [f_Forms_differ] at hF
  refine lv_iload_n hx hb dX3_differ_0 rfl (lv_at hl 0 rfl) ?_
  refine lv_iload_n hx hb dX3_differ_1 rfl (lv_at hl 1 rfl) ?_
  refine lv_ixor hx hb dX3_differ_2 ?_
  obtain ⟨r1, er1, hF⟩ := kb hF
  refine kRS (rest := []) C (k_Int_bitCount l E (a0 ^^^ a1) r1 er1) fn_Int_bitCount mw_265 ⟨Nat.le_of_ble_eq_true rfl, Nat.le_of_ble_eq_true rfl⟩ hK hT hS hP [] rfl rfl rfl hl (Nat.le_of_ble_eq_true rfl) dX3_differ_3 ?_
  obtain rfl := Option.some.inj hF
  exact W.iret hx hb hr (fun t ht hW => ⟨rfl, ht⟩) nofun dX3_differ_6
abbrev w_Int_numberOfTrailingZeros (E : kE)    : va_W := []
set_option maxHeartbeats 4000000 in
set_option maxRecDepth 100000 in
theorem wk_Int_numberOfTrailingZeros_b74 {p : Program} {l : Launch} {e : Env} {s : State} {m : MethodId} {args : Array Value} {below : List Frame} {meth : Method} {c : Code} (E : kE)     {out : Int32} (C : kC RJ6 cJ6_numberOfTrailingZeros_0f7a4 2 (some .int) p s m args meth c) (hP : va_P (eD E) vwCl (w_Int_numberOfTrailingZeros E ) s.heap) (hK : va_K (eD E) vwCl (eT E) s) (hT : sT E (fun _ => False) s s.heap)  :
    ∀ (v0 : Int32) (v1 : Int32), f_Int_numberOfTrailingZeros_b74   v0 v1 = some out → ∀ (ls : Array Slot), lv_has ls 2 [(0, .int v0), (1, .int v1)] → W p l e (rm 1) s m args below meth c s.heap [] 0 0 (MQ below (qR (.int out)) args s 0 0 (fun _ => False)) (F0 m 74 ls []) := by
  obtain ⟨hx, hb, hr, hml, hown, hw, hlocks⟩ := id C
  have hS : va_S (fun _ => False) s.heap s.heap [] := va_S.rf
  intro v0 v1 hF ls hl
  rw [f_Int_numberOfTrailingZeros_b74] at hF
  refine lv_iload_n hx hb dJ6_numberOfTrailingZeros_0f7a4_74 rfl (lv_at hl 1 rfl) ?_
  refine lv_iload_n hx hb dJ6_numberOfTrailingZeros_0f7a4_75 rfl (lv_at hl 0 rfl) ?_
  refine lv_iconst (v := (1 : Int32)) hx hb dJ6_numberOfTrailingZeros_0f7a4_76 (by decide) ?_
  refine lv_iushr (v := (v0.toUInt32 >>> ((1 : Int32).toUInt32 &&& Int32.toUInt32 31)).toInt32) hx hb dJ6_numberOfTrailingZeros_0f7a4_77 rfl ?_
  refine lv_iadd hx hb dJ6_numberOfTrailingZeros_0f7a4_78 ?_
  obtain rfl := Option.some.inj hF
  exact W.iret hx hb hr (fun t ht hW => ⟨rfl, ht⟩) nofun dJ6_numberOfTrailingZeros_0f7a4_79
set_option maxHeartbeats 4000000 in
set_option maxRecDepth 100000 in
theorem wk_Int_numberOfTrailingZeros_b62 {p : Program} {l : Launch} {e : Env} {s : State} {m : MethodId} {args : Array Value} {below : List Frame} {meth : Method} {c : Code} (E : kE)     {out : Int32} (C : kC RJ6 cJ6_numberOfTrailingZeros_0f7a4 2 (some .int) p s m args meth c) (hP : va_P (eD E) vwCl (w_Int_numberOfTrailingZeros E ) s.heap) (hK : va_K (eD E) vwCl (eT E) s) (hT : sT E (fun _ => False) s s.heap)  :
    ∀ (v0 : Int32) (v1 : Int32), f_Int_numberOfTrailingZeros_b62   v0 v1 = some out → ∀ (ls : Array Slot), lv_has ls 2 [(0, .int v0), (1, .int v1)] → W p l e (rm 1) s m args below meth c s.heap [] 0 0 (MQ below (qR (.int out)) args s 0 0 (fun _ => False)) (F0 m 62 ls []) := by
  obtain ⟨hx, hb, hr, hml, hown, hw, hlocks⟩ := id C
  have hS : va_S (fun _ => False) s.heap s.heap [] := va_S.rf
  intro v0 v1 hF ls hl
  rw [f_Int_numberOfTrailingZeros_b62] at hF
  refine lv_iload_n hx hb dJ6_numberOfTrailingZeros_0f7a4_62 rfl (lv_at hl 0 rfl) ?_
  refine lv_iconst (v := (4 : Int32)) hx hb dJ6_numberOfTrailingZeros_0f7a4_63 (by decide) ?_
  refine lv_icmp_le (tgt := 74) hx hb dJ6_numberOfTrailingZeros_0f7a4_64 (by decide) (fun q1 => ?_) (fun q1 => ?_)
  · have hF := kp hF q1
    exact wk_Int_numberOfTrailingZeros_b74 E   C hP  hK hT  v0 v1 hF _ (lv_sub hl [0, 1] rfl)
  · have hF := kn hF q1
    refine lv_iinc (v := (v1 + (2))) (lv' := [(1, .int (v1 + (2))), (0, .int v0)]) hx hb dJ6_numberOfTrailingZeros_0f7a4_67 hl (k := 1) rfl rfl (by decide) rfl (fun ls hl => ?_)
    refine lv_iload_n hx hb dJ6_numberOfTrailingZeros_0f7a4_70 rfl (lv_at hl 1 rfl) ?_
    refine lv_iconst (v := (2 : Int32)) hx hb dJ6_numberOfTrailingZeros_0f7a4_71 (by decide) ?_
    refine lv_iushr (v := (v0.toUInt32 >>> ((2 : Int32).toUInt32 &&& Int32.toUInt32 31)).toInt32) hx hb dJ6_numberOfTrailingZeros_0f7a4_72 rfl ?_
    refine lv_topi (fun x2 ex2 => ?_)
    have hF := kl_at hF ex2
    refine lv_istore_n (lv' := [(0, .int x2), (1, .int (v1 + (2)))]) hx hb dJ6_numberOfTrailingZeros_0f7a4_73 rfl hl (by decide) rfl (fun ls hl => ?_)
    exact wk_Int_numberOfTrailingZeros_b74 E   C hP  hK hT  x2 (v1 + (2)) hF _ (lv_sub hl [0, 1] rfl)
set_option maxHeartbeats 4000000 in
set_option maxRecDepth 100000 in
theorem wk_Int_numberOfTrailingZeros_b49 {p : Program} {l : Launch} {e : Env} {s : State} {m : MethodId} {args : Array Value} {below : List Frame} {meth : Method} {c : Code} (E : kE)     {out : Int32} (C : kC RJ6 cJ6_numberOfTrailingZeros_0f7a4 2 (some .int) p s m args meth c) (hP : va_P (eD E) vwCl (w_Int_numberOfTrailingZeros E ) s.heap) (hK : va_K (eD E) vwCl (eT E) s) (hT : sT E (fun _ => False) s s.heap)  :
    ∀ (v0 : Int32) (v1 : Int32), f_Int_numberOfTrailingZeros_b49   v0 v1 = some out → ∀ (ls : Array Slot), lv_has ls 2 [(0, .int v0), (1, .int v1)] → W p l e (rm 1) s m args below meth c s.heap [] 0 0 (MQ below (qR (.int out)) args s 0 0 (fun _ => False)) (F0 m 49 ls []) := by
  obtain ⟨hx, hb, hr, hml, hown, hw, hlocks⟩ := id C
  have hS : va_S (fun _ => False) s.heap s.heap [] := va_S.rf
  intro v0 v1 hF ls hl
  rw [f_Int_numberOfTrailingZeros_b49] at hF
  refine lv_iload_n hx hb dJ6_numberOfTrailingZeros_0f7a4_49 rfl (lv_at hl 0 rfl) ?_
  refine lv_bipush (v := (16 : Int32)) hx hb dJ6_numberOfTrailingZeros_0f7a4_50 (by decide) ?_
  refine lv_icmp_le (tgt := 62) hx hb dJ6_numberOfTrailingZeros_0f7a4_52 (by decide) (fun q3 => ?_) (fun q3 => ?_)
  · have hF := kp hF q3
    exact wk_Int_numberOfTrailingZeros_b62 E   C hP  hK hT  v0 v1 hF _ (lv_sub hl [0, 1] rfl)
  · have hF := kn hF q3
    refine lv_iinc (v := (v1 + (4))) (lv' := [(1, .int (v1 + (4))), (0, .int v0)]) hx hb dJ6_numberOfTrailingZeros_0f7a4_55 hl (k := 1) rfl rfl (by decide) rfl (fun ls hl => ?_)
    refine lv_iload_n hx hb dJ6_numberOfTrailingZeros_0f7a4_58 rfl (lv_at hl 1 rfl) ?_
    refine lv_iconst (v := (4 : Int32)) hx hb dJ6_numberOfTrailingZeros_0f7a4_59 (by decide) ?_
    refine lv_iushr (v := (v0.toUInt32 >>> ((4 : Int32).toUInt32 &&& Int32.toUInt32 31)).toInt32) hx hb dJ6_numberOfTrailingZeros_0f7a4_60 rfl ?_
    refine lv_topi (fun x4 ex4 => ?_)
    have hF := kl_at hF ex4
    refine lv_istore_n (lv' := [(0, .int x4), (1, .int (v1 + (4)))]) hx hb dJ6_numberOfTrailingZeros_0f7a4_61 rfl hl (by decide) rfl (fun ls hl => ?_)
    exact wk_Int_numberOfTrailingZeros_b62 E   C hP  hK hT  x4 (v1 + (4)) hF _ (lv_sub hl [0, 1] rfl)
set_option maxHeartbeats 4000000 in
set_option maxRecDepth 100000 in
theorem wk_Int_numberOfTrailingZeros_b34 {p : Program} {l : Launch} {e : Env} {s : State} {m : MethodId} {args : Array Value} {below : List Frame} {meth : Method} {c : Code} (E : kE)     {out : Int32} (C : kC RJ6 cJ6_numberOfTrailingZeros_0f7a4 2 (some .int) p s m args meth c) (hP : va_P (eD E) vwCl (w_Int_numberOfTrailingZeros E ) s.heap) (hK : va_K (eD E) vwCl (eT E) s) (hT : sT E (fun _ => False) s s.heap)  :
    ∀ (v0 : Int32) (v1 : Int32), f_Int_numberOfTrailingZeros_b34   v0 v1 = some out → ∀ (ls : Array Slot), lv_has ls 2 [(0, .int v0), (1, .int v1)] → W p l e (rm 1) s m args below meth c s.heap [] 0 0 (MQ below (qR (.int out)) args s 0 0 (fun _ => False)) (F0 m 34 ls []) := by
  obtain ⟨hx, hb, hr, hml, hown, hw, hlocks⟩ := id C
  have hS : va_S (fun _ => False) s.heap s.heap [] := va_S.rf
  intro v0 v1 hF ls hl
  rw [f_Int_numberOfTrailingZeros_b34] at hF
  refine lv_iload_n hx hb dJ6_numberOfTrailingZeros_0f7a4_34 rfl (lv_at hl 0 rfl) ?_
  refine lv_sipush (v := (256 : Int32)) hx hb dJ6_numberOfTrailingZeros_0f7a4_35 (by decide) ?_
  refine lv_icmp_le (tgt := 49) hx hb dJ6_numberOfTrailingZeros_0f7a4_38 (by decide) (fun q5 => ?_) (fun q5 => ?_)
  · have hF := kp hF q5
    exact wk_Int_numberOfTrailingZeros_b49 E   C hP  hK hT  v0 v1 hF _ (lv_sub hl [0, 1] rfl)
  · have hF := kn hF q5
    refine lv_iinc (v := (v1 + (8))) (lv' := [(1, .int (v1 + (8))), (0, .int v0)]) hx hb dJ6_numberOfTrailingZeros_0f7a4_41 hl (k := 1) rfl rfl (by decide) rfl (fun ls hl => ?_)
    refine lv_iload_n hx hb dJ6_numberOfTrailingZeros_0f7a4_44 rfl (lv_at hl 1 rfl) ?_
    refine lv_bipush (v := (8 : Int32)) hx hb dJ6_numberOfTrailingZeros_0f7a4_45 (by decide) ?_
    refine lv_iushr (v := (v0.toUInt32 >>> ((8 : Int32).toUInt32 &&& Int32.toUInt32 31)).toInt32) hx hb dJ6_numberOfTrailingZeros_0f7a4_47 rfl ?_
    refine lv_topi (fun x6 ex6 => ?_)
    have hF := kl_at hF ex6
    refine lv_istore_n (lv' := [(0, .int x6), (1, .int (v1 + (8)))]) hx hb dJ6_numberOfTrailingZeros_0f7a4_48 rfl hl (by decide) rfl (fun ls hl => ?_)
    exact wk_Int_numberOfTrailingZeros_b49 E   C hP  hK hT  x6 (v1 + (8)) hF _ (lv_sub hl [0, 1] rfl)
set_option maxHeartbeats 4000000 in
set_option maxRecDepth 100000 in
theorem k_Int_numberOfTrailingZeros (l : Launch) (E : kE)    (a0 : Int32) (out : Int32) (hF : f_Int_numberOfTrailingZeros  a0 = some out) : Met l yJ6_numberOfTrailingZeros_0f7a4 (Cond.code yJ6_numberOfTrailingZeros_0f7a4 cJ6_numberOfTrailingZeros_0f7a4 2 (some .int) :: wG) (rm 1) (pR E (w_Int_numberOfTrailingZeros E ) [.int a0]) (qR (.int out)) 0 0 (fun _ => False) := by
  refine met_R (by decide) (Nat.le_of_ble_eq_true rfl) ?_
  intro p e s m args below meth c ls C hP hK hT hl
  obtain ⟨hx, hb, hr, hml, hown, hw, hlocks⟩ := id C
  have hS : va_S (fun _ => False) s.heap s.heap [] := va_S.rf
  have hl : lv_has ls 2 [(0, .int a0)] := hl
  rw [f_Int_numberOfTrailingZeros] at hF
  refine lv_iload_n hx hb dJ6_numberOfTrailingZeros_0f7a4_0 rfl (lv_at hl 0 rfl) ?_
  refine lv_iconst (v := (-1 : Int32)) hx hb dJ6_numberOfTrailingZeros_0f7a4_1 (by decide) ?_
  refine lv_ixor hx hb dJ6_numberOfTrailingZeros_0f7a4_2 ?_
  refine lv_iload_n hx hb dJ6_numberOfTrailingZeros_0f7a4_3 rfl (lv_at hl 0 rfl) ?_
  refine lv_iconst (v := (1 : Int32)) hx hb dJ6_numberOfTrailingZeros_0f7a4_4 (by decide) ?_
  refine lv_isub hx hb dJ6_numberOfTrailingZeros_0f7a4_5 ?_
  refine lv_iand hx hb dJ6_numberOfTrailingZeros_0f7a4_6 ?_
  refine lv_istore_n (lv' := [(0, .int ((a0 ^^^ (-1 : Int32)) &&& (a0 - (1 : Int32))))]) hx hb dJ6_numberOfTrailingZeros_0f7a4_7 rfl hl (by decide) rfl (fun ls hl => ?_)
  refine lv_iload_n hx hb dJ6_numberOfTrailingZeros_0f7a4_8 rfl (lv_at hl 0 rfl) ?_
  refine lv_if_gt (tgt := 17) hx hb dJ6_numberOfTrailingZeros_0f7a4_9 (by decide) (fun q7 => ?_) (fun q7 => ?_)
  · have hF := kp hF q7
    refine lv_iconst (v := (1 : Int32)) hx hb dJ6_numberOfTrailingZeros_0f7a4_17 (by decide) ?_
    refine lv_istore_n (lv' := [(1, .int (1 : Int32)), (0, .int ((a0 ^^^ (-1 : Int32)) &&& (a0 - (1 : Int32))))]) hx hb dJ6_numberOfTrailingZeros_0f7a4_18 rfl hl (by decide) rfl (fun ls hl => ?_)
    refine lv_iload_n hx hb dJ6_numberOfTrailingZeros_0f7a4_19 rfl (lv_at hl 1 rfl) ?_
    refine lv_ldcw (v := (65536 : Int32)) hx hb hown (hw _ mw_558) dJ6_numberOfTrailingZeros_0f7a4_20 ?_
    refine lv_icmp_le (tgt := 34) hx hb dJ6_numberOfTrailingZeros_0f7a4_23 (by decide) (fun q8 => ?_) (fun q8 => ?_)
    · have hF := kp hF q8
      exact wk_Int_numberOfTrailingZeros_b34 E   C hP  hK hT  ((a0 ^^^ (-1 : Int32)) &&& (a0 - (1 : Int32))) (1 : Int32) hF _ (lv_sub hl [1, 0] rfl)
    · have hF := kn hF q8
      refine lv_iinc (v := ((1 : Int32) + (16))) (lv' := [(1, .int ((1 : Int32) + (16))), (0, .int ((a0 ^^^ (-1 : Int32)) &&& (a0 - (1 : Int32))))]) hx hb dJ6_numberOfTrailingZeros_0f7a4_26 hl (k := 0) rfl rfl (by decide) rfl (fun ls hl => ?_)
      refine lv_iload_n hx hb dJ6_numberOfTrailingZeros_0f7a4_29 rfl (lv_at hl 1 rfl) ?_
      refine lv_bipush (v := (16 : Int32)) hx hb dJ6_numberOfTrailingZeros_0f7a4_30 (by decide) ?_
      refine lv_iushr (v := (((a0 ^^^ (-1 : Int32)) &&& (a0 - (1 : Int32))).toUInt32 >>> ((16 : Int32).toUInt32 &&& Int32.toUInt32 31)).toInt32) hx hb dJ6_numberOfTrailingZeros_0f7a4_32 rfl ?_
      refine lv_topi (fun x9 ex9 => ?_)
      have hF := kl_at hF ex9
      refine lv_istore_n (lv' := [(0, .int x9), (1, .int ((1 : Int32) + (16)))]) hx hb dJ6_numberOfTrailingZeros_0f7a4_33 rfl hl (by decide) rfl (fun ls hl => ?_)
      exact wk_Int_numberOfTrailingZeros_b34 E   C hP  hK hT  x9 ((1 : Int32) + (16)) hF _ (lv_sub hl [0, 1] rfl)
  · have hF := kn hF q7
    refine lv_iload_n hx hb dJ6_numberOfTrailingZeros_0f7a4_12 rfl (lv_at hl 0 rfl) ?_
    refine lv_bipush (v := (32 : Int32)) hx hb dJ6_numberOfTrailingZeros_0f7a4_13 (by decide) ?_
    refine lv_iand hx hb dJ6_numberOfTrailingZeros_0f7a4_15 ?_
    obtain rfl := Option.some.inj hF
    exact W.iret hx hb hr (fun t ht hW => ⟨rfl, ht⟩) nofun dJ6_numberOfTrailingZeros_0f7a4_16
abbrev w_Forms_between (E : kE)    : va_W := []
set_option maxHeartbeats 4000000 in
set_option maxRecDepth 100000 in
theorem wk_Forms_between_b2 {p : Program} {l : Launch} {e : Env} {s : State} {m : MethodId} {args : Array Value} {below : List Frame} {meth : Method} {c : Code} (E : kE)    (a0 : Int32) (a1 : Int32) {out : Int32} (C : kC RX3 cX3_between 3 (some .int) p s m args meth c) (hP : va_P (eD E) vwCl (w_Forms_between E ) s.heap) (hK : va_K (eD E) vwCl (eT E) s) (hT : sT E (fun _ => False) s s.heap)  :
    ∀ (n : Nat), ∀ (v2 : Int32), f_Forms_between_b2  a0 a1 n v2 = some out → ∀ (ls : Array Slot), lv_has ls 3 [(0, .int a0), (1, .int a1), (2, .int v2)] → W p l e (rm 2) s m args below meth c s.heap [] 0 0 (MQ below (qR (.int out)) args s 0 0 (fun _ => False)) (F0 m 2 ls []) := by
  obtain ⟨hx, hb, hr, hml, hown, hw, hlocks⟩ := id C
  have hS : va_S (fun _ => False) s.heap s.heap [] := va_S.rf
  intro n
  induction n with
  | zero =>
    intro v2 hF
    exact absurd (show (none : Option (Int32)) = some out from hF) nofun
  | succ n ih =>
    intro v2 hF ls hl
    rw [f_Forms_between_b2] at hF
    refine lv_iload_n hx hb dX3_between_2 rfl (lv_at hl 2 rfl) ?_
    refine lv_bipush (v := (12 : Int32)) hx hb dX3_between_3 (by decide) ?_
    refine lv_icmp_ge (tgt := 25) hx hb dX3_between_5 (by decide) (fun q1 => ?_) (fun q1 => ?_)
    · have hF := kp hF q1
      refine lv_iconst (v := (-1 : Int32)) hx hb dX3_between_25 (by decide) ?_
      obtain rfl := Option.some.inj hF
      exact W.iret hx hb hr (fun t ht hW => ⟨rfl, ht⟩) nofun dX3_between_26
    · have hF := kn hF q1
      refine lv_iload_n hx hb dX3_between_8 rfl (lv_at hl 2 rfl) ?_
      refine lv_iload_n hx hb dX3_between_9 rfl (lv_at hl 0 rfl) ?_
      obtain ⟨r2, er2, hF⟩ := kb hF
      refine kRS (rest := []) C (k_Forms_across l E v2 a0 r2 er2) fn_Forms_across mw_299 ⟨Nat.le_of_ble_eq_true rfl, Nat.le_of_ble_eq_true rfl⟩ hK hT hS hP [] rfl rfl rfl hl (Nat.le_of_ble_eq_true rfl) dX3_between_10 ?_
      refine lv_iload_n hx hb dX3_between_13 rfl (lv_at hl 1 rfl) ?_
      refine lv_icmp_ne (tgt := 19) hx hb dX3_between_14 (by decide) (fun q3 => ?_) (fun q3 => ?_)
      · have hF := kn hF q3
        refine lv_iinc (v := (v2 + (1))) (lv' := [(2, .int (v2 + (1))), (0, .int a0), (1, .int a1)]) hx hb dX3_between_19 hl (k := 2) rfl rfl (by decide) rfl (fun ls hl => ?_)
        refine lv_goto (tgt := 2) hx hb dX3_between_22 (by decide) ?_
        exact ih (v2 + (1)) hF _ (lv_sub hl [1, 2, 0] rfl)
      · have hF := kp hF q3
        refine lv_iload_n hx hb dX3_between_17 rfl (lv_at hl 2 rfl) ?_
        obtain rfl := Option.some.inj hF
        exact W.iret hx hb hr (fun t ht hW => ⟨rfl, ht⟩) nofun dX3_between_18
set_option maxHeartbeats 4000000 in
set_option maxRecDepth 100000 in
theorem k_Forms_between (l : Launch) (E : kE)    (a0 : Int32) (a1 : Int32) (out : Int32) (hF : f_Forms_between  a0 a1 = some out) : Met l yX3_between (Cond.code yX3_between cX3_between 3 (some .int) :: wG) (rm 2) (pR E (w_Forms_between E ) [.int a0, .int a1]) (qR (.int out)) 0 0 (fun _ => False) := by
  refine met_R (by decide) (Nat.le_of_ble_eq_true rfl) ?_
  intro p e s m args below meth c ls C hP hK hT hl
  obtain ⟨hx, hb, hr, hml, hown, hw, hlocks⟩ := id C
  have hS : va_S (fun _ => False) s.heap s.heap [] := va_S.rf
  have hl : lv_has ls 3 [(0, .int a0), (1, .int a1)] := hl
  rw [f_Forms_between] at hF
  refine lv_iconst (v := (0 : Int32)) hx hb dX3_between_0 (by decide) ?_
  refine lv_istore_n (lv' := [(2, .int (0 : Int32)), (0, .int a0), (1, .int a1)]) hx hb dX3_between_1 rfl hl (by decide) rfl (fun ls hl => ?_)
  exact wk_Forms_between_b2 E  a0 a1 C hP  hK hT  5000 (0 : Int32) hF _ (lv_sub hl [1, 2, 0] rfl)
