-- ===== THE LAW: its loop, its start =====
theorem law_gt {i L : Nat} (hL : L ≤ 3072 ∧ i ≤ L) (h : L < i + 6) : Int32.ofNat L - (6 : Int32) < nI i := by
  have e1 : (nI L).toInt = (L : Int) := nI_toInt (by omega)
  have e2 : (nI i).toInt = (i : Int) := nI_toInt (by omega)
  have e3 : (6 : Int32).toInt = 6 := by decide
  rw [fa_lt, show Int32.ofNat L = nI L from rfl, fb_subI (by omega) (by omega), e1, e2, e3]
  omega
theorem low6 (x : Int32) : ∃ k, k < 64 ∧ x &&& 63 = nI k := by
  refine ⟨x.toBitVec.toNat &&& 63, Nat.and_lt_two_pow (n := 6) _ (by decide), ?_⟩
  rw [← fa_and, nI_self]
  rfl
set_option maxHeartbeats 4000000 in
set_option maxRecDepth 100000 in
theorem law_loop {p : Program} {l : Launch} {e : Env} {s : State} {m : MethodId} {below : List Frame} {meth : Method} {c : Code} {E : kE} {Q : Nat → Nat} {b L : Nat} {xs : Nat → Int32} (K : lawK E b L xs p s m meth c) : ∀ (n i : Nat) (H : Heap) (locs : List Loc) (ls : Array Slot), L ≤ i + n → i ≤ L → Inv E Q (AA s) H → va_S (AA s) s.heap H locs → lv_has ls 4 (lawL b (Q 0) (Q 34) i) → W p l e room_1 s m #[Value.ref b] below meth c H locs 47 1498 (lw_Z below #[Value.ref b] s) (F0 m 18 ls []) := by
  obtain ⟨C, hK, hT, hX, hbl, hL⟩ := id K
  obtain ⟨hx, hb, hr, hml, hown, hw, hlocks⟩ := id C
  intro n
  induction n with
  | zero =>
    intro i H locs ls h1 h0 hI hS hl
    refine lv_iload_n hx hb dL_law_18 rfl (lv_at hl 3 rfl) ?_
    refine lv_aload_n hx hb dL_law_19 rfl (lv_at hl 0 rfl) ?_
    refine va_slen hx hb hX hbl (A := AA s) (Nat.not_le.mpr hbl) hS dL_law_20 ?_
    refine lv_bipush (v := (6 : Int32)) hx hb dL_law_21 (by decide) ?_
    refine lv_isub hx hb dL_law_23 ?_
    refine lv_icmp_gt (tgt := 1434) hx hb dL_law_24 (by decide) (fun q => ?_) (fun q => ?_)
    · refine lv_iconst (v := 1) hx hb dL_law_1434 (by decide) ?_
      refine va_forget (fun q hq => hS.2.2 q hq) ?_
      refine W.widen (k := 600000) (n := 7302250) (Nat.le_of_ble_eq_true rfl) (Nat.le_of_ble_eq_true rfl) ?_
      exact lw_ret hx hb hr hlocks dL_law_1435
    · exact absurd (law_gt ⟨hL, h0⟩ (by omega)) q
  | succ n ih =>
    intro i H locs ls h1 h0 hI hS hl
    refine lv_iload_n hx hb dL_law_18 rfl (lv_at hl 3 rfl) ?_
    refine lv_aload_n hx hb dL_law_19 rfl (lv_at hl 0 rfl) ?_
    refine va_slen hx hb hX hbl (A := AA s) (Nat.not_le.mpr hbl) hS dL_law_20 ?_
    refine lv_bipush (v := (6 : Int32)) hx hb dL_law_21 (by decide) ?_
    refine lv_isub hx hb dL_law_23 ?_
    refine lv_icmp_gt (tgt := 1434) hx hb dL_law_24 (by decide) (fun q => ?_) (fun q => ?_)
    · refine lv_iconst (v := 1) hx hb dL_law_1434 (by decide) ?_
      refine va_forget (fun q hq => hS.2.2 q hq) ?_
      refine W.widen (k := 600000) (n := 7302250) (Nat.le_of_ble_eq_true rfl) (Nat.le_of_ble_eq_true rfl) ?_
      exact lw_ret hx hb hr hlocks dL_law_1435
    · have hi : i + 6 ≤ L := by
        rcases Nat.lt_or_ge L (i + 6) with z | z
        · exact absurd (law_gt ⟨hL, h0⟩ z) q
        · exact z
      have kk : ∀ (H : Heap) (locs : List Loc), Inv E Q (AA s) H → va_S (AA s) s.heap H locs → W p l e room_1 s m #[Value.ref b] below meth c H locs 47 1498 (lw_Z below #[Value.ref b] s) (F0 m 1428 ls []) := by
        intro H locs hI hS
        refine lv_iinc (v := nI (i + 6)) (lv' := [(3, .int (nI (i + 6))), (0, .ref b), (1, .ref (Q 0)), (2, .ref (Q 34))]) hx hb dL_law_1428 hl (k := 3) rfl (nI_add i 6) (by decide) rfl (fun ls hl => ?_)
        refine lv_goto (tgt := 18) hx hb dL_law_1431 (by decide) ?_
        exact ih (i + 6) H locs ls (by omega) hi hI hS (lv_sub hl [1, 2, 3, 0] rfl)
      refine lv_aload_n hx hb dL_law_27 rfl (lv_at hl 0 rfl) ?_
      refine lv_iload_n hx hb dL_law_28 rfl (lv_at hl 3 rfl) ?_
      refine va_sld hx hb hX hbl (A := AA s) (Nat.not_le.mpr hbl) hS (vp_in_nI (by omega) (by omega)) dL_law_29 ?_
      refine lv_bipush (v := (63 : Int32)) hx hb dL_law_30 (by decide) ?_
      refine lv_iand hx hb dL_law_32 ?_
      obtain ⟨k, hk, ek⟩ := low6 (xs (nI i).toNatClampNeg)
      rw [ek]
      rcases (show k = 0 ∨ k = 1 ∨ k = 2 ∨ k = 3 ∨ k = 4 ∨ k = 5 ∨ k = 6 ∨ k = 7 ∨ k = 8 ∨ k = 9 ∨ k = 10 ∨ k = 11 ∨ k = 12 ∨ k = 13 ∨ k = 14 ∨ k = 15 ∨ k = 16 ∨ k = 17 ∨ k = 18 ∨ k = 19 ∨ k = 20 ∨ k = 21 ∨ k = 22 ∨ k = 23 ∨ k = 24 ∨ k = 25 ∨ k = 26 ∨ k = 27 ∨ k = 28 ∨ k = 29 ∨ k = 30 ∨ k = 31 ∨ k = 32 ∨ k = 33 ∨ k = 34 ∨ k = 35 ∨ k = 36 ∨ k = 37 ∨ k = 38 ∨ k = 39 ∨ k = 40 ∨ k = 41 ∨ k = 42 ∨ k = 43 ∨ 44 ≤ k by omega) with rfl | rfl | rfl | rfl | rfl | rfl | rfl | rfl | rfl | rfl | rfl | rfl | rfl | rfl | rfl | rfl | rfl | rfl | rfl | rfl | rfl | rfl | rfl | rfl | rfl | rfl | rfl | rfl | rfl | rfl | rfl | rfl | rfl | rfl | rfl | rfl | rfl | rfl | rfl | rfl | rfl | rfl | rfl | rfl | hge
      · exact lv_tableIn (off := 191) (tgt := 224) hx hb dL_law_33 (by decide) (by decide) (by decide +kernel) (by decide) (law_odd K hi hI hS hl kk)
      · exact lv_tableIn (off := 214) (tgt := 247) hx hb dL_law_33 (by decide) (by decide) (by decide +kernel) (by decide) (law_pieces K hi hI hS hl kk)
      · exact lv_tableIn (off := 237) (tgt := 270) hx hb dL_law_33 (by decide) (by decide) (by decide +kernel) (by decide) (law_lines K hi hI hS hl kk)
      · exact lv_tableIn (off := 260) (tgt := 293) hx hb dL_law_33 (by decide) (by decide) (by decide +kernel) (by decide) (law_strays K hi hI hS hl kk)
      · exact lv_tableIn (off := 283) (tgt := 316) hx hb dL_law_33 (by decide) (by decide) (by decide +kernel) (by decide) (law_ways K hi hI hS hl kk)
      · exact lv_tableIn (off := 317) (tgt := 350) hx hb dL_law_33 (by decide) (by decide) (by decide +kernel) (by decide) (law_ith K hi hI hS hl kk)
      · exact lv_tableIn (off := 360) (tgt := 393) hx hb dL_law_33 (by decide) (by decide) (by decide +kernel) (by decide) (law_again K hi hI hS hl kk)
      · exact lv_tableIn (off := 383) (tgt := 416) hx hb dL_law_33 (by decide) (by decide) (by decide +kernel) (by decide) (law_turned K hi hI hS hl kk)
      · exact lv_tableIn (off := 416) (tgt := 449) hx hb dL_law_33 (by decide) (by decide) (by decide +kernel) (by decide) (law_sign K hi hI hS hl kk)
      · exact lv_tableIn (off := 449) (tgt := 482) hx hb dL_law_33 (by decide) (by decide) (by decide +kernel) (by decide) (law_form K hi hI hS hl kk)
      · exact lv_tableIn (off := 472) (tgt := 505) hx hb dL_law_33 (by decide) (by decide) (by decide +kernel) (by decide) (law_read K hi hI hS hl kk)
      · exact lv_tableIn (off := 495) (tgt := 528) hx hb dL_law_33 (by decide) (by decide) (by decide +kernel) (by decide) (law_doubts K hi hI hS hl kk)
      · exact lv_tableIn (off := 518) (tgt := 551) hx hb dL_law_33 (by decide) (by decide) (by decide +kernel) (by decide) (law_apart K hi hI hS hl kk)
      · exact lv_tableIn (off := 531) (tgt := 564) hx hb dL_law_33 (by decide) (by decide) (by decide +kernel) (by decide) (law_stay K hi hI hS hl kk)
      · exact lv_tableIn (off := 544) (tgt := 577) hx hb dL_law_33 (by decide) (by decide) (by decide +kernel) (by decide) (law_forge K hi hI hS hl kk)
      · exact lv_tableIn (off := 577) (tgt := 610) hx hb dL_law_33 (by decide) (by decide) (by decide +kernel) (by decide) (law_letter K hi hI hS hl kk)
      · exact lv_tableIn (off := 610) (tgt := 643) hx hb dL_law_33 (by decide) (by decide) (by decide +kernel) (by decide) (law_of K hi hI hS hl kk)
      · exact lv_tableIn (off := 643) (tgt := 676) hx hb dL_law_33 (by decide) (by decide) (by decide +kernel) (by decide) (law_set K hi hI hS hl kk)
      · exact lv_tableIn (off := 686) (tgt := 719) hx hb dL_law_33 (by decide) (by decide) (by decide +kernel) (by decide) (law_turn K hi hI hS hl kk)
      · exact lv_tableIn (off := 719) (tgt := 752) hx hb dL_law_33 (by decide) (by decide) (by decide +kernel) (by decide) (law_as K hi hI hS hl kk)
      · exact lv_tableIn (off := 752) (tgt := 785) hx hb dL_law_33 (by decide) (by decide) (by decide +kernel) (by decide) (law_sun K hi hI hS hl kk)
      · exact lv_tableIn (off := 775) (tgt := 808) hx hb dL_law_33 (by decide) (by decide) (by decide +kernel) (by decide) (law_hours K hi hI hS hl kk)
      · exact lv_tableIn (off := 798) (tgt := 831) hx hb dL_law_33 (by decide) (by decide) (by decide +kernel) (by decide) (law_now K hi hI hS hl kk)
      · exact lv_tableIn (off := 821) (tgt := 854) hx hb dL_law_33 (by decide) (by decide) (by decide +kernel) (by decide) (law_on K hi hI hS hl kk)
      · exact lv_tableIn (off := 854) (tgt := 887) hx hb dL_law_33 (by decide) (by decide) (by decide +kernel) (by decide) (law_when K hi hI hS hl kk)
      · exact lv_tableIn (off := 877) (tgt := 910) hx hb dL_law_33 (by decide) (by decide) (by decide +kernel) (by decide) (law_kind K hi hI hS hl kk)
      · exact lv_tableIn (off := 900) (tgt := 933) hx hb dL_law_33 (by decide) (by decide) (by decide +kernel) (by decide) (law_best K hi hI hS hl kk)
      · exact lv_tableIn (off := 923) (tgt := 956) hx hb dL_law_33 (by decide) (by decide) (by decide +kernel) (by decide) (law_worth K hi hI hS hl kk)
      · exact lv_tableIn (off := 946) (tgt := 979) hx hb dL_law_33 (by decide) (by decide) (by decide +kernel) (by decide) (law_meant K hi hI hS hl kk)
      · exact lv_tableIn (off := 969) (tgt := 1002) hx hb dL_law_33 (by decide) (by decide) (by decide +kernel) (by decide) (law_cheap K hi hI hS hl kk)
      · exact lv_tableIn (off := 992) (tgt := 1025) hx hb dL_law_33 (by decide) (by decide) (by decide +kernel) (by decide) (law_feed K hi hI hS hl kk)
      · exact lv_tableIn (off := 1025) (tgt := 1058) hx hb dL_law_33 (by decide) (by decide) (by decide +kernel) (by decide) (law_wipe K hi hI hS hl kk)
      · exact lv_tableIn (off := 1038) (tgt := 1071) hx hb dL_law_33 (by decide) (by decide) (by decide +kernel) (by decide) (law_field K hi hI hS hl kk)
      · exact lv_tableIn (off := 1051) (tgt := 1084) hx hb dL_law_33 (by decide) (by decide) (by decide +kernel) (by decide) (law_sheet K hi hI hS hl kk)
      · exact lv_tableIn (off := 1094) (tgt := 1127) hx hb dL_law_33 (by decide) (by decide) (by decide +kernel) (by decide) (law_write K hi hI hS hl kk)
      · exact lv_tableIn (off := 1168) (tgt := 1201) hx hb dL_law_33 (by decide) (by decide) (by decide +kernel) (by decide) (law_copy K hi hI hS hl kk)
      · exact lv_tableIn (off := 1231) (tgt := 1264) hx hb dL_law_33 (by decide) (by decide) (by decide +kernel) (by decide) (law_lays K hi hI hS hl kk)
      · exact lv_tableIn (off := 1254) (tgt := 1287) hx hb dL_law_33 (by decide) (by decide) (by decide +kernel) (by decide) (law_show K hi hI hS hl kk)
      · exact lv_tableIn (off := 1277) (tgt := 1310) hx hb dL_law_33 (by decide) (by decide) (by decide +kernel) (by decide) (law_walk K hi hI hS hl kk)
      · exact lv_tableIn (off := 1310) (tgt := 1343) hx hb dL_law_33 (by decide) (by decide) (by decide +kernel) (by decide) (law_image K hi hI hS hl kk)
      · exact lv_tableIn (off := 1323) (tgt := 1356) hx hb dL_law_33 (by decide) (by decide) (by decide +kernel) (by decide) (law_undo K hi hI hS hl kk)
      · exact lv_tableIn (off := 1336) (tgt := 1369) hx hb dL_law_33 (by decide) (by decide) (by decide +kernel) (by decide) (law_tear K hi hI hS hl kk)
      · exact lv_tableIn (off := 1349) (tgt := 1382) hx hb dL_law_33 (by decide) (by decide) (by decide +kernel) (by decide) (law_count K hi hI hS hl kk)
      · exact lv_tableIn (off := 1372) (tgt := 1405) hx hb dL_law_33 (by decide) (by decide) (by decide +kernel) (by decide) (law_status K hi hI hS hl kk)
      · refine lv_tableOut (tgt := 1428) hx hb dL_law_33 (Or.inr ?_) (by decide) (kk H locs hI hS)
        rw [nI_toInt (by omega)]
        omega
theorem rPl_0 : rPl (fun _ => 0) (fun _ => 0) (fun _ => 0) (fun _ => 0) 0 0 0 (fun _ => 0) (fun _ => 0) (fun _ => 0) (fun _ => 0) 0 0 0 (fun _ => 0) := by
  refine ⟨⟨fun g hg => rfl, fun g hg => rfl, fun g hg => Nat.succ_pos 4095⟩, ⟨fun g hg => ⟨⟨rfl, rfl, rfl⟩, rfl, rfl, rfl⟩, fun g hg => ⟨Nat.succ_pos 5, Nat.succ_pos 4095, Nat.zero_le 99⟩⟩, ⟨rfl, rfl, by decide⟩, ⟨rfl, rfl, by decide⟩, ⟨rfl, rfl, by decide⟩⟩
theorem rel_0 : RelS 0 0 0 0 0 (fun _ => 0) (fun _ => 0) (fun _ => 0) (fun _ => 0) 0 0 0 (fun _ => 0) (fun _ => 0) (fun _ => 0) (fun _ => 0) (fun _ => 0) (fun _ => 0) 0 (fun _ => 0) 0 (fun _ => 0) (fun _ => 0) (fun _ => 0) (fun _ => 0) (fun _ => 0) (fun _ => 0) (fun _ => 0) (fun _ => 0) (fun _ => 0) :=
  ⟨fun k hk => rfl, ⟨_, _, _, _, _, _, _, rPl_0⟩, Or.inl ⟨rfl, rfl⟩, ⟨0, rfl, rfl, by decide, fun i hi => absurd hi (Nat.not_lt_zero i)⟩, fun _ => 0, fun k hk => ⟨rfl, rfl, rfl, Nat.zero_le 40⟩, fun i hi => rfl⟩
-- ===== YOUR PART BEGINS =====
set_option maxHeartbeats 4000000 in
set_option maxRecDepth 100000 in
/-- THE LAW, from its entry -/
theorem whole_start {p : Program} {e : Env} {s : State} {m : MethodId} {below : List Frame} {meth : Method} {c : Code} (l : Launch) (hflags : l.flags = flags0) {b L : Nat} {xs : Nat → Int32} (hL : L ≤ 3072) (C0 : lw_At p s m meth c b L xs) : W p l e room_1 s m #[Value.ref b] below meth c s.heap [] 0 0 (lw_Z below #[Value.ref b] s) (entryFrame m ([Value.ref b] : List Value).toArray 4) := by
  obtain ⟨hx, hb, hr, hml, hown, hts, hX, hbl, hlocks, hgv⟩ := id C0
  obtain ⟨E, hK, hT⟩ := law_env (flat_of_before _ hgv) hts
  have hw : ∀ w ∈ wG, w.before #[Value.ref b] s = true := fun w h => hts w (wG_ok h).1
  have C : kC RL code 4 ret p s m #[Value.ref b] meth c := ⟨hx, hb, hr, hml, hown, hw, hlocks⟩
  have hA : ∀ q : Nat, s.heap.size ≤ q → AA s q := fun _ h => h
  have hS : va_S (AA s) s.heap s.heap [] := va_S.rf
  have hP : va_P (eD E) vwCl [] s.heap := fun k q h => by simp at h
  have hD : va_D (AA s) [] := ⟨fun i j p q h => by simp at h, fun k q h => by simp at h⟩
  have hl := lv_entry ([.ref b]) (n := 4) (Nat.le_of_ble_eq_true rfl)
  rw [lg_entry_eq]
  generalize (lg_sl ([.ref b]) ++ List.replicate (4 - (lg_sl ([.ref b])).length) Slot.unset).toArray = ls at hl ⊢
  have hl : lv_has ls 4 [(0, .ref b)] := hl
  refine va_new (ci := 7) (fs := [.null, .null, .null, .null, .null, .null, .null, .null, .int 0]) (C := RX9) (T := TX9) (N := 9) hx hb hw inX9 tyX9 tyX9_ok hown (hw _ mw_56) (hw _ mw_57) (hw _ mw_38) hK hP hD hS hA rfl (fun j hj => by rcases (show j = 0 ∨ j = 1 ∨ j = 2 ∨ j = 3 ∨ j = 4 ∨ j = 5 ∨ j = 6 ∨ j = 7 ∨ j = 8 by omega) with rfl | rfl | rfl | rfl | rfl | rfl | rfl | rfl | rfl <;> rfl) (Nat.le_of_ble_eq_true rfl) (Nat.le_of_ble_eq_true rfl) dL_law_0 (fun qS H hP hD hS => ?_)
  have hP : va_P (eD E) vwCl [(qS, .inr (7, [.null, .null, .null, .null, .null, .null, .null, .null, .int 0]))] H := hP
  have hD : va_D (AA s) [(qS, .inr (7, [.null, .null, .null, .null, .null, .null, .null, .null, .int 0]))] := hD
  refine lv_dup hx hb dL_law_3 rfl ?_
  refine kI (rest := [.ref qS]) (Wr := []) C (k_S_init l E qS H.size) fi_S mw_58 ⟨Nat.le_of_ble_eq_true rfl, Nat.le_of_ble_eq_true rfl⟩ ⟨Nat.le_of_ble_eq_true rfl, Nat.le_of_ble_eq_true rfl⟩ hK hT hS hA hP hD [0] rfl (by decide) [] rfl (by decide) (by decide) rfl hl (Nat.le_of_ble_eq_true rfl) dL_law_4 (fun ws H locs hmk hP hD hS => ?_)
  obtain ⟨q1, q2, q3, q4, q5, q6, q7, q8, q9, q10, q11, q12, q13, q14, q15, q16, q17, q18, q19, q20, q21, q22, q23, q24, q25, q26, q27, q28, q29, q30, q31, q32, q33, rfl⟩ := hmk
  have hP : va_P (eD E) vwCl [(qS, .inr (7, [.ref q1, .ref q7, .ref q13, .ref q19, .ref q21, .ref q26, .ref q30, .ref q33, .int 0])), (q1, .inr (3, [.ref q2, .ref q4, .ref q5, .ref q6, .int 0, .int 0, .int 0])), (q2, .inr (0, [.ref q3])), (q3, .inl (eI E, 26, .inl (fun _ => 0))), (q4, .inl (eI E, 12, .inl (fun _ => 0))), (q5, .inl (eI E, 12, .inl (fun _ => 0))), (q6, .inl (eI E, 12, .inl (fun _ => 0))), (q7, .inr (3, [.ref q8, .ref q10, .ref q11, .ref q12, .int 0, .int 0, .int 0])), (q8, .inr (0, [.ref q9])), (q9, .inl (eI E, 26, .inl (fun _ => 0))), (q10, .inl (eI E, 12, .inl (fun _ => 0))), (q11, .inl (eI E, 12, .inl (fun _ => 0))), (q12, .inl (eI E, 12, .inl (fun _ => 0))), (q13, .inr (3, [.ref q14, .ref q16, .ref q17, .ref q18, .int 0, .int 0, .int 0])), (q14, .inr (0, [.ref q15])), (q15, .inl (eI E, 26, .inl (fun _ => 0))), (q16, .inl (eI E, 12, .inl (fun _ => 0))), (q17, .inl (eI E, 12, .inl (fun _ => 0))), (q18, .inl (eI E, 12, .inl (fun _ => 0))), (q19, .inr (5, [.ref q20, .int 0])), (q20, .inl (eB E, 120, .inl (fun _ => 0))), (q21, .inr (2, [.ref q22, .int 0])), (q22, .inr (6, [.ref q23, .ref q24, .ref q25, .int 0, .int 0])), (q23, .inl (eI E, 120, .inl (fun _ => 0))), (q24, .inl (eI E, 120, .inl (fun _ => 0))), (q25, .inl (eI E, 120, .inl (fun _ => 0))), (q26, .inr (4, [.ref q27, .ref q28, .ref q29])), (q27, .inl (eI E, 4, .inl (fun _ => 0))), (q28, .inl (eI E, 4, .inl (fun _ => 0))), (q29, .inl (eJ E, 160, .inr (.inl (fun _ => 0)))), (q30, .inr (1, [.ref q31, .ref q32, .int 0, .int 0])), (q31, .inl (eI E, 12, .inl (fun _ => 0))), (q32, .inl (eI E, 12, .inl (fun _ => 0))), (q33, .inl (eI E, 7, .inl (fun _ => 0)))] H := hP
  have hD : va_D (AA s) [(qS, .inr (7, [.ref q1, .ref q7, .ref q13, .ref q19, .ref q21, .ref q26, .ref q30, .ref q33, .int 0])), (q1, .inr (3, [.ref q2, .ref q4, .ref q5, .ref q6, .int 0, .int 0, .int 0])), (q2, .inr (0, [.ref q3])), (q3, .inl (eI E, 26, .inl (fun _ => 0))), (q4, .inl (eI E, 12, .inl (fun _ => 0))), (q5, .inl (eI E, 12, .inl (fun _ => 0))), (q6, .inl (eI E, 12, .inl (fun _ => 0))), (q7, .inr (3, [.ref q8, .ref q10, .ref q11, .ref q12, .int 0, .int 0, .int 0])), (q8, .inr (0, [.ref q9])), (q9, .inl (eI E, 26, .inl (fun _ => 0))), (q10, .inl (eI E, 12, .inl (fun _ => 0))), (q11, .inl (eI E, 12, .inl (fun _ => 0))), (q12, .inl (eI E, 12, .inl (fun _ => 0))), (q13, .inr (3, [.ref q14, .ref q16, .ref q17, .ref q18, .int 0, .int 0, .int 0])), (q14, .inr (0, [.ref q15])), (q15, .inl (eI E, 26, .inl (fun _ => 0))), (q16, .inl (eI E, 12, .inl (fun _ => 0))), (q17, .inl (eI E, 12, .inl (fun _ => 0))), (q18, .inl (eI E, 12, .inl (fun _ => 0))), (q19, .inr (5, [.ref q20, .int 0])), (q20, .inl (eB E, 120, .inl (fun _ => 0))), (q21, .inr (2, [.ref q22, .int 0])), (q22, .inr (6, [.ref q23, .ref q24, .ref q25, .int 0, .int 0])), (q23, .inl (eI E, 120, .inl (fun _ => 0))), (q24, .inl (eI E, 120, .inl (fun _ => 0))), (q25, .inl (eI E, 120, .inl (fun _ => 0))), (q26, .inr (4, [.ref q27, .ref q28, .ref q29])), (q27, .inl (eI E, 4, .inl (fun _ => 0))), (q28, .inl (eI E, 4, .inl (fun _ => 0))), (q29, .inl (eJ E, 160, .inr (.inl (fun _ => 0)))), (q30, .inr (1, [.ref q31, .ref q32, .int 0, .int 0])), (q31, .inl (eI E, 12, .inl (fun _ => 0))), (q32, .inl (eI E, 12, .inl (fun _ => 0))), (q33, .inl (eI E, 7, .inl (fun _ => 0)))] := hD
  refine lv_astore_n (lv' := [(1, .ref qS), (0, .ref b)]) hx hb dL_law_7 rfl hl (by decide) rfl (fun ls hl => ?_)
  refine va_new (ci := 8) (fs := [.null, .null, .null, .int 0, .null, .null, .int 0, .null, .null, .null, .int 0, .int 0, .int 0, .int 0, .null, .null, .null, .null]) (C := RX10) (T := TX10) (N := 18) hx hb hw inX10 tyX10 tyX10_ok hown (hw _ mw_875) (hw _ mw_876) (hw _ mw_46) hK hP hD hS hA rfl (fun j hj => by rcases (show j = 0 ∨ j = 1 ∨ j = 2 ∨ j = 3 ∨ j = 4 ∨ j = 5 ∨ j = 6 ∨ j = 7 ∨ j = 8 ∨ j = 9 ∨ j = 10 ∨ j = 11 ∨ j = 12 ∨ j = 13 ∨ j = 14 ∨ j = 15 ∨ j = 16 ∨ j = 17 by omega) with rfl | rfl | rfl | rfl | rfl | rfl | rfl | rfl | rfl | rfl | rfl | rfl | rfl | rfl | rfl | rfl | rfl | rfl <;> rfl) (Nat.le_of_ble_eq_true rfl) (Nat.le_of_ble_eq_true rfl) dL_law_8 (fun qM H hP hD hS => ?_)
  have hP : va_P (eD E) vwCl [(qS, .inr (7, [.ref q1, .ref q7, .ref q13, .ref q19, .ref q21, .ref q26, .ref q30, .ref q33, .int 0])), (q1, .inr (3, [.ref q2, .ref q4, .ref q5, .ref q6, .int 0, .int 0, .int 0])), (q2, .inr (0, [.ref q3])), (q3, .inl (eI E, 26, .inl (fun _ => 0))), (q4, .inl (eI E, 12, .inl (fun _ => 0))), (q5, .inl (eI E, 12, .inl (fun _ => 0))), (q6, .inl (eI E, 12, .inl (fun _ => 0))), (q7, .inr (3, [.ref q8, .ref q10, .ref q11, .ref q12, .int 0, .int 0, .int 0])), (q8, .inr (0, [.ref q9])), (q9, .inl (eI E, 26, .inl (fun _ => 0))), (q10, .inl (eI E, 12, .inl (fun _ => 0))), (q11, .inl (eI E, 12, .inl (fun _ => 0))), (q12, .inl (eI E, 12, .inl (fun _ => 0))), (q13, .inr (3, [.ref q14, .ref q16, .ref q17, .ref q18, .int 0, .int 0, .int 0])), (q14, .inr (0, [.ref q15])), (q15, .inl (eI E, 26, .inl (fun _ => 0))), (q16, .inl (eI E, 12, .inl (fun _ => 0))), (q17, .inl (eI E, 12, .inl (fun _ => 0))), (q18, .inl (eI E, 12, .inl (fun _ => 0))), (q19, .inr (5, [.ref q20, .int 0])), (q20, .inl (eB E, 120, .inl (fun _ => 0))), (q21, .inr (2, [.ref q22, .int 0])), (q22, .inr (6, [.ref q23, .ref q24, .ref q25, .int 0, .int 0])), (q23, .inl (eI E, 120, .inl (fun _ => 0))), (q24, .inl (eI E, 120, .inl (fun _ => 0))), (q25, .inl (eI E, 120, .inl (fun _ => 0))), (q26, .inr (4, [.ref q27, .ref q28, .ref q29])), (q27, .inl (eI E, 4, .inl (fun _ => 0))), (q28, .inl (eI E, 4, .inl (fun _ => 0))), (q29, .inl (eJ E, 160, .inr (.inl (fun _ => 0)))), (q30, .inr (1, [.ref q31, .ref q32, .int 0, .int 0])), (q31, .inl (eI E, 12, .inl (fun _ => 0))), (q32, .inl (eI E, 12, .inl (fun _ => 0))), (q33, .inl (eI E, 7, .inl (fun _ => 0))), (qM, .inr (8, [.null, .null, .null, .int 0, .null, .null, .int 0, .null, .null, .null, .int 0, .int 0, .int 0, .int 0, .null, .null, .null, .null]))] H := hP
  have hD : va_D (AA s) [(qS, .inr (7, [.ref q1, .ref q7, .ref q13, .ref q19, .ref q21, .ref q26, .ref q30, .ref q33, .int 0])), (q1, .inr (3, [.ref q2, .ref q4, .ref q5, .ref q6, .int 0, .int 0, .int 0])), (q2, .inr (0, [.ref q3])), (q3, .inl (eI E, 26, .inl (fun _ => 0))), (q4, .inl (eI E, 12, .inl (fun _ => 0))), (q5, .inl (eI E, 12, .inl (fun _ => 0))), (q6, .inl (eI E, 12, .inl (fun _ => 0))), (q7, .inr (3, [.ref q8, .ref q10, .ref q11, .ref q12, .int 0, .int 0, .int 0])), (q8, .inr (0, [.ref q9])), (q9, .inl (eI E, 26, .inl (fun _ => 0))), (q10, .inl (eI E, 12, .inl (fun _ => 0))), (q11, .inl (eI E, 12, .inl (fun _ => 0))), (q12, .inl (eI E, 12, .inl (fun _ => 0))), (q13, .inr (3, [.ref q14, .ref q16, .ref q17, .ref q18, .int 0, .int 0, .int 0])), (q14, .inr (0, [.ref q15])), (q15, .inl (eI E, 26, .inl (fun _ => 0))), (q16, .inl (eI E, 12, .inl (fun _ => 0))), (q17, .inl (eI E, 12, .inl (fun _ => 0))), (q18, .inl (eI E, 12, .inl (fun _ => 0))), (q19, .inr (5, [.ref q20, .int 0])), (q20, .inl (eB E, 120, .inl (fun _ => 0))), (q21, .inr (2, [.ref q22, .int 0])), (q22, .inr (6, [.ref q23, .ref q24, .ref q25, .int 0, .int 0])), (q23, .inl (eI E, 120, .inl (fun _ => 0))), (q24, .inl (eI E, 120, .inl (fun _ => 0))), (q25, .inl (eI E, 120, .inl (fun _ => 0))), (q26, .inr (4, [.ref q27, .ref q28, .ref q29])), (q27, .inl (eI E, 4, .inl (fun _ => 0))), (q28, .inl (eI E, 4, .inl (fun _ => 0))), (q29, .inl (eJ E, 160, .inr (.inl (fun _ => 0)))), (q30, .inr (1, [.ref q31, .ref q32, .int 0, .int 0])), (q31, .inl (eI E, 12, .inl (fun _ => 0))), (q32, .inl (eI E, 12, .inl (fun _ => 0))), (q33, .inl (eI E, 7, .inl (fun _ => 0))), (qM, .inr (8, [.null, .null, .null, .int 0, .null, .null, .int 0, .null, .null, .null, .int 0, .int 0, .int 0, .int 0, .null, .null, .null, .null]))] := hD
  refine lv_dup hx hb dL_law_11 rfl ?_
  refine kI (rest := [.ref qM]) (Wr := [(qS, .inr (7, [.ref q1, .ref q7, .ref q13, .ref q19, .ref q21, .ref q26, .ref q30, .ref q33, .int 0])), (q1, .inr (3, [.ref q2, .ref q4, .ref q5, .ref q6, .int 0, .int 0, .int 0])), (q2, .inr (0, [.ref q3])), (q3, .inl (eI E, 26, .inl (fun _ => 0))), (q4, .inl (eI E, 12, .inl (fun _ => 0))), (q5, .inl (eI E, 12, .inl (fun _ => 0))), (q6, .inl (eI E, 12, .inl (fun _ => 0))), (q7, .inr (3, [.ref q8, .ref q10, .ref q11, .ref q12, .int 0, .int 0, .int 0])), (q8, .inr (0, [.ref q9])), (q9, .inl (eI E, 26, .inl (fun _ => 0))), (q10, .inl (eI E, 12, .inl (fun _ => 0))), (q11, .inl (eI E, 12, .inl (fun _ => 0))), (q12, .inl (eI E, 12, .inl (fun _ => 0))), (q13, .inr (3, [.ref q14, .ref q16, .ref q17, .ref q18, .int 0, .int 0, .int 0])), (q14, .inr (0, [.ref q15])), (q15, .inl (eI E, 26, .inl (fun _ => 0))), (q16, .inl (eI E, 12, .inl (fun _ => 0))), (q17, .inl (eI E, 12, .inl (fun _ => 0))), (q18, .inl (eI E, 12, .inl (fun _ => 0))), (q19, .inr (5, [.ref q20, .int 0])), (q20, .inl (eB E, 120, .inl (fun _ => 0))), (q21, .inr (2, [.ref q22, .int 0])), (q22, .inr (6, [.ref q23, .ref q24, .ref q25, .int 0, .int 0])), (q23, .inl (eI E, 120, .inl (fun _ => 0))), (q24, .inl (eI E, 120, .inl (fun _ => 0))), (q25, .inl (eI E, 120, .inl (fun _ => 0))), (q26, .inr (4, [.ref q27, .ref q28, .ref q29])), (q27, .inl (eI E, 4, .inl (fun _ => 0))), (q28, .inl (eI E, 4, .inl (fun _ => 0))), (q29, .inl (eJ E, 160, .inr (.inl (fun _ => 0)))), (q30, .inr (1, [.ref q31, .ref q32, .int 0, .int 0])), (q31, .inl (eI E, 12, .inl (fun _ => 0))), (q32, .inl (eI E, 12, .inl (fun _ => 0))), (q33, .inl (eI E, 7, .inl (fun _ => 0)))]) C (k_M_init l E qM H.size) fi_M mw_877 ⟨Nat.le_of_ble_eq_true rfl, Nat.le_of_ble_eq_true rfl⟩ ⟨Nat.le_of_ble_eq_true rfl, Nat.le_of_ble_eq_true rfl⟩ hK hT hS hA hP hD [34] rfl (by decide) [0, 1, 2, 3, 4, 5, 6, 7, 8, 9, 10, 11, 12, 13, 14, 15, 16, 17, 18, 19, 20, 21, 22, 23, 24, 25, 26, 27, 28, 29, 30, 31, 32, 33] rfl (by decide) (by decide) rfl hl (Nat.le_of_ble_eq_true rfl) dL_law_12 (fun ws H locs hmk hP hD hS => ?_)
  obtain ⟨r1, r2, r3, r4, r5, r6, r7, r8, r9, r10, r11, r12, rfl⟩ := hmk
  refine lv_astore_n (lv' := [(2, .ref qM), (1, .ref qS), (0, .ref b)]) hx hb dL_law_15 rfl hl (by decide) rfl (fun ls hl => ?_)
  refine lv_iconst (v := 0) hx hb dL_law_16 (by decide) ?_
  refine lv_istore_n (lv' := [(3, .int 0), (2, .ref qM), (1, .ref qS), (0, .ref b)]) hx hb dL_law_17 rfl hl (by decide) rfl (fun ls hl => ?_)
  refine W.widen (k := 47) (n := 1498) (Nat.le_of_ble_eq_true rfl) (Nat.le_of_ble_eq_true rfl) ?_
  obtain ⟨Q, hQ⟩ : ∃ Q : Nat → Nat, Q = fun i => ([qS, q1, q2, q3, q4, q5, q6, q7, q8, q9, q10, q11, q12, q13, q14, q15, q16, q17, q18, q19, q20, q21, q22, q23, q24, q25, q26, q27, q28, q29, q30, q31, q32, q33, qM, r1, r2, r3, r4, r5, r6, r7, r8, r9, r10, r11, r12] : List Nat).getD i 0 := ⟨_, rfl⟩
  have hl' : lv_has ls 4 (lawL b (Q 0) (Q 34) 0) := by
    subst hQ
    exact lv_sub hl [3, 2, 1, 0] rfl
  have hI : Inv E Q (AA s) H := by
    subst hQ
    exact ⟨0, 0, 0, 0, 0, 0, 0, 0, 0, 0, 0, 0, 0, 0, 0, 0, 0, 0, 0, 0, 0, 0, (fun _ => 0), (fun _ => 0), (fun _ => 0), (fun _ => 0), (fun _ => 0), (fun _ => 0), (fun _ => 0), (fun _ => 0), (fun _ => 0), (fun _ => 0), (fun _ => 0), (fun _ => 0), (fun _ => 0), (fun _ => 0), (fun _ => 0), (fun _ => 0), (fun _ => 0), (fun _ => 0), (fun _ => 0), (fun _ => 0), (fun _ => 0), (fun _ => 0), (fun _ => 0), (fun _ => 0), (fun _ => 0), (fun _ => 0), (fun _ => 0), (fun _ => 0), (fun _ => 0), (fun _ => 0), (fun _ => 0), (fun _ => 0), (fun _ => 0), (fun _ => 0), rel_0, hP, hD⟩
  exact law_loop ⟨C, hK, hT, hX, hbl, hL⟩ L 0 H _ ls (by omega) (Nat.zero_le _) hI hS hl'
