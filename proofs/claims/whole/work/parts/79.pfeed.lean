-- ===== FEED =====
section FE
variable {c d : Nat → Int32}
theorem feed_loop (a a2 : Int32) : ∀ (k T fuel fuel2 : Nat) (bs tp : Nat → Int32), rTp T bs tp → T + k ≤ 120 → k < fuel → k < fuel2 → ∃ bs' tp', f_Tape_append_b4 a a2 fuel (nI T) bs (dwn k) = some (nI (T + k), bs') ∧ f_M_feed_b36 a a2 fuel2 (nI T) d tp (dwn k) = some (nI (T + k), nI (T + k), d, tp') ∧ rTp (T + k) bs' tp' := by
  intro k
  induction k with
  | zero =>
    intro T fuel fuel2 bs tp h h1 h2 h3
    obtain ⟨n, rfl⟩ : ∃ n, fuel = n + 1 := ⟨fuel - 1, by omega⟩
    obtain ⟨m, rfl⟩ : ∃ n, fuel2 = n + 1 := ⟨fuel2 - 1, by omega⟩
    exact ⟨bs, tp, by rw [f_Tape_append_b4, if_pos (by decide)]; rfl, by rw [f_M_feed_b36, if_pos (by decide)]; rfl, h⟩
  | succ k ih =>
    intro T fuel fuel2 bs tp h h1 h2 h3
    obtain ⟨n, rfl⟩ : ∃ n, fuel = n + 1 := ⟨fuel - 1, by omega⟩
    obtain ⟨m, rfl⟩ : ∃ n, fuel2 = n + 1 := ⟨fuel2 - 1, by omega⟩
    have hx := byte_and (a >>> (((8 : Int32) * nI k) &&& 31))
    obtain ⟨b, hb, eb⟩ := low_byte (a >>> (((8 : Int32) * nI k) &&& 31))
    obtain ⟨bs', tp', e1, e2, e3⟩ := ih (T + 1) n m (upd bs T (a >>> (((8 : Int32) * nI k) &&& 31)).toInt8.toInt32) (upd tp T (a >>> (((8 : Int32) * nI k) &&& 31) &&& 255)) (by
      refine ⟨by omega, fun i hi => ?_⟩
      by_cases e : i = T
      · subst e
        rw [upd_at, upd_at]
        exact ⟨hx, b, hb, eb⟩
      · rw [upd_ne _ _ e, upd_ne _ _ e]
        exact h.2 i (by omega)) (by omega) (by omega) (by omega)
    rw [show T + 1 + k = T + (k + 1) by omega] at e1 e2 e3
    refine ⟨bs', tp', ?_, ?_, e3⟩
    · rw [dwn, f_Tape_append_b4, if_neg (nI_pos (by omega)), if_neg (show ¬ (120 : Int32) ≤ nI T from nge T 120 (by omega) (by decide)), wrB_nI (by omega) (by decide), sm_some, vp_nar_byte, fb_byte_twice, nI_1, dwn_1]
      exact e1
    · rw [dwn, f_M_feed_b36, if_neg (nI_pos (by omega)), wr_nI (by omega) (by decide), sm_some, nI_1, dwn_1]
      exact e2
theorem case_feed (hF : rF c d) {T : Nat} {bs tp : Nat → Int32} (h : rTp T bs tp) (a b : Int32) : ∃ r c' d' T' bs' tp', f_S_feed c (nI T) bs a b = some (r, c', nI T', bs') ∧ f_M_feed (nI T) d tp a b = some (r, nI T', d', tp') ∧ rF c' d' ∧ rTp T' bs' tp' := by
  have hT := h.1
  by_cases hb1 : b < 1
  · refine ⟨-1000000001, _, _, T, bs, tp, ?_, ?_, hF.fin (k := 0) (by decide), h⟩
    · rw [f_S_feed, if_pos hb1, f_S_feed_b10, fnd0, sm_some]
    · rw [f_M_feed, Min_no (Or.inl hb1), sm_some, if_pos rfl, mno0, sm_some]
  · have hb0 : ¬ b < 0 := fun z => hb1 (by
      rw [fa_lt] at z ⊢
      have e1 : (1 : Int32).toInt = 1 := by decide
      have e2 : (0 : Int32).toInt = 0 := by decide
      omega)
    obtain ⟨j, hj, rfl⟩ := nI_of hb0
    have hj0 : j ≠ 0 := by
      rintro rfl
      exact hb1 (by decide)
    rcases Nat.lt_or_ge 4 j with q | q
    · refine ⟨-1000000001, _, _, T, bs, tp, ?_, ?_, hF.fin (k := 0) (by decide), h⟩
      · rw [f_S_feed, if_neg hb1, if_neg (show ¬ nI j ≤ (4 : Int32) from nge 4 j q hj), f_S_feed_b10, fnd0, sm_some]
      · rw [f_M_feed, Min_no (Or.inr (show (4 : Int32) < nI j from nlts 4 j q hj)), sm_some, if_pos rfl, mno0, sm_some]
    · have q1 : nI j ≤ (4 : Int32) := nles j 4 q (by decide)
      have qm : f_M_in (nI j) 1 4 = some 1 := Min_yes hb1 (show ¬ (4 : Int32) < nI j from nnlt j 4 q (by decide))
      have er : (120 : Int32) - nI T = nI (120 - T) := pk_sub (a := 120) hT
      rcases Nat.lt_or_ge (120 - T) j with q2 | q2
      · refine ⟨-1000000002, _, _, T, bs, tp, ?_, ?_, hF.fin (k := 1) (by decide), h⟩
        · rw [f_S_feed, if_neg hb1, if_pos q1, f_Tape_hasRoomFor, er, if_pos (nlts _ _ q2 (by omega)), sm_some, if_pos rfl, fnd1, sm_some]
        · rw [f_M_feed, qm, sm_some, if_neg (by decide), nI_add, if_neg (show ¬ nI (T + j) ≤ (120 : Int32) from nge 120 _ (by omega) (by omega)), mno1, sm_some]
      · obtain ⟨bs', tp', e1, e2, e3⟩ := feed_loop (d := d) a (nI j) j T 5000 5000 bs tp h (by omega) (by omega) (by omega)
        have ed : nI j - (1 : Int32) = dwn j := by
          obtain ⟨k, rfl⟩ : ∃ k, j = k + 1 := ⟨j - 1, by omega⟩
          rw [nI_pred]; rfl
        refine ⟨nI (T + j), c, d, T + j, bs', tp', ?_, ?_, hF, e3⟩
        · rw [f_S_feed, if_neg hb1, if_pos q1, f_Tape_hasRoomFor, er, if_neg (nnlt _ _ q2 (by omega)), sm_some, if_neg (by decide), f_Tape_append, ed, e1, sm_some]
        · rw [f_M_feed, qm, sm_some, if_neg (by decide), nI_add, if_pos (show nI (T + j) ≤ (120 : Int32) from nles _ 120 (by omega) (by decide)), ed, e2]
end FE
