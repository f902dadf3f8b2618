-- ===== STATUS =====
section ST
variable {c d : Nat → Int32}
theorem stuX_loop : ∀ (j k fuel fuel2 : Nat) (v : Int32), rF c d → k + j = 7 → j < fuel → j < fuel2 → ∃ r, f_S_status_b9 (-1) fuel c v (nI k) = some (r, c) ∧ f_M_status_b20 (-1) fuel2 d v (nI k) = some (r, d) := by
  intro j
  induction j with
  | zero =>
    intro k fuel fuel2 v hF h1 h2 h3
    obtain ⟨n, rfl⟩ : ∃ n, fuel = n + 1 := ⟨fuel - 1, by omega⟩
    obtain ⟨m, rfl⟩ : ∃ n, fuel2 = n + 1 := ⟨fuel2 - 1, by omega⟩
    obtain rfl : k = 7 := by omega
    exact ⟨v, by rw [f_S_status_b9, if_pos (by decide)], by rw [f_M_status_b20, if_pos (by decide)]⟩
  | succ j ih =>
    intro k fuel fuel2 v hF h1 h2 h3
    obtain ⟨n, rfl⟩ : ∃ n, fuel = n + 1 := ⟨fuel - 1, by omega⟩
    obtain ⟨m, rfl⟩ : ∃ n, fuel2 = n + 1 := ⟨fuel2 - 1, by omega⟩
    obtain ⟨r, e1, e2⟩ := ih (k + 1) n m (v + c k) hF (by omega) (by omega) (by omega)
    refine ⟨r, ?_, ?_⟩
    · rw [f_S_status_b9, if_neg (show ¬ (7 : Int32) ≤ nI k from nge k 7 (by omega) (by decide)), rd_nI (by omega) (by decide), sm_some, nI_1]
      exact e1
    · rw [f_M_status_b20, if_neg (show ¬ (7 : Int32) ≤ nI k from nge k 7 (by omega) (by decide)), if_pos rfl, f_M_status_b37, rd_nI (by omega) (by decide), sm_some, f_M_status_b47, nI_1, ← hF k (by omega)]
      exact e2
theorem stuM_loop {w : Nat} (hw : w < 7) : ∀ (j k fuel : Nat) (v : Int32), k + j = 7 → j < fuel → f_M_status_b20 (nI w) fuel d v (nI k) = some (if k ≤ w then v + d w else v, d) := by
  have hm1 : ¬ nI w = (-1 : Int32) := by
    intro z
    have : nI w < 0 := by rw [z]; decide
    exact nI_pos (by omega) this
  intro j
  induction j with
  | zero =>
    intro k fuel v h1 h2
    obtain ⟨n, rfl⟩ : ∃ n, fuel = n + 1 := ⟨fuel - 1, by omega⟩
    obtain rfl : k = 7 := by omega
    rw [f_M_status_b20, if_pos (by decide), if_neg (by omega)]
  | succ j ih =>
    intro k fuel v h1 h2
    obtain ⟨n, rfl⟩ : ∃ n, fuel = n + 1 := ⟨fuel - 1, by omega⟩
    rw [f_M_status_b20, if_neg (show ¬ (7 : Int32) ≤ nI k from nge k 7 (by omega) (by decide)), if_neg hm1]
    by_cases e : w = k
    · subst e
      rw [if_pos rfl, f_M_status_b37, rd_nI (by omega) (by decide), sm_some, f_M_status_b47, nI_1, ih (w + 1) n _ (by omega) (by omega), if_neg (by omega), if_pos (Nat.le_refl w)]
    · rw [if_neg (nI_nq (by omega) (by omega) e), f_M_status_b47, nI_1, Int32.add_zero, ih (k + 1) n _ (by omega) (by omega)]
      by_cases q : k ≤ w
      · rw [if_pos q, if_pos (by omega)]
      · rw [if_neg q, if_neg (by omega)]
theorem case_status (hF : rF c d) (a : Int32) : ∃ r c' d', f_S_status c a = some (r, c') ∧ f_M_status d a = some (r, d') ∧ rF c' d' := by
  by_cases h1 : a = -1
  · subst h1
    obtain ⟨r, e1, e2⟩ := stuX_loop 7 0 5000 5000 0 hF rfl (by decide) (by decide)
    refine ⟨r, c, d, ?_, ?_, hF⟩
    · rw [f_S_status, if_pos rfl]; exact e1
    · rw [f_M_status, show f_M_in (-1) (-1) 6 = some 1 by decide, sm_some, if_neg (by decide)]; exact e2
  · rcases rng a 6 (by decide) with ⟨w, hw, rfl⟩ | hn
    · refine ⟨c w, c, d, ?_, ?_, hF⟩
      · rw [f_S_status, if_neg h1, if_neg (nI_pos (by omega)), if_pos (show nI w < (7 : Int32) from nlts w 7 (by omega) (by decide)), rd_nI (by omega) (by decide), sm_some]
      · have hi : f_M_in (nI w) (-1) 6 = some 1 := Min_yes (fun z => by
          rw [fa_lt, nI_toInt (by omega)] at z
          have e1 : (-1 : Int32).toInt = -1 := by decide
          omega) (show ¬ (6 : Int32) < nI w from nnlt w 6 hw (by decide))
        rw [f_M_status, hi, sm_some, if_neg (by decide)]
        rw [show f_M_status_b20 (nI w) 5000 d 0 0 = _ from stuM_loop (d := d) (show w < 7 by omega) 7 0 5000 0 rfl (by decide), if_pos (Nat.zero_le w), Int32.zero_add, hF w (by omega)]
    · refine ⟨-1000000001, _, _, ?_, ?_, hF.fin (k := 0) (by decide)⟩
      · rw [f_S_status, if_neg h1]
        by_cases h0 : a < 0
        · rw [if_pos h0, f_S_status_b48, fnd0, sm_some]
        · rw [if_neg h0, if_neg, f_S_status_b48, fnd0, sm_some]
          obtain ⟨j, hj, rfl⟩ := nI_of h0
          rcases hn with hn | hn
          · exact absurd hn h0
          · have : 6 < j := by
              rcases Nat.lt_or_ge 6 j with q | q
              · exact q
              · exact absurd hn (nnlt j 6 q (by decide))
            exact (show ¬ nI j < (7 : Int32) from nnlt 7 j (by omega) hj)
      · have hi : f_M_in a (-1) 6 = some 0 := Min_no (by
          rcases hn with hn | hn
          · left
            rw [fa_lt] at hn ⊢
            have e1 : (-1 : Int32).toInt = -1 := by decide
            have e2 : (0 : Int32).toInt = 0 := by decide
            have : a.toInt ≠ -1 := fun z => h1 (Int32.toInt_inj.mp (z.trans e1.symm))
            omega
          · right; exact hn)
        rw [f_M_status, hi, sm_some, if_pos rfl, mno0, sm_some]
end ST
