-- ===== LETTERS IN TIME 2 =====
section LET4
variable {B K F D : Nat → Nat} {N H S : Nat} {bf kd fm dp s c d : Nat → Int32} {n hr sn : Int32}
theorem hr_add {H j : Nat} : nI H + nI j = nI (H + j) := nI_add H j
def chN (K F D : Nat → Nat) (S h h' : Nat) : Nat → Nat
  | 0 => 0
  | l + 1 => chN K F D S h h' l + if SHN (K l) (F l) (D l) S h = SHN (K l) (F l) (D l) S h' then 0 else 1
theorem SHN_eq (l1 : okL K F D) {l : Nat} (hl : l < 12) (h h' : Nat) : nI (SHN (K l) (F l) (D l) S h) = nI (SHN (K l) (F l) (D l) S h') ↔ SHN (K l) (F l) (D l) S h = SHN (K l) (F l) (D l) S h' := by
  have q1 := @SHN_lt (K l) (F l) (D l) S h (l1 l hl).2.1
  have q2 := @SHN_lt (K l) (F l) (D l) S h' (l1 l hl).2.1
  exact nI_eq (by omega) (by omega)
theorem cc_loop (l1 : rL K F D kd fm dp s) (l2 : okL K F D) (hN : N ≤ 12) (hH : H < 2147483648) {H' : Nat} (hH' : H' < 2147483648) : ∀ (j k fuel : Nat), k + j = N → j < fuel → f_Plain_countChanged_b4 (nI N) (nI H) (nI S) dp fm kd (nI H') fuel (nI (chN K F D S H H' k)) (nI k) = some (nI (chN K F D S H H' N)) := by
  intro j
  induction j with
  | zero =>
    intro k fuel h1 h2
    obtain ⟨n, rfl⟩ : ∃ n, fuel = n + 1 := ⟨fuel - 1, by omega⟩
    obtain rfl : k = N := by omega
    rw [f_Plain_countChanged_b4, if_pos (nles k k (by omega) (by omega))]
  | succ j ih =>
    intro k fuel h1 h2
    obtain ⟨n, rfl⟩ : ∃ n, fuel = n + 1 := ⟨fuel - 1, by omega⟩
    have step := ih (k + 1) n (by omega) (by omega)
    have he := SHN_eq (S := S) l2 (show k < 12 by omega) H H'
    rw [f_Plain_countChanged_b4, if_neg (nge k N (by omega) (by omega)), shownAt_ok l1 l2 S (by omega) hH, sm_some, shownAt_ok l1 l2 S (by omega) hH', sm_some, nI_1]
    rw [chN] at step
    by_cases hc : SHN (K k) (F k) (D k) S H = SHN (K k) (F k) (D k) S H'
    · rw [if_pos hc] at step
      rw [if_pos (he.mpr hc)]
      exact step
    · rw [if_neg hc] at step
      rw [if_neg (fun z => hc (he.mp z)), nI_1]
      exact step
theorem mh1_loop (l1 : rL K F D kd fm dp s) (l2 : okL K F D) (hN : N ≤ 12) (hH : H ≤ 999) (n2 : s 2 = nI N) (h2 : s 0 = nI H) (s2 : s 1 = nI S) (a : Int32) : ∀ (j k fuel : Nat) (sh : Nat → Int32), k + j = N → j < fuel → (∀ l, l < k → sh l = nI (SHN (K l) (F l) (D l) S H)) → ∃ sh', f_M_hours_b38 a fuel d s sh (nI k) = f_M_hours_b79 a 5000 d (upd s 0 (nI H + a)) sh' 0 0 ∧ ∀ l, l < N → sh' l = nI (SHN (K l) (F l) (D l) S H) := by
  intro j
  induction j with
  | zero =>
    intro k fuel sh h1 h2' h3
    obtain ⟨n, rfl⟩ : ∃ n, fuel = n + 1 := ⟨fuel - 1, by omega⟩
    obtain rfl : k = N := by omega
    refine ⟨sh, ?_, h3⟩
    rw [f_M_hours_b38, rs2, sm_some, n2, if_pos (nles k k (by omega) (by omega)), rs0, sm_some, h2, wr0, sm_some]
  | succ j ih =>
    intro k fuel sh h1 h2' h3
    obtain ⟨n, rfl⟩ : ∃ n, fuel = n + 1 := ⟨fuel - 1, by omega⟩
    obtain ⟨sh', e1, e2⟩ := ih (k + 1) n (upd sh k (nI (SHN (K k) (F k) (D k) S H))) (by omega) (by omega) (by
      intro l hl
      by_cases e : l = k
      · subst e; rw [upd_at]
      · rw [upd_ne _ _ e]; exact h3 l (by omega))
    refine ⟨sh', ?_, e2⟩
    rw [f_M_hours_b38, rs2, sm_some, n2, if_neg (nge k N (by omega) (by omega)), Mshows_ok l1 l2 (by omega) h2 (by omega) s2, sm_some, wr_nI (by omega) (by decide), sm_some, nI_1]
    exact e1
theorem mh2_loop (l1 : rL K F D kd fm dp s) (l2 : okL K F D) (hN : N ≤ 12) {H' : Nat} (hH' : H' ≤ 999) (n2 : s 2 = nI N) (h2 : s 0 = nI H') (s2 : s 1 = nI S) (a : Int32) {sh : Nat → Int32} (hsh : ∀ l, l < N → sh l = nI (SHN (K l) (F l) (D l) S H)) : ∀ (j k fuel : Nat), k + j = N → j < fuel → f_M_hours_b79 a fuel d s sh (nI (chN K F D S H H' k)) (nI k) = some (nI (chN K F D S H H' N), d, s, sh) := by
  intro j
  induction j with
  | zero =>
    intro k fuel h1 h2'
    obtain ⟨n, rfl⟩ : ∃ n, fuel = n + 1 := ⟨fuel - 1, by omega⟩
    obtain rfl : k = N := by omega
    rw [f_M_hours_b79, rs2, sm_some, n2, if_pos (nles k k (by omega) (by omega))]
  | succ j ih =>
    intro k fuel h1 h2'
    obtain ⟨n, rfl⟩ : ∃ n, fuel = n + 1 := ⟨fuel - 1, by omega⟩
    have step := ih (k + 1) n (by omega) (by omega)
    have he := SHN_eq (S := S) l2 (show k < 12 by omega) H' H
    rw [f_M_hours_b79, rs2, sm_some, n2, if_neg (nge k N (by omega) (by omega)), Mshows_ok l1 l2 (by omega) h2 (by omega) s2, sm_some, rd_nI (by omega) (by decide), sm_some, hsh k (by omega)]
    rw [chN] at step
    by_cases hc : SHN (K k) (F k) (D k) S H = SHN (K k) (F k) (D k) S H'
    · rw [if_pos hc] at step
      rw [if_pos (he.mpr hc.symm), f_M_hours_b109, nI_1, show (0 : Int32) = nI 0 from rfl, nI_add]
      exact step
    · rw [if_neg hc] at step
      rw [if_neg (fun z => hc (he.mp z).symm), f_M_hours_b109, nI_1, nI_1]
      exact step
theorem case_hours (hF : rF c d) (h : rPl B K F D N H S bf kd fm dp n hr sn s) (sh : Nat → Int32) (a : Int32) : ∃ r c' d' H' hr' s' sh', f_S_hours c n hr sn dp fm kd a = some (r, c', hr') ∧ f_M_hours d s sh a = some (r, d', s', sh') ∧ rF c' d' ∧ rPl B K F D N H' S bf kd fm dp n hr' sn s' := by
  have h' := h
  obtain ⟨⟨b1, b2, b3⟩, ⟨l1, l2⟩, ⟨n1, n2, n3⟩, ⟨h1, h2, h3⟩, ⟨s1, s2, s3⟩⟩ := h
  by_cases ha1 : a < 1
  · refine ⟨-1000000001, _, _, H, hr, s, sh, ?_, ?_, hF.fin (k := 0) (by decide), h'⟩
    · rw [f_S_hours, if_pos ha1, f_S_hours_b11, fnd0, sm_some]
    · rw [f_M_hours, Min_no (Or.inl ha1), sm_some, if_pos rfl, mno0, sm_some]
  · have ha0 : ¬ a < 0 := fun z => ha1 (by
      rw [fa_lt] at z ⊢
      have e1 : (1 : Int32).toInt = 1 := by decide
      have e2 : (0 : Int32).toInt = 0 := by decide
      omega)
    obtain ⟨j, hj, rfl⟩ := nI_of ha0
    rcases Nat.lt_or_ge 99 j with q | q
    · refine ⟨-1000000001, _, _, H, hr, s, sh, ?_, ?_, hF.fin (k := 0) (by decide), h'⟩
      · rw [f_S_hours, if_neg ha1, if_neg (show ¬ nI j ≤ (99 : Int32) from nge 99 j q hj), f_S_hours_b11, fnd0, sm_some]
      · rw [f_M_hours, Min_no (Or.inr (show (99 : Int32) < nI j from nlts 99 j q hj)), sm_some, if_pos rfl, mno0, sm_some]
    · have q1 : nI j ≤ (99 : Int32) := nles j 99 q (by decide)
      have qm : f_M_in (nI j) 1 99 = some 1 := Min_yes ha1 (show ¬ (99 : Int32) < nI j from nnlt j 99 q (by decide))
      rcases Nat.lt_or_ge 999 (H + j) with q2 | q2
      · refine ⟨-1000000005, _, _, H, hr, s, sh, ?_, ?_, hF.fin (k := 4) (by decide), h'⟩
        · rw [f_S_hours, if_neg ha1, if_pos q1, h1, nI_add, if_neg (show ¬ nI (H + j) ≤ (999 : Int32) from nge 999 _ q2 (by omega)), fnd4, sm_some]
        · rw [f_M_hours, qm, sm_some, if_neg (by decide), rs0, sm_some, h2, nI_add, if_neg (show ¬ nI (H + j) ≤ (999 : Int32) from nge 999 _ q2 (by omega)), mno4, sm_some]
      · have hR := rPl_H h' q2
        obtain ⟨-, ⟨l1', -⟩, ⟨-, n2', -⟩, ⟨-, h2', -⟩, ⟨-, s2', -⟩⟩ := hR
        obtain ⟨sh', e1, e2⟩ := mh1_loop (d := d) l1 l2 n3 h3 n2 h2 s2 (nI j) N 0 5000 sh (by omega) (by omega) (fun l hl => by omega)
        rw [nI_add] at e1
        have e3 := mh2_loop (d := d) (H := H) l1' l2 n3 q2 n2' h2' s2' (nI j) e2 N 0 5000 (by omega) (by omega)
        refine ⟨nI (chN K F D S H (H + j) N), c, d, H + j, nI (H + j), _, sh', ?_, ?_, hF, rPl_H h' q2⟩
        · rw [f_S_hours, if_neg ha1, if_pos q1, h1, nI_add, if_pos (show nI (H + j) ≤ (999 : Int32) from nles _ 999 q2 (by decide)), f_Plain_countChanged, n1, s1]
          rw [show f_Plain_countChanged_b4 (nI N) (nI H) (nI S) dp fm kd (nI (H + j)) 5000 0 0 = some (nI (chN K F D S H (H + j) N)) from cc_loop l1 l2 n3 (by omega) (by omega) N 0 5000 (by omega) (by omega), sm_some]
        · rw [f_M_hours, qm, sm_some, if_neg (by decide), rs0, sm_some, h2, nI_add, if_pos (show nI (H + j) ≤ (999 : Int32) from nles _ 999 q2 (by decide))]
          exact e1.trans e3
end LET4
