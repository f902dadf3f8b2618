-- ===== FORMS: trodden once more =====
theorem dep12_lt (f i : Nat) : dep 12 f i < 4096 := dep_lt 12 f i
theorem dsz12_le (f : Nat) : dsz 12 f ≤ 4096 := dsz_le 12 f
theorem nextPart_ok {f i : Nat} (hf : f < 4096) (hi : i < dsz 12 f) : f_Forms_nextPart (nI (dep 12 f i)) (nI f) = some (nI (if i + 1 < dsz 12 f then dep 12 f (i + 1) else 0)) := by
  rw [f_Forms_nextPart, sub_and_nI (dep12_lt f i) hf, ← dep_next 12 f i hf hi]
/-- r is the least of m and what the parts from i on offer -/
def mnP (ok : Nat → Bool) (f i m r : Nat) : Prop := r ≤ m ∧ (r = m ∨ ∃ j, i ≤ j ∧ j < dsz 12 f ∧ ok (dep 12 f j) = true ∧ popN (dep 12 f j) = r) ∧ ∀ j, i ≤ j → j < dsz 12 f → ok (dep 12 f j) = true → r ≤ popN (dep 12 f j)
theorem mnP_step {ok : Nat → Bool} {f i m m' r : Nat} (hi : i < dsz 12 f) (hm : m' = if popN (dep 12 f i) < m ∧ ok (dep 12 f i) = true then popN (dep 12 f i) else m) (h : mnP ok f (i + 1) m' r) : mnP ok f i m r := by
  obtain ⟨h1, h2, h3⟩ := h
  by_cases hc : popN (dep 12 f i) < m ∧ ok (dep 12 f i) = true
  · rw [if_pos hc] at hm
    subst hm
    refine ⟨by omega, ?_, ?_⟩
    · rcases h2 with h2 | ⟨j, a, b⟩
      · exact Or.inr ⟨i, Nat.le_refl i, hi, hc.2, h2.symm⟩
      · exact Or.inr ⟨j, by omega, b⟩
    · intro j a b d
      rcases Nat.lt_or_ge i j with q | q
      · exact h3 j q b d
      · obtain rfl : j = i := by omega
        exact h1
  · rw [if_neg hc] at hm
    subst hm
    refine ⟨h1, ?_, ?_⟩
    · rcases h2 with h2 | ⟨j, a, b⟩
      · exact Or.inl h2
      · exact Or.inr ⟨j, by omega, b⟩
    · intro j a b d
      rcases Nat.lt_or_ge i j with q | q
      · exact h3 j q b d
      · obtain rfl : j = i := by omega
        have : ¬ popN (dep 12 f j) < m' := fun z => hc ⟨z, d⟩
        omega
theorem mnP_end {ok : Nat → Bool} {f m m' i : Nat} (hi : i < dsz 12 f) (he : ¬ i + 1 < dsz 12 f) (hm : m' = if popN (dep 12 f i) < m ∧ ok (dep 12 f i) = true then popN (dep 12 f i) else m) : mnP ok f i m m' :=
  mnP_step hi hm ⟨Nat.le_refl _, Or.inl rfl, fun j a b => by omega⟩
theorem fc_b44 {f i m : Nat} (hf : f < 4096) (hi : i < dsz 12 f) (k15 : Int32 → Int32 → Int32 → Int32 → Option Int32) (v1 v4 : Int32) : f_Forms_fewestToClose_b44 k15 (nI f) v1 (nI m) (nI (dep 12 f i)) v4 = if i + 1 < dsz 12 f then k15 v1 (nI m) (nI (dep 12 f (i + 1))) (v4 + 1) else some (nI m) := by
  rw [f_Forms_fewestToClose_b44, nextPart_ok hf hi, sm_some]
  by_cases hc : i + 1 < dsz 12 f
  · have h1 := dep_pos 12 f (i + 1) (by omega) hc
    have h2 := dep12_lt f (i + 1)
    rw [if_pos hc, if_pos hc, if_neg (show ¬ nI (dep 12 f (i + 1)) = (0 : Int32) from nI_ne0 h1 (by omega))]
  · rw [if_neg hc, if_neg hc, if_pos (show nI 0 = (0 : Int32) from rfl)]
theorem fc_loop {f u : Nat} (hf : f < 4096) (hu : u < 512) : ∀ (j i m fuel : Nat), i + j = dsz 12 f → 0 < j → m ≤ 12 → j < fuel → ∃ r, f_Forms_fewestToClose_b15 (nI f) fuel (nI u) (nI m) (nI (dep 12 f i)) (nI i) = some (nI r) ∧ mnP (fun s => Nat.beq (oddN s) u) f i m r := by
  intro j
  induction j with
  | zero => intro i m fuel _ h; omega
  | succ j ih =>
    intro i m fuel h1 _ hm h2
    obtain ⟨n, rfl⟩ : ∃ n, fuel = n + 1 := ⟨fuel - 1, by omega⟩
    have hs := dsz12_le f
    have hd := dep12_lt f i
    have hpop := popN_le (dep 12 f i)
    have hod := oddN_lt (dep 12 f i)
    obtain ⟨m', hm'⟩ : ∃ m', m' = if popN (dep 12 f i) < m ∧ Nat.beq (oddN (dep 12 f i)) u = true then popN (dep 12 f i) else m := ⟨_, rfl⟩
    have hm2 : m' ≤ 12 := by rw [hm']; split <;> omega
    have key : f_Forms_fewestToClose_b15 (nI f) (n + 1) (nI u) (nI m) (nI (dep 12 f i)) (nI i) = f_Forms_fewestToClose_b44 (f_Forms_fewestToClose_b15 (nI f) n) (nI f) (nI u) (nI m') (nI (dep 12 f i)) (nI i) := by
      rw [f_Forms_fewestToClose_b15, if_neg (show ¬ (4095 : Int32) < nI i from nnlt i 4095 (by omega) (by decide)), bitCount_ok hd, sm_some]
      by_cases hc1 : popN (dep 12 f i) < m
      · rw [if_neg (nge _ m hc1 (by omega)), oddPoints_ok (by omega), sm_some]
        by_cases hc2 : oddN (dep 12 f i) = u
        · rw [if_pos (by rw [hc2]), sm_some, hm', if_pos ⟨hc1, by rw [hc2]; exact Nat.beq_refl u⟩]
        · rw [if_neg (fun z => hc2 ((nI_eq (by omega) (by omega)).mp z)), hm', if_neg (fun z => hc2 (Nat.eq_of_beq_eq_true z.2))]
      · rw [if_pos (nles m _ (by omega) (by omega)), hm', if_neg (fun z => hc1 z.1)]
    rw [key, fc_b44 hf (by omega)]
    by_cases hc : i + 1 < dsz 12 f
    · rw [if_pos hc, nI_1]
      obtain ⟨r, e1, e2⟩ := ih (i + 1) m' n (by omega) (by omega) hm2 (by omega)
      exact ⟨r, e1, mnP_step (by omega) hm' e2⟩
    · rw [if_neg hc]
      exact ⟨m', rfl, mnP_end (by omega) hc hm'⟩
theorem ag_loop (d : Nat → Int32) {f u : Nat} (hf : f < 4096) (hu : u < 512) : ∀ (i m fuel : Nat), i < dsz 12 f → m ≤ 12 → i < fuel → ∃ r, f_M_again_b38 (nI f) fuel d (nI u) (nI m) (nI (dep 12 f i)) = some (if u = 0 then 0 else nI r, d) ∧ r ≤ m ∧ (r = m ∨ ∃ j, 1 ≤ j ∧ j ≤ i ∧ oddN (dep 12 f j) = u ∧ popN (dep 12 f j) = r) ∧ ∀ j, 1 ≤ j → j ≤ i → oddN (dep 12 f j) = u → r ≤ popN (dep 12 f j) := by
  intro i
  induction i with
  | zero =>
    intro m fuel _ hm h2
    obtain ⟨n, rfl⟩ : ∃ n, fuel = n + 1 := ⟨fuel - 1, by omega⟩
    refine ⟨m, ?_, Nat.le_refl m, Or.inl rfl, fun j a b => by omega⟩
    rw [dep_0, f_M_again_b38, if_pos (show nI 0 ≤ (0 : Int32) by decide)]
    by_cases hu0 : u = 0
    · subst hu0
      rw [if_pos (show nI 0 = (0 : Int32) from rfl), if_pos rfl]
    · rw [if_neg (show ¬ nI u = (0 : Int32) from nI_ne0 (by omega) (by omega)), if_neg hu0]
  | succ i ih =>
    intro m fuel hi hm h2
    obtain ⟨n, rfl⟩ : ∃ n, fuel = n + 1 := ⟨fuel - 1, by omega⟩
    have hd := dep12_lt f (i + 1)
    have hp := dep_pos 12 f (i + 1) (by omega) hi
    have hpop := popN_le (dep 12 f (i + 1))
    have hod := oddN_lt (dep 12 f (i + 1))
    have hprev := dep_prev 12 f i hf hi
    obtain ⟨m', hm'⟩ : ∃ m', m' = if popN (dep 12 f (i + 1)) < m ∧ oddN (dep 12 f (i + 1)) = u then popN (dep 12 f (i + 1)) else m := ⟨_, rfl⟩
    have hm2 : m' ≤ 12 := by rw [hm']; split <;> omega
    have hnext : ∀ v3 : Int32, f_M_again_b67 (f_M_again_b38 (nI f) n) (nI f) d (nI u) v3 (nI (dep 12 f (i + 1))) = f_M_again_b38 (nI f) n d (nI u) v3 (nI (dep 12 f i)) := by
      intro v3
      rw [f_M_again_b67]
      have e : (nI (dep 12 f (i + 1)) - (1 : Int32)) &&& nI f = nI (dep 12 f i) := by
        rw [show (1 : Int32) = nI 1 from rfl, pk_sub (by omega), fa_and, hprev]
      rw [e]
    have key : f_M_again_b38 (nI f) (n + 1) d (nI u) (nI m) (nI (dep 12 f (i + 1))) = f_M_again_b38 (nI f) n d (nI u) (nI m') (nI (dep 12 f i)) := by
      rw [f_M_again_b38, if_neg (show ¬ nI (dep 12 f (i + 1)) ≤ (0 : Int32) from nI_nle hp (by omega)), Mones_ok hd, sm_some]
      by_cases hc1 : popN (dep 12 f (i + 1)) < m
      · rw [if_neg (nge _ m hc1 (by omega)), Modds_ok, sm_some, odds_eq]
        by_cases hc2 : oddN (dep 12 f (i + 1)) = u
        · rw [if_pos (by rw [hc2]), sm_some, hnext, hm', if_pos ⟨hc1, hc2⟩]
        · rw [if_neg (fun z => hc2 ((nI_eq (by omega) (by omega)).mp z)), hnext, hm', if_neg (fun z => hc2 z.2)]
      · rw [if_pos (nles m _ (by omega) (by omega)), hnext, hm', if_neg (fun z => hc1 z.1)]
    obtain ⟨r, e1, e2, e3, e4⟩ := ih m' n (by omega) hm2 (by omega)
    refine ⟨r, by rw [key]; exact e1, ?_, ?_, ?_⟩
    · have : m' ≤ m := by rw [hm']; split <;> omega
      omega
    · rcases e3 with e3 | ⟨j, a, b, c'⟩
      · by_cases hc : popN (dep 12 f (i + 1)) < m ∧ oddN (dep 12 f (i + 1)) = u
        · rw [if_pos hc] at hm'
          exact Or.inr ⟨i + 1, by omega, Nat.le_refl _, hc.2, by omega⟩
        · rw [if_neg hc] at hm'
          exact Or.inl (by omega)
      · exact Or.inr ⟨j, a, by omega, c'⟩
    · intro j a b c'
      rcases Nat.lt_or_ge i j with q | q
      · obtain rfl : j = i + 1 := by omega
        by_cases hc : popN (dep 12 f (i + 1)) < m
        · rw [if_pos ⟨hc, c'⟩] at hm'
          omega
        · rw [if_neg (fun z => hc z.1)] at hm'
          omega
      · exact e4 j a q c'
theorem case_again {c d : Nat → Int32} (h : rF c d) (a : Int32) : ∃ r c' d', f_S_again c a = some (r, c') ∧ f_M_again d a = some (r, d') ∧ rF c' d' := by
  rcases rng a 4095 (by decide) with ⟨f, hf, rfl⟩ | hn
  · have hlen := pcX_len 12 f
    by_cases hp : (pcX 12 f).length ≤ 1
    · have hpos := dsz_pos 12 f
      have hle := dsz12_le f
      have hpop := popN_le f
      have hod := oddN_lt f
      have hlast := dep_last 12 f (show f < 4096 by omega)
      obtain ⟨r1, e1, a1, a2, a3⟩ := fc_loop (f := f) (u := oddN f) (by omega) hod (dsz 12 f) 0 (popN f) 5000 (by omega) hpos hpop (by omega)
      obtain ⟨r2, e2, b1, b2, b3⟩ := ag_loop d (f := f) (u := oddN f) (by omega) hod (dsz 12 f - 1) 12 5000 (by omega) (by omega) (by omega)
      rw [hlast] at e2
      have hm : f_M_again d (nI f) = some (if oddN f = 0 then 0 else nI r2, d) := by
        rw [f_M_again, MisForm_yes hf, sm_some, if_neg (by decide), MpiecesOf_ok (by omega), sm_some, if_pos (show nI (pcX 12 f).length ≤ (1 : Int32) from nles _ 1 hp (by decide)), Modds_ok, sm_some, odds_eq]
        exact e2
      have hs : f_S_again c (nI f) = some (nI r1, c) := by
        rw [f_S_again, isForm_yes hf, sm_some, if_neg (by decide), countPieces_ok (by omega), sm_some, if_pos (show nI (pcX 12 f).length ≤ (1 : Int32) from nles _ 1 hp (by decide)), f_Forms_fewestToClose, oddPoints_ok (by omega), sm_some, bitCount_ok (by omega), sm_some]
        rw [dep_0] at e1
        rw [show (0 : Int32) = nI 0 from rfl, e1, sm_some]
      have hr : (if oddN f = 0 then (0 : Int32) else nI r2) = nI r1 := by
        by_cases h0 : oddN f = 0
        · rw [if_pos h0]
          have := a3 0 (Nat.le_refl 0) hpos (by show Nat.beq (oddN (dep 12 f 0)) (oddN f) = true; rw [dep_0, h0]; rfl)
          rw [dep_0] at this
          have hz : popN 0 = 0 := rfl
          obtain rfl : r1 = 0 := by omega
          rfl
        · rw [if_neg h0]
          have hf0 : f ≠ 0 := by
            rintro rfl
            exact h0 rfl
          have hd1 : 1 ≤ dsz 12 f - 1 := by
            rcases Nat.lt_or_ge 1 (dsz 12 f) with q | q
            · omega
            · have : dsz 12 f - 1 = 0 := by omega
              rw [this, dep_0] at hlast
              exact absurd hlast.symm hf0
          have le1 : r1 ≤ r2 := by
            rcases b2 with b2 | ⟨j, c1, c2, c3, c4⟩
            · omega
            · have := a3 j (Nat.zero_le j) (by omega) (by show Nat.beq (oddN (dep 12 f j)) (oddN f) = true; rw [c3]; exact Nat.beq_refl _)
              omega
          have le2 : r2 ≤ r1 := by
            rcases a2 with a2 | ⟨j, c1, c2, c3, c4⟩
            · have := b3 (dsz 12 f - 1) hd1 (Nat.le_refl _) (by rw [hlast])
              rw [hlast] at this
              omega
            · have c3' : oddN (dep 12 f j) = oddN f := Nat.eq_of_beq_eq_true c3
              have hj : 1 ≤ j := by
                rcases Nat.eq_zero_or_pos j with q | q
                · subst q
                  rw [dep_0] at c3'
                  exact absurd c3'.symm h0
                · exact q
              have := b3 j hj (by omega) c3'
              omega
          rw [show r2 = r1 by omega]
      exact ⟨nI r1, c, d, hs, by rw [hm, hr], h⟩
    · refine ⟨-1000000004, _, _, ?_, ?_, h.fin (k := 3) (by decide)⟩
      · rw [f_S_again, isForm_yes hf, sm_some, if_neg (by decide), countPieces_ok (by omega), sm_some, if_neg (show ¬ nI (pcX 12 f).length ≤ (1 : Int32) from nge 1 _ (by omega) (by omega)), fnd3, sm_some]
      · rw [f_M_again, MisForm_yes hf, sm_some, if_neg (by decide), MpiecesOf_ok (by omega), sm_some, if_neg (show ¬ nI (pcX 12 f).length ≤ (1 : Int32) from nge 1 _ (by omega) (by omega)), mno3, sm_some]
  · refine ⟨-1000000001, _, _, ?_, ?_, h.fin (k := 0) (by decide)⟩
    · rw [f_S_again, isForm_no hn, sm_some, if_pos rfl, fnd0, sm_some]
    · rw [f_M_again, MisForm_no hn, sm_some, if_pos rfl, mno0, sm_some]
