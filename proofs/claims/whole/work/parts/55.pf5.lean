theorem pcX_len : ∀ (n r : Nat), (pcX n r).length ≤ n := by
  intro n
  induction n with
  | zero => intro r; exact Nat.le_refl _
  | succ n ih =>
    intro r
    rw [pcX]
    cases Nat.beq r 0
    · simpa using ih _
    · simp
/-- lines of a row of pieces -/
def ln1 (p : Nat) : Nat := if 1 < popN (oddN p) / 2 then popN (oddN p) / 2 else 1
def lnS : List Nat → Nat
  | [] => 0
  | p :: l => ln1 p + lnS l
theorem ln1_le (p : Nat) : ln1 p ≤ 12 ∧ 1 ≤ ln1 p := by
  have := popN_le (oddN p)
  unfold ln1
  split <;> omega
theorem lnS_le : ∀ L : List Nat, lnS L ≤ 12 * L.length ∧ L.length ≤ lnS L := by
  intro L
  induction L with
  | nil => exact ⟨Nat.le_refl _, Nat.le_refl _⟩
  | cons p l ih =>
    have := ln1_le p
    simp only [lnS, List.length_cons]
    omega
theorem div2 {a : Nat} (h : a < 2 ^ 31) : nI a / (2 : Int32) = nI (a / 2) := pk_div h (by decide) (by decide)
theorem piX_loop (a0 : Int32) : ∀ (j i c r fuel : Nat), i + j = 12 → r < 4096 → j < fuel → f_Forms_countPieces_b6 a0 fuel (nI c) (nI r) (nI i) = some (nI (c + (pcX j r).length)) := by
  intro j
  induction j with
  | zero =>
    intro i c r fuel h1 hr h2
    obtain ⟨n, rfl⟩ : ∃ n, fuel = n + 1 := ⟨fuel - 1, by omega⟩
    obtain rfl : i = 12 := by omega
    rw [f_Forms_countPieces_b6, if_pos (show (12 : Int32) ≤ nI 12 by decide)]
    rfl
  | succ j ih =>
    intro i c r fuel h1 hr h2
    obtain ⟨n, rfl⟩ : ∃ n, fuel = n + 1 := ⟨fuel - 1, by omega⟩
    rw [f_Forms_countPieces_b6, if_neg (show ¬ (12 : Int32) ≤ nI i from nge i 12 (by omega) (by decide)), pcX]
    by_cases h0 : r = 0
    · subst h0
      rw [if_pos (show nI 0 = (0 : Int32) from rfl)]
      rfl
    · have e0 : Nat.beq r 0 = false := by cases r with
        | zero => exact absurd rfl h0
        | succ r => rfl
      rw [if_neg (show ¬ nI r = (0 : Int32) from nI_ne0 (by omega) (by omega)), firstPiece_ok hr, sm_some, not_nI (by omega), nI_1, nI_1, e0]
      rw [ih (i + 1) (c + 1) _ n (by omega) (Nat.xor_lt_two_pow (n := 12) hr (Nat.lt_of_le_of_lt Nat.and_le_left hr)) (by omega)]
      show some (nI (c + 1 + (pcX j (r ^^^ (r &&& fpN r))).length)) = some (nI (c + (fpN r :: pcX j (r ^^^ (r &&& fpN r))).length))
      rw [List.length_cons, Nat.add_assoc, Nat.add_comm 1]
theorem countPieces_ok {f : Nat} (hf : f < 4096) : f_Forms_countPieces (nI f) = some (nI (pcX 12 f).length) := by
  have h := piX_loop (nI f) 12 0 0 f 5000 rfl hf (by omega)
  rw [Nat.zero_add] at h
  exact h
theorem liX_loop (a0 : Int32) : ∀ (j i c r fuel : Nat), i + j = 12 → r < 4096 → j < fuel → f_Forms_countLines_b6 a0 fuel (nI c) (nI r) (nI i) = some (nI (c + lnS (pcX j r))) := by
  intro j
  induction j with
  | zero =>
    intro i c r fuel h1 hr h2
    obtain ⟨n, rfl⟩ : ∃ n, fuel = n + 1 := ⟨fuel - 1, by omega⟩
    obtain rfl : i = 12 := by omega
    rw [f_Forms_countLines_b6, if_pos (show (12 : Int32) ≤ nI 12 by decide)]
    rfl
  | succ j ih =>
    intro i c r fuel h1 hr h2
    obtain ⟨n, rfl⟩ : ∃ n, fuel = n + 1 := ⟨fuel - 1, by omega⟩
    rw [f_Forms_countLines_b6, if_neg (show ¬ (12 : Int32) ≤ nI i from nge i 12 (by omega) (by decide)), pcX]
    by_cases h0 : r = 0
    · subst h0
      rw [if_pos (show nI 0 = (0 : Int32) from rfl)]
      rfl
    · have e0 : Nat.beq r 0 = false := by cases r with
        | zero => exact absurd rfl h0
        | succ r => rfl
      have hp := popN_le (oddN (fpN r))
      have hfp := fpN_lt hr
      have hod := oddN_lt (fpN r)
      have em : (if (1 : Int32) < nI (popN (oddN (fpN r)) / 2) then nI (popN (oddN (fpN r)) / 2) else (1 : Int32)) = nI (ln1 (fpN r)) := by
        unfold ln1
        by_cases hc : 1 < popN (oddN (fpN r)) / 2
        · rw [if_pos hc, if_pos (show (1 : Int32) < nI (popN (oddN (fpN r)) / 2) from nlts 1 _ hc (by omega))]
        · rw [if_neg hc, if_neg (show ¬ (1 : Int32) < nI (popN (oddN (fpN r)) / 2) from nnlt _ 1 (by omega) (by decide))]
          rfl
      rw [if_neg (show ¬ nI r = (0 : Int32) from nI_ne0 (by omega) (by omega)), firstPiece_ok hr, sm_some, oddPoints_ok (by omega), sm_some, bitCount_ok (by omega), sm_some, kl, div2 (by omega), em, nI_add, not_nI (by omega), nI_1, e0]
      rw [ih (i + 1) _ _ n (by omega) (Nat.xor_lt_two_pow (n := 12) hr (Nat.lt_of_le_of_lt Nat.and_le_left hr)) (by omega)]
      show some (nI (c + ln1 (fpN r) + lnS (pcX j (r ^^^ (r &&& fpN r))))) = some (nI (c + lnS (fpN r :: pcX j (r ^^^ (r &&& fpN r)))))
      rw [lnS, Nat.add_assoc]
theorem countLines_ok {f : Nat} (hf : f < 4096) : f_Forms_countLines (nI f) = some (nI (lnS (pcX 12 f))) := by
  have h := liX_loop (nI f) 12 0 0 f 5000 rfl hf (by omega)
  rw [Nat.zero_add] at h
  exact h
/-- lines and strays of a form -/
def linN (f : Nat) : Nat := lnS (pcX 12 f)
def strN (f : Nat) : Nat := linN f - 1
theorem linN_le (f : Nat) : linN f ≤ 144 := by
  have h1 := lnS_le (pcX 12 f)
  have h2 := pcX_len 12 f
  unfold linN
  omega
theorem pcX_pos {f : Nat} (h0 : f ≠ 0) : 1 ≤ (pcX 12 f).length := by
  have e0 : Nat.beq f 0 = false := by cases f with
    | zero => exact absurd rfl h0
    | succ r => rfl
  rw [pcX, e0]
  show 1 ≤ (fpN f :: _).length
  simp
theorem countStrays_ok {f : Nat} (hf : f < 4096) : f_Forms_countStrays (nI f) = some (nI (strN f)) := by
  have hl := linN_le f
  rw [f_Forms_countStrays, countLines_ok hf, sm_some]
  show some (if (0 : Int32) < nI (linN f) - 1 then nI (linN f) - 1 else (0 : Int32)) = some (nI (linN f - 1))
  cases h : linN f with
  | zero => decide
  | succ n =>
    rw [nI_pred]
    by_cases hn : 0 < n
    · rw [if_pos (show (0 : Int32) < nI n from nlts 0 n hn (by omega))]
      rfl
    · obtain rfl : n = 0 := by omega
      decide
theorem piM_loop {f : Nat} (hf : f < 4096) : ∀ (n l c fuel : Nat) (L : List Nat), l < 4096 → pcM f n l = some L → n < fuel → f_M_piecesOf_b4 (nI f) fuel (nI c) (nI l) = some (nI (c + L.length)) ∧ f_M_linesOf_b4 (nI f) fuel (nI c) (nI l) = some (nI (c + lnS L)) := by
  intro n
  induction n with
  | zero => intro l c fuel L _ h; cases h
  | succ n ih =>
    intro l c fuel L hl h h2
    obtain ⟨w, rfl⟩ : ∃ w, fuel = w + 1 := ⟨fuel - 1, by omega⟩
    rw [pcM] at h
    by_cases h0 : l = 0
    · subst h0
      cases h
      rw [f_M_piecesOf_b4, if_pos (show nI 0 = (0 : Int32) from rfl), f_M_linesOf_b4, if_pos (show nI 0 = (0 : Int32) from rfl)]
      exact ⟨rfl, rfl⟩
    · have e0 : Nat.beq l 0 = false := by cases l with
        | zero => exact absurd rfl h0
        | succ r => rfl
      rw [e0] at h
      simp only [cond_false] at h
      have hls := (ls_lt l 12 0 rfl h0 hl (fun t h => by omega)).1
      cases hp : poO f 13 (2 ^ lsN l) with
      | none => rw [hp] at h; cases h
      | some p =>
        rw [hp] at h
        simp only [] at h
        cases hm : pcM f n (Nat.xor l (Nat.land l p)) with
        | none => rw [hm] at h; cases h
        | some L2 =>
          rw [hm] at h
          cases h
          have hpl := poO_lt f 13 _ p (p2_lt _ hls) hp
          have hpo : f_M_pieceOf (nI f) (nI (lsN l)) = some (nI p) := by
            rw [f_M_pieceOf, one_shl (by have : lsN l < 12 := hls; omega)]
            exact po_out hf (nI (lsN l)) 13 _ p 5000 (p2_lt _ hls) hp (by omega)
          have hx : l ^^^ (l &&& p) < 4096 := Nat.xor_lt_two_pow (n := 12) hl (Nat.lt_of_le_of_lt Nat.and_le_left hl)
          have hpp := popN_le (oddN p)
          have hod := oddN_lt p
          obtain ⟨g1, -⟩ := ih (l ^^^ (l &&& p)) (c + 1) w L2 hx hm (by omega)
          obtain ⟨-, g2⟩ := ih (l ^^^ (l &&& p)) (c + ln1 p) w L2 hx hm (by omega)
          constructor
          · rw [f_M_piecesOf_b4, if_neg (show ¬ nI l = (0 : Int32) from nI_ne0 (by omega) (by omega)), Mleast_ok hl h0, sm_some, hpo, sm_some, not_nI (by omega), nI_1, g1, List.length_cons, Nat.add_assoc, Nat.add_comm 1]
          · rw [f_M_linesOf_b4, if_neg (show ¬ nI l = (0 : Int32) from nI_ne0 (by omega) (by omega)), Mleast_ok hl h0, sm_some, hpo, sm_some, Modds_ok, sm_some, odds_eq, Mones_ok (by omega), sm_some, div2 (by omega)]
            unfold ln1 at g2
            by_cases hc : 1 < popN (oddN p) / 2
            · rw [if_pos hc] at g2
              rw [if_neg (show ¬ nI (popN (oddN p) / 2) ≤ (1 : Int32) from nge 1 _ hc (by omega)), f_M_linesOf_b41, not_nI (by omega), nI_add, g2, lnS, ln1, if_pos hc, Nat.add_assoc]
            · rw [if_neg hc] at g2
              rw [if_pos (show nI (popN (oddN p) / 2) ≤ (1 : Int32) from nles _ 1 (by omega) (by decide)), f_M_linesOf_b41, not_nI (by omega), show nI c + (1 : Int32) = nI (c + 1) from nI_1 c, g2, lnS, ln1, if_neg hc, Nat.add_assoc]
theorem MpiecesOf_ok {f : Nat} (hf : f < 4096) : f_M_piecesOf (nI f) = some (nI (pcX 12 f).length) := by
  have h := (piM_loop hf 13 f 0 5000 _ hf (pc_eq hf) (by omega)).1
  rw [Nat.zero_add] at h
  exact h
theorem MlinesOf_ok {f : Nat} (hf : f < 4096) : f_M_linesOf (nI f) = some (nI (linN f)) := by
  have h := (piM_loop hf 13 f 0 5000 _ hf (pc_eq hf) (by omega)).2
  rw [Nat.zero_add] at h
  exact h
theorem MstraysOf_ok {f : Nat} (hf : f < 4096) : f_M_straysOf (nI f) = some (nI (strN f)) := by
  rw [f_M_straysOf]
  by_cases h0 : f = 0
  · subst h0
    rw [if_pos (show nI 0 = (0 : Int32) from rfl)]
    rfl
  · rw [if_neg (show ¬ nI f = (0 : Int32) from nI_ne0 (by omega) (by omega)), MlinesOf_ok hf, sm_some]
    have h1 := pcX_pos h0
    have h2 := (lnS_le (pcX 12 f)).2
    unfold strN
    have h3 : 1 ≤ linN f := by unfold linN; omega
    obtain ⟨n, hn⟩ : ∃ n, linN f = n + 1 := ⟨linN f - 1, by omega⟩
    rw [hn, nI_pred]
    rfl
