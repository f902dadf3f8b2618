-- ===== SHEETS: lays, show, walk =====
section LS
variable {Z : Nat → Nat} {wd sz bt lg c d : Nat → Int32} {nu ce : Nat → Int64}
variable {B K F D : Nat → Nat} {N H S : Nat} {bf kd fm dp s : Nat → Int32} {n hr sn : Int32}
theorem l0 : (0 : Int64) = lN 0 := rfl
/-- a number is a form, or it is not -/
theorem frm (v : Int64) : (∃ x, x ≤ 4095 ∧ v = lN x) ∨ (v < 0 ∨ (¬ v < 0 ∧ (4095 : Int64) < v ∧ (4096 : Int64) ≤ v)) := by
  by_cases h0 : v < 0
  · exact Or.inr (Or.inl h0)
  · obtain ⟨x, hx, rfl⟩ := pk_lOf h0
    rcases Nat.lt_or_ge 4095 x with q | q
    · exact Or.inr (Or.inr ⟨h0, (pk_lLT (a := 4095) (by decide) hx).mpr q, (pk_lLE (a := 4096) (by decide) hx).mpr q⟩)
    · exact Or.inl ⟨x, q, rfl⟩
theorem lays_loop (hS : rSh Z wd sz nu bt lg ce) {k m : Nat} (hk : k ≤ 3) (hm : m = if 26 < Z k then 26 else Z k) : ∀ (j i r fuel fuel2 : Nat) (B : Nat → Nat) (bf s : Nat → Int32), i + j = m → j < fuel → j < fuel2 → rPl B K F D N H S bf kd fm dp n hr sn s → ∃ r' B' bf' s', f_Sheets_toBook_b17 nu sz (nI k) fuel bf (nI r) (nI m) (nI i) = some (r', bf') ∧ f_M_lays_b32 bt ce lg (nI k) fuel2 d s (nI r) (nI i) = some (r', d, s') ∧ rPl B' K F D N H S bf' kd fm dp n hr sn s' := by
  intro j
  have hz := (hS.1 k (by omega)).2.2.2
  have hl := (hS.1 k (by omega)).2.2.1
  have hm1 : m ≤ 26 ∧ m ≤ Z k ∧ (m = 26 ∨ m = Z k) := by
    rw [hm]
    split <;> omega
  induction j with
  | zero =>
    intro i r fuel fuel2 B bf s h1 h2 h3 hP
    obtain ⟨p, rfl⟩ : ∃ p, fuel = p + 1 := ⟨fuel - 1, by omega⟩
    obtain ⟨q, rfl⟩ : ∃ q, fuel2 = q + 1 := ⟨fuel2 - 1, by omega⟩
    obtain rfl : i = m := by omega
    refine ⟨nI r, B, bf, s, ?_, ?_, hP⟩
    · rw [f_Sheets_toBook_b17, if_pos (nles _ _ (by omega) (by omega))]
    · rw [f_M_lays_b32, rd_nI (by omega) (by decide), sm_some, hl]
      by_cases e : Z k ≤ i
      · rw [if_pos (nles _ _ e (by omega))]
      · rw [if_neg (nge _ _ (by omega) (by omega)), if_pos (show (26 : Int32) ≤ nI i from nles 26 i (by omega) (by omega))]
  | succ j ih =>
    intro i r fuel fuel2 B bf s h1 h2 h3 hP
    obtain ⟨p, rfl⟩ : ∃ p, fuel = p + 1 := ⟨fuel - 1, by omega⟩
    obtain ⟨q, rfl⟩ : ∃ q, fuel2 = q + 1 := ⟨fuel2 - 1, by omega⟩
    rw [f_Sheets_toBook_b17, if_neg (nge _ _ (by omega) (by omega)), at_ok hS hk (by omega), sm_some, f_M_lays_b32, rd_nI (by omega) (by decide), sm_some, hl, if_neg (nge _ _ (by omega) (by omega)), if_neg (show ¬ (26 : Int32) ≤ nI i from nge i 26 (by omega) (by decide)), Mat_ok hS hk (by omega), sm_some]
    rcases frm (ce (40 * k + i)) with ⟨x, hx, e⟩ | e | ⟨e0, e1, e2⟩
    · have g0 : ¬ lN x < (0 : Int64) := fun z => by rw [l0, pk_lLT (by omega) (by decide)] at z; omega
      have g1 : ¬ (4095 : Int64) < lN x := fun z => by
        have := (pk_lLT (a := 4095) (by decide) (by omega)).mp z
        omega
      have g2 : ¬ (4096 : Int64) ≤ lN x := fun z => by
        have := (pk_lLE (a := 4096) (by decide) (by omega)).mp z
        omega
      rw [e, if_neg (fun z => g0 ((lg_cmp_lt _ _).mp z)), if_neg (fun z => g1 ((lg_cmp_gt _ _).mp z)), if_neg (fun z => g0 ((lg_cmp_lt _ _).mp z)), if_neg (fun z => g2 ((lg_cmp_ge _ _).mp z)), lN_i, put_ok (by omega), sm_some, show (3 : Int32) + nI i = nI (3 + i) from nI_add 3 i, wr_nI (by omega) (by decide), sm_some, nI_1, nI_1]
      exact ih (i + 1) (r + 1) p q _ _ _ (by omega) (by omega) (by omega) (rPl_B hP (by omega) (by omega))
    · rw [if_pos ((lg_cmp_lt _ _).mpr e), if_pos ((lg_cmp_lt _ _).mpr e), nI_1]
      exact ih (i + 1) r p q B bf s (by omega) (by omega) (by omega) hP
    · rw [if_neg (fun z => e0 ((lg_cmp_lt _ _).mp z)), if_pos ((lg_cmp_gt _ _).mpr e1), if_neg (fun z => e0 ((lg_cmp_lt _ _).mp z)), if_pos ((lg_cmp_ge _ _).mpr e2), nI_1]
      exact ih (i + 1) r p q B bf s (by omega) (by omega) (by omega) hP
theorem case_lays (hF : rF c d) (hP : rPl B K F D N H S bf kd fm dp n hr sn s) (h : rSh Z wd sz nu bt lg ce) (a : Int32) : ∃ r c' d' B' bf' s', f_S_lays c bf nu sz wd a = some (r, c', bf') ∧ f_M_lays bt ce d lg s a = some (r, d', s') ∧ rF c' d' ∧ rPl B' K F D N H S bf' kd fm dp n hr sn s' := by
  rcases rng a 3 (by decide) with ⟨k, hk, rfl⟩ | hn
  · have hz := (h.1 k (by omega)).2.2.2
    by_cases h0 : bt k = 0
    · refine ⟨-1000000006, _, _, B, bf, s, ?_, ?_, hF.fin (k := 5) (by decide), hP⟩
      · rw [f_S_lays, isSheet_yes hk, sm_some, if_neg one0, missing_yes h hk h0, sm_some, if_neg one0, fnd5, sm_some]
      · rw [f_M_lays, MisSheet_yes hk, sm_some, if_neg one0, rd_nI (by omega) (by decide), sm_some, if_pos h0, mno5, sm_some]
    · obtain ⟨r, B', bf', s', e1, e2, e3⟩ := lays_loop (d := d) h hk rfl _ 0 0 5000 5000 B bf s (Nat.zero_add _) (by split <;> omega) (by split <;> omega) hP
      rw [nI_0] at e1 e2
      refine ⟨r, c, d, B', bf', s', ?_, ?_, hF, e3⟩
      · rw [f_S_lays, isSheet_yes hk, sm_some, if_neg one0, missing_no h hk h0, sm_some, if_pos rfl, f_Sheets_toBook, sizeOf_ok h hk, sm_some]
        have em : (if (26 : Int32) < nI (Z k) then (26 : Int32) else nI (Z k)) = nI (if 26 < Z k then 26 else Z k) := by
          by_cases q : 26 < Z k
          · rw [if_pos (show (26 : Int32) < nI (Z k) from nlts 26 _ q (by omega)), if_pos q]; rfl
          · rw [if_neg (show ¬ (26 : Int32) < nI (Z k) from nnlt _ 26 (by omega) (by decide)), if_neg q]
        rw [em, e1, sm_some]
      · rw [f_M_lays, MisSheet_yes hk, sm_some, if_neg one0, rd_nI (by omega) (by decide), sm_some, if_neg h0]
        exact e2
  · refine ⟨-1000000001, _, _, B, bf, s, ?_, ?_, hF.fin (k := 0) (by decide), hP⟩
    · rw [f_S_lays, isSheet_no hn, sm_some, if_pos rfl, fnd0, sm_some]
    · rw [f_M_lays, MisSheet_no hn, sm_some, if_pos rfl, mno0, sm_some]
theorem show_loop (hP : rPl B K F D N H S bf kd fm dp n hr sn s) {k m : Nat} (hk : k ≤ 3) (hm : m ≤ 12) (hmz : m ≤ Z k) (x : Int32) : ∀ (j i fuel fuel2 : Nat) (nu ce : Nat → Int64), i + j = m → j < fuel → j < fuel2 → rSh Z wd sz nu bt lg ce → ∃ nu' ce', f_S_show_b53 x hr sn bf dp fm kd sz wd (nI k) fuel c nu (nI m) (nI i) = some (nI m, c, nu') ∧ f_M_show_b61 bt lg s (nI k) fuel2 ce d (nI m) (nI i) = some (nI m, ce', d) ∧ rSh Z wd sz nu' bt lg ce' := by
  intro j
  have hP' := hP
  obtain ⟨⟨b1, b2, b3⟩, ⟨l1, l2⟩, ⟨n1, n2, n3⟩, ⟨h1', h2', h3'⟩, ⟨s1, s2, s3⟩⟩ := hP
  induction j with
  | zero =>
    intro i fuel fuel2 nu ce h1 h2 h3 hS
    obtain ⟨p, rfl⟩ : ∃ p, fuel = p + 1 := ⟨fuel - 1, by omega⟩
    obtain ⟨q, rfl⟩ : ∃ q, fuel2 = q + 1 := ⟨fuel2 - 1, by omega⟩
    obtain rfl : i = m := by omega
    refine ⟨nu, ce, ?_, ?_, hS⟩
    · rw [f_S_show_b53, if_pos (nles _ _ (by omega) (by omega))]
    · rw [f_M_show_b61, if_pos (nles _ _ (by omega) (by omega))]
  | succ j ih =>
    intro i fuel fuel2 nu ce h1 h2 h3 hS
    obtain ⟨p, rfl⟩ : ∃ p, fuel = p + 1 := ⟨fuel - 1, by omega⟩
    obtain ⟨q, rfl⟩ : ∃ q, fuel2 = q + 1 := ⟨fuel2 - 1, by omega⟩
    rw [f_S_show_b53, if_neg (nge _ _ (by omega) (by omega)), seenAs_ok hP' (by omega), sm_some, put_sh hS hk (by omega), sm_some, f_M_show_b61, if_neg (nge _ _ (by omega) (by omega)), Mshows_ok l1 l2 (by omega) h2' (by omega) s2, sm_some, readAs_ok b2 b3 (SHN_lt (l2 i (by omega)).2.1), sm_some, writes_sh hS hk (by omega), sm_some, nI_1]
    exact ih (i + 1) p q _ _ (by omega) (by omega) (by omega) (hS.put _ _)
theorem case_show (hF : rF c d) (hP : rPl B K F D N H S bf kd fm dp n hr sn s) (h : rSh Z wd sz nu bt lg ce) (a : Int32) : ∃ r c' d' nu' ce', f_S_show c n hr sn bf dp fm kd nu sz wd a = some (r, c', nu') ∧ f_M_show bt ce d lg s a = some (r, ce', d') ∧ rF c' d' ∧ rSh Z wd sz nu' bt lg ce' := by
  have n1 := hP.2.2.1.1
  have n2 := hP.2.2.1.2.1
  have n3 := hP.2.2.1.2.2
  rcases rng a 3 (by decide) with ⟨k, hk, rfl⟩ | hn
  · have hz := (h.1 k (by omega)).2.2.2
    by_cases h0 : bt k = 0
    · refine ⟨-1000000006, _, _, nu, ce, ?_, ?_, hF.fin (k := 5) (by decide), h⟩
      · rw [f_S_show, isSheet_yes hk, sm_some, if_neg one0, missing_yes h hk h0, sm_some, if_neg one0, fnd5, sm_some]
      · rw [f_M_show, MisSheet_yes hk, sm_some, if_neg one0, rd_nI (by omega) (by decide), sm_some, if_pos h0, mno5, sm_some]
    · have hm : ∃ m, m ≤ 12 ∧ m ≤ Z k ∧ (if nI (Z k) < nI N then nI (Z k) else nI N) = nI m ∧ ∀ r : Int32 → Option (Int32 × (Nat → Int64) × (Nat → Int32)), (if nI N ≤ nI (Z k) then r (nI N) else r (nI (Z k))) = r (nI m) := by
        by_cases q : Z k < N
        · exact ⟨Z k, by omega, Nat.le_refl _, if_pos (nlts _ _ q (by omega)), fun r => if_neg (nge _ _ q (by omega))⟩
        · exact ⟨N, n3, by omega, if_neg (nnlt _ _ (by omega) (by omega)), fun r => if_pos (nles _ _ (by omega) (by omega))⟩
      obtain ⟨m, m1, m2, m3, m4⟩ := hm
      obtain ⟨nu', ce', e1, e2, e3⟩ := show_loop (c := c) (d := d) hP hk m1 m2 n m 0 5000 5000 nu ce (Nat.zero_add _) (by omega) (by omega) h
      rw [nI_0] at e1 e2
      refine ⟨nI m, c, d, nu', ce', ?_, ?_, hF, e3⟩
      · rw [f_S_show, isSheet_yes hk, sm_some, if_neg one0, missing_no h hk h0, sm_some, if_pos rfl, sizeOf_ok h hk, sm_some]
        rw [n1] at e1 ⊢
        rw [m3]
        exact e1
      · rw [f_M_show, MisSheet_yes hk, sm_some, if_neg one0, rd_nI (by omega) (by decide), sm_some, if_neg h0, rd_nI (by omega) (by decide), sm_some, rs2, sm_some, sm_some, sm_some, (h.1 k (by omega)).2.2.1, n2, m4 (fun r => f_M_show_b58 bt lg s (nI k) ce d r), f_M_show_b58]
        exact e2
  · refine ⟨-1000000001, _, _, nu, ce, ?_, ?_, hF.fin (k := 0) (by decide), h⟩
    · rw [f_S_show, isSheet_no hn, sm_some, if_pos rfl, fnd0, sm_some]
    · rw [f_M_show, MisSheet_no hn, sm_some, if_pos rfl, mno0, sm_some]
end LS
