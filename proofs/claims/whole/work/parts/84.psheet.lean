-- ===== SHEETS =====
def rSh (Z : Nat → Nat) (wd sz : Nat → Int32) (nu : Nat → Int64) (bt lg : Nat → Int32) (ce : Nat → Int64) : Prop := (∀ k, k < 4 → wd k = bt k ∧ sz k = nI (Z k) ∧ lg k = nI (Z k) ∧ Z k ≤ 40) ∧ ∀ i, i < 160 → nu i = ce i
/-- what a sheet of a width keeps of a number -/
def keepL (w : Int32) (v : Int64) : Int64 := if w = (8 : Int32) then v.toInt32.toInt8.toInt32.toInt64 else if w = (16 : Int32) then v.toInt32.toInt16.toInt32.toInt64 else v
section SH
variable {Z : Nat → Nat} {wd sz bt lg c d : Nat → Int32} {nu ce : Nat → Int64}
theorem isSheet_yes {k : Nat} (h : k ≤ 3) : f_Sheets_isSheet (nI k) = some 1 := by
  rw [f_Sheets_isSheet, if_neg (nI_pos (by omega)), if_neg (show ¬ (4 : Int32) ≤ nI k from nge k 4 (by omega) (by decide))]
theorem isSheet_no {a : Int32} (h : a < 0 ∨ nI 3 < a) : f_Sheets_isSheet a = some 0 := by
  rw [f_Sheets_isSheet]
  by_cases h0 : a < 0
  · rw [if_pos h0]
  · obtain ⟨j, hj, rfl⟩ := nI_of h0
    rcases h with h | h
    · exact absurd h h0
    · have : 3 < j := by
        rcases Nat.lt_or_ge 3 j with q | q
        · exact q
        · exact absurd h (nnlt j 3 q (by decide))
      rw [if_neg h0, if_pos (show (4 : Int32) ≤ nI j from nles 4 j (by omega) hj)]
theorem MisSheet_yes {k : Nat} (h : k ≤ 3) : f_M_isSheet (nI k) = some 1 := by
  rw [f_M_isSheet, show (3 : Int32) = nI 3 from rfl, MinN_yes h (by decide), sm_some, bl1, sm_some]
theorem MisSheet_no {a : Int32} (h : a < 0 ∨ nI 3 < a) : f_M_isSheet a = some 0 := by
  rw [f_M_isSheet, show (3 : Int32) = nI 3 from rfl, Min_no h, sm_some, bl0, sm_some]
theorem ix (k i : Nat) : nI k * (40 : Int32) + nI i = nI (40 * k + i) := by
  rw [show (40 : Int32) = nI 40 from rfl, pk_mul, nI_add, Nat.mul_comm]
theorem ixM (k i : Nat) : (40 : Int32) * nI k + nI i = nI (40 * k + i) := by
  rw [show (40 : Int32) = nI 40 from rfl, pk_mul, nI_add]
theorem sizeOf_ok (h : rSh Z wd sz nu bt lg ce) {k : Nat} (hk : k ≤ 3) : f_Sheets_sizeOf sz (nI k) = some (nI (Z k)) := by
  rw [f_Sheets_sizeOf, isSheet_yes hk, sm_some, if_neg one0, rd_nI (by omega) (by decide), sm_some, (h.1 k (by omega)).2.1]
theorem missing_yes (h : rSh Z wd sz nu bt lg ce) {k : Nat} (hk : k ≤ 3) (h0 : bt k = 0) : f_Sheets_isMissing wd (nI k) = some 1 := by
  rw [f_Sheets_isMissing, isSheet_yes hk, sm_some, if_neg one0, rd_nI (by omega) (by decide), sm_some, (h.1 k (by omega)).1, if_pos h0, f_Sheets_isMissing_b16]
theorem missing_no (h : rSh Z wd sz nu bt lg ce) {k : Nat} (hk : k ≤ 3) (h0 : ¬ bt k = 0) : f_Sheets_isMissing wd (nI k) = some 0 := by
  rw [f_Sheets_isMissing, isSheet_yes hk, sm_some, if_neg one0, rd_nI (by omega) (by decide), sm_some, (h.1 k (by omega)).1, if_neg h0]
theorem at_ok (h : rSh Z wd sz nu bt lg ce) {k i : Nat} (hk : k ≤ 3) (hi : i < Z k) : f_Sheets_at nu sz (nI k) (nI i) = some (ce (40 * k + i)) := by
  have hz := (h.1 k (by omega)).2.2.2
  rw [f_Sheets_at, if_neg (nI_pos (by omega)), sizeOf_ok h hk, sm_some, if_neg (nge _ _ hi (by omega)), ix, rd_nI (by omega) (by decide), sm_some, h.2 _ (by omega)]
theorem Mat_ok (h : rSh Z wd sz nu bt lg ce) {k i : Nat} (hk : k ≤ 3) (hi : i < Z k) : rd ce 160 ((40 : Int32) * nI k + nI i) = some (ce (40 * k + i)) := by
  have hz := (h.1 k (by omega)).2.2.2
  rw [ixM, rd_nI (by omega) (by decide)]
theorem put_sh (h : rSh Z wd sz nu bt lg ce) {k i : Nat} (hk : k ≤ 3) (hi : i < Z k) (v : Int64) : f_Sheets_put nu sz wd (nI k) (nI i) v = some (vp_updL nu (40 * k + i) (keepL (bt k) v)) := by
  have hz := (h.1 k (by omega)).2.2.2
  have hl : f_Sheets_lowest (bt k) v = some (keepL (bt k) v) := by
    unfold f_Sheets_lowest keepL
    split
    · rfl
    · split <;> rfl
  rw [f_Sheets_put, if_neg (nI_pos (by omega)), sizeOf_ok h hk, sm_some, if_neg (nge _ _ hi (by omega)), rd_nI (by omega) (by decide), sm_some, (h.1 k (by omega)).1, hl, sm_some, ix, wrL_nI (by omega) (by decide), sm_some]
theorem writes_sh (h : rSh Z wd sz nu bt lg ce) {k i : Nat} (hk : k ≤ 3) (hi : i < Z k) (v : Int64) : f_M_writes bt ce (nI k) (nI i) v = some (vp_updL ce (40 * k + i) (keepL (bt k) v)) := by
  have hz := (h.1 k (by omega)).2.2.2
  rw [f_M_writes, rd_nI (by omega) (by decide), sm_some, sm_some, ixM]
  unfold keepL
  by_cases e : bt k = 8
  · rw [if_pos e, if_pos e, wrL_nI (by omega) (by decide), sm_some]
  · rw [if_neg e, if_neg e]
    by_cases e2 : bt k = 16
    · rw [if_pos e2, if_pos e2, wrL_nI (by omega) (by decide), sm_some]
    · rw [if_neg e2, if_neg e2, wrL_nI (by omega) (by decide), sm_some]
theorem rSh.put (h : rSh Z wd sz nu bt lg ce) (i : Nat) (v : Int64) : rSh Z wd sz (vp_updL nu i v) bt lg (vp_updL ce i v) := by
  refine ⟨h.1, fun j hj => ?_⟩
  by_cases e : j = i
  · rw [e, pk_uLs, pk_uLs]
  · rw [pk_uLn e, pk_uLn e, h.2 j hj]
theorem case_write (hF : rF c d) (h : rSh Z wd sz nu bt lg ce) (a i : Int32) (v : Int64) : ∃ r c' d' nu' ce', f_S_write c nu sz wd a i v = some (r, c', nu') ∧ f_M_write bt ce d lg a i v = some (r, ce', d') ∧ rF c' d' ∧ rSh Z wd sz nu' bt lg ce' := by
  rcases rng a 3 (by decide) with ⟨k, hk, rfl⟩ | hn
  · have hz := (h.1 k (by omega)).2.2.2
    have hl := (h.1 k (by omega)).2.2.1
    by_cases h0 : bt k = 0
    · refine ⟨(-1000000006 : Int32).toInt64, _, _, nu, ce, ?_, ?_, hF.fin (k := 5) (by decide), h⟩
      · rw [f_S_write, isSheet_yes hk, sm_some, if_neg one0, missing_yes h hk h0, sm_some, if_neg one0, fnd5, sm_some]
      · rw [f_M_write, MisSheet_yes hk, sm_some, if_neg one0, rd_nI (by omega) (by decide), sm_some, if_pos h0, mno5, sm_some]
    · have hin : (∃ j, j < Z k ∧ i = nI j) ∨ ((i < 0 ∨ nI (Z k) ≤ i) ∧ f_M_in i 0 (nI (Z k) - 1) = some 0) := by
        by_cases hi0 : i < 0
        · exact Or.inr ⟨Or.inl hi0, Min_no (Or.inl hi0)⟩
        · obtain ⟨j, hj, rfl⟩ := nI_of hi0
          rcases Nat.lt_or_ge j (Z k) with q | q
          · exact Or.inl ⟨j, q, rfl⟩
          · refine Or.inr ⟨Or.inr (nles _ _ q hj), Min_no (Or.inr ?_)⟩
            cases hZ : Z k with
            | zero =>
              have h1 : (0 : Int32) ≤ nI j := nI_pos' hj
              rw [fa_lt, show (nI 0 - 1 : Int32).toInt = -1 by decide]
              rw [fa_le, show (0 : Int32).toInt = 0 by decide] at h1
              omega
            | succ z => rw [nI_pred]; exact nlts z j (by omega) hj
      rcases hin with ⟨j, hj, rfl⟩ | ⟨hb, hm⟩
      · refine ⟨ce (40 * k + j), c, d, _, _, ?_, ?_, hF, h.put (40 * k + j) (keepL (bt k) v)⟩
        rotate_left
        · rw [f_M_write, MisSheet_yes hk, sm_some, if_neg one0, rd_nI (by omega) (by decide), sm_some, if_neg h0, rd_nI (by omega) (by decide), sm_some, hl, show f_M_in (nI j) 0 (nI (Z k) - 1) = some 1 by
            obtain ⟨z, hz⟩ : ∃ z, Z k = z + 1 := ⟨Z k - 1, by omega⟩
            rw [hz, nI_pred]; exact MinN_yes (by omega) (by omega), sm_some, if_neg one0, Mat_ok h hk hj, sm_some, writes_sh h hk hj, sm_some]
        · rw [f_S_write, isSheet_yes hk, sm_some, if_neg one0, missing_no h hk h0, sm_some, if_pos rfl, if_neg (nI_pos (by omega)), sizeOf_ok h hk, sm_some, if_pos (nlts _ _ hj (by omega)), at_ok h hk hj, sm_some, put_sh h hk hj, sm_some]
      · refine ⟨(-1000000001 : Int32).toInt64, _, _, nu, ce, ?_, ?_, hF.fin (k := 0) (by decide), h⟩
        · rw [f_S_write, isSheet_yes hk, sm_some, if_neg one0, missing_no h hk h0, sm_some, if_pos rfl]
          by_cases hi0 : i < 0
          · rw [if_pos hi0, f_S_write_b50, fnd0, sm_some]
          · obtain ⟨j, hj, rfl⟩ := nI_of hi0
            rcases hb with hb | hb
            · exact absurd hb hi0
            · rw [if_neg hi0, sizeOf_ok h hk, sm_some, if_neg (fun z => by
                rw [fa_lt] at z
                rw [fa_le] at hb
                omega), f_S_write_b50, fnd0, sm_some]
        · rw [f_M_write, MisSheet_yes hk, sm_some, if_neg one0, rd_nI (by omega) (by decide), sm_some, if_neg h0, rd_nI (by omega) (by decide), sm_some, hl, hm, sm_some, if_pos rfl, mno0, sm_some]
  · refine ⟨(-1000000001 : Int32).toInt64, _, _, nu, ce, ?_, ?_, hF.fin (k := 0) (by decide), h⟩
    · rw [f_S_write, isSheet_no hn, sm_some, if_pos rfl, fnd0, sm_some]
    · rw [f_M_write, MisSheet_no hn, sm_some, if_pos rfl, mno0, sm_some]
theorem lay_sh (a2 a3 : Int32) {k : Nat} (hk : k ≤ 3) : ∀ (j i fuel fuel2 : Nat) (nu ce : Nat → Int64), i + j = 40 → j < fuel → j < fuel2 → (∀ t, t < 160 → nu t = ce t) → ∃ nu' ce', f_Sheets_lay_b44 (nI k) a2 a3 fuel nu sz wd (nI i) = some (sz k, nu', sz, wd) ∧ f_M_sheet_b83 (nI k) a2 a3 fuel2 bt ce d lg (nI i) = some (lg k, bt, ce', d, lg) ∧ ∀ t, t < 160 → nu' t = ce' t := by
  intro j
  induction j with
  | zero =>
    intro i fuel fuel2 nu ce h1 h2 h3 h4
    obtain ⟨n, rfl⟩ : ∃ n, fuel = n + 1 := ⟨fuel - 1, by omega⟩
    obtain ⟨m, rfl⟩ : ∃ n, fuel2 = n + 1 := ⟨fuel2 - 1, by omega⟩
    obtain rfl : i = 40 := by omega
    refine ⟨nu, ce, ?_, ?_, h4⟩
    · rw [f_Sheets_lay_b44, if_pos (by decide), rd_nI (by omega) (by decide), sm_some]
    · rw [f_M_sheet_b83, if_pos (by decide), rd_nI (by omega) (by decide), sm_some]
  | succ j ih =>
    intro i fuel fuel2 nu ce h1 h2 h3 h4
    obtain ⟨n, rfl⟩ : ∃ n, fuel = n + 1 := ⟨fuel - 1, by omega⟩
    obtain ⟨m, rfl⟩ : ∃ n, fuel2 = n + 1 := ⟨fuel2 - 1, by omega⟩
    rw [f_Sheets_lay_b44, if_neg (show ¬ (40 : Int32) ≤ nI i from nge i 40 (by omega) (by decide)), ix, wrL_nI (by omega) (by decide), sm_some, f_M_sheet_b83, if_neg (show ¬ (40 : Int32) ≤ nI i from nge i 40 (by omega) (by decide)), ixM, wrL_nI (by omega) (by decide), sm_some, nI_1]
    refine ih (i + 1) n m _ _ (by omega) (by omega) (by omega) (fun t ht => ?_)
    by_cases e : t = 40 * k + i
    · rw [e, pk_uLs, pk_uLs]
    · rw [pk_uLn e, pk_uLn e, h4 t ht]
theorem case_sheet (hF : rF c d) (h : rSh Z wd sz nu bt lg ce) (a b e : Int32) : ∃ r c' d' Z' wd' sz' nu' bt' lg' ce', f_S_sheet c nu sz wd a b e = some (r, c', nu', sz', wd') ∧ f_M_sheet bt ce d lg a b e = some (r, bt', ce', d', lg') ∧ rF c' d' ∧ rSh Z' wd' sz' nu' bt' lg' ce' := by
  rcases rng a 3 (by decide) with ⟨k, hk, rfl⟩ | hn
  · by_cases hb : b = 0 ∨ b = 8 ∨ b = 16 ∨ b = 64
    · have hw : f_Sheets_isWidth b = some 1 := by rcases hb with rfl | rfl | rfl | rfl <;> decide
      have hM : f_M_sheet bt ce d lg (nI k) b e = f_M_sheet_b35 (nI k) b e bt ce d lg := by
        rw [f_M_sheet, MisSheet_yes hk, sm_some, if_neg one0]
        rcases hb with rfl | rfl | rfl | rfl
        · rw [if_pos rfl]
        · rw [if_neg (by decide), if_pos rfl]
        · rw [if_neg (by decide), if_neg (by decide), if_pos rfl]
        · rw [if_neg (by decide), if_neg (by decide), if_neg (by decide), if_pos rfl]
      rw [f_S_sheet, isSheet_yes hk, sm_some, if_neg one0, hw, sm_some, if_neg one0, hM, f_M_sheet_b35]
      by_cases he : e < 0
      · have he' : ¬ (0 : Int32) ≤ e := fun z => by rw [fa_le] at z; rw [fa_lt] at he; omega
        rw [if_neg he', if_neg he', fnd6, mno6, sm_some, sm_some]
        exact ⟨_, _, _, Z, wd, sz, nu, bt, lg, ce, rfl, rfl, hF.fin (k := 6) (by decide), h⟩
      · obtain ⟨m, hm, rfl⟩ := nI_of he
        rw [if_pos (nI_pos' hm), if_pos (nI_pos' hm)]
        rcases Nat.lt_or_ge 40 m with q | q
        · have hq : ¬ nI m ≤ (40 : Int32) := nge 40 m q hm
          rw [if_neg hq, if_neg hq, fnd0, mno0, sm_some, sm_some]
          exact ⟨_, _, _, Z, wd, sz, nu, bt, lg, ce, rfl, rfl, hF.fin (k := 0) (by decide), h⟩
        · have hq : nI m ≤ (40 : Int32) := nles m 40 q (by decide)
          rw [if_pos hq, if_pos hq, f_Sheets_lay, isSheet_yes hk, sm_some, if_neg one0, if_neg he, if_pos hq, wr_nI (by omega) (by decide), wr_nI (by omega) (by decide), sm_some, sm_some]
          have hgo : ∀ z : Nat, z ≤ 40 → ∃ r c' d' Z' wd' sz' nu' bt' lg' ce', ((f_Sheets_lay_b40 (nI k) b (nI m) nu sz (upd wd k b) (nI z) (nI k)).bind fun r8 => some (r8.1, c, r8.2.1, r8.2.2.1, r8.2.2.2)) = some (r, c', nu', sz', wd') ∧ f_M_sheet_b79 (nI k) b (nI m) (upd bt k b) ce d lg (nI z) (nI k) = some (r, bt', ce', d', lg') ∧ rF c' d' ∧ rSh Z' wd' sz' nu' bt' lg' ce' := by
            intro z hz
            obtain ⟨nu', ce', e1, e2, e3⟩ := lay_sh (sz := upd sz k (nI z)) (wd := upd wd k b) (bt := upd bt k b) (lg := upd lg k (nI z)) (d := d) b (nI m) hk 40 0 5000 5000 nu ce rfl (by decide) (by decide) h.2
            rw [upd_at] at e1 e2
            rw [nI_0] at e1 e2
            refine ⟨nI z, c, d, upN Z k z, upd wd k b, upd sz k (nI z), nu', upd bt k b, upd lg k (nI z), ce', ?_, ?_, hF, ?_, e3⟩
            rotate_left
            · rw [f_M_sheet_b79, wr_nI (by omega) (by decide), sm_some]
              exact e2
            · intro i hi
              unfold upN
              obtain ⟨g1, g2, g3, g4⟩ := h.1 i hi
              by_cases ei : i = k
              · subst ei
                rw [if_pos rfl, upd_at, upd_at, upd_at, upd_at]
                exact ⟨rfl, rfl, rfl, hz⟩
              · rw [if_neg ei, upd_ne _ _ ei, upd_ne _ _ ei, upd_ne _ _ ei, upd_ne _ _ ei]
                exact ⟨g1, g2, g3, g4⟩
            · rw [f_Sheets_lay_b40, wr_nI (by omega) (by decide), sm_some, e1, sm_some]
          by_cases hb0 : b = 0
          · rw [if_pos hb0, if_pos hb0]
            exact hgo 0 (by omega)
          · rw [if_neg hb0, if_neg hb0]
            exact hgo m q
    · have hb1 : ¬ b = 0 := fun z => hb (Or.inl z)
      have hb2 : ¬ b = 8 := fun z => hb (Or.inr (Or.inl z))
      have hb3 : ¬ b = 16 := fun z => hb (Or.inr (Or.inr (Or.inl z)))
      have hb4 : ¬ b = 64 := fun z => hb (Or.inr (Or.inr (Or.inr z)))
      refine ⟨-1000000001, _, _, Z, wd, sz, nu, bt, lg, ce, ?_, ?_, hF.fin (k := 0) (by decide), h⟩
      · rw [f_S_sheet, isSheet_yes hk, sm_some, if_neg one0, f_Sheets_isWidth, if_neg hb1, if_neg hb2, if_neg hb3, if_neg hb4, sm_some, if_pos rfl, f_S_sheet_b14, fnd0, sm_some]
      · rw [f_M_sheet, MisSheet_yes hk, sm_some, if_neg one0, if_neg hb1, if_neg hb2, if_neg hb3, if_neg hb4, f_M_sheet_b29, mno0, sm_some]
  · refine ⟨-1000000001, _, _, Z, wd, sz, nu, bt, lg, ce, ?_, ?_, hF.fin (k := 0) (by decide), h⟩
    · rw [f_S_sheet, isSheet_no hn, sm_some, if_pos rfl, f_S_sheet_b14, fnd0, sm_some]
    · rw [f_M_sheet, MisSheet_no hn, sm_some, if_pos rfl, f_M_sheet_b29, mno0, sm_some]
end SH
