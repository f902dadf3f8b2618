-- ===== SHEETS: copy, lays, show =====
section CP
variable {Z : Nat → Nat} {wd sz bt lg c d : Nat → Int32} {nu ce : Nat → Int64}
theorem sub_lt {z f n : Nat} (hz : z ≤ 40) (hf : f < 2147483648) (hn : n < 2147483648) : nI z - nI n < nI f ↔ z < f + n := by
  have e1 : (nI z).toInt = (z : Int) := nI_toInt (by omega)
  have e2 : (nI n).toInt = (n : Int) := nI_toInt (by omega)
  have e3 : (nI f).toInt = (f : Int) := nI_toInt (by omega)
  rw [fa_lt, fb_subI (by omega) (by omega), e1, e2, e3]
  omega
theorem sub_ge {z f n : Nat} (hz : z ≤ 40) (hf : f < 2147483648) (hn : n < 2147483648) : nI f ≤ nI z - nI n ↔ f + n ≤ z := by
  have e1 : (nI z).toInt = (z : Int) := nI_toInt (by omega)
  have e2 : (nI n).toInt = (n : Int) := nI_toInt (by omega)
  have e3 : (nI f).toInt = (f : Int) := nI_toInt (by omega)
  rw [fa_le, fb_subI (by omega) (by omega), e1, e2, e3]
  omega
theorem holds_yes (h : rSh Z wd sz nu bt lg ce) {k f n : Nat} (hk : k ≤ 3) (hfn : f + n ≤ Z k) : f_Sheets_holds sz (nI k) (nI f) (nI n) = some 1 := by
  have hz := (h.1 k (by omega)).2.2.2
  rw [f_Sheets_holds, sizeOf_ok h hk, sm_some, if_neg (nI_pos (by omega)), if_neg (nI_pos (by omega)), if_neg (nnlt _ _ (by omega) (by omega)), pk_sub (by omega), if_neg (nnlt _ _ (by omega) (by omega))]
theorem holds_no (h : rSh Z wd sz nu bt lg ce) {k : Nat} {f n : Int32} (hk : k ≤ 3) (hfn : f < 0 ∨ n < 0 ∨ ∃ a b, a < 2147483648 ∧ b < 2147483648 ∧ f = nI a ∧ n = nI b ∧ Z k < a + b) : f_Sheets_holds sz (nI k) f n = some 0 := by
  have hz := (h.1 k (by omega)).2.2.2
  rw [f_Sheets_holds, sizeOf_ok h hk, sm_some]
  by_cases h1 : f < 0
  · rw [if_pos h1]
  · rw [if_neg h1]
    by_cases h2 : n < 0
    · rw [if_pos h2]
    · rw [if_neg h2]
      rcases hfn with z | z | ⟨a, b, ha, hb, rfl, rfl, z⟩
      · exact absurd z h1
      · exact absurd z h2
      · by_cases q : Z k < a
        · rw [if_pos (nlts _ _ q ha)]
        · rw [if_neg (nnlt _ _ (by omega) (by omega)), pk_sub (by omega), if_pos (nlts _ _ (by omega) hb)]
theorem cp1_loop (h : rSh Z wd sz nu bt lg ce) {k f n : Nat} (hk : k ≤ 3) (hfn : f + n ≤ Z k) (a3 a4 : Int32) : ∀ (j i fuel : Nat) (be : Nat → Int64), i + j = n → j < fuel → (∀ t, t < i → be t = ce (40 * k + f + t)) → ∃ be', f_M_copy_b115 bt lg (nI k) (nI f) a3 a4 (nI n) fuel be ce d (nI i) = f_M_copy_b152 bt lg (nI k) (nI f) a3 a4 (nI n) 5000 be' ce d 0 ∧ ∀ t, t < n → be' t = ce (40 * k + f + t) := by
  intro j
  have hz := (h.1 k (by omega)).2.2.2
  induction j with
  | zero =>
    intro i fuel be h1 h2 h3
    obtain ⟨m, rfl⟩ : ∃ m, fuel = m + 1 := ⟨fuel - 1, by omega⟩
    obtain rfl : i = n := by omega
    exact ⟨be, by rw [f_M_copy_b115, if_pos (nles _ _ (by omega) (by omega))], h3⟩
  | succ j ih =>
    intro i fuel be h1 h2 h3
    obtain ⟨m, rfl⟩ : ∃ m, fuel = m + 1 := ⟨fuel - 1, by omega⟩
    rw [f_M_copy_b115, if_neg (nge _ _ (by omega) (by omega)), ixM, nI_add, rd_nI (by omega) (by decide), sm_some, wrL_nI (by omega) (by decide), sm_some, nI_1]
    refine ih (i + 1) m _ (by omega) (by omega) (fun t ht => ?_)
    by_cases e : t = i
    · rw [e, pk_uLs]
    · rw [pk_uLn e, h3 t (by omega)]
theorem cp2_loop (h : rSh Z wd sz nu bt lg ce) {u o n : Nat} (hu : u ≤ 3) (hon : o + n ≤ Z u) (a1 a2 : Int32) (be : Nat → Int64) : ∀ (j i fuel : Nat) (cc : Nat → Int64), i + j = n → j < fuel → (∀ t, cc t = if 40 * u + o ≤ t ∧ t < 40 * u + o + i then be (t - (40 * u + o)) else ce t) → ∃ cc', f_M_copy_b152 bt lg a1 a2 (nI u) (nI o) (nI n) fuel be cc d (nI i) = some (nI n, be, cc', d) ∧ ∀ t, cc' t = if 40 * u + o ≤ t ∧ t < 40 * u + o + n then be (t - (40 * u + o)) else ce t := by
  intro j
  have hz := (h.1 u (by omega)).2.2.2
  induction j with
  | zero =>
    intro i fuel cc h1 h2 h3
    obtain ⟨m, rfl⟩ : ∃ m, fuel = m + 1 := ⟨fuel - 1, by omega⟩
    obtain rfl : i = n := by omega
    exact ⟨cc, by rw [f_M_copy_b152, if_pos (nles _ _ (by omega) (by omega))], h3⟩
  | succ j ih =>
    intro i fuel cc h1 h2 h3
    obtain ⟨m, rfl⟩ : ∃ m, fuel = m + 1 := ⟨fuel - 1, by omega⟩
    rw [f_M_copy_b152, if_neg (nge _ _ (by omega) (by omega)), rd_nI (by omega) (by decide), sm_some, ixM, nI_add, wrL_nI (by omega) (by decide), sm_some, nI_1]
    refine ih (i + 1) m _ (by omega) (by omega) (fun t => ?_)
    by_cases e : t = 40 * u + o + i
    · subst e
      rw [pk_uLs, if_pos (by omega), show 40 * u + o + i - (40 * u + o) = i by omega]
    · rw [pk_uLn e, h3 t]
      by_cases e2 : 40 * u + o ≤ t ∧ t < 40 * u + o + i
      · rw [if_pos e2, if_pos (by omega)]
      · rw [if_neg e2, if_neg (by omega)]
theorem cpy_nI {α : Type} (f g : Nat → α) {a b n : Nat} (ha : a + n ≤ 160) (hb : b + n ≤ 160) : cpy f g 160 160 (nI a) (nI b) (nI n) = some (va_cpy f g a b n) := by
  unfold cpy
  rw [nI_clamp (by omega), nI_clamp (by omega), nI_clamp (by omega), if_neg]
  rintro ((h | h | h) | h | h)
  · exact nI_pos (by omega) h
  · exact nI_pos (by omega) h
  · exact nI_pos (by omega) h
  · omega
  · omega
theorem case_copy (hF : rF c d) (h : rSh Z wd sz nu bt lg ce) (be : Nat → Int64) (a f b o n : Int32) : ∃ r c' d' nu' be' ce', f_S_copy c nu sz wd a f b o n = some (r, c', nu') ∧ f_M_copy be bt ce d lg a f b o n = some (r, be', ce', d') ∧ rF c' d' ∧ rSh Z wd sz nu' bt lg ce' := by
  rcases rng a 3 (by decide) with ⟨k, hk, rfl⟩ | hn
  · rcases rng b 3 (by decide) with ⟨u, hu, rfl⟩ | hn
    · have hz := (h.1 k (by omega)).2.2.2
      have hzu := (h.1 u (by omega)).2.2.2
      by_cases h0 : bt k = 0
      · refine ⟨-1000000006, _, _, nu, be, ce, ?_, ?_, hF.fin (k := 5) (by decide), h⟩
        · rw [f_S_copy, isSheet_yes hk, sm_some, if_neg one0, isSheet_yes hu, sm_some, if_neg one0, missing_yes h hk h0, sm_some, if_neg one0, f_S_copy_b43, fnd5, sm_some]
        · rw [f_M_copy, MisSheet_yes hk, sm_some, if_neg one0, MisSheet_yes hu, sm_some, if_neg one0, rd_nI (by omega) (by decide), sm_some, if_pos h0, f_M_copy_b38, mno5, sm_some]
      · by_cases h1 : bt u = 0
        · refine ⟨-1000000006, _, _, nu, be, ce, ?_, ?_, hF.fin (k := 5) (by decide), h⟩
          · rw [f_S_copy, isSheet_yes hk, sm_some, if_neg one0, isSheet_yes hu, sm_some, if_neg one0, missing_no h hk h0, sm_some, if_pos rfl, missing_yes h hu h1, sm_some, if_neg one0, f_S_copy_b43, fnd5, sm_some]
          · rw [f_M_copy, MisSheet_yes hk, sm_some, if_neg one0, MisSheet_yes hu, sm_some, if_neg one0, rd_nI (by omega) (by decide), sm_some, if_neg h0, rd_nI (by omega) (by decide), sm_some, if_pos h1, f_M_copy_b38, mno5, sm_some]
        · have hX : f_S_copy c nu sz wd (nI k) f (nI u) o n = ((f_Sheets_areAlike wd (nI k) (nI u)).bind fun r12 =>
          if r12 = (0 : Int32) then
            (f_S_finding c (-1000000003 : Int32)).bind fun r19 =>
            some (r19.1, r19.2, nu)
          else
            (f_Sheets_holds sz (nI k) f n).bind fun r14 =>
            if r14 = (0 : Int32) then
              f_S_copy_b98 sz wd (nI k) f (nI u) o n c nu
            else
              (f_Sheets_holds sz (nI u) o n).bind fun r16 =>
              if r16 = (0 : Int32) then
                f_S_copy_b98 sz wd (nI k) f (nI u) o n c nu
              else
                (f_Sheets_move nu sz (nI k) f (nI u) o n).bind fun r18 =>
                some (n, c, r18)) := by
            rw [f_S_copy, isSheet_yes hk, sm_some, if_neg one0, isSheet_yes hu, sm_some, if_neg one0, missing_no h hk h0, sm_some, if_pos rfl, missing_no h hu h1, sm_some, if_pos rfl]
          have hM : f_M_copy be bt ce d lg (nI k) f (nI u) o n = (if bt k = bt u then
            if n < (0 : Int32) then
              f_M_copy_b106 bt lg (nI k) f (nI u) o n be ce d
            else
              if f < (0 : Int32) then
                f_M_copy_b106 bt lg (nI k) f (nI u) o n be ce d
              else
                if o < (0 : Int32) then
                  f_M_copy_b106 bt lg (nI k) f (nI u) o n be ce d
                else
                  if (nI (Z k) - n) < f then
                    f_M_copy_b106 bt lg (nI k) f (nI u) o n be ce d
                  else
                    if o ≤ (nI (Z u) - n) then
                      f_M_copy_b115 bt lg (nI k) f (nI u) o n 5000 be ce d (0 : Int32)
                    else
                      f_M_copy_b106 bt lg (nI k) f (nI u) o n be ce d
          else
            (f_M_no d (2 : Int32)).bind fun r28 =>
            some (r28.1, be, ce, r28.2)) := by
            rw [f_M_copy, MisSheet_yes hk, sm_some, if_neg one0, MisSheet_yes hu, sm_some, if_neg one0, rd_nI (by omega) (by decide), sm_some, if_neg h0, rd_nI (by omega) (by decide), sm_some, if_neg h1, sm_some, sm_some, rd_nI (by omega) (by decide), sm_some, rd_nI (by omega) (by decide), sm_some, (h.1 k (by omega)).2.2.1, (h.1 u (by omega)).2.2.1]
          have hA : f_Sheets_areAlike wd (nI k) (nI u) = some (if bt k = bt u then 1 else 0) := by
            rw [f_Sheets_areAlike, isSheet_yes hk, sm_some, if_neg one0, isSheet_yes hu, sm_some, if_neg one0, rd_nI (by omega) (by decide), sm_some, rd_nI (by omega) (by decide), sm_some, (h.1 k (by omega)).1, (h.1 u (by omega)).1]
            split <;> rfl
          rw [hX, hM, hA, sm_some]
          by_cases hq : bt k = bt u
          · rw [if_pos hq, if_pos hq, if_neg one0]
            -- refused for its places
            have hbad : (f_Sheets_holds sz (nI k) f n = some 0 ∨ f_Sheets_holds sz (nI k) f n = some 1 ∧ f_Sheets_holds sz (nI u) o n = some 0) → ((f_Sheets_holds sz (nI k) f n).bind fun r14 => if r14 = (0 : Int32) then f_S_copy_b98 sz wd (nI k) f (nI u) o n c nu else (f_Sheets_holds sz (nI u) o n).bind fun r16 => if r16 = (0 : Int32) then f_S_copy_b98 sz wd (nI k) f (nI u) o n c nu else (f_Sheets_move nu sz (nI k) f (nI u) o n).bind fun r18 => some (n, c, r18)) = some (-1000000001, upd c 0 (c 0 + 1), nu) := by
              rintro (z | ⟨z1, z2⟩)
              · rw [z, sm_some, if_pos rfl, f_S_copy_b98, fnd0, sm_some]
              · rw [z1, sm_some, if_neg one0, z2, sm_some, if_pos rfl, f_S_copy_b98, fnd0, sm_some]
            have hout : ∀ X M, X = some (-1000000001, upd c 0 (c 0 + 1), nu) → M = f_M_copy_b106 bt lg (nI k) f (nI u) o n be ce d → ∃ r c' d' nu' be' ce', X = some (r, c', nu') ∧ M = some (r, be', ce', d') ∧ rF c' d' ∧ rSh Z wd sz nu' bt lg ce' := by
              intro X M e1 e2
              refine ⟨-1000000001, _, _, nu, be, ce, e1, ?_, hF.fin (k := 0) (by decide), h⟩
              rw [e2, f_M_copy_b106, mno0, sm_some]
            by_cases n0 : n < 0
            · rw [if_pos n0]
              exact hout _ _ (hbad (Or.inl (holds_no h hk (Or.inr (Or.inl n0))))) rfl
            · rw [if_neg n0]
              by_cases f0 : f < 0
              · rw [if_pos f0]
                exact hout _ _ (hbad (Or.inl (holds_no h hk (Or.inl f0)))) rfl
              · rw [if_neg f0]
                have hor : f_Sheets_holds sz (nI k) f n = some 0 ∨ f_Sheets_holds sz (nI k) f n = some 1 := by
                  obtain ⟨x, hx, rfl⟩ := nI_of n0
                  obtain ⟨y, hy, rfl⟩ := nI_of f0
                  rcases Nat.lt_or_ge (Z k) (y + x) with q | q
                  · exact Or.inl (holds_no h hk (Or.inr (Or.inr ⟨y, x, hy, hx, rfl, rfl, q⟩)))
                  · exact Or.inr (holds_yes h hk q)
                by_cases o0 : o < 0
                · rw [if_pos o0]
                  refine hout _ _ (hbad ?_) rfl
                  rcases hor with z | z
                  · exact Or.inl z
                  · exact Or.inr ⟨z, holds_no h hu (Or.inl o0)⟩
                · rw [if_neg o0]
                  obtain ⟨x, hx, rfl⟩ := nI_of n0
                  obtain ⟨y, hy, rfl⟩ := nI_of f0
                  obtain ⟨v, hv, rfl⟩ := nI_of o0
                  rcases Nat.lt_or_ge (Z k) (y + x) with q | q
                  · rw [if_pos ((sub_lt hz hy hx).mpr q)]
                    exact hout _ _ (hbad (Or.inl (holds_no h hk (Or.inr (Or.inr ⟨y, x, hy, hx, rfl, rfl, q⟩))))) rfl
                  · rw [if_neg (fun z => by have := (sub_lt hz hy hx).mp z; omega)]
                    rcases Nat.lt_or_ge (Z u) (v + x) with q2 | q2
                    · rw [if_neg (fun z => by have := (sub_ge hzu hv hx).mp z; omega)]
                      exact hout _ _ (hbad (Or.inr ⟨holds_yes h hk q, holds_no h hu (Or.inr (Or.inr ⟨v, x, hv, hx, rfl, rfl, q2⟩))⟩)) rfl
                    · rw [if_pos ((sub_ge hzu hv hx).mpr q2), holds_yes h hk q, sm_some, if_neg one0, holds_yes h hu q2, sm_some, if_neg one0, f_Sheets_move, holds_yes h hk q, sm_some, if_neg one0, holds_yes h hu q2, sm_some, if_neg one0, ix, ix, cpy_nI nu nu (by omega) (by omega), sm_some, sm_some]
                      obtain ⟨be', g1, g2⟩ := cp1_loop (d := d) h hk q (nI u) (nI v) x 0 5000 be (by omega) (by omega) (fun t ht => by omega)
                      obtain ⟨ce', g3, g4⟩ := cp2_loop (d := d) h hu q2 (nI k) (nI y) be' x 0 5000 ce (by omega) (by omega) (fun t => by rw [if_neg (by omega)])
                      rw [nI_0] at g1 g3
                      rw [g1, g3]
                      refine ⟨_, _, _, _, _, _, rfl, rfl, hF, h.1, fun t ht => ?_⟩
                      rw [g4 t]
                      by_cases e : 40 * u + v ≤ t ∧ t < 40 * u + v + x
                      · rw [if_pos e, pk_cpy_in e.1 e.2, g2 _ (by omega), h.2 _ (by omega)]
                      · rw [if_neg e, pk_cpy_out (by omega), h.2 t ht]
          · rw [if_neg hq, if_neg hq, if_pos rfl, fnd2, mno2, sm_some, sm_some]
            exact ⟨_, _, _, nu, be, ce, rfl, rfl, hF.fin (k := 2) (by decide), h⟩
    · refine ⟨-1000000001, _, _, nu, be, ce, ?_, ?_, hF.fin (k := 0) (by decide), h⟩
      · rw [f_S_copy, isSheet_yes hk, sm_some, if_neg one0, isSheet_no hn, sm_some, if_pos rfl, f_S_copy_b14, fnd0, sm_some]
      · rw [f_M_copy, MisSheet_yes hk, sm_some, if_neg one0, MisSheet_no hn, sm_some, if_pos rfl, f_M_copy_b14, mno0, sm_some]
  · refine ⟨-1000000001, _, _, nu, be, ce, ?_, ?_, hF.fin (k := 0) (by decide), h⟩
    · rw [f_S_copy, isSheet_no hn, sm_some, if_pos rfl, f_S_copy_b14, fnd0, sm_some]
    · rw [f_M_copy, MisSheet_no hn, sm_some, if_pos rfl, f_M_copy_b14, mno0, sm_some]
end CP
