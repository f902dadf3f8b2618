-- ===== LETTERS =====
def rL (K F D : Nat → Nat) (kd fm dp s : Nat → Int32) : Prop := ∀ l, l < 12 → (kd l = nI (K l) ∧ fm l = nI (F l) ∧ dp l = nI (D l)) ∧ s (29 + 3 * l) = nI (K l) ∧ s (30 + 3 * l) = nI (F l) ∧ s (31 + 3 * l) = nI (D l)
def okL (K F D : Nat → Nat) : Prop := ∀ l, l < 12 → K l < 6 ∧ F l < 4096 ∧ D l ≤ 99
/-- all that an image keeps, on both sides -/
def rPl (B K F D : Nat → Nat) (N H S : Nat) (bf kd fm dp : Nat → Int32) (n hr sn : Int32) (s : Nat → Int32) : Prop :=
  (rBX B bf ∧ rBM B s ∧ okB B) ∧ (rL K F D kd fm dp s ∧ okL K F D) ∧ (n = nI N ∧ s 2 = nI N ∧ N ≤ 12) ∧ (hr = nI H ∧ s 0 = nI H ∧ H ≤ 999) ∧ (sn = nI S ∧ s 1 = nI S ∧ S < 4096)
theorem at0 (l : Nat) : f_M_at (nI l) 0 = some (nI (29 + 3 * l)) := by
  rw [f_M_at, show (29 : Int32) = nI 29 from rfl, show (3 : Int32) = nI 3 from rfl, show (0 : Int32) = nI 0 from rfl, pk_mul, nI_add, nI_add]; rfl
theorem at1 (l : Nat) : f_M_at (nI l) 1 = some (nI (30 + 3 * l)) := by
  rw [f_M_at, show (29 : Int32) = nI 29 from rfl, show (3 : Int32) = nI 3 from rfl, show (1 : Int32) = nI 1 from rfl, pk_mul, nI_add, nI_add, show 29 + 3 * l + 1 = 30 + 3 * l by omega]
theorem at2 (l : Nat) : f_M_at (nI l) 2 = some (nI (31 + 3 * l)) := by
  rw [f_M_at, show (29 : Int32) = nI 29 from rfl, show (3 : Int32) = nI 3 from rfl, show (2 : Int32) = nI 2 from rfl, pk_mul, nI_add, nI_add, show 29 + 3 * l + 2 = 31 + 3 * l by omega]
section LET
variable {B K F D : Nat → Nat} {N H S : Nat} {bf kd fm dp s c d : Nat → Int32} {n hr sn : Int32}
theorem rl0 (h : rL K F D kd fm dp s) {l : Nat} (hl : l < 12) : rd s 65 (nI (29 + 3 * l)) = some (nI (K l)) := by rw [rd_nI (by omega) (by decide), (h l hl).2.1]
theorem rl1 (h : rL K F D kd fm dp s) {l : Nat} (hl : l < 12) : rd s 65 (nI (30 + 3 * l)) = some (nI (F l)) := by rw [rd_nI (by omega) (by decide), (h l hl).2.2.1]
theorem rl2 (h : rL K F D kd fm dp s) {l : Nat} (hl : l < 12) : rd s 65 (nI (31 + 3 * l)) = some (nI (D l)) := by rw [rd_nI (by omega) (by decide), (h l hl).2.2.2]
theorem rlk (h : rL K F D kd fm dp s) {l : Nat} (hl : l < 12) : rd kd 12 (nI l) = some (nI (K l)) := by rw [rd_nI hl (by decide), (h l hl).1.1]
theorem rlf (h : rL K F D kd fm dp s) {l : Nat} (hl : l < 12) : rd fm 12 (nI l) = some (nI (F l)) := by rw [rd_nI hl (by decide), (h l hl).1.2.1]
theorem rld (h : rL K F D kd fm dp s) {l : Nat} (hl : l < 12) : rd dp 12 (nI l) = some (nI (D l)) := by rw [rd_nI hl (by decide), (h l hl).1.2.2]
theorem rs0 (s : Nat → Int32) : rd s 65 (0 : Int32) = some (s 0) := rd_nI (k := 0) (by decide) (by decide)
theorem rs1 (s : Nat → Int32) : rd s 65 (1 : Int32) = some (s 1) := rd_nI (k := 1) (by decide) (by decide)
theorem rs2 (s : Nat → Int32) : rd s 65 (2 : Int32) = some (s 2) := rd_nI (k := 2) (by decide) (by decide)
/-- a letter's number, or none -/
theorem lng (a : Int32) (N : Nat) (hN : N ≤ 12) : (∃ l, l < N ∧ a = nI l) ∨ (a < 0 ∨ nI N ≤ a) := by
  by_cases h0 : a < 0
  · exact Or.inr (Or.inl h0)
  · obtain ⟨j, hj, rfl⟩ := nI_of h0
    rcases Nat.lt_or_ge j N with q | q
    · exact Or.inl ⟨j, q, rfl⟩
    · exact Or.inr (Or.inr (nI_le q hj))
theorem has_yes {l : Nat} (hN : N ≤ 12) (h : l < N) : f_Plain_has (nI N) (nI l) = some 1 := by
  rw [f_Plain_has, if_neg (nI_pos (by omega)), if_neg (nge l N h (by omega))]
theorem has_no {a : Int32} (h : a < 0 ∨ nI N ≤ a) : f_Plain_has (nI N) a = some 0 := by
  rw [f_Plain_has]
  rcases h with h | h
  · rw [if_pos h]
  · by_cases h0 : a < 0
    · rw [if_pos h0]
    · rw [if_neg h0, if_pos h]
theorem isL_yes {l : Nat} (h2 : s 2 = nI N) (hN : N ≤ 12) (h : l < N) : f_M_isLetter s (nI l) = some 1 := by
  obtain ⟨k, rfl⟩ : ∃ k, N = k + 1 := ⟨N - 1, by omega⟩
  rw [f_M_isLetter, rs2, sm_some, h2, nI_pred, show f_M_in (nI l) 0 (nI k) = some 1 from MinN_yes (by omega) (by omega), sm_some, bl1, sm_some]
theorem isL_no {a : Int32} (h2 : s 2 = nI N) (hN : N ≤ 12) (h : a < 0 ∨ nI N ≤ a) : f_M_isLetter s a = some 0 := by
  have : f_M_in a 0 (nI N - 1) = some 0 := by
    by_cases h0 : a < 0
    · exact Min_no (Or.inl h0)
    · obtain ⟨j, hj, rfl⟩ := nI_of h0
      have hge : N ≤ j := by
        rcases h with h | h
        · exact absurd h h0
        · rcases Nat.lt_or_ge j N with q | q
          · exact absurd h (nge j N q (by omega))
          · exact q
      refine Min_no (Or.inr ?_)
      cases N with
      | zero =>
        have e : nI 0 - (1 : Int32) = -1 := by decide
        rw [e]
        have h1 : (0 : Int32) ≤ nI j := nI_pos' hj
        rw [fa_lt]
        rw [fa_le] at h1
        have e1 : (-1 : Int32).toInt = -1 := by decide
        have e2 : (0 : Int32).toInt = 0 := by decide
        omega
      | succ k => rw [nI_pred]; exact nlts k j (by omega) hj
  rw [f_M_isLetter, rs2, sm_some, h2, this, sm_some, bl0, sm_some]
theorem isKind_yes {k : Nat} (h : k ≤ 5) : f_Kinds_isKind (nI k) = some 1 := by
  rw [f_Kinds_isKind, if_neg (nI_pos (by omega)), if_neg (show ¬ (6 : Int32) ≤ nI k from nge k 6 (by omega) (by decide))]
theorem isKind_no {a : Int32} (h : a < 0 ∨ nI 5 < a) : f_Kinds_isKind a = some 0 := by
  rw [f_Kinds_isKind]
  by_cases h0 : a < 0
  · rw [if_pos h0]
  · obtain ⟨j, hj, rfl⟩ := nI_of h0
    rcases h with h | h
    · exact absurd h h0
    · have : 5 < j := by
        rcases Nat.lt_or_ge 5 j with q | q
        · exact q
        · exact absurd h (nnlt j 5 q (by decide))
      rw [if_neg h0, if_pos (show (6 : Int32) ≤ nI j from nles 6 j (by omega) hj)]
theorem MisKind_yes {k : Nat} (h : k ≤ 5) : f_M_isKind (nI k) = some 1 := by
  rw [f_M_isKind, show (5 : Int32) = nI 5 from rfl, MinN_yes h (by decide), sm_some, bl1, sm_some]
theorem MisKind_no {a : Int32} (h : a < 0 ∨ nI 5 < a) : f_M_isKind a = some 0 := by
  rw [f_M_isKind, show (5 : Int32) = nI 5 from rfl, Min_no h, sm_some, bl0, sm_some]
/-- what the kinds make of a form and of deep -/
def lasN (k d : Nat) : Nat := if k = 1 ∨ k = 4 then 2 * d else if k = 2 then d / 2 else if k = 5 then d / 2 + 4 else d
theorem lasts_ok : ∀ k, k < 6 → ∀ d, d ≤ 99 → f_Kinds_lasts (nI k) (nI d) = some (nI (lasN k d)) := by decide +kernel
theorem lastsBy_eq : f_M_lastsBy = f_Kinds_lasts := rfl
theorem lasN_le (k d : Nat) (h : d ≤ 99) : lasN k d ≤ 198 := by
  unfold lasN
  split
  · omega
  · split
    · omega
    · split <;> omega
def shN (k f : Nat) : Nat := if k = 3 then f ||| 12 else if k = 4 then f ||| 48 else f
theorem six {P : Nat → Prop} (h0 : P 0) (h1 : P 1) (h2 : P 2) (h3 : P 3) (h4 : P 4) (h5 : P 5) : ∀ k, k < 6 → P k := by
  intro k hk
  rcases (show k = 0 ∨ k = 1 ∨ k = 2 ∨ k = 3 ∨ k = 4 ∨ k = 5 by omega) with rfl | rfl | rfl | rfl | rfl | rfl <;> assumption
theorem shows_ok (f : Nat) : ∀ k, k < 6 → f_Kinds_shows (nI k) (nI f) = some (nI (shN k f)) := by
  have e12 : nI f ||| (12 : Int32) = nI (f ||| 12) := fa_or f 12
  have e48 : nI f ||| (48 : Int32) = nI (f ||| 48) := fa_or f 48
  apply six <;> unfold f_Kinds_shows
  · rfl
  · rfl
  · rfl
  · rw [if_pos (by decide), e12]; rfl
  · rw [if_neg (by decide), if_pos (by decide), e48]; rfl
  · rfl
theorem shN_lt {k f : Nat} (hf : f < 4096) : shN k f < 4096 := by
  unfold shN
  split
  · exact Nat.or_lt_two_pow (n := 12) hf (by decide)
  · split
    · exact Nat.or_lt_two_pow (n := 12) hf (by decide)
    · exact hf
def ftN (k f : Nat) : Nat := if k = 1 then 2 * (popN f + strN f) else if k = 3 then popN f + strN f + 2 else if k = 4 then 2 * (popN f + strN f) + 2 else popN f + strN f
theorem ftN_le (k f : Nat) : ftN k f ≤ 400 := by
  have h1 := popN_le f
  have h2 := linN_le f
  have h3 : strN f ≤ 144 := by unfold strN; omega
  unfold ftN
  split
  · omega
  · split
    · omega
    · split <;> omega
theorem feet_aux (a : Nat) : ∀ k, k < 6 → (if nI k = (1 : Int32) then some ((2 : Int32) * nI a) else if nI k = (2 : Int32) then some (nI a) else if nI k = (3 : Int32) then some (nI a + (2 : Int32)) else if nI k = (4 : Int32) then some (((2 : Int32) * nI a) + (2 : Int32)) else some (nI a)) = some (nI (if k = 1 then 2 * a else if k = 3 then a + 2 else if k = 4 then 2 * a + 2 else a)) := by
  have e1 : (2 : Int32) * nI a = nI (2 * a) := pk_mul 2 a
  have e2 : nI a + (2 : Int32) = nI (a + 2) := nI_add a 2
  have e3 : nI (2 * a) + (2 : Int32) = nI (2 * a + 2) := nI_add (2 * a) 2
  rw [e1, e2, e3]
  apply six <;> rfl
theorem feet_ok {f : Nat} (hf : f < 4096) (k : Nat) (hk : k < 6) : f_Kinds_feet (nI k) (nI f) = some (nI (ftN k f)) := by
  rw [f_Kinds_feet, bitCount_ok hf, sm_some, countStrays_ok hf, sm_some, nI_add]
  exact feet_aux (popN f + strN f) k hk
theorem feetBy_ok {f : Nat} (hf : f < 4096) (k : Nat) (hk : k < 6) : f_M_feetBy (nI k) (nI f) = some (nI (ftN k f)) := by
  rw [f_M_feetBy, Mones_ok hf, sm_some, MstraysOf_ok hf, sm_some, nI_add]
  exact feet_aux (popN f + strN f) k hk
/-- what is shown at an hour -/
def SHN (k f d S h : Nat) : Nat := shN k (if lasN k d ≤ h then mlt f S else f)
theorem SHN_lt {k f d S h : Nat} (hf : f < 4096) : SHN k f d S h < 4096 := by
  unfold SHN
  apply shN_lt
  split
  · exact mlt_lt hf
  · exact hf
theorem lastsOf_ok (h : rL K F D kd fm dp s) (hk : okL K F D) {l : Nat} (hl : l < 12) : f_Plain_lastsOf dp kd (nI l) = some (nI (lasN (K l) (D l))) := by
  rw [f_Plain_lastsOf, rlk h hl, sm_some, rld h hl, sm_some, lasts_ok _ (hk l hl).1 _ (hk l hl).2.2, sm_some]
theorem Mlasts_ok (h : rL K F D kd fm dp s) (hk : okL K F D) {l : Nat} (hl : l < 12) : f_M_lasts s (nI l) = some (nI (lasN (K l) (D l))) := by
  rw [f_M_lasts, at0, sm_some, rl0 h hl, sm_some, at2, sm_some, rl2 h hl, sm_some, lastsBy_eq, lasts_ok _ (hk l hl).1 _ (hk l hl).2.2, sm_some]
theorem shownAt_ok (h : rL K F D kd fm dp s) (hk : okL K F D) (S : Nat) {l at_ : Nat} (hl : l < 12) (ha : at_ < 2147483648) : f_Plain_shownAt (nI S) dp fm kd (nI l) (nI at_) = some (nI (SHN (K l) (F l) (D l) S at_)) := by
  have hla := lasN_le (K l) (D l) (hk l hl).2.2
  have hF := (hk l hl).2.1
  rw [f_Plain_shownAt, lastsOf_ok h hk hl, sm_some]
  unfold SHN
  by_cases hc : lasN (K l) (D l) ≤ at_
  · rw [if_pos (nles _ _ hc ha), if_pos hc, rlf h hl, sm_some, f_Plain_shownAt_b31, rlk h hl, sm_some, not_nI (by omega), shows_ok _ _ (hk l hl).1, sm_some]
  · rw [if_neg (nge _ _ (by omega) (by omega)), if_neg hc, rlf h hl, sm_some, f_Plain_shownAt_b31, rlk h hl, sm_some, shows_ok _ _ (hk l hl).1, sm_some]
theorem Mshows48 (h : rL K F D kd fm dp s) (hk : okL K F D) {l : Nat} (hl : l < 12) (x : Nat) : f_M_shows_b48 s (nI l) (nI x) = some (nI (shN (K l) x)) := by
  rw [f_M_shows_b48, at0, sm_some, rl0 h hl, sm_some]
  exact shows_ok x _ (hk l hl).1
theorem Mshows_ok (h : rL K F D kd fm dp s) (hk : okL K F D) {l : Nat} (hl : l < 12) (h0 : s 0 = nI H) (hH : H < 2147483648) (h1 : s 1 = nI S) : f_M_shows s (nI l) = some (nI (SHN (K l) (F l) (D l) S H)) := by
  have hla := lasN_le (K l) (D l) (hk l hl).2.2
  have hF := (hk l hl).2.1
  rw [f_M_shows, rs0, sm_some, Mlasts_ok h hk hl, sm_some, h0]
  unfold SHN
  by_cases hc : lasN (K l) (D l) ≤ H
  · rw [if_pos (nles _ _ hc hH), if_pos hc, at1, sm_some, rl1 h hl, sm_some, rs1, sm_some, h1, not_nI (by omega), Mshows48 h hk hl]
  · rw [if_neg (nge _ _ (by omega) (by omega)), if_neg hc, at1, sm_some, rl1 h hl, sm_some, Mshows48 h hk hl]
theorem feetOf_ok (h : rL K F D kd fm dp s) (hk : okL K F D) {l : Nat} (hl : l < 12) : f_Plain_feetOf fm kd (nI l) = some (nI (ftN (K l) (F l))) := by
  rw [f_Plain_feetOf, rlk h hl, sm_some, rlf h hl, sm_some, feet_ok (hk l hl).2.1 _ (hk l hl).1, sm_some]
theorem Mfeet_ok (h : rL K F D kd fm dp s) (hk : okL K F D) {l : Nat} (hl : l < 12) : f_M_feet s (nI l) = some (nI (ftN (K l) (F l))) := by
  rw [f_M_feet, at0, sm_some, rl0 h hl, sm_some, at1, sm_some, rl1 h hl, sm_some, feetBy_ok (hk l hl).2.1 _ (hk l hl).1, sm_some]
theorem seenAs_ok (h : rPl B K F D N H S bf kd fm dp n hr sn s) {l : Nat} (hl : l < 12) : f_Plain_seenAs hr sn bf dp fm kd (nI l) = some (enc (nrU B (SHN (K l) (F l) (D l) S H) 26)) := by
  obtain ⟨⟨b1, b2, b3⟩, ⟨l1, l2⟩, -, ⟨h1, h2, h3⟩, ⟨s1, s2, s3⟩⟩ := h
  rw [f_Plain_seenAs, h1, s1, shownAt_ok l1 l2 S hl (by omega), sm_some, nearest_ok b1 b3 (SHN_lt (l2 l hl).2.1), sm_some]
theorem case_of (hF : rF c d) (h : rPl B K F D N H S bf kd fm dp n hr sn s) (a b : Int32) : ∃ r c' d', f_S_of c n hr sn bf dp fm kd a b = some (r, c') ∧ f_M_of d s a b = some (r, d') ∧ rF c' d' := by
  have h' := h
  obtain ⟨⟨b1, b2, b3⟩, ⟨l1, l2⟩, ⟨n1, n2, n3⟩, ⟨h1, h2, h3⟩, ⟨s1, s2, s3⟩⟩ := h
  rcases lng a N n3 with ⟨l, hl, rfl⟩ | hn
  · have hl12 : l < 12 := by omega
    have hFl := (l2 l hl12).2.1
    rcases rng b 7 (by decide) with ⟨w, hw, rfl⟩ | hb
    · have hX : f_S_of c n hr sn bf dp fm kd (nI l) (nI w) = (if nI w = (0 : Int32) then (rd kd 12 (nI l)).bind fun r4 => some (r4, c) else if nI w = (1 : Int32) then (rd fm 12 (nI l)).bind fun r5 => some (r5, c) else if nI w = (2 : Int32) then (rd dp 12 (nI l)).bind fun r6 => some (r6, c) else if nI w = (3 : Int32) then (f_Plain_lastsOf dp kd (nI l)).bind fun r7 => some (r7, c) else if nI w = (4 : Int32) then (f_Plain_shownAt sn dp fm kd (nI l) hr).bind fun r8 => some (r8, c) else if nI w = (5 : Int32) then (f_Plain_feetOf fm kd (nI l)).bind fun r9 => some (r9, c) else if nI w = (6 : Int32) then (rd fm 12 (nI l)).bind fun r10 => (f_Book_nearest bf r10).bind fun r11 => some (r11, c) else if nI w = (7 : Int32) then (f_Plain_seenAs hr sn bf dp fm kd (nI l)).bind fun r12 => some (r12, c) else (f_S_finding c (-1000000001 : Int32)).bind fun r13 => some (r13.1, r13.2)) := by
        rw [f_S_of, n1, has_yes n3 hl, sm_some, if_neg (by decide)]
      have hM : f_M_of d s (nI l) (nI w) = (if nI w = (3 : Int32) then (f_M_lasts s (nI l)).bind fun r7 => some (r7, d) else if nI w = (4 : Int32) then (f_M_shows s (nI l)).bind fun r8 => some (r8, d) else if nI w = (5 : Int32) then (f_M_feet s (nI l)).bind fun r9 => some (r9, d) else if nI w = (6 : Int32) then (f_M_at (nI l) (1 : Int32)).bind fun r10 => (rd s 65 r10).bind fun r11 => (f_M_readAs s r11).bind fun r12 => some (r12, d) else if nI w = (7 : Int32) then (f_M_shows s (nI l)).bind fun r13 => (f_M_readAs s r13).bind fun r14 => some (r14, d) else (f_M_at (nI l) (nI w)).bind fun r15 => (rd s 65 r15).bind fun r16 => some (r16, d)) := by
        rw [f_M_of, isL_yes n2 n3 hl, sm_some, if_neg (by decide), show (7 : Int32) = nI 7 from rfl, MinN_yes hw (by decide), sm_some, if_neg (by decide)]
      have hne : ∀ v, v ≤ 7 → v ≠ w → ¬ nI w = nI v := fun v hv hvw z => hvw ((nI_eq (by omega) (by omega)).mp z).symm
      rcases (show w = 0 ∨ w = 1 ∨ w = 2 ∨ w = 3 ∨ w = 4 ∨ w = 5 ∨ w = 6 ∨ w = 7 by omega) with rfl | rfl | rfl | rfl | rfl | rfl | rfl | rfl
      · refine ⟨nI (K l), c, d, ?_, ?_, hF⟩
        · rw [hX, if_pos (by decide), rlk l1 hl12, sm_some]
        · rw [hM, if_neg (by decide), if_neg (by decide), if_neg (by decide), if_neg (by decide), if_neg (by decide), show nI 0 = (0 : Int32) from rfl, at0, sm_some, rl0 l1 hl12, sm_some]
      · refine ⟨nI (F l), c, d, ?_, ?_, hF⟩
        · rw [hX, if_neg (by decide), if_pos (by decide), rlf l1 hl12, sm_some]
        · rw [hM, if_neg (by decide), if_neg (by decide), if_neg (by decide), if_neg (by decide), if_neg (by decide), show nI 1 = (1 : Int32) from rfl, at1, sm_some, rl1 l1 hl12, sm_some]
      · refine ⟨nI (D l), c, d, ?_, ?_, hF⟩
        · rw [hX, if_neg (by decide), if_neg (by decide), if_pos (by decide), rld l1 hl12, sm_some]
        · rw [hM, if_neg (by decide), if_neg (by decide), if_neg (by decide), if_neg (by decide), if_neg (by decide), show nI 2 = (2 : Int32) from rfl, at2, sm_some, rl2 l1 hl12, sm_some]
      · refine ⟨nI (lasN (K l) (D l)), c, d, ?_, ?_, hF⟩
        · rw [hX, if_neg (by decide), if_neg (by decide), if_neg (by decide), if_pos (by decide), lastsOf_ok l1 l2 hl12, sm_some]
        · rw [hM, if_pos (by decide), Mlasts_ok l1 l2 hl12, sm_some]
      · refine ⟨nI (SHN (K l) (F l) (D l) S H), c, d, ?_, ?_, hF⟩
        · rw [hX, if_neg (by decide), if_neg (by decide), if_neg (by decide), if_neg (by decide), if_pos (by decide), s1, h1, shownAt_ok l1 l2 S hl12 (by omega), sm_some]
        · rw [hM, if_neg (by decide), if_pos (by decide), Mshows_ok l1 l2 hl12 h2 (by omega) s2, sm_some]
      · refine ⟨nI (ftN (K l) (F l)), c, d, ?_, ?_, hF⟩
        · rw [hX, if_neg (by decide), if_neg (by decide), if_neg (by decide), if_neg (by decide), if_neg (by decide), if_pos (by decide), feetOf_ok l1 l2 hl12, sm_some]
        · rw [hM, if_neg (by decide), if_neg (by decide), if_pos (by decide), Mfeet_ok l1 l2 hl12, sm_some]
      · refine ⟨enc (nrU B (F l) 26), c, d, ?_, ?_, hF⟩
        · rw [hX, if_neg (by decide), if_neg (by decide), if_neg (by decide), if_neg (by decide), if_neg (by decide), if_neg (by decide), if_pos (by decide), rlf l1 hl12, sm_some, nearest_ok b1 b3 hFl, sm_some]
        · rw [hM, if_neg (by decide), if_neg (by decide), if_neg (by decide), if_pos (by decide), at1, sm_some, rl1 l1 hl12, sm_some, readAs_ok b2 b3 hFl, sm_some]
      · refine ⟨enc (nrU B (SHN (K l) (F l) (D l) S H) 26), c, d, ?_, ?_, hF⟩
        · rw [hX, if_neg (by decide), if_neg (by decide), if_neg (by decide), if_neg (by decide), if_neg (by decide), if_neg (by decide), if_neg (by decide), if_pos (by decide), seenAs_ok h' hl12, sm_some]
        · rw [hM, if_neg (by decide), if_neg (by decide), if_neg (by decide), if_neg (by decide), if_pos (by decide), Mshows_ok l1 l2 hl12 h2 (by omega) s2, sm_some, readAs_ok b2 b3 (SHN_lt hFl), sm_some]
    · refine ⟨-1000000001, _, _, ?_, ?_, hF.fin (k := 0) (by decide)⟩
      · have hv : ∀ v, v ≤ 7 → ¬ b = nI v := by
          rintro v hv rfl
          rcases hb with hb | hb
          · exact nI_pos (by omega) hb
          · exact nnlt v 7 hv (by decide) hb
        rw [f_S_of, n1, has_yes n3 hl, sm_some, if_neg (by decide), if_neg (show ¬ b = (0 : Int32) from hv 0 (by decide)), if_neg (show ¬ b = (1 : Int32) from hv 1 (by decide)), if_neg (show ¬ b = (2 : Int32) from hv 2 (by decide)), if_neg (show ¬ b = (3 : Int32) from hv 3 (by decide)), if_neg (show ¬ b = (4 : Int32) from hv 4 (by decide)), if_neg (show ¬ b = (5 : Int32) from hv 5 (by decide)), if_neg (show ¬ b = (6 : Int32) from hv 6 (by decide)), if_neg (show ¬ b = (7 : Int32) from hv 7 (by decide)), fnd0, sm_some]
      · rw [f_M_of, isL_yes n2 n3 hl, sm_some, if_neg (by decide), show (7 : Int32) = nI 7 from rfl, Min_no hb, sm_some, if_pos rfl, f_M_of_b18, mno0, sm_some]
  · refine ⟨-1000000001, _, _, ?_, ?_, hF.fin (k := 0) (by decide)⟩
    · rw [f_S_of, n1, has_no hn, sm_some, if_pos rfl, fnd0, sm_some]
    · rw [f_M_of, isL_no n2 n3 hn, sm_some, if_pos rfl, f_M_of_b18, mno0, sm_some]
end LET
