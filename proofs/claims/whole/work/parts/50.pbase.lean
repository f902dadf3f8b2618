-- ===== PURE: numbers, rows, bits =====
theorem rd_nI {α : Type} {f : Nat → α} {n k : Nat} (h : k < n) (hn : n < 2 ^ 31) : rd f n (nI k) = some (f k) := by
  unfold rd
  rw [if_neg, nI_clamp (by omega)]
  exact nI_in h hn
theorem wr_nI {f : Nat → Int32} {n k : Nat} {x : Int32} (h : k < n) (hn : n < 2 ^ 31) : wr f n (nI k) x = some (upd f k x) := by
  unfold wr
  rw [if_neg, nI_clamp (by omega)]
  exact nI_in h hn
theorem wrB_nI {f : Nat → Int32} {n k : Nat} {x : Int32} (h : k < n) (hn : n < 2 ^ 31) : wrB f n (nI k) x = some (upd f k (vp_nar .byte x)) := by
  unfold wrB
  rw [if_neg, nI_clamp (by omega)]
  exact nI_in h hn
theorem wrL_nI {f : Nat → Int64} {n k : Nat} {x : Int64} (h : k < n) (hn : n < 2 ^ 31) : wrL f n (nI k) x = some (vp_updL f k x) := by
  unfold wrL
  rw [if_neg, nI_clamp (by omega)]
  exact nI_in h hn
theorem sm_some {α β : Type} (a : α) (f : α → Option β) : (some a).bind f = f a := rfl
/-- a bit by the arithmetic shift -/
theorem bit_shr {f t : Nat} (hf : f < 2 ^ 31) (ht : t < 31) : (nI f >>> (nI t &&& 31)) &&& (1 : Int32) = nI (f / 2 ^ t % 2) := by
  have h1 : ((nI t &&& 31).toBitVec.smod 32).toNat = t := by
    have : ∀ t, t < 31 → ((nI t &&& 31).toBitVec.smod 32).toNat = t := by decide +kernel
    exact this t ht
  rw [pk_shrN hf _ t h1]
  exact fa_mask (f / 2 ^ t) 1
theorem bit_tst (f t : Nat) : f / 2 ^ t % 2 = if f.testBit t then 1 else 0 := by
  rw [Nat.testBit_eq_decide_div_mod_eq]
  by_cases h : f / 2 ^ t % 2 = 1
  · simp [h]
  · have : f / 2 ^ t % 2 = 0 := by omega
    simp [this]
theorem bit_shr0 {f t : Nat} (hf : f < 2 ^ 31) (ht : t < 31) : (nI f >>> (nI t &&& 31)) &&& (1 : Int32) = 0 ↔ f.testBit t = false := by
  rw [bit_shr hf ht, bit_tst]
  cases f.testBit t <;> simp <;> decide
theorem one_shl {t : Nat} (ht : t < 31) : (1 : Int32) <<< (nI t &&& 31) = nI (2 ^ t) := by
  have : ∀ t, t < 31 → (1 : Int32) <<< (nI t &&& 31) = nI (2 ^ t) := by decide +kernel
  exact this t ht
theorem bit_and0 {f t : Nat} (ht : t < 31) : nI f &&& ((1 : Int32) <<< (nI t &&& 31)) = 0 ↔ f.testBit t = false := by
  rw [one_shl ht]
  exact fa_bit ht
/-- the complement, and a form without some strokes -/
theorem not_nI {a b : Nat} (ha : a < 2 ^ 31) : nI a &&& (nI b ^^^ (-1 : Int32)) = nI (a ^^^ (a &&& b)) := by
  apply Int32.toBitVec_inj.mp
  have e1 : (nI (a ^^^ (a &&& b))).toBitVec = BitVec.ofNat 32 (a ^^^ (a &&& b)) := rfl
  have e2 : (nI a &&& (nI b ^^^ (-1 : Int32))).toBitVec = BitVec.ofNat 32 a &&& (BitVec.ofNat 32 b ^^^ BitVec.allOnes 32) := rfl
  rw [e1, e2]
  apply BitVec.eq_of_getLsbD_eq
  intro i hi
  simp only [BitVec.getLsbD_and, BitVec.getLsbD_xor, BitVec.getLsbD_ofNat, BitVec.getLsbD_allOnes, Nat.testBit_xor, Nat.testBit_and, hi, decide_true, Bool.true_and]
  cases a.testBit i <;> cases b.testBit i <;> rfl
theorem hasStroke_nI {f t : Nat} (hf : f < 2 ^ 31) (ht : t < 31) : f_Forms_hasStroke (nI f) (nI t) = some (if f.testBit t then 1 else 0) := by
  unfold f_Forms_hasStroke
  by_cases h : f.testBit t
  · rw [if_neg (fun q => by rw [bit_shr0 hf ht] at q; simp [q] at h), if_pos h]
  · rw [if_pos ((bit_shr0 hf ht).mpr (by simpa using h)), if_neg h]
theorem Mhas_nI {f t : Nat} (ht : t < 31) : f_M_has (nI f) (nI t) = some (if f.testBit t then 1 else 0) := by
  unfold f_M_has
  by_cases h : f.testBit t
  · rw [if_neg (fun q => by rw [bit_and0 ht] at q; simp [q] at h), if_pos h]
  · rw [if_pos ((bit_and0 ht).mpr (by simpa using h)), if_neg h]
theorem nge (k N : Nat) (h : k < N) (hN : N < 2147483648) : ¬ nI N ≤ nI k := nI_ge h hN
theorem nles (k N : Nat) (h : k ≤ N) (hN : N < 2147483648) : nI k ≤ nI N := nI_le h hN
theorem nlts (k N : Nat) (h : k < N) (hN : N < 2147483648) : nI k < nI N := nI_lt h hN
theorem nnlt (k N : Nat) (h : k ≤ N) (hN : N < 2147483648) : ¬ nI N < nI k := nI_nlt h hN
/-- a number is in range, or it is not -/
theorem rng (a : Int32) (N : Nat) (hN : N < 2147483647) : (∃ j, j ≤ N ∧ a = nI j) ∨ (a < 0 ∨ nI N < a) := by
  by_cases h0 : a < 0
  · exact Or.inr (Or.inl h0)
  · obtain ⟨j, hj, rfl⟩ := nI_of h0
    by_cases h : j ≤ N
    · exact Or.inl ⟨j, h, rfl⟩
    · exact Or.inr (Or.inr (nI_lt (by omega) hj))
theorem isForm_yes {f : Nat} (h : f ≤ 4095) : f_Forms_isForm (nI f) = some 1 := by
  rw [f_Forms_isForm, if_neg (nI_pos (by omega)), if_neg (show ¬ (4095 : Int32) < nI f from nnlt f 4095 h (by decide))]
theorem isForm_no {a : Int32} (h : a < 0 ∨ nI 4095 < a) : f_Forms_isForm a = some 0 := by
  rw [f_Forms_isForm]
  rcases h with h | h
  · rw [if_pos h]
  · by_cases h0 : a < 0
    · rw [if_pos h0]
    · rw [if_neg h0, if_pos (show (4095 : Int32) < a from h)]
theorem Min_yes {a l m : Int32} (h1 : ¬ a < l) (h2 : ¬ m < a) : f_M_in a l m = some 1 := by rw [f_M_in, if_neg h1, if_neg h2]
theorem Min_no {a l m : Int32} (h : a < l ∨ m < a) : f_M_in a l m = some 0 := by
  rw [f_M_in]
  rcases h with h | h
  · rw [if_pos h]
  · by_cases h0 : a < l
    · rw [if_pos h0]
    · rw [if_neg h0, if_pos h]
theorem bl1 : bl 1 = some 1 := by decide
theorem bl0 : bl 0 = some 0 := by decide
theorem MisForm_yes {f : Nat} (h : f ≤ 4095) : f_M_isForm (nI f) = some 1 := by
  rw [f_M_isForm, Min_yes (nI_pos (by omega)) (show ¬ (4095 : Int32) < nI f from nnlt f 4095 h (by decide)), sm_some, bl1, sm_some]
theorem MisForm_no {a : Int32} (h : a < 0 ∨ nI 4095 < a) : f_M_isForm a = some 0 := by
  rw [f_M_isForm, Min_no (l := 0) (m := 4095) h, sm_some, bl0, sm_some]
/-- findings -/
theorem finding_ok : ∀ k, k < 7 → ∀ c : Nat → Int32, f_S_finding c (-1000000001 - nI k) = some (-1000000001 - nI k, upd c k (c k + 1)) := by
  intro k hk c
  have e : (-1000000001 : Int32) - (-1000000001 - nI k) = nI k := by
    have : ∀ k, k < 7 → (-1000000001 : Int32) - (-1000000001 - nI k) = nI k := by decide
    exact this k hk
  rw [f_S_finding, e, if_neg (nI_pos (by omega)), if_neg (show ¬ (7 : Int32) ≤ nI k from nge k 7 hk (by decide)), rd_nI hk (by decide), sm_some, wr_nI hk (by decide), sm_some]
theorem no_ok {k : Nat} (hk : k < 7) (c : Nat → Int32) : f_M_no c (nI k) = some (-1000000001 - nI k, upd c k (c k + 1)) := by
  rw [f_M_no, rd_nI hk (by decide), sm_some, wr_nI hk (by decide), sm_some]
theorem Mhas1 {f t : Nat} (ht : t < 31) (h : f.testBit t = true) : f_M_has (nI f) (nI t) = some 1 := by rw [Mhas_nI ht, if_pos h]
theorem Mhas0 {f t : Nat} (ht : t < 31) (h : f.testBit t = false) : f_M_has (nI f) (nI t) = some 0 := by rw [Mhas_nI ht, if_neg (by simp [h])]
theorem has1 {f t : Nat} (hf : f < 2 ^ 31) (ht : t < 31) (h : f.testBit t = true) : f_Forms_hasStroke (nI f) (nI t) = some 1 := by rw [hasStroke_nI hf ht, if_pos h]
theorem has0 {f t : Nat} (hf : f < 2 ^ 31) (ht : t < 31) (h : f.testBit t = false) : f_Forms_hasStroke (nI f) (nI t) = some 0 := by rw [hasStroke_nI hf ht, if_neg (by simp [h])]
