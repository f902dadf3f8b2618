-- ===== FORMS: how many strokes =====
/-- how many of the first twelve bits -/
def popN (f : Nat) : Nat := (f &&& 1) + ((f >>> 1) &&& 1) + ((f >>> 2) &&& 1) + ((f >>> 3) &&& 1) + ((f >>> 4) &&& 1) + ((f >>> 5) &&& 1) + ((f >>> 6) &&& 1) + ((f >>> 7) &&& 1) + ((f >>> 8) &&& 1) + ((f >>> 9) &&& 1) + ((f >>> 10) &&& 1) + ((f >>> 11) &&& 1)
set_option maxRecDepth 100000 in
theorem bc_chk : (List.range 4096).all (fun f => decide (f_Int_bitCount (nI f) = some (nI (popN f)))) = true := by decide +kernel
theorem bitCount_ok {f : Nat} (hf : f < 4096) : f_Int_bitCount (nI f) = some (nI (popN f)) := of_decide_eq_true (List.all_eq_true.mp bc_chk f (List.mem_range.mpr hf))
set_option maxRecDepth 100000 in
theorem on_chk : (List.range 4096).all (fun f => decide (f_M_ones (nI f) = some (nI (popN f)))) = true := by decide +kernel
theorem Mones_ok {f : Nat} (hf : f < 4096) : f_M_ones (nI f) = some (nI (popN f)) := of_decide_eq_true (List.all_eq_true.mp on_chk f (List.mem_range.mpr hf))
theorem popN_le (f : Nat) : popN f ≤ 12 := by
  have h : ∀ a : Nat, a &&& 1 ≤ 1 := fun a => Nat.and_le_right
  unfold popN
  have := h f; have := h (f >>> 1); have := h (f >>> 2); have := h (f >>> 3); have := h (f >>> 4); have := h (f >>> 5)
  have := h (f >>> 6); have := h (f >>> 7); have := h (f >>> 8); have := h (f >>> 9); have := h (f >>> 10); have := h (f >>> 11)
  omega
theorem bitc (f k : Nat) : (f >>> k) &&& 1 = if f.testBit k then 1 else 0 := by
  rw [Nat.testBit_eq_decide_div_mod_eq, Nat.and_one_is_mod, Nat.shiftRight_eq_div_pow]
  by_cases h : f / 2 ^ k % 2 = 1
  · simp [h]
  · have : f / 2 ^ k % 2 = 0 := by omega
    simp [this]
/-- by bits: how many below k -/
def popK (f : Nat) : Nat → Nat
  | 0 => 0
  | k + 1 => popK f k + if f.testBit k then 1 else 0
theorem popN_eq (f : Nat) : popN f = popK f 12 := by
  have h0 := bitc f 0
  simp only [Nat.shiftRight_zero] at h0
  simp only [popN, popK, bitc, h0]
  omega
theorem popK_0 : ∀ k, popK 0 k = 0 := by
  intro k
  induction k with
  | zero => rfl
  | succ k ih => simp [popK, ih]
theorem popK_zero {f : Nat} : ∀ {k : Nat}, popK f k = 0 → ∀ i, i < k → f.testBit i = false := by
  intro k
  induction k with
  | zero => intro _ i h; omega
  | succ k ih =>
    intro h i hi
    rw [popK] at h
    rcases Nat.lt_or_ge i k with q | q
    · exact ih (by omega) i q
    · obtain rfl : i = k := by omega
      cases hb : f.testBit i
      · rfl
      · simp [hb] at h
theorem bits_eq {f g : Nat} (hf : f < 4096) (hg : g < 4096) (h : ∀ i, i < 12 → f.testBit i = g.testBit i) : f = g := by
  apply Nat.eq_of_testBit_eq
  intro i
  rcases Nat.lt_or_ge i 12 with q | q
  · exact h i q
  · have e : (4096 : Nat) ≤ 2 ^ i := by
      have := Nat.pow_le_pow_right (n := 2) (by decide) q
      simpa using this
    rw [Nat.testBit_lt_two_pow (Nat.lt_of_lt_of_le hf e), Nat.testBit_lt_two_pow (Nat.lt_of_lt_of_le hg e)]
theorem popN_zero {f : Nat} (hf : f < 4096) : popN f = 0 ↔ f = 0 := by
  constructor
  · intro h
    rw [popN_eq] at h
    exact bits_eq hf (by decide) (fun i hi => by rw [popK_zero h i hi]; simp)
  · rintro rfl
    rfl
