-- ===== BEST, WORTH =====
section BW
variable {B K F D : Nat → Nat} {N H S : Nat} {bf kd fm dp s c d : Nat → Int32} {n hr sn : Int32}
def wtN (B K F D : Nat → Nat) (S H l : Nat) : Nat := popN (SHN (K l) (F l) (D l) S H) + (if nrU B (SHN (K l) (F l) (D l) S H) 26 = none then 0 else if othI B K F D S H l = 0 then 10 else 0)
theorem wtN_le (B K F D : Nat → Nat) (S H l : Nat) : wtN B K F D S H l ≤ 22 := by
  have := popN_le (SHN (K l) (F l) (D l) S H)
  unfold wtN
  split
  · omega
  · split <;> omega
theorem enc_neg (B : Nat → Nat) (f : Nat) : enc (nrU B f 26) < 0 ↔ nrU B f 26 = none := by
  have hU := nrU_ok B f 26
  cases ho : nrU B f 26 with
  | none => exact ⟨fun _ => rfl, fun _ => by decide⟩
  | some g =>
    rw [ho] at hU
    have hg := hU.2.1
    rw [enc_some]
    exact ⟨fun z => absurd z (nI_pos (by omega)), fun z => by cases z⟩
theorem Xworth (h : rPl B K F D N H S bf kd fm dp n hr sn s) {l : Nat} (hl : l < 12) : f_Plain_worthOf hr sn bf dp fm kd (nI l) = some (nI (wtN B K F D S H l)) := by
  obtain ⟨⟨b1, b2, b3⟩, ⟨l1, l2⟩, -, ⟨h1, h2, h3⟩, ⟨s1, s2, s3⟩⟩ := h
  have hFl := (l2 l hl).2.1
  have hS := @SHN_lt (K l) (F l) (D l) S H hFl
  have h10 : nI (popN (SHN (K l) (F l) (D l) S H)) + (10 : Int32) = nI (popN (SHN (K l) (F l) (D l) S H) + 10) := nI_add _ 10
  have h00 : nI (popN (SHN (K l) (F l) (D l) S H)) + (0 : Int32) = nI (popN (SHN (K l) (F l) (D l) S H) + 0) := nI_add _ 0
  rw [f_Plain_worthOf, h1, s1, shownAt_ok l1 l2 S hl (by omega), sm_some, nearest_ok b1 b3 hS, sm_some]
  unfold wtN
  by_cases h0 : nrU B (SHN (K l) (F l) (D l) S H) 26 = none
  · rw [if_pos ((enc_neg B _).mpr h0), if_pos h0, f_Plain_worthOf_b45, bitCount_ok hS, sm_some, if_pos rfl, h00]
  · rw [if_neg (fun z => h0 ((enc_neg B _).mp z)), if_neg h0, rlf l1 hl, sm_some, nearest_ok b1 b3 hFl, sm_some]
    unfold othI
    by_cases hc : enc (nrU B (SHN (K l) (F l) (D l) S H) 26) = enc (nrU B (F l) 26)
    · rw [if_pos hc, if_pos hc, f_Plain_worthOf_b45, bitCount_ok hS, sm_some, if_neg (by decide), if_pos rfl, h10]
    · rw [if_neg hc, if_neg hc, f_Plain_worthOf_b45, bitCount_ok hS, sm_some, if_pos rfl, if_neg (by decide), h00]
theorem Mworth (h : rPl B K F D N H S bf kd fm dp n hr sn s) {l : Nat} (hl : l < 12) : f_M_worthOf s (nI l) = some (nI (wtN B K F D S H l)) := by
  obtain ⟨⟨b1, b2, b3⟩, ⟨l1, l2⟩, -, ⟨h1, h2, h3⟩, ⟨s1, s2, s3⟩⟩ := h
  have hFl := (l2 l hl).2.1
  have hS := @SHN_lt (K l) (F l) (D l) S H hFl
  have h10 : nI (popN (SHN (K l) (F l) (D l) S H)) + (10 : Int32) = nI (popN (SHN (K l) (F l) (D l) S H) + 10) := nI_add _ 10
  have h00 : nI (popN (SHN (K l) (F l) (D l) S H)) + (0 : Int32) = nI (popN (SHN (K l) (F l) (D l) S H) + 0) := nI_add _ 0
  rw [f_M_worthOf, Mshows_ok l1 l2 hl h2 (by omega) s2, sm_some, Mones_ok hS, sm_some, readAs_ok b2 b3 hS, sm_some]
  unfold wtN
  by_cases h0 : nrU B (SHN (K l) (F l) (D l) S H) 26 = none
  · rw [if_pos ((enc_neg B _).mpr h0), if_pos h0, f_M_worthOf_b31, h00]
  · rw [if_neg (fun z => h0 ((enc_neg B _).mp z)), if_neg h0, isOther_ok b2 b3 l1 l2 hl (by omega) h2 s2, sm_some]
    by_cases hc : othI B K F D S H l = 0
    · rw [if_pos hc, if_pos hc, h10]
    · rw [if_neg hc, if_neg hc, f_M_worthOf_b31, h00]
/-- what a set of letters sums up to -/
def smB (q : Nat → Nat) (m : Nat) : Nat → Nat
  | 0 => 0
  | l + 1 => smB q m l + (if m.testBit l then q l else 0)
theorem smB_le {q : Nat → Nat} {M : Nat} (hq : ∀ l, q l ≤ M) (m : Nat) : ∀ n, smB q m n ≤ n * M := by
  intro n
  induction n with
  | zero => exact Nat.zero_le _
  | succ n ih =>
    have := hq n
    rw [smB, Nat.succ_mul]
    split <;> omega
theorem smB_0 (q : Nat → Nat) : ∀ n, smB q 0 n = 0 := by
  intro n
  induction n with
  | zero => rfl
  | succ n ih => rw [smB, ih, Nat.zero_testBit]; rfl
theorem smB_tog (q : Nat → Nat) (m t : Nat) : ∀ n, smB q (m ^^^ 2 ^ t) n + (if t < n ∧ m.testBit t = true then q t else 0) = smB q m n + (if t < n ∧ m.testBit t = false then q t else 0) := by
  intro n
  induction n with
  | zero => rw [if_neg (by omega), if_neg (by omega)]; rfl
  | succ n ih =>
    rw [smB, smB, Nat.testBit_xor, Nat.testBit_two_pow]
    by_cases e : t = n
    · subst e
      rw [if_neg (by omega), if_neg (by omega)] at ih
      cases hb : m.testBit t
      · simp [hb] at *
        omega
      · simp [hb] at *
        omega
    · have e1 : decide (t = n) = false := decide_eq_false e
      rw [e1, Bool.xor_false]
      have e2 : (t < n + 1 ∧ m.testBit t = true) ↔ (t < n ∧ m.testBit t = true) := ⟨fun z => ⟨by omega, z.2⟩, fun z => ⟨by omega, z.2⟩⟩
      have e3 : (t < n + 1 ∧ m.testBit t = false) ↔ (t < n ∧ m.testBit t = false) := ⟨fun z => ⟨by omega, z.2⟩, fun z => ⟨by omega, z.2⟩⟩
      simp only [e2, e3]
      omega
def gray (i : Nat) : Nat := i ^^^ (i >>> 1)
def yarg (m : Nat) : Nat :=
  let a := m ^^^ (m >>> 1)
  let b := a ^^^ (a >>> 2)
  let c := b ^^^ (b >>> 4)
  c ^^^ (c >>> 8)
def tzF : Nat → Nat → Nat
  | 0, _ => 0
  | n + 1, i => if i % 2 = 1 then 0 else tzF n (i / 2) + 1
theorem x64 {P : Nat → Prop} (h : ∀ a, a < 64 → ∀ b, b < 64 → P (64 * a + b)) : ∀ i, i < 4096 → P i := by
  intro i hi
  have := h (i / 64) (by omega) (i % 64) (by omega)
  rwa [show 64 * (i / 64) + i % 64 = i by omega] at this
theorem gray_yarg : ∀ m, m < 4096 → gray (yarg m) = m := x64 (by decide +kernel)
theorem gray_step : ∀ i, i < 4096 → i ≠ 0 → gray i = gray (i - 1) ^^^ 2 ^ (tzF 12 i) ∧ 2 ^ (tzF 12 i) ≤ i ∧ f_Int_numberOfTrailingZeros (nI i) = some (nI (tzF 12 i)) := x64 (by decide +kernel)
theorem shr_lt {m k n : Nat} (h : m < 2 ^ n) : m >>> k < 2 ^ n := by
  rw [Nat.shiftRight_eq_div_pow]
  exact Nat.lt_of_le_of_lt (Nat.div_le_self _ _) h
theorem gray_lt {m n : Nat} (h : m < 2 ^ n) : gray m < 2 ^ n := Nat.xor_lt_two_pow h (shr_lt h)
theorem yarg_lt {m n : Nat} (h : m < 2 ^ n) : yarg m < 2 ^ n := by
  have h1 := Nat.xor_lt_two_pow h (shr_lt (k := 1) h)
  have h2 := Nat.xor_lt_two_pow h1 (shr_lt (k := 2) h1)
  have h3 := Nat.xor_lt_two_pow h2 (shr_lt (k := 4) h2)
  exact Nat.xor_lt_two_pow h3 (shr_lt (k := 8) h3)
end BW
