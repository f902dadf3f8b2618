-- ===== PARTS OF A SET, BY THEIR NUMBERS =====
def dep : Nat → Nat → Nat → Nat
  | 0, _, _ => 0
  | w + 1, f, i => if f % 2 = 1 then 2 * dep w (f / 2) (i / 2) + i % 2 else 2 * dep w (f / 2) i
def dsz : Nat → Nat → Nat
  | 0, _ => 1
  | w + 1, f => if f % 2 = 1 then 2 * dsz w (f / 2) else dsz w (f / 2)
theorem dsz_pos : ∀ w f, 0 < dsz w f := by
  intro w
  induction w with
  | zero => intro f; exact Nat.one_pos
  | succ w ih =>
    intro f
    have := ih (f / 2)
    rw [dsz]
    split <;> omega
theorem dsz_le : ∀ w f, dsz w f ≤ 2 ^ w := by
  intro w
  induction w with
  | zero => intro f; exact Nat.le_refl _
  | succ w ih =>
    intro f
    have := ih (f / 2)
    rw [dsz, Nat.pow_succ]
    split <;> omega
theorem dep_0 : ∀ w f, dep w f 0 = 0 := by
  intro w
  induction w with
  | zero => intro f; rfl
  | succ w ih =>
    intro f
    rw [dep, ih]
    split <;> simp [ih]
/-- and, bit by bit from the lowest on -/
theorem and_step (a b : Nat) : a &&& b = 2 * ((a / 2) &&& (b / 2)) + (if a % 2 = 1 ∧ b % 2 = 1 then 1 else 0) := by
  apply Nat.eq_of_testBit_eq
  intro i
  cases i with
  | zero =>
    rw [Nat.testBit_and, Nat.testBit_zero, Nat.testBit_zero, Nat.testBit_zero]
    by_cases h1 : a % 2 = 1 <;> by_cases h2 : b % 2 = 1 <;> simp [h1, h2] <;> omega
  | succ i =>
    rw [Nat.testBit_and, Nat.testBit_succ, Nat.testBit_succ, Nat.testBit_succ, ← Nat.testBit_and]
    congr 1
    split <;> omega
theorem dep_sub : ∀ w f i, dep w f i &&& f = dep w f i := by
  intro w
  induction w with
  | zero => intro f i; rw [dep, Nat.zero_and]
  | succ w ih =>
    intro f i
    rw [dep]
    by_cases h : f % 2 = 1
    · rw [if_pos h, and_step, show (2 * dep w (f / 2) (i / 2) + i % 2) / 2 = dep w (f / 2) (i / 2) by omega, ih]
      have : ((2 * dep w (f / 2) (i / 2) + i % 2) % 2 = 1 ∧ f % 2 = 1) ↔ i % 2 = 1 := by omega
      simp only [this]
      split <;> omega
    · rw [if_neg h, and_step, show (2 * dep w (f / 2) i) / 2 = dep w (f / 2) i by omega, ih, if_neg (by omega)]
      rfl
theorem dep_lt : ∀ w f i, dep w f i < 2 ^ w := by
  intro w
  induction w with
  | zero => intro f i; exact Nat.one_pos
  | succ w ih =>
    intro f i
    rw [dep, Nat.pow_succ]
    have h1 := ih (f / 2) (i / 2)
    have h2 := ih (f / 2) i
    split <;> omega
theorem dep_onto : ∀ w f s, s < 2 ^ w → s &&& f = s → ∃ i, i < dsz w f ∧ dep w f i = s := by
  intro w
  induction w with
  | zero =>
    intro f s hs _
    exact ⟨0, Nat.one_pos, by rw [dep]; simp at hs; omega⟩
  | succ w ih =>
    intro f s hs hsub
    rw [Nat.pow_succ] at hs
    rw [and_step] at hsub
    have hs2 : (s / 2) &&& (f / 2) = s / 2 := by
      split at hsub <;> omega
    obtain ⟨i, hi, e⟩ := ih (f / 2) (s / 2) (by omega) hs2
    by_cases h : f % 2 = 1
    · refine ⟨2 * i + s % 2, ?_, ?_⟩
      · rw [dsz, if_pos h]; omega
      · rw [dep, if_pos h, show (2 * i + s % 2) / 2 = i by omega, e]; omega
    · refine ⟨i, ?_, ?_⟩
      · rw [dsz, if_neg h]; exact hi
      · rw [dep, if_neg h, e]
        have : s % 2 = 0 := by
          rw [hs2] at hsub
          split at hsub <;> omega
        omega
theorem dep_last : ∀ w f, f < 2 ^ w → dep w f (dsz w f - 1) = f := by
  intro w
  induction w with
  | zero => intro f hf; rw [dep]; simp at hf; omega
  | succ w ih =>
    intro f hf
    rw [Nat.pow_succ] at hf
    have h1 := ih (f / 2) (by omega)
    have h2 := dsz_pos w (f / 2)
    rw [dep, dsz]
    by_cases h : f % 2 = 1
    · simp only [h, if_true]
      rw [show (2 * dsz w (f / 2) - 1) / 2 = dsz w (f / 2) - 1 by omega, h1]
      omega
    · simp only [h, if_false]
      rw [h1]
      omega
/-- a part and the strange ones beside it -/
theorem sub_co : ∀ w f s, f < 2 ^ w → s < 2 ^ w → s &&& f = s → (s + (2 ^ w - 1 - f)) &&& f = s := by
  intro w
  induction w with
  | zero =>
    intro f s hf hs _
    simp at hf hs
    subst hf; subst hs
    rfl
  | succ w ih =>
    intro f s hf hs hsub
    rw [Nat.pow_succ] at hf hs ⊢
    rw [and_step] at hsub
    have hs2 : (s / 2) &&& (f / 2) = s / 2 := by
      split at hsub <;> omega
    have h1 := ih (f / 2) (s / 2) (by omega) (by omega) hs2
    rw [and_step]
    have hp := Nat.two_pow_pos w
    by_cases h : f % 2 = 1
    · rw [show (s + (2 ^ w * 2 - 1 - f)) / 2 = s / 2 + (2 ^ w - 1 - f / 2) by omega, h1]
      have : ((s + (2 ^ w * 2 - 1 - f)) % 2 = 1 ∧ f % 2 = 1) ↔ s % 2 = 1 := by omega
      simp only [this]
      split <;> omega
    · have : s % 2 = 0 := by
        rw [hs2] at hsub
        split at hsub <;> omega
      rw [show (s + (2 ^ w * 2 - 1 - f)) / 2 = s / 2 + (2 ^ w - 1 - f / 2) by omega, h1, if_neg (by omega)]
      omega
/-- the part that comes next -/
theorem dep_next : ∀ w f i, f < 2 ^ w → i < dsz w f → (dep w f i + 2 ^ w - f) &&& f = if i + 1 < dsz w f then dep w f (i + 1) else 0 := by
  intro w
  induction w with
  | zero =>
    intro f i hf hi
    simp at hf
    subst hf
    rw [dsz] at hi ⊢
    rw [Nat.and_zero, if_neg (by omega)]
  | succ w ih =>
    intro f i hf hi
    rw [Nat.pow_succ] at hf ⊢
    have hp := Nat.two_pow_pos w
    rw [dep, dsz, dep]
    rw [dsz] at hi
    by_cases h : f % 2 = 1
    · simp only [h, if_true] at hi ⊢
      have hd := dep_lt w (f / 2) (i / 2)
      by_cases hi2 : i % 2 = 1
      · -- the lowest falls, and it goes on above
        have h1 := ih (f / 2) (i / 2) (by omega) (by omega)
        rw [and_step, show (2 * dep w (f / 2) (i / 2) + i % 2 + 2 ^ w * 2 - f) / 2 = dep w (f / 2) (i / 2) + 2 ^ w - f / 2 by omega, h1, if_neg (show ¬ ((2 * dep w (f / 2) (i / 2) + i % 2 + 2 ^ w * 2 - f) % 2 = 1 ∧ f % 2 = 1) by omega)]
        rw [show (i + 1) / 2 = i / 2 + 1 by omega, show (i + 1) % 2 = 0 by omega]
        by_cases hc : i / 2 + 1 < dsz w (f / 2)
        · rw [if_pos hc, if_pos (by omega)]
        · rw [if_neg hc, if_neg (by omega)]
      · have h1 := sub_co w (f / 2) (dep w (f / 2) (i / 2)) (by omega) hd (dep_sub w _ _)
        rw [and_step, show (2 * dep w (f / 2) (i / 2) + i % 2 + 2 ^ w * 2 - f) / 2 = dep w (f / 2) (i / 2) + (2 ^ w - 1 - f / 2) by omega, h1, if_pos (show (2 * dep w (f / 2) (i / 2) + i % 2 + 2 ^ w * 2 - f) % 2 = 1 ∧ f % 2 = 1 by omega), if_pos (show i + 1 < 2 * dsz w (f / 2) by omega), show (i + 1) / 2 = i / 2 by omega]
        omega
    · simp only [h, if_false] at hi ⊢
      have hd := dep_lt w (f / 2) i
      have h1 := ih (f / 2) i (by omega) hi
      rw [and_step, show (2 * dep w (f / 2) i + 2 ^ w * 2 - f) / 2 = dep w (f / 2) i + 2 ^ w - f / 2 by omega, h1, if_neg (show ¬ ((2 * dep w (f / 2) i + 2 ^ w * 2 - f) % 2 = 1 ∧ f % 2 = 1) by omega)]
      by_cases hc : i + 1 < dsz w (f / 2)
      · rw [if_pos hc, if_pos hc]; rfl
      · rw [if_neg hc, if_neg hc]
theorem dep_pos : ∀ w f i, 0 < i → i < dsz w f → 0 < dep w f i := by
  intro w
  induction w with
  | zero => intro f i h1 h2; rw [dsz] at h2; omega
  | succ w ih =>
    intro f i h1 h2
    rw [dsz] at h2
    rw [dep]
    by_cases h : f % 2 = 1
    · simp only [h, if_true] at h2 ⊢
      by_cases hi : i % 2 = 1
      · omega
      · have := ih (f / 2) (i / 2) (by omega) (by omega)
        omega
    · simp only [h, if_false] at h2 ⊢
      have := ih (f / 2) i h1 h2
      omega
/-- the part that came before -/
theorem dep_prev : ∀ w f i, f < 2 ^ w → i + 1 < dsz w f → (dep w f (i + 1) - 1) &&& f = dep w f i := by
  intro w
  induction w with
  | zero => intro f i _ h; rw [dsz] at h; omega
  | succ w ih =>
    intro f i hf hi
    rw [Nat.pow_succ] at hf
    rw [dsz] at hi
    rw [dep, dep]
    by_cases h : f % 2 = 1
    · simp only [h, if_true] at hi ⊢
      by_cases hi2 : i % 2 = 1
      · have h1 := ih (f / 2) (i / 2) (by omega) (by omega)
        have hpos := dep_pos w (f / 2) (i / 2 + 1) (by omega) (by omega)
        rw [show (i + 1) / 2 = i / 2 + 1 by omega, show (i + 1) % 2 = 0 by omega, and_step, show (2 * dep w (f / 2) (i / 2 + 1) + 0 - 1) / 2 = dep w (f / 2) (i / 2 + 1) - 1 by omega, h1, if_pos (by omega)]
        omega
      · rw [show (i + 1) / 2 = i / 2 by omega, show (i + 1) % 2 = 1 by omega, and_step, show (2 * dep w (f / 2) (i / 2) + 1 - 1) / 2 = dep w (f / 2) (i / 2) by omega, dep_sub, if_neg (by omega)]
        omega
    · simp only [h, if_false] at hi ⊢
      have h1 := ih (f / 2) i (by omega) hi
      have hpos := dep_pos w (f / 2) (i + 1) (by omega) hi
      rw [and_step, show (2 * dep w (f / 2) (i + 1) - 1) / 2 = dep w (f / 2) (i + 1) - 1 by omega, h1, if_neg (by omega)]
      rfl
/-- the same in the machine's numbers -/
theorem and_low {f : Nat} (hf : f < 4096) (a m : Nat) : (a + 4096 * m) &&& f = a &&& f := by
  apply Nat.eq_of_testBit_eq
  intro i
  rw [Nat.testBit_and, Nat.testBit_and]
  rcases Nat.lt_or_ge i 12 with q | q
  · congr 1
    rw [show a + 4096 * m = 2 ^ 12 * m + a by omega]
    rw [Nat.testBit_eq_decide_div_mod_eq, Nat.testBit_eq_decide_div_mod_eq]
    congr 2
    have : 2 ^ 12 * m = 2 ^ i * (2 ^ (12 - i) * m) := by
      rw [← Nat.mul_assoc, ← Nat.pow_add, show i + (12 - i) = 12 by omega]
    rw [this, Nat.mul_add_div (Nat.two_pow_pos i)]
    have : 2 ^ (12 - i) * m = 2 * (2 ^ (11 - i) * m) := by
      rw [← Nat.mul_assoc, show 2 * 2 ^ (11 - i) = 2 ^ (12 - i) by rw [show 12 - i = (11 - i) + 1 by omega, Nat.pow_succ, Nat.mul_comm]]
    omega
  · have e : (4096 : Nat) ≤ 2 ^ i := by
      have := Nat.pow_le_pow_right (n := 2) (by decide) q
      simpa using this
    rw [Nat.testBit_lt_two_pow (Nat.lt_of_lt_of_le hf e)]
    simp
theorem nI_wrap (a : Nat) : nI (a + 4294967296) = nI a := by
  unfold nI
  apply Int32.toBitVec_inj.mp
  show BitVec.ofNat 32 (a + 4294967296) = BitVec.ofNat 32 a
  apply BitVec.eq_of_toNat_eq
  simp
theorem sub_and_nI {s f : Nat} (hs : s < 4096) (hf : f < 4096) : (nI s - nI f) &&& nI f = nI ((s + 4096 - f) &&& f) := by
  have e : nI s - nI f = nI (s + 4294967296 - f) := by
    rw [← nI_wrap s, pk_sub (by omega)]
  rw [e, fa_and, show s + 4294967296 - f = (s + 4096 - f) + 4096 * 1048575 by omega, and_low hf]
