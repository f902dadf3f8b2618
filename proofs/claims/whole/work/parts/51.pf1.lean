-- ===== FORMS: ends, odd points, degrees =====
def eN (t : Nat) : Nat := [3, 6, 24, 48, 192, 384, 9, 18, 36, 72, 144, 288].getD t 0
def oN (t : Nat) : Nat := [0, 1, 3, 4, 6, 7, 0, 1, 2, 3, 4, 5].getD t 0
def rN (t : Nat) : Nat := [1, 2, 4, 5, 7, 8, 3, 4, 5, 6, 7, 8].getD t 0
def qN (t : Nat) : Nat := [8, 11, 7, 10, 6, 9, 1, 3, 5, 0, 2, 4].getD t 0
/-- a stroke ends at a point; the point at its other end -/
def eB_ (t p : Nat) : Bool := oN t == p || rN t == p
def acN (t p : Nat) : Nat := if oN t = p then rN t else oN t
theorem tE_ok : ∀ t, t < 12 → tENDS t = nI (eN t) := by decide +kernel
theorem tO_ok : ∀ t, t < 12 → tONE t = nI (oN t) := by decide +kernel
theorem tR_ok : ∀ t, t < 12 → tOTHER t = nI (rN t) := by decide +kernel
theorem tQ_ok : ∀ t, t < 12 → tQUARTER t = nI (qN t) := by decide +kernel
theorem eN_lt : ∀ t, t < 12 → eN t < 512 := by decide +kernel
theorem across_ok : ∀ t, t < 12 → ∀ p, p < 9 → f_Forms_across (nI t) (nI p) = some (if eB_ t p then nI (acN t p) else -1) := by decide +kernel
theorem acN_lt : ∀ t, t < 12 → ∀ p, p < 9 → acN t p < 9 := by decide +kernel
theorem Mone_ok : ∀ t, t < 12 → f_M_oneEnd (nI t) = some (nI (oN t)) := by decide +kernel
theorem Mother_ok : ∀ t, t < 12 → f_M_otherEnd (nI t) = some (nI (rN t)) := by decide +kernel
theorem Mends_ok : ∀ t, t < 12 → ∀ p, p < 9 → f_M_ends (nI t) (nI p) = some (if eB_ t p then 1 else 0) := by decide +kernel
theorem ac_sum : ∀ t, t < 12 → ∀ p, p < 9 → eB_ t p = true → nI (oN t) + nI (rN t) - nI p = nI (acN t p) := by decide +kernel
theorem oN_lt : ∀ t, t < 12 → oN t < 9 ∧ rN t < 9 := by decide +kernel
/-- odd points, the class's way -/
def oddF (f : Nat) : Nat → Nat → Nat → Nat
  | 0, _, acc => acc
  | j + 1, k, acc => oddF f j (k + 1) (if f.testBit k then acc ^^^ eN k else acc)
def oddN (f : Nat) : Nat := oddF f 12 0 0
theorem odd_loop {f : Nat} (hf : f < 2 ^ 31) : ∀ (j k acc fuel : Nat), k + j = 12 → j < fuel → f_Forms_oddPoints_b4 (nI f) fuel (nI acc) (nI k) = some (nI (oddF f j k acc)) := by
  intro j
  induction j with
  | zero =>
    intro k acc fuel h1 h2
    obtain ⟨n, rfl⟩ : ∃ n, fuel = n + 1 := ⟨fuel - 1, by omega⟩
    obtain rfl : k = 12 := by omega
    rw [f_Forms_oddPoints_b4, if_pos (show (12 : Int32) ≤ nI 12 by decide)]
    rfl
  | succ j ih =>
    intro k acc fuel h1 h2
    obtain ⟨n, rfl⟩ : ∃ n, fuel = n + 1 := ⟨fuel - 1, by omega⟩
    rw [f_Forms_oddPoints_b4, if_neg (show ¬ (12 : Int32) ≤ nI k from nge k 12 (by omega) (by decide)), oddF]
    by_cases hb : f.testBit k
    · rw [if_neg (fun q => by rw [bit_shr0 hf (by omega)] at q; simp [q] at hb), rd_nI (by omega) (by decide), sm_some, tE_ok k (by omega), fb_xorI, nI_1, if_pos hb]
      exact ih (k + 1) _ n (by omega) (by omega)
    · rw [if_pos ((bit_shr0 hf (by omega)).mpr (by simpa using hb)), nI_1, if_neg hb]
      exact ih (k + 1) _ n (by omega) (by omega)
theorem oddPoints_ok {f : Nat} (hf : f < 2 ^ 31) : f_Forms_oddPoints (nI f) = some (nI (oddN f)) := odd_loop hf 12 0 0 5000 rfl (by omega)
/-- degrees, the reference's way -/
def degF (f p : Nat) : Nat → Nat → Nat → Nat
  | 0, _, acc => acc
  | j + 1, k, acc => degF f p j (k + 1) (acc + if f.testBit k && eB_ k p then 1 else 0)
def degN (f p : Nat) : Nat := degF f p 12 0 0
theorem deg_loop {f p : Nat} (hp : p < 9) : ∀ (j k acc fuel : Nat), k + j = 12 → j < fuel → f_M_degree_b4 (nI f) (nI p) fuel (nI acc) (nI k) = some (nI (degF f p j k acc)) := by
  intro j
  induction j with
  | zero =>
    intro k acc fuel h1 h2
    obtain ⟨n, rfl⟩ : ∃ n, fuel = n + 1 := ⟨fuel - 1, by omega⟩
    obtain rfl : k = 12 := by omega
    rw [f_M_degree_b4, if_pos (show (12 : Int32) ≤ nI 12 by decide)]
    rfl
  | succ j ih =>
    intro k acc fuel h1 h2
    obtain ⟨n, rfl⟩ : ∃ n, fuel = n + 1 := ⟨fuel - 1, by omega⟩
    rw [f_M_degree_b4, if_neg (show ¬ (12 : Int32) ≤ nI k from nge k 12 (by omega) (by decide)), degF, Mhas_nI (by omega), sm_some]
    by_cases hb : f.testBit k
    · rw [if_pos hb, if_neg (by decide), Mends_ok k (by omega) p hp, sm_some]
      by_cases he : eB_ k p
      · rw [if_pos he, if_neg (by decide), f_M_degree_b32]
        rw [show nI acc + (1 : Int32) = nI (acc + 1) from nI_1 acc, show nI k + 1 = nI (k + 1) from nI_1 k, if_pos (by simp [hb, he])]
        exact ih (k + 1) _ n (by omega) (by omega)
      · rw [if_neg he, if_pos rfl, f_M_degree_b32, nI_1]
        rw [show nI acc + (0 : Int32) = nI acc from nI_add acc 0, if_neg (by simp [he])]
        exact ih (k + 1) _ n (by omega) (by omega)
    · rw [if_neg hb, if_pos rfl, f_M_degree_b32, nI_1]
      rw [show nI acc + (0 : Int32) = nI acc from nI_add acc 0, if_neg (by simp [hb])]
      exact ih (k + 1) _ n (by omega) (by omega)
theorem Mdegree_ok {f p : Nat} (hp : p < 9) : f_M_degree (nI f) (nI p) = some (nI (degN f p)) := deg_loop hp 12 0 0 5000 rfl (by omega)
def oddsF (f : Nat) : Nat → Nat → Nat → Nat
  | 0, _, acc => acc
  | j + 1, p, acc => oddsF f j (p + 1) (acc ||| (degN f p % 2) * 2 ^ p)
def oddsN (f : Nat) : Nat := oddsF f 9 0 0
theorem shl_lt : ∀ p, p < 9 → ((nI p &&& 31).toBitVec.smod 32).toNat = p := by decide +kernel
theorem odds_loop {f : Nat} : ∀ (j p acc fuel : Nat), p + j = 9 → j < fuel → f_M_odds_b4 (nI f) fuel (nI acc) (nI p) = some (nI (oddsF f j p acc)) := by
  intro j
  induction j with
  | zero =>
    intro k acc fuel h1 h2
    obtain ⟨n, rfl⟩ : ∃ n, fuel = n + 1 := ⟨fuel - 1, by omega⟩
    obtain rfl : k = 9 := by omega
    rw [f_M_odds_b4, if_pos (show (9 : Int32) ≤ nI 9 by decide)]
    rfl
  | succ j ih =>
    intro k acc fuel h1 h2
    obtain ⟨n, rfl⟩ : ∃ n, fuel = n + 1 := ⟨fuel - 1, by omega⟩
    have hm : nI (degN f k) &&& (1 : Int32) = nI (degN f k % 2) := fa_mask (degN f k) 1
    have hs : nI (degN f k % 2) <<< (nI k &&& 31) = nI ((degN f k % 2) * 2 ^ k) := by
      refine pk_shlN _ k (shl_lt k (by omega)) ?_
      have h1 : degN f k % 2 ≤ 1 := by omega
      have h2 : (2 : Nat) ^ k ≤ 2 ^ 9 := Nat.pow_le_pow_right (by omega) (by omega)
      calc degN f k % 2 * 2 ^ k ≤ 1 * 2 ^ 9 := Nat.mul_le_mul h1 h2
        _ < 2 ^ 32 := by decide
    rw [f_M_odds_b4, if_neg (show ¬ (9 : Int32) ≤ nI k from nge k 9 (by omega) (by decide)), Mdegree_ok (by omega), sm_some, hm, hs, fa_or, nI_1, oddsF]
    exact ih (k + 1) _ n (by omega) (by omega)
theorem Modds_ok {f : Nat} : f_M_odds (nI f) = some (nI (oddsN f)) := odds_loop 9 0 0 5000 rfl (by omega)
theorem eB_bit : ∀ t, t < 12 → ∀ p, p < 9 → (eN t).testBit p = eB_ t p := by decide +kernel
theorem odd_deg (f : Nat) {p : Nat} (hp : p < 9) : ∀ (j k a acc : Nat), k + j = 12 → (acc.testBit p = decide (a % 2 = 1)) → (oddF f j k acc).testBit p = decide (degF f p j k a % 2 = 1) := by
  intro j
  induction j with
  | zero => intro k a acc _ h; exact h
  | succ j ih =>
    intro k a acc h1 h
    rw [oddF, degF]
    apply ih (k + 1) _ _ (by omega)
    by_cases hb : f.testBit k
    · simp only [hb, if_true, Nat.testBit_xor, eB_bit k (by omega) p hp, h, Bool.true_and]
      cases eB_ k p
      · simp
      · simp only [if_true]
        by_cases ha : a % 2 = 1
        · have : ¬ (a + 1) % 2 = 1 := by omega
          simp [ha, this]
        · have : (a + 1) % 2 = 1 := by omega
          simp [ha, this]
    · simp [hb, h]
theorem oddF_lt (f : Nat) : ∀ (j k acc : Nat), k + j = 12 → acc < 512 → oddF f j k acc < 512 := by
  intro j
  induction j with
  | zero => intro k acc _ h; exact h
  | succ j ih =>
    intro k acc h1 h
    rw [oddF]
    apply ih (k + 1) _ (by omega)
    split
    · exact Nat.xor_lt_two_pow (n := 9) h (eN_lt k (by omega))
    · exact h
theorem oddN_lt (f : Nat) : oddN f < 512 := oddF_lt f 12 0 0 rfl (by decide)
theorem bit_mul (b p i : Nat) (hb : b < 2) : (b * 2 ^ p).testBit i = (decide (i = p) && decide (b = 1)) := by
  rcases (show b = 0 ∨ b = 1 by omega) with rfl | rfl
  · simp
  · simp only [Nat.one_mul, Nat.testBit_two_pow, decide_true, Bool.and_true]
    by_cases h : i = p
    · simp [h]
    · simp [h, Ne.symm h]
theorem oddsF_bit (f i : Nat) : ∀ (j p acc : Nat), (oddsF f j p acc).testBit i = (acc.testBit i || (decide (p ≤ i ∧ i < p + j) && decide (degN f i % 2 = 1))) := by
  intro j
  induction j with
  | zero =>
    intro p acc
    have : ¬ (p ≤ i ∧ i < p + 0) := by omega
    simp [oddsF]
    intro a b
    omega
  | succ j ih =>
    intro p acc
    rw [oddsF, ih, Nat.testBit_or, bit_mul _ _ _ (Nat.mod_lt _ (by decide)), Bool.or_assoc]
    congr 1
    by_cases h : i = p
    · subst h
      have h1 : ¬ (i + 1 ≤ i ∧ i < i + 1 + j) := by omega
      have h2 : i ≤ i ∧ i < i + (j + 1) := by omega
      simp [h1, h2]
    · have h1 : (p + 1 ≤ i ∧ i < p + 1 + j) ↔ (p ≤ i ∧ i < p + (j + 1)) := by omega
      simp [h, h1]
theorem odds_eq (f : Nat) : oddsN f = oddN f := by
  apply Nat.eq_of_testBit_eq
  intro i
  rw [oddsN, oddsF_bit]
  by_cases hi : i < 9
  · have h := odd_deg f hi 12 0 0 0 rfl (by simp)
    rw [oddN, h]
    have h2 : 0 ≤ i ∧ i < 0 + 9 := by omega
    simp only [Nat.zero_testBit, Bool.false_or, h2, decide_true, Bool.true_and, degN]
    rfl
  · have h1 : ¬ (0 ≤ i ∧ i < 0 + 9) := by omega
    rw [Nat.testBit_lt_two_pow (Nat.lt_of_lt_of_le (oddN_lt f) (Nat.pow_le_pow_right (n := 2) (by decide) (by omega : 9 ≤ i)))]
    simp only [Nat.zero_testBit, Bool.false_or, h1, decide_false, Bool.false_and]
