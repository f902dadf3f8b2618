-- ===== FORMS: ways =====
theorem touch_loop {f p : Nat} (hf : f < 4096) (hp : p < 9) : ∀ (j k fuel : Nat), k + j = 12 → j < fuel → (f_Forms_touches_b2 (nI f) (nI p) fuel (nI k) = some 1 ∧ ∃ t, k ≤ t ∧ t < 12 ∧ f.testBit t = true ∧ eB_ t p = true) ∨ (f_Forms_touches_b2 (nI f) (nI p) fuel (nI k) = some 0 ∧ ∀ t, k ≤ t → t < 12 → (f.testBit t && eB_ t p) = false) := by
  intro j
  induction j with
  | zero =>
    intro k fuel h1 h2
    obtain ⟨n, rfl⟩ : ∃ n, fuel = n + 1 := ⟨fuel - 1, by omega⟩
    obtain rfl : k = 12 := by omega
    right
    rw [f_Forms_touches_b2, if_pos (show (12 : Int32) ≤ nI 12 by decide)]
    exact ⟨rfl, fun t h3 h4 => by omega⟩
  | succ j ih =>
    intro k fuel h1 h2
    obtain ⟨n, rfl⟩ : ∃ n, fuel = n + 1 := ⟨fuel - 1, by omega⟩
    have hgo : (f.testBit k && eB_ k p) = false → f_Forms_touches_b2 (nI f) (nI p) (n + 1) (nI k) = f_Forms_touches_b2 (nI f) (nI p) n (nI (k + 1)) := by
      intro hb
      rw [f_Forms_touches_b2, if_neg (show ¬ (12 : Int32) ≤ nI k from nge k 12 (by omega) (by decide))]
      cases hb1 : f.testBit k
      · rw [has0 (by omega) (by omega) hb1, sm_some, if_pos rfl, nI_1]
      · rw [hb1, Bool.true_and] at hb
        rw [has1 (by omega) (by omega) hb1, sm_some, if_neg (by decide), across_ok k (by omega) p hp, sm_some, hb, if_neg (show ¬ (false = true) by decide), if_pos (by decide), nI_1]
    cases hb : (f.testBit k && eB_ k p)
    · rw [hgo hb]
      rcases ih (k + 1) n (by omega) (by omega) with ⟨e1, t, h3, h4⟩ | ⟨e1, h3⟩
      · exact Or.inl ⟨e1, t, by omega, h4⟩
      · refine Or.inr ⟨e1, fun t h4 h5 => ?_⟩
        rcases Nat.lt_or_ge k t with q | q
        · exact h3 t q h5
        · obtain rfl : t = k := by omega
          exact hb
    · left
      rw [Bool.and_eq_true] at hb
      refine ⟨?_, k, Nat.le_refl k, by omega, hb.1, hb.2⟩
      rw [f_Forms_touches_b2, if_neg (show ¬ (12 : Int32) ≤ nI k from nge k 12 (by omega) (by decide)), has1 (by omega) (by omega) hb.1, sm_some, if_neg (by decide), across_ok k (by omega) p hp, sm_some, if_pos hb.2, if_neg (nI_pos (by have := acN_lt k (by omega) p hp; omega))]
theorem touches_ok {f p : Nat} (hf : f < 4096) (hp : p < 9) : f_Forms_touches (nI f) (nI p) = some (if Nat.ble 1 (Nat.land f (inN p)) then 1 else 0) := by
  rw [land_ble]
  rcases touch_loop hf hp 12 0 5000 rfl (by omega) with ⟨e1, t, -, h2, h3, h4⟩ | ⟨e1, h3⟩
  · have : ¬ f &&& inN p = 0 := by
      intro z
      have hz : (f &&& inN p).testBit t = true := by rw [Nat.testBit_and, in_bit p hp t h2, h3, h4]; rfl
      rw [z, Nat.zero_testBit] at hz
      cases hz
    rw [f_Forms_touches, show (0 : Int32) = nI 0 from rfl, e1, if_pos (by simp [this])]
  · have : f &&& inN p = 0 := by
      refine bits_eq (Nat.lt_of_le_of_lt Nat.and_le_left hf) (by decide) (fun t ht => ?_)
      rw [Nat.testBit_and, in_bit p hp t ht, h3 t (Nat.zero_le t) ht, Nat.zero_testBit]
    rw [f_Forms_touches, show f_Forms_touches_b2 (nI f) (nI p) 5000 0 = some 0 from e1, if_neg (by simp [this])]
theorem beq_iff (a b : Nat) : Nat.beq a b = decide (a = b) := by
  by_cases h : a = b
  · subst h
    rw [Nat.beq_refl]
    simp
  · cases hb : Nat.beq a b
    · simp [h]
    · exact absurd (Nat.eq_of_beq_eq_true hb) h
theorem canBe_ok {f p : Nat} (hf : f < 4096) (hp : p < 9) : f_Forms_canBeTrodden (nI f) (nI p) = some (if cbT f p then 1 else 0) := by
  have hlen := pcX_len 12 f
  have hod := oddN_lt f
  have hpo := popN_le (oddN f)
  unfold cbT
  rw [f_Forms_canBeTrodden]
  by_cases h0 : f = 0
  · subst h0
    rw [if_pos (show nI 0 = (0 : Int32) from rfl)]
    rfl
  · rw [if_neg (show ¬ nI f = (0 : Int32) from nI_ne0 (by omega) (by omega)), touches_ok hf hp, sm_some, con_ok hf, oddU_eq]
    simp only [beq_iff, h0, decide_false, Bool.false_or]
    cases ht : Nat.ble 1 (Nat.land f (inN p))
    · rw [if_neg (show ¬ (false = true) by decide), if_pos rfl]
      simp
    · rw [if_pos rfl, if_neg (by decide), countPieces_ok hf, sm_some]
      by_cases hl : (pcX 12 f).length = 1
      · rw [hl, if_pos (show nI 1 = (1 : Int32) from rfl), oddPoints_ok (by omega), sm_some]
        by_cases ho : oddN f = 0
        · rw [ho, if_pos (show nI 0 = (0 : Int32) from rfl), f_Forms_canBeTrodden_b49]
          simp
        · rw [if_neg (show ¬ nI (oddN f) = (0 : Int32) from nI_ne0 (by omega) (by omega)), bitCount_ok (by omega), sm_some]
          by_cases h2 : popN (oddN f) = 2
          · rw [h2, if_pos (show nI 2 = (2 : Int32) from rfl)]
            cases hb : (oddN f).testBit p
            · rw [if_pos ((bit_shr0 (by omega) (by omega)).mpr hb)]
              simp [ho]
            · rw [if_neg (fun z => by rw [(bit_shr0 (by omega) (by omega)).mp z] at hb; cases hb), f_Forms_canBeTrodden_b49]
              simp
          · rw [if_neg (show ¬ nI (popN (oddN f)) = (2 : Int32) from fun z => h2 ((nI_eq (a := popN (oddN f)) (b := 2) (by omega) (by decide)).mp z))]
            simp [ho, h2]
      · rw [if_neg (show ¬ nI (pcX 12 f).length = (1 : Int32) from fun z => hl ((nI_eq (a := (pcX 12 f).length) (b := 1) (by omega) (by decide)).mp z))]
        simp [hl]
/-- a form without one of its strokes -/
abbrev wo (f t : Nat) : Nat := f ^^^ (f &&& 2 ^ t)
theorem wo_bit (f t i : Nat) : (wo f t).testBit i = (f.testBit i && !decide (i = t)) := by
  rw [Nat.testBit_xor, Nat.testBit_and, Nat.testBit_two_pow]
  by_cases h : t = i
  · subst h; simp
  · simp [h, Ne.symm h]
theorem wo_lt {f t : Nat} (hf : f < 4096) : wo f t < 4096 := Nat.xor_lt_two_pow (n := 12) hf (Nat.lt_of_le_of_lt Nat.and_le_left hf)
theorem wo_pop {f t : Nat} (hb : f.testBit t = true) : ∀ m, popK (wo f t) m + (if t < m then 1 else 0) = popK f m := by
  intro m
  induction m with
  | zero => simp [popK]
  | succ m ih =>
    rw [popK, popK, wo_bit]
    by_cases h : m = t
    · subst h
      simp only [Nat.lt_irrefl, if_false, Nat.add_zero] at ih
      simp [hb, ih]
    · have e1 : (t < m + 1) ↔ (t < m) := by omega
      simp only [h, decide_false, Bool.not_false, Bool.and_true, e1]
      omega
theorem wo_popN {f t : Nat} (hb : f.testBit t = true) (ht : t < 12) : popN (wo f t) + 1 = popN f := by
  rw [popN_eq, popN_eq]
  have := wo_pop hb 12
  rw [if_pos ht] at this
  exact this
theorem wo_nI {f t : Nat} (hf : f < 4096) (ht : t < 12) : nI f &&& (((1 : Int32) <<< (nI t &&& 31)) ^^^ (-1 : Int32)) = nI (wo f t) := by
  rw [one_shl (by omega), not_nI (by omega)]
/-- in how many ways -/
def wS (g : Nat → Nat → Nat) (f p : Nat) : Nat → Nat → Nat → Nat
  | 0, _, acc => acc
  | j + 1, k, acc => wS g f p j (k + 1) (acc + if f.testBit k && eB_ k p then g (wo f k) (acN k p) else 0)
def wN : Nat → Nat → Nat → Nat
  | 0, _, _ => 0
  | n + 1, f, p => if f = 0 then 1 else wS (wN n) f p 12 0 0
theorem cw_loop {f p n tr : Nat} (hf : f < 4096) (hp : p < 9) (a2 : Int32) (e2 : a2 = nI tr) (rec : Int32 → Int32 → Int32 → Option Int64) (hrec : ∀ k, k < 12 → f.testBit k = true → eB_ k p = true → rec (nI (wo f k)) (nI (acN k p)) (nI (tr + 1)) = some (lN (wN n (wo f k) (acN k p)))) : ∀ (j k acc fuel : Nat), k + j = 12 → j < fuel →
    f_Forms_countWays_b19 rec (nI f) (nI p) a2 fuel (lN acc) (nI k) = some (lN (wS (wN n) f p j k acc)) := by
  intro j
  induction j with
  | zero =>
    intro k acc fuel h1 h2
    obtain ⟨w, rfl⟩ : ∃ w, fuel = w + 1 := ⟨fuel - 1, by omega⟩
    obtain rfl : k = 12 := by omega
    rw [f_Forms_countWays_b19, if_pos (show (12 : Int32) ≤ nI 12 by decide)]
    rfl
  | succ j ih =>
    intro k acc fuel h1 h2
    obtain ⟨w, rfl⟩ : ∃ w, fuel = w + 1 := ⟨fuel - 1, by omega⟩
    rw [f_Forms_countWays_b19, if_neg (show ¬ (12 : Int32) ≤ nI k from nge k 12 (by omega) (by decide)), across_ok k (by omega) p hp, sm_some, wS]
    cases hb : f.testBit k
    · rw [has0 (by omega) (by omega) hb, sm_some, if_pos rfl, nI_1, Bool.false_and, if_neg (by decide), Nat.add_zero]
      exact ih (k + 1) acc w (by omega) (by omega)
    · rw [has1 (by omega) (by omega) hb, sm_some, if_neg (by decide), Bool.true_and]
      cases he : eB_ k p
      · rw [if_neg (show ¬ (false = true) by decide), if_pos (by decide), nI_1, if_neg (by decide), Nat.add_zero]
        exact ih (k + 1) acc w (by omega) (by omega)
      · rw [if_pos rfl, if_neg (nI_pos (by have := acN_lt k (by omega) p hp; omega)), wo_nI hf (by omega), e2, show nI tr + (1 : Int32) = nI (tr + 1) from nI_1 tr, hrec k (by omega) hb he, sm_some, lN_add, nI_1, if_pos rfl, ← e2]
        exact ih (k + 1) _ w (by omega) (by omega)
theorem cw_ok : ∀ (n f p tr : Nat), f < 4096 → p < 9 → popN f < n → popN f + tr ≤ 12 → f_Forms_countWays n (nI f) (nI p) (nI tr) = some (lN (wN n f p)) := by
  intro n
  induction n with
  | zero => intro f p tr _ _ h; omega
  | succ n ih =>
    intro f p tr hf hp h1 h2
    rw [f_Forms_countWays, f_Forms_countWays_e, wN]
    by_cases h0 : f = 0
    · subst h0
      rw [if_pos (show nI 0 = (0 : Int32) from rfl), if_pos rfl]
      rfl
    · have hpos : 0 < popN f := by
        rcases Nat.eq_zero_or_pos (popN f) with q | q
        · exact absurd ((popN_zero hf).mp q) h0
        · exact q
      rw [if_neg (show ¬ nI f = (0 : Int32) from nI_ne0 (by omega) (by omega)), if_pos (show nI tr < (12 : Int32) from nlts tr 12 (by omega) (by decide)), if_neg h0]
      exact cw_loop hf hp (nI tr) rfl _ (fun k hk hb he => by
        have := wo_popN hb hk
        exact ih (wo f k) (acN k p) (tr + 1) (wo_lt hf) (acN_lt k hk p hp) (by omega) (by omega)) 12 0 0 5000 rfl (by omega)
theorem mw_loop {f p n : Nat} (hf : f < 4096) (hp : p < 9) (rec : Int32 → Int32 → Option Int64) (hrec : ∀ k, k < 12 → f.testBit k = true → eB_ k p = true → rec (nI (wo f k)) (nI (acN k p)) = some (lN (wN n (wo f k) (acN k p)))) : ∀ (j k acc fuel : Nat), k + j = 12 → j < fuel →
    f_M_waysFrom_b11 rec (nI f) (nI p) fuel (lN acc) (nI k) = some (lN (wS (wN n) f p j k acc)) := by
  intro j
  induction j with
  | zero =>
    intro k acc fuel h1 h2
    obtain ⟨w, rfl⟩ : ∃ w, fuel = w + 1 := ⟨fuel - 1, by omega⟩
    obtain rfl : k = 12 := by omega
    rw [f_M_waysFrom_b11, if_pos (show (12 : Int32) ≤ nI 12 by decide)]
    rfl
  | succ j ih =>
    intro k acc fuel h1 h2
    obtain ⟨w, rfl⟩ : ∃ w, fuel = w + 1 := ⟨fuel - 1, by omega⟩
    rw [f_M_waysFrom_b11, if_neg (show ¬ (12 : Int32) ≤ nI k from nge k 12 (by omega) (by decide)), wS]
    cases hb : f.testBit k
    · rw [Mhas0 (by omega) hb, sm_some, if_pos rfl, nI_1, Bool.false_and, if_neg (by decide), Nat.add_zero]
      exact ih (k + 1) acc w (by omega) (by omega)
    · rw [Mhas1 (by omega) hb, sm_some, if_neg (by decide), Mends_ok k (by omega) p hp, sm_some, Bool.true_and]
      cases he : eB_ k p
      · rw [if_neg (show ¬ (false = true) by decide), if_pos rfl, nI_1, if_neg (by decide), Nat.add_zero]
        exact ih (k + 1) acc w (by omega) (by omega)
      · rw [if_pos rfl, if_neg (by decide), Mone_ok k (by omega), sm_some, Mother_ok k (by omega), sm_some, wo_nI hf (by omega), ac_sum k (by omega) p hp he, hrec k (by omega) hb he, sm_some, lN_add, nI_1, if_pos rfl]
        exact ih (k + 1) _ w (by omega) (by omega)
theorem mw_ok : ∀ (n f p : Nat), f < 4096 → p < 9 → popN f < n → f_M_waysFrom n (nI f) (nI p) = some (lN (wN n f p)) := by
  intro n
  induction n with
  | zero => intro f p _ _ h; omega
  | succ n ih =>
    intro f p hf hp h1
    rw [f_M_waysFrom, f_M_waysFrom_e, wN]
    by_cases h0 : f = 0
    · subst h0
      rw [if_pos (show nI 0 = (0 : Int32) from rfl), if_pos rfl]
      rfl
    · rw [if_neg (show ¬ nI f = (0 : Int32) from nI_ne0 (by omega) (by omega)), if_neg h0]
      exact mw_loop hf hp _ (fun k hk hb he => by
        have := wo_popN hb hk
        exact ih (wo f k) (acN k p) (wo_lt hf) (acN_lt k hk p hp) (by omega)) 12 0 0 5000 rfl (by omega)
theorem wS_pos (g : Nat → Nat → Nat) (f p : Nat) : ∀ (j k acc : Nat), k + j = 12 → (0 < wS g f p j k acc ↔ 0 < acc ∨ ∃ t, k ≤ t ∧ t < 12 ∧ (f.testBit t && eB_ t p) = true ∧ 0 < g (wo f t) (acN t p)) := by
  intro j
  induction j with
  | zero =>
    intro k acc h1
    rw [wS]
    constructor
    · exact Or.inl
    · rintro (h | ⟨t, h2, h3, -⟩)
      · exact h
      · omega
  | succ j ih =>
    intro k acc h1
    rw [wS, ih (k + 1) _ (by omega)]
    constructor
    · rintro (h | ⟨t, h2, h3, h4⟩)
      · cases hb : (f.testBit k && eB_ k p)
        · rw [hb, if_neg (by decide)] at h
          exact Or.inl (by omega)
        · rw [hb, if_pos rfl] at h
          by_cases ha : 0 < acc
          · exact Or.inl ha
          · exact Or.inr ⟨k, Nat.le_refl k, by omega, hb, by omega⟩
      · exact Or.inr ⟨t, by omega, h3, h4⟩
    · rintro (h | ⟨t, h2, h3, h4, h5⟩)
      · exact Or.inl (by omega)
      · rcases Nat.lt_or_ge k t with q | q
        · exact Or.inr ⟨t, q, h3, h4, h5⟩
        · obtain rfl : t = k := by omega
          left
          rw [h4, if_pos rfl]
          omega
/-- there is a way just where one can be trodden -/
theorem w_pos : ∀ (n f p : Nat), f < 4096 → p < 9 → popN f < n → (0 < wN n f p ↔ cbT f p = true) := by
  intro n
  induction n with
  | zero => intro f p _ _ h; omega
  | succ n ih =>
    intro f p hf hp h1
    rw [wN]
    by_cases h0 : f = 0
    · subst h0
      simp [cbT]
    · rw [if_neg h0, wS_pos _ _ _ 12 0 0 rfl, cb_step hf hp h0, List.any_eq_true]
      constructor
      · rintro (h | ⟨t, -, h3, h4, h5⟩)
        · omega
        · rw [Bool.and_eq_true] at h4
          have hpop := wo_popN h4.1 h3
          refine ⟨t, ?_, ?_⟩
          · have := ts_ok p hp t h3
            rw [h4.2] at this
            exact of_decide_eq_true this
          · rw [h4.1, Bool.true_and]
            exact (ih (wo f t) (acN t p) (wo_lt hf) (acN_lt t h3 p hp) (by omega)).mp h5
      · rintro ⟨t, h2, h3⟩
        rw [Bool.and_eq_true] at h3
        have ht := ts_lt p hp t h2
        have he : eB_ t p = true := by rw [← ts_ok p hp t ht]; exact decide_eq_true h2
        have hpop := wo_popN h3.1 ht
        exact Or.inr ⟨t, Nat.zero_le t, ht, by rw [h3.1, he]; rfl, (ih (wo f t) (acN t p) (wo_lt hf) (acN_lt t ht p hp) (by omega)).mpr h3.2⟩
theorem wS_le (g : Nat → Nat → Nat) (B f p : Nat) (hg : ∀ x y, g x y ≤ B) : ∀ (j k acc : Nat), wS g f p j k acc ≤ acc + j * B := by
  intro j
  induction j with
  | zero => intro k acc; simp [wS]
  | succ j ih =>
    intro k acc
    rw [wS]
    have h1 := ih (k + 1) (acc + if (f.testBit k && eB_ k p) = true then g (wo f k) (acN k p) else 0)
    have h2 : (if (f.testBit k && eB_ k p) = true then g (wo f k) (acN k p) else 0) ≤ B := by
      split
      · exact hg _ _
      · exact Nat.zero_le _
    rw [Nat.succ_mul]
    omega
theorem wN_le : ∀ n f p, wN n f p ≤ 12 ^ n := by
  intro n
  induction n with
  | zero => intro f p; exact Nat.zero_le _
  | succ n ih =>
    intro f p
    rw [wN]
    split
    · exact Nat.pow_pos (by decide)
    · have := wS_le (wN n) (12 ^ n) f p ih 12 0 0
      rw [Nat.pow_succ]
      omega
theorem w14_lt (f p : Nat) : wN 14 f p < 2 ^ 63 := Nat.lt_of_le_of_lt (wN_le 14 f p) (by decide)
theorem isPoint_yes : ∀ p, p ≤ 8 → f_Forms_isPoint (nI p).toInt64 = some 1 := by decide +kernel
theorem isPoint_no {a : Int32} (h : a < 0 ∨ nI 8 < a) : f_Forms_isPoint a.toInt64 = some 0 := by
  rw [f_Forms_isPoint, show (0 : Int64) = (0 : Int32).toInt64 from by decide, show (9 : Int64) = (9 : Int32).toInt64 from by decide]
  by_cases h0 : a < 0
  · rw [if_pos ((lg_cmp_lt _ _).mpr ((fa_wide_lt a 0).mpr h0))]
  · rcases h with h | h
    · exact absurd h h0
    · obtain ⟨j, hj, rfl⟩ := nI_of h0
      have h8 : 8 < j := by
        rcases Nat.lt_or_ge 8 j with q | q
        · exact q
        · exact absurd h (nnlt j 8 q (by decide))
      rw [if_neg (fun z => h0 ((fa_wide_lt _ 0).mp ((lg_cmp_lt _ _).mp z))), if_pos ((lg_cmp_ge _ _).mpr ((fa_wide_le 9 (nI j)).mpr (nles 9 j (by omega) hj)))]
theorem MisPoint_yes {p : Nat} (h : p ≤ 8) : f_M_isPoint (nI p) = some 1 := by
  rw [f_M_isPoint, show (8 : Int32) = nI 8 from rfl, MinN_yes h (by decide), sm_some, bl1, sm_some]
theorem MisPoint_no {a : Int32} (h : a < 0 ∨ nI 8 < a) : f_M_isPoint a = some 0 := by
  rw [f_M_isPoint, show (8 : Int32) = nI 8 from rfl, Min_no h, sm_some, bl0, sm_some]
theorem case_ways {c d : Nat → Int32} (h : rF c d) (a b : Int32) : ∃ r c' d', f_S_ways c a b = some (r, c') ∧ f_M_ways d a b = some (r, d') ∧ rF c' d' := by
  rcases rng a 4095 (by decide) with ⟨f, hf, rfl⟩ | hn
  · rcases rng b 8 (by decide) with ⟨p, hp, rfl⟩ | hb
    · have hpop := popN_le f
      have hm : f_M_ways d (nI f) (nI p) = some (lN (wN 14 f p), d) := by
        rw [f_M_ways, MisForm_yes hf, sm_some, if_neg (by decide), MisPoint_yes hp, sm_some, if_neg (by decide), mw_ok 14 f p (by omega) (by omega) (by omega), sm_some]
      refine ⟨lN (wN 14 f p), c, d, ?_, hm, h⟩
      rw [f_S_ways, isForm_yes hf, sm_some, if_neg (by decide), isPoint_yes p hp, sm_some, if_neg (by decide), canBe_ok (by omega) (by omega), sm_some]
      have hw := w_pos 14 f p (by omega) (by omega) (by omega)
      cases hc : cbT f p
      · have : wN 14 f p = 0 := by
          rcases Nat.eq_zero_or_pos (wN 14 f p) with q | q
          · exact q
          · rw [hw.mp q] at hc; cases hc
        rw [if_neg (show ¬ (false = true) by decide), if_pos rfl, this]
        rfl
      · rw [if_pos rfl, if_neg (by decide), show (0 : Int32) = nI 0 from rfl, cw_ok 14 f p 0 (by omega) (by omega) (by omega) (by omega), sm_some]
    · refine ⟨(-1000000001 : Int32).toInt64, _, _, ?_, ?_, h.fin (k := 0) (by decide)⟩
      · rw [f_S_ways, isForm_yes hf, sm_some, if_neg (by decide), isPoint_no hb, sm_some, if_pos rfl, f_S_ways_b15, fnd0, sm_some]
      · rw [f_M_ways, MisForm_yes hf, sm_some, if_neg (by decide), MisPoint_no hb, sm_some, if_pos rfl, f_M_ways_b22, mno0, sm_some]
  · refine ⟨(-1000000001 : Int32).toInt64, _, _, ?_, ?_, h.fin (k := 0) (by decide)⟩
    · rw [f_S_ways, isForm_no hn, sm_some, if_pos rfl, f_S_ways_b15, fnd0, sm_some]
    · rw [f_M_ways, MisForm_no hn, sm_some, if_pos rfl, f_M_ways_b22, mno0, sm_some]
