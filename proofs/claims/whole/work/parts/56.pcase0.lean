-- ===== findings on both sides; odd, pieces, lines, strays, turned =====
def rF (c d : Nat → Int32) : Prop := ∀ k, k < 7 → c k = d k
theorem rF.fin {c d : Nat → Int32} (h : rF c d) {k : Nat} (hk : k < 7) : rF (upd c k (c k + 1)) (upd d k (d k + 1)) := by
  intro i hi
  unfold upd
  by_cases e : i = k
  · simp [e, h k hk]
  · simp [e, h i hi]
theorem fnd0 (c : Nat → Int32) : f_S_finding c (-1000000001) = some (-1000000001, upd c 0 (c 0 + 1)) := finding_ok 0 (by decide) c
theorem fnd1 (c : Nat → Int32) : f_S_finding c (-1000000002) = some (-1000000002, upd c 1 (c 1 + 1)) := finding_ok 1 (by decide) c
theorem fnd2 (c : Nat → Int32) : f_S_finding c (-1000000003) = some (-1000000003, upd c 2 (c 2 + 1)) := finding_ok 2 (by decide) c
theorem fnd3 (c : Nat → Int32) : f_S_finding c (-1000000004) = some (-1000000004, upd c 3 (c 3 + 1)) := finding_ok 3 (by decide) c
theorem fnd4 (c : Nat → Int32) : f_S_finding c (-1000000005) = some (-1000000005, upd c 4 (c 4 + 1)) := finding_ok 4 (by decide) c
theorem fnd5 (c : Nat → Int32) : f_S_finding c (-1000000006) = some (-1000000006, upd c 5 (c 5 + 1)) := finding_ok 5 (by decide) c
theorem fnd6 (c : Nat → Int32) : f_S_finding c (-1000000007) = some (-1000000007, upd c 6 (c 6 + 1)) := finding_ok 6 (by decide) c
theorem mno0 (c : Nat → Int32) : f_M_no c 0 = some (-1000000001, upd c 0 (c 0 + 1)) := no_ok (k := 0) (by decide) c
theorem mno1 (c : Nat → Int32) : f_M_no c 1 = some (-1000000002, upd c 1 (c 1 + 1)) := no_ok (k := 1) (by decide) c
theorem mno2 (c : Nat → Int32) : f_M_no c 2 = some (-1000000003, upd c 2 (c 2 + 1)) := no_ok (k := 2) (by decide) c
theorem mno3 (c : Nat → Int32) : f_M_no c 3 = some (-1000000004, upd c 3 (c 3 + 1)) := no_ok (k := 3) (by decide) c
theorem mno4 (c : Nat → Int32) : f_M_no c 4 = some (-1000000005, upd c 4 (c 4 + 1)) := no_ok (k := 4) (by decide) c
theorem mno5 (c : Nat → Int32) : f_M_no c 5 = some (-1000000006, upd c 5 (c 5 + 1)) := no_ok (k := 5) (by decide) c
theorem mno6 (c : Nat → Int32) : f_M_no c 6 = some (-1000000007, upd c 6 (c 6 + 1)) := no_ok (k := 6) (by decide) c
theorem case_odd {c d : Nat → Int32} (h : rF c d) (a : Int32) : ∃ r c' d', f_S_odd c a = some (r, c') ∧ f_M_odd d a = some (r, d') ∧ rF c' d' := by
  rcases rng a 4095 (by decide) with ⟨f, hf, rfl⟩ | hn
  · refine ⟨nI (oddN f), c, d, ?_, ?_, h⟩
    · rw [f_S_odd, isForm_yes hf, sm_some, if_neg (by decide), oddPoints_ok (by omega), sm_some]
    · rw [f_M_odd, MisForm_yes hf, sm_some, if_neg (by decide), Modds_ok, odds_eq, sm_some]
  · refine ⟨-1000000001, _, _, ?_, ?_, h.fin (k := 0) (by decide)⟩
    · rw [f_S_odd, isForm_no hn, sm_some, if_pos rfl, fnd0, sm_some]
    · rw [f_M_odd, MisForm_no hn, sm_some, if_pos rfl, mno0, sm_some]
theorem case_pieces {c d : Nat → Int32} (h : rF c d) (a : Int32) : ∃ r c' d', f_S_pieces c a = some (r, c') ∧ f_M_pieces d a = some (r, d') ∧ rF c' d' := by
  rcases rng a 4095 (by decide) with ⟨f, hf, rfl⟩ | hn
  · refine ⟨nI (pcX 12 f).length, c, d, ?_, ?_, h⟩
    · rw [f_S_pieces, isForm_yes hf, sm_some, if_neg (by decide), countPieces_ok (by omega), sm_some]
    · rw [f_M_pieces, MisForm_yes hf, sm_some, if_neg (by decide), MpiecesOf_ok (by omega), sm_some]
  · refine ⟨-1000000001, _, _, ?_, ?_, h.fin (k := 0) (by decide)⟩
    · rw [f_S_pieces, isForm_no hn, sm_some, if_pos rfl, fnd0, sm_some]
    · rw [f_M_pieces, MisForm_no hn, sm_some, if_pos rfl, mno0, sm_some]
theorem case_lines {c d : Nat → Int32} (h : rF c d) (a : Int32) : ∃ r c' d', f_S_lines c a = some (r, c') ∧ f_M_lines d a = some (r, d') ∧ rF c' d' := by
  rcases rng a 4095 (by decide) with ⟨f, hf, rfl⟩ | hn
  · refine ⟨nI (linN f), c, d, ?_, ?_, h⟩
    · rw [f_S_lines, isForm_yes hf, sm_some, if_neg (by decide), countLines_ok (by omega), sm_some]
      rfl
    · rw [f_M_lines, MisForm_yes hf, sm_some, if_neg (by decide), MlinesOf_ok (by omega), sm_some]
  · refine ⟨-1000000001, _, _, ?_, ?_, h.fin (k := 0) (by decide)⟩
    · rw [f_S_lines, isForm_no hn, sm_some, if_pos rfl, fnd0, sm_some]
    · rw [f_M_lines, MisForm_no hn, sm_some, if_pos rfl, mno0, sm_some]
theorem case_strays {c d : Nat → Int32} (h : rF c d) (a : Int32) : ∃ r c' d', f_S_strays c a = some (r, c') ∧ f_M_strays d a = some (r, d') ∧ rF c' d' := by
  rcases rng a 4095 (by decide) with ⟨f, hf, rfl⟩ | hn
  · refine ⟨nI (strN f), c, d, ?_, ?_, h⟩
    · rw [f_S_strays, isForm_yes hf, sm_some, if_neg (by decide), countStrays_ok (by omega), sm_some]
    · rw [f_M_strays, MisForm_yes hf, sm_some, if_neg (by decide), MstraysOf_ok (by omega), sm_some]
  · refine ⟨-1000000001, _, _, ?_, ?_, h.fin (k := 0) (by decide)⟩
    · rw [f_S_strays, isForm_no hn, sm_some, if_pos rfl, fnd0, sm_some]
    · rw [f_M_strays, MisForm_no hn, sm_some, if_pos rfl, mno0, sm_some]
/-- within 0 and a most -/
theorem within_yes {v m : Nat} (h : v ≤ m) (hm : m < 2147483648) : f_S_isWithin (nI v) (nI m) = some 1 := by
  rw [f_S_isWithin, if_neg (nI_pos (by omega)), if_neg (nnlt v m h hm)]
theorem within_no {a : Int32} {m : Nat} (h : a < 0 ∨ nI m < a) : f_S_isWithin a (nI m) = some 0 := by
  rw [f_S_isWithin]
  rcases h with h | h
  · rw [if_pos h]
  · by_cases h0 : a < 0
    · rw [if_pos h0]
    · rw [if_neg h0, if_pos h]
theorem MinN_yes {v m : Nat} (h : v ≤ m) (hm : m < 2147483648) : f_M_in (nI v) 0 (nI m) = some 1 := Min_yes (nI_pos (by omega)) (nnlt v m h hm)
/-- a quarter -/
def tuF (f : Nat) : Nat → Nat → Nat → Nat
  | 0, _, acc => acc
  | j + 1, k, acc => tuF f j (k + 1) (if f.testBit k then acc ||| 2 ^ qN k else acc)
def tuN (f : Nat) : Nat := tuF f 12 0 0
theorem qN_lt : ∀ k, k < 12 → qN k < 12 := by decide +kernel
theorem tuF_lt (f : Nat) : ∀ (j k acc : Nat), k + j = 12 → acc < 4096 → tuF f j k acc < 4096 := by
  intro j
  induction j with
  | zero => intro k acc _ h; exact h
  | succ j ih =>
    intro k acc h1 h
    rw [tuF]
    apply ih (k + 1) _ (by omega)
    split
    · exact Nat.or_lt_two_pow (n := 12) h (p2_lt _ (qN_lt k (by omega)))
    · exact h
theorem quarter_loop {f : Nat} (hf : f < 4096) : ∀ (j k acc fuel : Nat), k + j = 12 → j < fuel → f_Forms_byAQuarter_b4 (nI f) fuel (nI acc) (nI k) = some (nI (tuF f j k acc)) := by
  intro j
  induction j with
  | zero =>
    intro k acc fuel h1 h2
    obtain ⟨n, rfl⟩ : ∃ n, fuel = n + 1 := ⟨fuel - 1, by omega⟩
    obtain rfl : k = 12 := by omega
    rw [f_Forms_byAQuarter_b4, if_pos (show (12 : Int32) ≤ nI 12 by decide)]
    rfl
  | succ j ih =>
    intro k acc fuel h1 h2
    obtain ⟨n, rfl⟩ : ∃ n, fuel = n + 1 := ⟨fuel - 1, by omega⟩
    have hq := qN_lt k (by omega)
    rw [f_Forms_byAQuarter_b4, if_neg (show ¬ (12 : Int32) ≤ nI k from nge k 12 (by omega) (by decide)), tuF]
    cases hb : f.testBit k
    · rw [has0 (by omega) (by omega) hb, sm_some, if_pos rfl, nI_1, if_neg (by decide)]
      exact ih (k + 1) _ n (by omega) (by omega)
    · rw [has1 (by omega) (by omega) hb, sm_some, if_neg (by decide), rd_nI (by omega) (by decide), sm_some, tQ_ok k (by omega), one_shl (by omega), fa_or, nI_1, if_pos rfl]
      exact ih (k + 1) _ n (by omega) (by omega)
theorem byAQuarter_ok {f : Nat} (hf : f < 4096) : f_Forms_byAQuarter (nI f) = some (nI (tuN f)) := quarter_loop hf 12 0 0 5000 rfl (by omega)
def qrN (p : Nat) : Nat := 3 * (p % 3) + 2 - p / 3
theorem Mquarter_ok : ∀ p, p < 9 → f_M_quarter (nI p) = some (nI (qrN p)) := by decide +kernel
theorem MstrokeOf_ok : ∀ t, t < 12 → f_M_strokeOf (nI (qrN (oN t))) (nI (qrN (rN t))) = some (nI (qN t)) := by decide +kernel
theorem Mturn_in {f : Nat} (d : Nat → Int32) (k27 : (Nat → Int32) → Int32 → Int32 → Option (Int32 × (Nat → Int32))) (a1 a2 v4 : Int32) : ∀ (j k acc fuel : Nat), k + j = 12 → j < fuel → f_M_turned_b39 k27 a1 a2 fuel d (nI f) v4 (nI acc) (nI k) = k27 d (nI (tuF f j k acc)) (v4 + 1) := by
  intro j
  induction j with
  | zero =>
    intro k acc fuel h1 h2
    obtain ⟨n, rfl⟩ : ∃ n, fuel = n + 1 := ⟨fuel - 1, by omega⟩
    obtain rfl : k = 12 := by omega
    rw [f_M_turned_b39, if_pos (show (12 : Int32) ≤ nI 12 by decide)]
    rfl
  | succ j ih =>
    intro k acc fuel h1 h2
    obtain ⟨n, rfl⟩ : ∃ n, fuel = n + 1 := ⟨fuel - 1, by omega⟩
    have hq := qN_lt k (by omega)
    rw [f_M_turned_b39, if_neg (show ¬ (12 : Int32) ≤ nI k from nge k 12 (by omega) (by decide)), tuF]
    cases hb : f.testBit k
    · rw [Mhas0 (by omega) hb, sm_some, if_pos rfl, f_M_turned_b82, show nI acc ||| (0 : Int32) = nI acc from by rw [show (0 : Int32) = nI 0 from rfl, fa_or, Nat.or_zero], nI_1, if_neg (by decide)]
      exact ih (k + 1) _ n (by omega) (by omega)
    · rw [Mhas1 (by omega) hb, sm_some, if_neg (by decide), Mone_ok k (by omega), sm_some, Mquarter_ok _ (oN_lt k (by omega)).1, sm_some, Mother_ok k (by omega), sm_some, Mquarter_ok _ (oN_lt k (by omega)).2, sm_some, MstrokeOf_ok k (by omega), sm_some, f_M_turned_b82, one_shl (by omega), fa_or, nI_1, if_pos rfl]
      exact ih (k + 1) _ n (by omega) (by omega)
def tuI : Nat → Nat → Nat
  | 0, f => f
  | n + 1, f => tuI n (tuN f)
theorem tuS_loop (c : Nat → Int32) (a1 : Int32) {N : Nat} (hN : N ≤ 3) : ∀ (j i f fuel : Nat), i + j = N → f < 4096 → j < fuel → f_S_turned_b27 a1 (nI N) fuel c (nI f) (nI i) = some (nI (tuI j f), c) := by
  intro j
  induction j with
  | zero =>
    intro i f fuel h1 hf h2
    obtain ⟨n, rfl⟩ : ∃ n, fuel = n + 1 := ⟨fuel - 1, by omega⟩
    obtain rfl : i = N := by omega
    rw [f_S_turned_b27, if_pos (nles i i (Nat.le_refl i) (by omega))]
    rfl
  | succ j ih =>
    intro i f fuel h1 hf h2
    obtain ⟨n, rfl⟩ : ∃ n, fuel = n + 1 := ⟨fuel - 1, by omega⟩
    rw [f_S_turned_b27, if_neg (nge i N (by omega) (by omega)), byAQuarter_ok hf, sm_some, nI_1]
    exact ih (i + 1) _ n (by omega) (tuF_lt f 12 0 0 rfl (by decide)) (by omega)
theorem tuM_loop (d : Nat → Int32) (a1 : Int32) {N : Nat} (hN : N ≤ 3) : ∀ (j i f fuel : Nat), i + j = N → f < 4096 → j < fuel → f_M_turned_b27 a1 (nI N) fuel d (nI f) (nI i) = some (nI (tuI j f), d) := by
  intro j
  induction j with
  | zero =>
    intro i f fuel h1 hf h2
    obtain ⟨n, rfl⟩ : ∃ n, fuel = n + 1 := ⟨fuel - 1, by omega⟩
    obtain rfl : i = N := by omega
    rw [f_M_turned_b27, if_pos (nles i i (Nat.le_refl i) (by omega))]
    rfl
  | succ j ih =>
    intro i f fuel h1 hf h2
    obtain ⟨n, rfl⟩ : ∃ n, fuel = n + 1 := ⟨fuel - 1, by omega⟩
    have h := Mturn_in (f := f) d (f_M_turned_b27 a1 (nI N) n) a1 (nI N) (nI i) 12 0 0 5000 rfl (by omega)
    rw [f_M_turned_b27, if_neg (nge i N (by omega) (by omega)), show (0 : Int32) = nI 0 from rfl, h, nI_1]
    exact ih (i + 1) _ n (by omega) (tuF_lt f 12 0 0 rfl (by decide)) (by omega)
theorem case_turned {c d : Nat → Int32} (h : rF c d) (a b : Int32) : ∃ r c' d', f_S_turned c a b = some (r, c') ∧ f_M_turned d a b = some (r, d') ∧ rF c' d' := by
  rcases rng a 4095 (by decide) with ⟨f, hf, rfl⟩ | hn
  · rcases rng b 3 (by decide) with ⟨n, hn, rfl⟩ | hb
    · refine ⟨nI (tuI n f), c, d, ?_, ?_, h⟩
      · rw [f_S_turned, isForm_yes hf, sm_some, if_neg (by decide), show (3 : Int32) = nI 3 from rfl, within_yes hn (by decide), sm_some, if_neg (by decide)]
        exact tuS_loop c _ hn n 0 f 5000 (by omega) (by omega) (by omega)
      · rw [f_M_turned, MisForm_yes hf, sm_some, if_neg (by decide), show (3 : Int32) = nI 3 from rfl, MinN_yes hn (by decide), sm_some, if_neg (by decide)]
        exact tuM_loop d _ hn n 0 f 5000 (by omega) (by omega) (by omega)
    · refine ⟨-1000000001, _, _, ?_, ?_, h.fin (k := 0) (by decide)⟩
      · rw [f_S_turned, isForm_yes hf, sm_some, if_neg (by decide), show (3 : Int32) = nI 3 from rfl, within_no hb, sm_some, if_pos rfl, f_S_turned_b15, fnd0, sm_some]
      · rw [f_M_turned, MisForm_yes hf, sm_some, if_neg (by decide), show (3 : Int32) = nI 3 from rfl, Min_no hb, sm_some, if_pos rfl, f_M_turned_b16, mno0, sm_some]
  · refine ⟨-1000000001, _, _, ?_, ?_, h.fin (k := 0) (by decide)⟩
    · rw [f_S_turned, isForm_no hn, sm_some, if_pos rfl, f_S_turned_b15, fnd0, sm_some]
    · rw [f_M_turned, MisForm_no hn, sm_some, if_pos rfl, f_M_turned_b16, mno0, sm_some]
