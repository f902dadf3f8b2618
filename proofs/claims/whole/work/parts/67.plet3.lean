-- ===== LETTERS IN TIME =====
section LET3
variable {B K F D : Nat → Nat} {N H S : Nat} {bf kd fm dp s c d : Nat → Int32} {n hr sn : Int32}
def qfN (f e k : Nat) : Nat := if ftN k f = 0 then 0 else 100 * lasN k e / ftN k f
theorem qfN_le (f : Nat) {e : Nat} (k : Nat) (he : e ≤ 99) : qfN f e k ≤ 19800 := by
  have := lasN_le k e he
  unfold qfN
  split
  · omega
  · exact Nat.le_trans (Nat.div_le_self _ _) (by omega)
theorem lff_ok {f e k : Nat} (hf : f < 4096) (he : e ≤ 99) (hk : k < 6) : f_Kinds_lastsForFeet (nI k) (nI f) (nI e) = some (nI (qfN f e k)) := by
  have h1 := ftN_le k f
  have h2 := lasN_le k e he
  rw [f_Kinds_lastsForFeet, feet_ok hf k hk, sm_some]
  unfold qfN
  by_cases h0 : ftN k f = 0
  · rw [if_pos (show nI (ftN k f) ≤ (0 : Int32) by rw [h0]; decide), if_pos h0]; rfl
  · rw [if_neg (show ¬ nI (ftN k f) ≤ (0 : Int32) from nge 0 _ (by omega) (by omega)), if_neg h0, lasts_ok k hk e he, sm_some, dv, if_neg (show ¬ nI (ftN k f) = (0 : Int32) from nI_ne0 (by omega) (by omega)), sm_some, show (100 : Int32) = nI 100 from rfl, pk_mul, pk_div (by omega) (by omega) (by omega), Nat.mul_comm 100]
def lgst (q : Nat → Nat) : Nat → Nat → Nat → Nat → Nat
  | 0, _, b, _ => b
  | j + 1, k, b, v => if q k ≤ v then lgst q j (k + 1) b v else lgst q j (k + 1) k (q k)
theorem lff_loop {f e : Nat} (hf : f < 4096) (he : e ≤ 99) : ∀ (j k b v fuel : Nat), k + j = 6 → v ≤ 19800 → j < fuel → f_Kinds_longestForFeet_b12 (nI f) (nI e) fuel (nI b) (nI v) (nI k) = some (nI (lgst (qfN f e) j k b v)) := by
  intro j
  induction j with
  | zero =>
    intro k b v fuel h1 h2 h3
    obtain ⟨n, rfl⟩ : ∃ n, fuel = n + 1 := ⟨fuel - 1, by omega⟩
    obtain rfl : k = 6 := by omega
    rw [f_Kinds_longestForFeet_b12, if_pos (by decide)]; rfl
  | succ j ih =>
    intro k b v fuel h1 h2 h3
    obtain ⟨n, rfl⟩ : ∃ n, fuel = n + 1 := ⟨fuel - 1, by omega⟩
    have hq := qfN_le f k he
    rw [f_Kinds_longestForFeet_b12, if_neg (show ¬ (6 : Int32) ≤ nI k from nge k 6 (by omega) (by decide)), lff_ok hf he (by omega), sm_some, nI_1, lgst]
    by_cases hc : qfN f e k ≤ v
    · rw [if_pos (nles _ _ hc (by omega)), if_pos hc]
      exact ih (k + 1) b v n (by omega) h2 (by omega)
    · rw [if_neg (nge _ _ (by omega) (by omega)), if_neg hc]
      exact ih (k + 1) k _ n (by omega) hq (by omega)
theorem mlg_step {f e k : Nat} (hf : f < 4096) (he : e ≤ 99) (hk : k < 6) (n : Nat) (v2 v3 : Int32) : f_M_longest_b7 (nI f) (nI e) (n + 1) v2 v3 (nI k) = if nI (qfN f e k) ≤ v3 then f_M_longest_b7 (nI f) (nI e) n v2 v3 (nI (k + 1)) else f_M_longest_b7 (nI f) (nI e) n (nI k) (nI (qfN f e k)) (nI (k + 1)) := by
  have h1 := ftN_le k f
  have h2 := lasN_le k e he
  have h42 : ∀ x, f_M_longest_b42 (f_M_longest_b7 (nI f) (nI e) n) (nI f) (nI e) v2 v3 (nI k) x = if x ≤ v3 then f_M_longest_b7 (nI f) (nI e) n v2 v3 (nI (k + 1)) else f_M_longest_b7 (nI f) (nI e) n (nI k) x (nI (k + 1)) := by
    intro x
    by_cases hc : x ≤ v3
    · rw [f_M_longest_b42, if_pos hc, if_pos hc, f_M_longest_b56, if_pos hc, f_M_longest_b69, nI_1]
    · rw [f_M_longest_b42, if_neg hc, if_neg hc, f_M_longest_b56, if_neg hc, f_M_longest_b69, nI_1]
  rw [f_M_longest_b7, if_neg (show ¬ (5 : Int32) < nI k from nnlt k 5 (by omega) (by decide)), feetBy_ok hf k hk, sm_some]
  unfold qfN
  by_cases h0 : ftN k f = 0
  · rw [if_pos (show nI (ftN k f) = (0 : Int32) by rw [h0]; rfl), if_pos h0, h42]; rfl
  · rw [if_neg (show ¬ nI (ftN k f) = (0 : Int32) from nI_ne0 (by omega) (by omega)), if_neg h0, lastsBy_eq, lasts_ok k hk e he, sm_some, dv, if_neg (show ¬ nI (ftN k f) = (0 : Int32) from nI_ne0 (by omega) (by omega)), sm_some, show (100 : Int32) = nI 100 from rfl, pk_mul, pk_div (by omega) (by omega) (by omega), h42]
theorem mlg_loop {f e : Nat} (hf : f < 4096) (he : e ≤ 99) : ∀ (j k b v fuel : Nat), k + j = 6 → v ≤ 19800 → j < fuel → f_M_longest_b7 (nI f) (nI e) fuel (nI b) (nI v) (nI k) = some (nI (lgst (qfN f e) j k b v)) := by
  intro j
  induction j with
  | zero =>
    intro k b v fuel h1 h2 h3
    obtain ⟨n, rfl⟩ : ∃ n, fuel = n + 1 := ⟨fuel - 1, by omega⟩
    obtain rfl : k = 6 := by omega
    rw [f_M_longest_b7, if_pos (by decide)]; rfl
  | succ j ih =>
    intro k b v fuel h1 h2 h3
    obtain ⟨n, rfl⟩ : ∃ n, fuel = n + 1 := ⟨fuel - 1, by omega⟩
    have hq := qfN_le f k he
    rw [mlg_step hf he (by omega), lgst]
    by_cases hc : qfN f e k ≤ v
    · rw [if_pos (nles _ _ hc (by omega)), if_pos hc]
      exact ih (k + 1) b v n (by omega) h2 (by omega)
    · rw [if_neg (nge _ _ (by omega) (by omega)), if_neg hc]
      exact ih (k + 1) k _ n (by omega) hq (by omega)
theorem case_kind (hF : rF c d) (h : rPl B K F D N H S bf kd fm dp n hr sn s) (a : Int32) : ∃ r c' d', f_S_kind c n dp fm a = some (r, c') ∧ f_M_kind d s a = some (r, d') ∧ rF c' d' := by
  obtain ⟨⟨b1, b2, b3⟩, ⟨l1, l2⟩, ⟨n1, n2, n3⟩, ⟨h1, h2, h3⟩, ⟨s1, s2, s3⟩⟩ := h
  rcases lng a N n3 with ⟨l, hl, rfl⟩ | hn
  · have hl12 : l < 12 := by omega
    obtain ⟨-, hf, he⟩ := l2 l hl12
    have hq := qfN_le (F l) 0 he
    refine ⟨nI (lgst (qfN (F l) (D l)) 5 1 0 (qfN (F l) (D l) 0)), c, d, ?_, ?_, hF⟩
    · rw [f_S_kind, n1, has_yes n3 hl, sm_some, if_neg (by decide), rlf l1 hl12, sm_some, rld l1 hl12, sm_some, f_Kinds_longestForFeet, show (0 : Int32) = nI 0 from rfl, lff_ok hf he (by decide), sm_some, show (1 : Int32) = nI 1 from rfl, lff_loop hf he 5 1 0 _ 5000 rfl hq (by decide), sm_some]
    · rw [f_M_kind, isL_yes n2 n3 hl, sm_some, if_neg (by decide), at1, sm_some, rl1 l1 hl12, sm_some, at2, sm_some, rl2 l1 hl12, sm_some, f_M_longest, show (0 : Int32) = nI 0 from rfl, mlg_step hf he (by decide), if_neg (show ¬ nI (qfN (F l) (D l) 0) ≤ (-1 : Int32) from ?_), mlg_loop hf he 5 1 0 _ 4999 rfl hq (by decide), sm_some]
      intro z
      rw [fa_le] at z
      have e1 : (-1 : Int32).toInt = -1 := by decide
      have e2 : (nI (qfN (F l) (D l) 0)).toInt = qfN (F l) (D l) 0 := nI_toInt (by omega)
      omega
  · refine ⟨-1000000001, _, _, ?_, ?_, hF.fin (k := 0) (by decide)⟩
    · rw [f_S_kind, n1, has_no hn, sm_some, if_pos rfl, fnd0, sm_some]
    · rw [f_M_kind, isL_no n2 n3 hn, sm_some, if_pos rfl, mno0, sm_some]
end LET3
