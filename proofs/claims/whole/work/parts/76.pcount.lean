-- ===== COUNT, STATUS =====
section CS
variable {B K F D : Nat → Nat} {N H S : Nat} {bf kd fm dp s c d : Nat → Int32} {n hr sn : Int32}
def sgN (B : Nat → Nat) : Nat → Nat
  | 0 => 0
  | g + 1 => sgN B g + if B g = 0 then 0 else 1
theorem xsg_loop (b1 : rBX B bf) (b3 : okB B) : ∀ (j k fuel : Nat), k + j = 26 → j < fuel → f_Book_countSigns_b4 bf fuel (nI (sgN B k)) (nI k) = some (nI (sgN B 26)) := by
  intro j
  induction j with
  | zero =>
    intro k fuel h1 h2
    obtain ⟨n, rfl⟩ : ∃ n, fuel = n + 1 := ⟨fuel - 1, by omega⟩
    obtain rfl : k = 26 := by omega
    rw [f_Book_countSigns_b4, if_pos (by decide)]
  | succ j ih =>
    intro k fuel h1 h2
    obtain ⟨n, rfl⟩ : ∃ n, fuel = n + 1 := ⟨fuel - 1, by omega⟩
    have step := ih (k + 1) n (by omega) (by omega)
    have hk := b3 k (by omega)
    rw [sgN] at step
    rw [f_Book_countSigns_b4, if_neg (show ¬ (26 : Int32) ≤ nI k from nge k 26 (by omega) (by decide)), rd_nI (by omega) (by decide), sm_some, b1 k (by omega), nI_1, nI_1]
    by_cases h0 : B k = 0
    · rw [if_pos h0] at step
      rw [if_pos (show nI (B k) = (0 : Int32) by rw [h0]; rfl)]
      exact step
    · rw [if_neg h0] at step
      rw [if_neg (show ¬ nI (B k) = (0 : Int32) from nI_ne0 (by omega) (by omega))]
      exact step
theorem msg_loop (b2 : rBM B s) (b3 : okB B) : ∀ (j k fuel : Nat), k + j = 26 → j < fuel → f_M_signsTold_b4 s fuel (nI (sgN B k)) (nI k) = some (nI (sgN B 26)) := by
  intro j
  induction j with
  | zero =>
    intro k fuel h1 h2
    obtain ⟨n, rfl⟩ : ∃ n, fuel = n + 1 := ⟨fuel - 1, by omega⟩
    obtain rfl : k = 26 := by omega
    rw [f_M_signsTold_b4, if_pos (by decide)]
  | succ j ih =>
    intro k fuel h1 h2
    obtain ⟨n, rfl⟩ : ∃ n, fuel = n + 1 := ⟨fuel - 1, by omega⟩
    have step := ih (k + 1) n (by omega) (by omega)
    have hk := b3 k (by omega)
    rw [sgN] at step
    rw [f_M_signsTold_b4, if_neg (show ¬ (26 : Int32) ≤ nI k from nge k 26 (by omega) (by decide)), rdM b2 (by omega), sm_some]
    by_cases h0 : B k = 0
    · rw [if_pos h0] at step
      rw [if_pos (show nI (B k) = (0 : Int32) by rw [h0]; rfl), f_M_signsTold_b27, nI_1, show (0 : Int32) = nI 0 from rfl, nI_add]
      exact step
    · rw [if_neg h0] at step
      rw [if_neg (show ¬ nI (B k) = (0 : Int32) from nI_ne0 (by omega) (by omega)), f_M_signsTold_b27, nI_1, nI_1]
      exact step
def skN (F : Nat → Nat) : Nat → Nat
  | 0 => 0
  | l + 1 => skN F l + popN (F l)
theorem xsk_loop (l1 : rL K F D kd fm dp s) (l2 : okL K F D) (hN : N ≤ 12) : ∀ (j k fuel : Nat), k + j = N → j < fuel → f_Plain_strokesOfAll_b4 (nI N) fm fuel (nI (skN F k)) (nI k) = some (nI (skN F N)) := by
  intro j
  induction j with
  | zero =>
    intro k fuel h1 h2
    obtain ⟨n, rfl⟩ : ∃ n, fuel = n + 1 := ⟨fuel - 1, by omega⟩
    obtain rfl : k = N := by omega
    rw [f_Plain_strokesOfAll_b4, if_pos (nles k k (by omega) (by omega))]
  | succ j ih =>
    intro k fuel h1 h2
    obtain ⟨n, rfl⟩ : ∃ n, fuel = n + 1 := ⟨fuel - 1, by omega⟩
    rw [f_Plain_strokesOfAll_b4, if_neg (nge k N (by omega) (by omega)), rlf l1 (by omega), sm_some, bitCount_ok (l2 k (by omega)).2.1, sm_some, nI_1, nI_add]
    exact ih (k + 1) n (by omega) (by omega)
theorem msk_loop (l1 : rL K F D kd fm dp s) (l2 : okL K F D) (hN : N ≤ 12) (n2 : s 2 = nI N) : ∀ (j k fuel : Nat), k + j = N → j < fuel → f_M_strokesOfAll_b4 s fuel (nI (skN F k)) (nI k) = some (nI (skN F N)) := by
  intro j
  induction j with
  | zero =>
    intro k fuel h1 h2
    obtain ⟨n, rfl⟩ : ∃ n, fuel = n + 1 := ⟨fuel - 1, by omega⟩
    obtain rfl : k = N := by omega
    rw [f_M_strokesOfAll_b4, rs2, sm_some, n2, if_pos (nles k k (by omega) (by omega))]
  | succ j ih =>
    intro k fuel h1 h2
    obtain ⟨n, rfl⟩ : ∃ n, fuel = n + 1 := ⟨fuel - 1, by omega⟩
    rw [f_M_strokesOfAll_b4, rs2, sm_some, n2, if_neg (nge k N (by omega) (by omega)), at1, sm_some, rl1 l1 (by omega), sm_some, Mones_ok (l2 k (by omega)).2.1, sm_some, nI_1, nI_add]
    exact ih (k + 1) n (by omega) (by omega)
theorem case_count (hF : rF c d) (h : rPl B K F D N H S bf kd fm dp n hr sn s) {tl tlM : Int32} (ht : tl = tlM) (a : Int32) : ∃ r c' d', f_S_count c n bf fm tl a = some (r, c') ∧ f_M_count tlM d s a = some (r, d') ∧ rF c' d' := by
  obtain ⟨⟨b1, b2, b3⟩, ⟨l1, l2⟩, ⟨n1, n2, n3⟩, ⟨h1, h2, h3⟩, ⟨s1, s2, s3⟩⟩ := h
  by_cases a0 : a = 0
  · refine ⟨nI N, c, d, ?_, ?_, hF⟩
    · rw [f_S_count, if_pos a0, n1]
    · rw [f_M_count, if_pos a0, rs2, sm_some, n2]
  · by_cases a1 : a = 1
    · refine ⟨nI (sgN B 26), c, d, ?_, ?_, hF⟩
      · rw [f_S_count, if_neg a0, if_pos a1, show f_Book_countSigns bf = some (nI (sgN B 26)) from xsg_loop b1 b3 26 0 5000 rfl (by decide), sm_some]
      · rw [f_M_count, if_neg a0, if_pos a1, show f_M_signsTold s = some (nI (sgN B 26)) from msg_loop b2 b3 26 0 5000 rfl (by decide), sm_some]
    · by_cases a2 : a = 2
      · refine ⟨tl, c, d, ?_, ?_, hF⟩
        · rw [f_S_count, if_neg a0, if_neg a1, if_pos a2]
        · rw [f_M_count, if_neg a0, if_neg a1, if_pos a2, ht]
      · by_cases a3 : a = 3
        · refine ⟨nI (skN F N), c, d, ?_, ?_, hF⟩
          · rw [f_S_count, if_neg a0, if_neg a1, if_neg a2, if_pos a3, n1, show f_Plain_strokesOfAll (nI N) fm = some (nI (skN F N)) from xsk_loop l1 l2 n3 N 0 5000 (by omega) (by omega), sm_some]
          · rw [f_M_count, if_neg a0, if_neg a1, if_neg a2, if_pos a3, show f_M_strokesOfAll s = some (nI (skN F N)) from msk_loop l1 l2 n3 n2 N 0 5000 (by omega) (by omega), sm_some]
        · refine ⟨-1000000001, _, _, ?_, ?_, hF.fin (k := 0) (by decide)⟩
          · rw [f_S_count, if_neg a0, if_neg a1, if_neg a2, if_neg a3, fnd0, sm_some]
          · rw [f_M_count, if_neg a0, if_neg a1, if_neg a2, if_neg a3, mno0, sm_some]
end CS
