-- ===== LETTERS IN TIME 3 =====
section LET5
variable {B K F D : Nat → Nat} {N H S : Nat} {bf kd fm dp s c d : Nat → Int32} {n hr sn : Int32}
/-- is letter l read otherwise at an hour -/
def othI (B K F D : Nat → Nat) (S h l : Nat) : Int32 := if enc (nrU B (SHN (K l) (F l) (D l) S h) 26) = enc (nrU B (F l) 26) then 0 else 1
theorem othI_01 (B K F D : Nat → Nat) (S h l : Nat) : othI B K F D S h l = 0 ∨ othI B K F D S h l = 1 := by
  unfold othI
  split
  · exact Or.inl rfl
  · exact Or.inr rfl
theorem misread_ok (b1 : rBX B bf) (b3 : okB B) (l1 : rL K F D kd fm dp s) (l2 : okL K F D) {l h : Nat} (hl : l < 12) (hh : h < 2147483648) : f_Plain_isMisreadAt (nI S) bf dp fm kd (nI l) (nI h) = some (othI B K F D S h l) := by
  have hFl := (l2 l hl).2.1
  rw [f_Plain_isMisreadAt, shownAt_ok l1 l2 S hl hh, sm_some, nearest_ok b1 b3 (SHN_lt hFl), sm_some, rlf l1 hl, sm_some, nearest_ok b1 b3 hFl, sm_some]
  unfold othI
  split <;> rfl
theorem isOther_ok (b2 : rBM B s) (b3 : okB B) (l1 : rL K F D kd fm dp s) (l2 : okL K F D) {l h : Nat} (hl : l < 12) (hh : h < 2147483648) (h2 : s 0 = nI h) (s2 : s 1 = nI S) : f_M_isOther s (nI l) = some (othI B K F D S h l) := by
  have hFl := (l2 l hl).2.1
  rw [f_M_isOther, Mshows_ok l1 l2 hl h2 hh s2, sm_some, readAs_ok b2 b3 (SHN_lt hFl), sm_some, at1, sm_some, rl1 l1 hl, sm_some, readAs_ok b2 b3 hFl, sm_some]
  unfold othI
  split <;> rfl
def fsN (K F : Nat → Nat) : Nat → Nat
  | 0 => 0
  | l + 1 => fsN K F l + ftN (K l) (F l)
def msI (B K F D : Nat → Nat) (S h : Nat) : Nat → Int32
  | 0 => 0
  | l + 1 => if othI B K F D S h l = 0 then msI B K F D S h l else msI B K F D S h l ||| ((1 : Int32) <<< (nI l &&& 31))
theorem msI_nI (B K F D : Nat → Nat) (S h : Nat) : ∀ k, k ≤ 31 → ∃ m, msI B K F D S h k = nI m := by
  intro k
  induction k with
  | zero => intro _; exact ⟨0, rfl⟩
  | succ k ih =>
    intro hk
    obtain ⟨m, hm⟩ := ih (by omega)
    rw [msI, hm, one_shl (by omega), fa_or]
    split
    · exact ⟨_, rfl⟩
    · exact ⟨_, rfl⟩
theorem fa_loop (l1 : rL K F D kd fm dp s) (l2 : okL K F D) (hN : N ≤ 12) : ∀ (j k fuel : Nat), k + j = N → j < fuel → f_Plain_feetOfAll_b4 (nI N) fm kd fuel (nI (fsN K F k)) (nI k) = some (nI (fsN K F N)) := by
  intro j
  induction j with
  | zero =>
    intro k fuel h1 h2
    obtain ⟨n, rfl⟩ : ∃ n, fuel = n + 1 := ⟨fuel - 1, by omega⟩
    obtain rfl : k = N := by omega
    rw [f_Plain_feetOfAll_b4, if_pos (nles k k (by omega) (by omega))]
  | succ j ih =>
    intro k fuel h1 h2
    obtain ⟨n, rfl⟩ : ∃ n, fuel = n + 1 := ⟨fuel - 1, by omega⟩
    rw [f_Plain_feetOfAll_b4, if_neg (nge k N (by omega) (by omega)), feetOf_ok l1 l2 (by omega), sm_some, nI_1, nI_add]
    exact ih (k + 1) n (by omega) (by omega)
theorem lm_loop (b1 : rBX B bf) (b3 : okB B) (l1 : rL K F D kd fm dp s) (l2 : okL K F D) (hN : N ≤ 12) (hH : H < 2147483648) : ∀ (j k fuel : Nat), k + j = N → j < fuel → f_Plain_lettersMisread_b4 (nI N) (nI H) (nI S) bf dp fm kd fuel (msI B K F D S H k) (nI k) = some (msI B K F D S H N) := by
  intro j
  induction j with
  | zero =>
    intro k fuel h1 h2
    obtain ⟨n, rfl⟩ : ∃ n, fuel = n + 1 := ⟨fuel - 1, by omega⟩
    obtain rfl : k = N := by omega
    rw [f_Plain_lettersMisread_b4, if_pos (nles k k (by omega) (by omega))]
  | succ j ih =>
    intro k fuel h1 h2
    obtain ⟨n, rfl⟩ : ∃ n, fuel = n + 1 := ⟨fuel - 1, by omega⟩
    have step := ih (k + 1) n (by omega) (by omega)
    rw [f_Plain_lettersMisread_b4, if_neg (nge k N (by omega) (by omega)), misread_ok b1 b3 l1 l2 (by omega) hH, sm_some, nI_1]
    rw [msI] at step
    by_cases hc : othI B K F D S H k = 0
    · rw [if_pos hc] at step
      rw [if_pos hc]
      exact step
    · rw [if_neg hc] at step
      rw [if_neg hc]
      exact step
theorem mn_loop (b2 : rBM B s) (b3 : okB B) (l1 : rL K F D kd fm dp s) (l2 : okL K F D) (hN : N ≤ 12) (hH : H < 2147483648) (n2 : s 2 = nI N) (h2 : s 0 = nI H) (s2 : s 1 = nI S) (a : Int32) : ∀ (j k fuel : Nat), k + j = N → j < fuel → f_M_now_b22 s a fuel d (nI (fsN K F k)) (msI B K F D S H k) (nI k) = if (2 : Int32) ≤ a then (if a = (2 : Int32) then some (nI (fsN K F N), d) else some (msI B K F D S H N, d)) else (rd s 65 a).bind fun r5 => some (r5, d) := by
  intro j
  induction j with
  | zero =>
    intro k fuel h1 h2
    obtain ⟨n, rfl⟩ : ∃ n, fuel = n + 1 := ⟨fuel - 1, by omega⟩
    obtain rfl : k = N := by omega
    rw [f_M_now_b22, rs2, sm_some, n2, if_pos (nles k k (by omega) (by omega))]
  | succ j ih =>
    intro k fuel h1 h2'
    obtain ⟨n, rfl⟩ : ∃ n, fuel = n + 1 := ⟨fuel - 1, by omega⟩
    have step := ih (k + 1) n (by omega) (by omega)
    rw [f_M_now_b22, rs2, sm_some, n2, if_neg (nge k N (by omega) (by omega)), Mfeet_ok l1 l2 (by omega), sm_some, isOther_ok b2 b3 l1 l2 (by omega) hH h2 s2, sm_some, nI_add]
    rw [msI, fsN] at step
    by_cases hc : othI B K F D S H k = 0
    · rw [if_pos hc] at step
      obtain ⟨m, hm⟩ := msI_nI B K F D S H k (by omega)
      rw [if_pos hc, f_M_now_b60, show msI B K F D S H k ||| 0 = msI B K F D S H k by rw [hm, or0], nI_1]
      exact step
    · rw [if_neg hc] at step
      rw [if_neg hc, f_M_now_b60, nI_1]
      exact step
theorem case_now (hF : rF c d) (h : rPl B K F D N H S bf kd fm dp n hr sn s) (a : Int32) : ∃ r c' d', f_S_now c n hr sn bf dp fm kd a = some (r, c') ∧ f_M_now d s a = some (r, d') ∧ rF c' d' := by
  obtain ⟨⟨b1, b2, b3⟩, ⟨l1, l2⟩, ⟨n1, n2, n3⟩, ⟨h1, h2, h3⟩, ⟨s1, s2, s3⟩⟩ := h
  rcases rng a 3 (by decide) with ⟨w, hw, rfl⟩ | hn
  · have hM : f_M_now d s (nI w) = if (2 : Int32) ≤ nI w then (if nI w = (2 : Int32) then some (nI (fsN K F N), d) else some (msI B K F D S H N, d)) else (rd s 65 (nI w)).bind fun r5 => some (r5, d) := by
      rw [f_M_now, show (3 : Int32) = nI 3 from rfl, MinN_yes hw (by decide), sm_some, if_neg (by decide)]
      exact mn_loop b2 b3 l1 l2 n3 (by omega) n2 h2 s2 (nI w) N 0 5000 (by omega) (by omega)
    rcases (show w = 0 ∨ w = 1 ∨ w = 2 ∨ w = 3 by omega) with rfl | rfl | rfl | rfl
    · refine ⟨nI H, c, d, ?_, ?_, hF⟩
      · rw [f_S_now, if_pos (by decide), h1]
      · rw [hM, if_neg (by decide), show nI 0 = (0 : Int32) from rfl, rs0, sm_some, h2]
    · refine ⟨nI S, c, d, ?_, ?_, hF⟩
      · rw [f_S_now, if_neg (by decide), if_pos (by decide), s1]
      · rw [hM, if_neg (by decide), show nI 1 = (1 : Int32) from rfl, rs1, sm_some, s2]
    · refine ⟨nI (fsN K F N), c, d, ?_, ?_, hF⟩
      · rw [f_S_now, if_neg (by decide), if_neg (by decide), if_pos (by decide), f_Plain_feetOfAll, n1, show f_Plain_feetOfAll_b4 (nI N) fm kd 5000 0 0 = some (nI (fsN K F N)) from fa_loop l1 l2 n3 N 0 5000 (by omega) (by omega), sm_some]
      · rw [hM, if_pos (by decide), if_pos (by decide)]
    · refine ⟨msI B K F D S H N, c, d, ?_, ?_, hF⟩
      · rw [f_S_now, if_neg (by decide), if_neg (by decide), if_neg (by decide), if_pos (by decide), f_Plain_lettersMisread, n1, h1, s1, show f_Plain_lettersMisread_b4 (nI N) (nI H) (nI S) bf dp fm kd 5000 0 0 = some (msI B K F D S H N) from lm_loop b1 b3 l1 l2 n3 (by omega) N 0 5000 (by omega) (by omega), sm_some]
      · rw [hM, if_pos (by decide), if_neg (by decide)]
  · refine ⟨-1000000001, _, _, ?_, ?_, hF.fin (k := 0) (by decide)⟩
    · have hv : ∀ v, v ≤ 3 → ¬ a = nI v := by
        rintro v hv rfl
        rcases hn with hb | hb
        · exact nI_pos (by omega) hb
        · exact nnlt v 3 hv (by decide) hb
      rw [f_S_now, if_neg (show ¬ a = (0 : Int32) from hv 0 (by decide)), if_neg (show ¬ a = (1 : Int32) from hv 1 (by decide)), if_neg (show ¬ a = (2 : Int32) from hv 2 (by decide)), if_neg (show ¬ a = (3 : Int32) from hv 3 (by decide)), fnd0, sm_some]
    · rw [f_M_now, show (3 : Int32) = nI 3 from rfl, Min_no hn, sm_some, if_pos rfl, mno0, sm_some]
theorem case_on (hF : rF c d) (h : rPl B K F D N H S bf kd fm dp n hr sn s) (a b : Int32) : ∃ r c' d' s', f_S_on c n hr sn dp fm kd a b = some (r, c') ∧ f_M_on d s a b = some (r, d', s') ∧ rF c' d' ∧ rPl B K F D N H S bf kd fm dp n hr sn s' := by
  have h' := h
  obtain ⟨⟨b1, b2, b3⟩, ⟨l1, l2⟩, ⟨n1, n2, n3⟩, ⟨h1, h2, h3⟩, ⟨s1, s2, s3⟩⟩ := h
  rcases lng a N n3 with ⟨l, hl, rfl⟩ | hn
  · have hl12 : l < 12 := by omega
    rcases rng b 99 (by decide) with ⟨j, hj, rfl⟩ | hn
    · rcases Nat.lt_or_ge 999 (H + j) with q2 | q2
      · refine ⟨-1000000005, _, _, s, ?_, ?_, hF.fin (k := 4) (by decide), h'⟩
        · rw [f_S_on, n1, has_yes n3 hl, sm_some, if_neg (by decide), show (99 : Int32) = nI 99 from rfl, isWithin_yes hj (by decide), sm_some, if_neg (by decide), h1, nI_add, if_neg (show ¬ nI (H + j) ≤ (999 : Int32) from nge 999 _ q2 (by omega)), fnd4, sm_some]
        · rw [f_M_on, isL_yes n2 n3 hl, sm_some, if_neg (by decide), show (99 : Int32) = nI 99 from rfl, MinN_yes hj (by decide), sm_some, if_neg (by decide), rs0, sm_some, h2, nI_add, if_neg (show ¬ nI (H + j) ≤ (999 : Int32) from nge 999 _ q2 (by omega)), mno4, sm_some]
      · have hR := rPl_H h' q2
        have hR2 := rPl_H hR h3
        rw [← h1] at hR2
        obtain ⟨-, ⟨l1', -⟩, ⟨-, n2', -⟩, ⟨-, h2', -⟩, ⟨-, s2', -⟩⟩ := hR
        refine ⟨nI (SHN (K l) (F l) (D l) S (H + j)), c, d, _, ?_, ?_, hF, hR2⟩
        · rw [f_S_on, n1, has_yes n3 hl, sm_some, if_neg (by decide), show (99 : Int32) = nI 99 from rfl, isWithin_yes hj (by decide), sm_some, if_neg (by decide), h1, nI_add, if_pos (show nI (H + j) ≤ (999 : Int32) from nles _ 999 q2 (by decide)), s1, shownAt_ok l1 l2 S hl12 (by omega), sm_some]
        · rw [f_M_on, isL_yes n2 n3 hl, sm_some, if_neg (by decide), show (99 : Int32) = nI 99 from rfl, MinN_yes hj (by decide), sm_some, if_neg (by decide), rs0, sm_some, h2, nI_add, if_pos (show nI (H + j) ≤ (999 : Int32) from nles _ 999 q2 (by decide)), sm_some, nI_add, wr0, sm_some, Mshows_ok l1' l2 hl12 h2' (by omega) s2', sm_some, rs0, sm_some, upd_at, wr0, sm_some, pk_sub (by omega), show H + j - j = H by omega, h1]
    · refine ⟨-1000000001, _, _, s, ?_, ?_, hF.fin (k := 0) (by decide), h'⟩
      · rw [f_S_on, n1, has_yes n3 hl, sm_some, if_neg (by decide), show (99 : Int32) = nI 99 from rfl, isWithin_no hn, sm_some, if_pos rfl, f_S_on_b20, fnd0, sm_some]
      · rw [f_M_on, isL_yes n2 n3 hl, sm_some, if_neg (by decide), show (99 : Int32) = nI 99 from rfl, Min_no hn, sm_some, if_pos rfl, f_M_on_b18, mno0, sm_some]
  · refine ⟨-1000000001, _, _, s, ?_, ?_, hF.fin (k := 0) (by decide), h'⟩
    · rw [f_S_on, n1, has_no hn, sm_some, if_pos rfl, f_S_on_b20, fnd0, sm_some]
    · rw [f_M_on, isL_no n2 n3 hn, sm_some, if_pos rfl, f_M_on_b18, mno0, sm_some]
theorem wh_loop (hF : rF c d) {l : Nat} (hl : l < 12) (hH : H ≤ 900) : ∀ (j k fuel fuel2 : Nat) (s : Nat → Int32) (H' : Nat), rPl B K F D N H' S bf kd fm dp n (nI H') sn s → k + j = 100 → j < fuel → j + 1 < fuel2 → ∃ r c' d' s', f_S_when_b40 n (nI H) (nI S) bf dp fm kd (nI l) fuel c (nI k) = some (r, c') ∧ f_M_when_b44 (nI l) fuel2 d s (nI H) (-1) (nI k) = some (r, d', s') ∧ rF c' d' ∧ rPl B K F D N H S bf kd fm dp n (nI H) sn s' := by
  intro j
  induction j with
  | zero =>
    intro k fuel fuel2 s H' h h1 h2 h3
    obtain ⟨n, rfl⟩ : ∃ n, fuel = n + 1 := ⟨fuel - 1, by omega⟩
    obtain ⟨m, rfl⟩ : ∃ m, fuel2 = m + 1 := ⟨fuel2 - 1, by omega⟩
    obtain rfl : k = 100 := by omega
    refine ⟨-1000000004, _, _, _, ?_, ?_, hF.fin (k := 3) (by decide), rPl_H h (show H ≤ 999 by omega)⟩
    · rw [f_S_when_b40, if_pos (by decide), fnd3, sm_some]
    · rw [f_M_when_b44, if_pos (by decide), f_M_when_b86, wr0, sm_some, if_neg (by decide), mno3, sm_some]
  | succ j ih =>
    intro k fuel fuel2 s H' h h1 h2 h3
    obtain ⟨n, rfl⟩ : ∃ n, fuel = n + 1 := ⟨fuel - 1, by omega⟩
    obtain ⟨m, rfl⟩ : ∃ m, fuel2 = m + 1 := ⟨fuel2 - 1, by omega⟩
    have hR := rPl_H h (show H + k ≤ 999 by omega)
    have hR' := hR
    obtain ⟨⟨b1, b2, b3⟩, ⟨l1', l2⟩, ⟨-, n2', -⟩, ⟨-, h2', -⟩, ⟨-, s2', -⟩⟩ := hR
    have hx : ¬ (99 : Int32) < nI k := nnlt k 99 (by omega) (by decide)
    have hX := fun n' => (show f_S_when_b40 n' (nI H) (nI S) bf dp fm kd (nI l) (n + 1) c (nI k) = if othI B K F D S (H + k) l = 0 then f_S_when_b40 n' (nI H) (nI S) bf dp fm kd (nI l) n c (nI (k + 1)) else some (nI k, c) by
      rw [f_S_when_b40, if_neg hx, nI_add, misread_ok b1 b3 l1' l2 hl (by omega), sm_some, nI_1])
    have hM : f_M_when_b44 (nI l) (m + 1) d s (nI H) (-1) (nI k) = if othI B K F D S (H + k) l = 0 then f_M_when_b44 (nI l) m d (upd s 0 (nI (H + k))) (nI H) (-1) (nI (k + 1)) else f_M_when_b44 (nI l) m d (upd s 0 (nI (H + k))) (nI H) (nI k) (nI (k + 1)) := by
      rw [f_M_when_b44, if_neg hx, if_neg (by decide), nI_add, wr0, sm_some, isOther_ok b2 b3 l1' l2 hl (by omega) h2' s2', sm_some, f_M_when_b79, f_M_when_b79, nI_1]
    by_cases hc : othI B K F D S (H + k) l = 0
    · obtain ⟨r, c', d', s', e1, e2, e3, e4⟩ := ih (k + 1) n m _ _ hR' (by omega) (by omega) (by omega)
      refine ⟨r, c', d', s', ?_, ?_, e3, e4⟩
      · rw [hX, if_pos hc]; exact e1
      · rw [hM, if_pos hc]; exact e2
    · refine ⟨nI k, c, d, _, ?_, ?_, hF, rPl_H hR' (show H ≤ 999 by omega)⟩
      · rw [hX, if_neg hc]
      · obtain ⟨m', rfl⟩ : ∃ m', m = m' + 1 := ⟨m - 1, by omega⟩
        have h0 : (0 : Int32) ≤ nI k := nI_pos' (by omega)
        rw [hM, if_neg hc, f_M_when_b44, f_M_when_b86, if_pos h0, ite_self, wr0, sm_some, if_pos h0]
theorem case_when (hF : rF c d) (h : rPl B K F D N H S bf kd fm dp n hr sn s) (a : Int32) : ∃ r c' d' s', f_S_when c n hr sn bf dp fm kd a = some (r, c') ∧ f_M_when d s a = some (r, d', s') ∧ rF c' d' ∧ rPl B K F D N H S bf kd fm dp n hr sn s' := by
  have h' := h
  obtain ⟨⟨b1, b2, b3⟩, ⟨l1, l2⟩, ⟨n1, n2, n3⟩, ⟨h1, h2, h3⟩, ⟨s1, s2, s3⟩⟩ := h
  rcases lng a N n3 with ⟨l, hl, rfl⟩ | hn
  · have hl12 : l < 12 := by omega
    rcases Nat.lt_or_ge 900 H with q | q
    · refine ⟨-1000000005, _, _, s, ?_, ?_, hF.fin (k := 4) (by decide), h'⟩
      · rw [f_S_when, n1, has_yes n3 hl, sm_some, if_neg (by decide), h1, if_neg (show ¬ nI H ≤ (900 : Int32) from nge 900 _ q (by omega)), fnd4, sm_some]
      · rw [f_M_when, isL_yes n2 n3 hl, sm_some, if_neg (by decide), rs0, sm_some, h2, if_neg (show ¬ nI H ≤ (900 : Int32) from nge 900 _ q (by omega)), mno4, sm_some]
    · rw [h1] at h'
      obtain ⟨r, c', d', s', e1, e2, e3, e4⟩ := wh_loop hF hl12 q 100 0 5000 5000 s H h' (by omega) (by omega) (by omega)
      refine ⟨r, c', d', s', ?_, ?_, e3, ?_⟩
      · rw [f_S_when, n1, has_yes n3 hl, sm_some, if_neg (by decide), h1, if_pos (show nI H ≤ (900 : Int32) from nles _ 900 q (by decide)), s1]
        rw [← n1]
        exact e1
      · rw [f_M_when, isL_yes n2 n3 hl, sm_some, if_neg (by decide), rs0, sm_some, h2, if_pos (show nI H ≤ (900 : Int32) from nles _ 900 q (by decide)), sm_some]
        exact e2
      · rw [h1]; exact e4
  · refine ⟨-1000000001, _, _, s, ?_, ?_, hF.fin (k := 0) (by decide), h'⟩
    · rw [f_S_when, n1, has_no hn, sm_some, if_pos rfl, fnd0, sm_some]
    · rw [f_M_when, isL_no n2 n3 hn, sm_some, if_pos rfl, mno0, sm_some]
end LET5
