-- ===== LETTERS SET =====
def upN (f : Nat → Nat) (i v : Nat) : Nat → Nat := fun k => if k = i then v else f k
theorem upd_at (f : Nat → Int32) (i : Nat) (x : Int32) : upd f i x i = x := if_pos rfl
theorem upd_ne (f : Nat → Int32) {i j : Nat} (x : Int32) (h : j ≠ i) : upd f i x j = f j := if_neg h
theorem rBM_ge {B : Nat → Nat} {s : Nat → Int32} (h : rBM B s) {i : Nat} (x : Int32) (hi : i < 3 ∨ 29 ≤ i) : rBM B (upd s i x) := by
  intro g hg
  rw [upd_ne _ _ (by omega)]
  exact h g hg
theorem nI_nq {a b : Nat} (ha : a < 2147483648) (hb : b < 2147483648) (h : a ≠ b) : ¬ nI a = nI b := fun z => h ((nI_eq ha hb).mp z)
section LET2
variable {B K F D : Nat → Nat} {N H S : Nat} {bf kd fm dp s c d : Nat → Int32} {n hr sn : Int32}
theorem rL_lo (h : rL K F D kd fm dp s) {i : Nat} (x : Int32) (hi : i < 29) : rL K F D kd fm dp (upd s i x) := by
  intro l hl
  rw [upd_ne _ _ (by omega), upd_ne _ _ (by omega), upd_ne _ _ (by omega)]
  exact h l hl
theorem rL_K (h : rL K F D kd fm dp s) {l : Nat} (k : Nat) : rL (upN K l k) F D (upd kd l (nI k)) fm dp (upd s (29 + 3 * l) (nI k)) := by
  intro i hi
  obtain ⟨⟨h1, h2, h3⟩, h4, h5, h6⟩ := h i hi
  unfold upN
  by_cases e : i = l
  · subst e
    rw [if_pos rfl, upd_at, upd_at, upd_ne _ _ (by omega), upd_ne _ _ (by omega)]
    exact ⟨⟨rfl, h2, h3⟩, rfl, h5, h6⟩
  · rw [if_neg e, upd_ne _ _ e, upd_ne _ _ (by omega), upd_ne _ _ (by omega), upd_ne _ _ (by omega)]
    exact ⟨⟨h1, h2, h3⟩, h4, h5, h6⟩
theorem rL_F (h : rL K F D kd fm dp s) {l : Nat} (k : Nat) : rL K (upN F l k) D kd (upd fm l (nI k)) dp (upd s (30 + 3 * l) (nI k)) := by
  intro i hi
  obtain ⟨⟨h1, h2, h3⟩, h4, h5, h6⟩ := h i hi
  unfold upN
  by_cases e : i = l
  · subst e
    rw [if_pos rfl, upd_at, upd_at, upd_ne _ _ (by omega), upd_ne _ _ (by omega)]
    exact ⟨⟨h1, rfl, h3⟩, h4, rfl, h6⟩
  · rw [if_neg e, upd_ne _ _ e, upd_ne _ _ (by omega), upd_ne _ _ (by omega), upd_ne _ _ (by omega)]
    exact ⟨⟨h1, h2, h3⟩, h4, h5, h6⟩
theorem rL_D (h : rL K F D kd fm dp s) {l : Nat} (k : Nat) : rL K F (upN D l k) kd fm (upd dp l (nI k)) (upd s (31 + 3 * l) (nI k)) := by
  intro i hi
  obtain ⟨⟨h1, h2, h3⟩, h4, h5, h6⟩ := h i hi
  unfold upN
  by_cases e : i = l
  · subst e
    rw [if_pos rfl, upd_at, upd_at, upd_ne _ _ (by omega), upd_ne _ _ (by omega)]
    exact ⟨⟨h1, h2, rfl⟩, h4, h5, rfl⟩
  · rw [if_neg e, upd_ne _ _ e, upd_ne _ _ (by omega), upd_ne _ _ (by omega), upd_ne _ _ (by omega)]
    exact ⟨⟨h1, h2, h3⟩, h4, h5, h6⟩
theorem okL_K (h : okL K F D) (l : Nat) {k : Nat} (hk : k < 6) : okL (upN K l k) F D := by
  intro i hi
  obtain ⟨h1, h2, h3⟩ := h i hi
  refine ⟨?_, h2, h3⟩
  unfold upN
  split <;> assumption
theorem okL_F (h : okL K F D) (l : Nat) {k : Nat} (hk : k < 4096) : okL K (upN F l k) D := by
  intro i hi
  obtain ⟨h1, h2, h3⟩ := h i hi
  refine ⟨h1, ?_, h3⟩
  unfold upN
  split <;> assumption
theorem okL_D (h : okL K F D) (l : Nat) {k : Nat} (hk : k ≤ 99) : okL K F (upN D l k) := by
  intro i hi
  obtain ⟨h1, h2, h3⟩ := h i hi
  refine ⟨h1, h2, ?_⟩
  unfold upN
  split <;> assumption
theorem rPl_K (h : rPl B K F D N H S bf kd fm dp n hr sn s) (l : Nat) {k : Nat} (hk : k < 6) : rPl B (upN K l k) F D N H S bf (upd kd l (nI k)) fm dp n hr sn (upd s (29 + 3 * l) (nI k)) := by
  obtain ⟨⟨b1, b2, b3⟩, ⟨l1, l2⟩, ⟨n1, n2, n3⟩, ⟨h1, h2, h3⟩, ⟨s1, s2, s3⟩⟩ := h
  refine ⟨⟨b1, rBM_ge b2 _ (by omega), b3⟩, ⟨rL_K l1 k, okL_K l2 l hk⟩, ⟨n1, ?_, n3⟩, ⟨h1, ?_, h3⟩, ⟨s1, ?_, s3⟩⟩
  · rw [upd_ne _ _ (by omega), n2]
  · rw [upd_ne _ _ (by omega), h2]
  · rw [upd_ne _ _ (by omega), s2]
theorem rPl_F (h : rPl B K F D N H S bf kd fm dp n hr sn s) (l : Nat) {k : Nat} (hk : k < 4096) : rPl B K (upN F l k) D N H S bf kd (upd fm l (nI k)) dp n hr sn (upd s (30 + 3 * l) (nI k)) := by
  obtain ⟨⟨b1, b2, b3⟩, ⟨l1, l2⟩, ⟨n1, n2, n3⟩, ⟨h1, h2, h3⟩, ⟨s1, s2, s3⟩⟩ := h
  refine ⟨⟨b1, rBM_ge b2 _ (by omega), b3⟩, ⟨rL_F l1 k, okL_F l2 l hk⟩, ⟨n1, ?_, n3⟩, ⟨h1, ?_, h3⟩, ⟨s1, ?_, s3⟩⟩
  · rw [upd_ne _ _ (by omega), n2]
  · rw [upd_ne _ _ (by omega), h2]
  · rw [upd_ne _ _ (by omega), s2]
theorem rPl_D (h : rPl B K F D N H S bf kd fm dp n hr sn s) (l : Nat) {k : Nat} (hk : k ≤ 99) : rPl B K F (upN D l k) N H S bf kd fm (upd dp l (nI k)) n hr sn (upd s (31 + 3 * l) (nI k)) := by
  obtain ⟨⟨b1, b2, b3⟩, ⟨l1, l2⟩, ⟨n1, n2, n3⟩, ⟨h1, h2, h3⟩, ⟨s1, s2, s3⟩⟩ := h
  refine ⟨⟨b1, rBM_ge b2 _ (by omega), b3⟩, ⟨rL_D l1 k, okL_D l2 l hk⟩, ⟨n1, ?_, n3⟩, ⟨h1, ?_, h3⟩, ⟨s1, ?_, s3⟩⟩
  · rw [upd_ne _ _ (by omega), n2]
  · rw [upd_ne _ _ (by omega), h2]
  · rw [upd_ne _ _ (by omega), s2]
theorem rPl_N (h : rPl B K F D N H S bf kd fm dp n hr sn s) {k : Nat} (hk : k ≤ 12) : rPl B K F D k H S bf kd fm dp (nI k) hr sn (upd s 2 (nI k)) := by
  obtain ⟨⟨b1, b2, b3⟩, ⟨l1, l2⟩, ⟨n1, n2, n3⟩, ⟨h1, h2, h3⟩, ⟨s1, s2, s3⟩⟩ := h
  refine ⟨⟨b1, rBM_ge b2 _ (by omega), b3⟩, ⟨rL_lo l1 _ (by omega), l2⟩, ⟨rfl, upd_at .., hk⟩, ⟨h1, ?_, h3⟩, ⟨s1, ?_, s3⟩⟩
  · rw [upd_ne _ _ (by omega), h2]
  · rw [upd_ne _ _ (by omega), s2]
theorem rPl_H (h : rPl B K F D N H S bf kd fm dp n hr sn s) {k : Nat} (hk : k ≤ 999) : rPl B K F D N k S bf kd fm dp n (nI k) sn (upd s 0 (nI k)) := by
  obtain ⟨⟨b1, b2, b3⟩, ⟨l1, l2⟩, ⟨n1, n2, n3⟩, ⟨h1, h2, h3⟩, ⟨s1, s2, s3⟩⟩ := h
  refine ⟨⟨b1, rBM_ge b2 _ (by omega), b3⟩, ⟨rL_lo l1 _ (by omega), l2⟩, ⟨n1, ?_, n3⟩, ⟨rfl, upd_at .., hk⟩, ⟨s1, ?_, s3⟩⟩
  · rw [upd_ne _ _ (by omega), n2]
  · rw [upd_ne _ _ (by omega), s2]
theorem rPl_S (h : rPl B K F D N H S bf kd fm dp n hr sn s) {k : Nat} (hk : k < 4096) : rPl B K F D N H k bf kd fm dp n hr (nI k) (upd s 1 (nI k)) := by
  obtain ⟨⟨b1, b2, b3⟩, ⟨l1, l2⟩, ⟨n1, n2, n3⟩, ⟨h1, h2, h3⟩, ⟨s1, s2, s3⟩⟩ := h
  refine ⟨⟨b1, rBM_ge b2 _ (by omega), b3⟩, ⟨rL_lo l1 _ (by omega), l2⟩, ⟨n1, ?_, n3⟩, ⟨h1, ?_, h3⟩, ⟨rfl, upd_at .., hk⟩⟩
  · rw [upd_ne _ _ (by omega), n2]
  · rw [upd_ne _ _ (by omega), h2]
theorem wr2 (s : Nat → Int32) (x : Int32) : wr s 65 (2 : Int32) x = some (upd s 2 x) := wr_nI (k := 2) (by decide) (by decide)
theorem wr1 (s : Nat → Int32) (x : Int32) : wr s 65 (1 : Int32) x = some (upd s 1 x) := wr_nI (k := 1) (by decide) (by decide)
theorem wr0 (s : Nat → Int32) (x : Int32) : wr s 65 (0 : Int32) x = some (upd s 0 x) := wr_nI (k := 0) (by decide) (by decide)
theorem isFull_no (h : N < 12) : f_Plain_isFull (nI N) = some 0 := by rw [f_Plain_isFull, if_pos (show nI N < (12 : Int32) from nlts N 12 h (by decide))]
theorem add_ok (h : N < 12) (a b e : Int32) : f_Plain_add (nI N) dp fm kd a b e = some (nI N, nI (N + 1), upd dp N e, upd fm N b, upd kd N a) := by
  rw [f_Plain_add, isFull_no h, sm_some, if_pos rfl, wr_nI h (by decide), sm_some, wr_nI h (by decide), sm_some, wr_nI h (by decide), sm_some, nI_1, nI_pred]
theorem adds_ok (h : N < 12) (h2 : s 2 = nI N) (a b e : Int32) : f_M_adds s a b e = some (upd (upd (upd (upd s (29 + 3 * N) a) (30 + 3 * N) b) (31 + 3 * N) e) 2 (nI (N + 1))) := by
  rw [f_M_adds, rs2, sm_some, h2, at0, sm_some, wr_nI (by omega) (by decide), sm_some, at1, sm_some, wr_nI (by omega) (by decide), sm_some, at2, sm_some, wr_nI (by omega) (by decide), sm_some, rs2, sm_some, upd_ne _ _ (by omega), upd_ne _ _ (by omega), upd_ne _ _ (by omega), h2, wr2, sm_some, nI_1]
/-- a letter is added on both sides -/
theorem rPl_add (h : rPl B K F D N H S bf kd fm dp n hr sn s) (hN : N < 12) {k f e : Nat} (hk : k < 6) (hf : f < 4096) (he : e ≤ 99) : rPl B (upN K N k) (upN F N f) (upN D N e) (N + 1) H S bf (upd kd N (nI k)) (upd fm N (nI f)) (upd dp N (nI e)) (nI (N + 1)) hr sn (upd (upd (upd (upd s (29 + 3 * N) (nI k)) (30 + 3 * N) (nI f)) (31 + 3 * N) (nI e)) 2 (nI (N + 1))) :=
  rPl_N (rPl_D (rPl_F (rPl_K h N hk) N hf) N he) (by omega)
theorem case_letter (hF : rF c d) (h : rPl B K F D N H S bf kd fm dp n hr sn s) (a b : Int32) : ∃ r c' d' K' F' D' N' n' dp' fm' kd' s', f_S_letter c n dp fm kd a b = some (r, c', n', dp', fm', kd') ∧ f_M_letter d s a b = some (r, d', s') ∧ rF c' d' ∧ rPl B K' F' D' N' H S bf kd' fm' dp' n' hr sn s' := by
  have h' := h
  obtain ⟨⟨b1, b2, b3⟩, ⟨l1, l2⟩, ⟨n1, n2, n3⟩, ⟨h1, h2, h3⟩, ⟨s1, s2, s3⟩⟩ := h
  rcases rng a 5 (by decide) with ⟨k, hk, rfl⟩ | hn
  · rcases rng b 4095 (by decide) with ⟨f, hf, rfl⟩ | hn
    · rcases Nat.lt_or_ge N 12 with q | q
      · refine ⟨nI N, c, d, _, _, _, _, _, _, _, _, _, ?_, ?_, hF, rPl_add h' q (show k < 6 by omega) (show f < 4096 by omega) (show 6 ≤ 99 by decide)⟩
        · rw [f_S_letter, isKind_yes hk, sm_some, if_neg (by decide), isForm_yes hf, sm_some, if_neg (by decide), n1, isFull_no q, sm_some, if_pos rfl, add_ok q, sm_some]; rfl
        · rw [f_M_letter, MisKind_yes hk, sm_some, if_neg (by decide), MisForm_yes hf, sm_some, if_neg (by decide), rs2, sm_some, n2, if_neg (show ¬ nI N = (12 : Int32) from nI_nq (b := 12) (by omega) (by decide) (by omega)), adds_ok q n2, sm_some, rs2, upd_at, sm_some, nI_pred]; rfl
      · obtain rfl : N = 12 := by omega
        refine ⟨-1000000002, _, _, K, F, D, 12, n, dp, fm, kd, s, ?_, ?_, hF.fin (k := 1) (by decide), h'⟩
        · rw [f_S_letter, isKind_yes hk, sm_some, if_neg (by decide), isForm_yes hf, sm_some, if_neg (by decide), n1, f_Plain_isFull, if_neg (by decide), sm_some, if_neg (by decide), fnd1, sm_some]
        · rw [f_M_letter, MisKind_yes hk, sm_some, if_neg (by decide), MisForm_yes hf, sm_some, if_neg (by decide), rs2, sm_some, n2, if_pos (by decide), mno1, sm_some]
    · refine ⟨-1000000001, _, _, K, F, D, N, n, dp, fm, kd, s, ?_, ?_, hF.fin (k := 0) (by decide), h'⟩
      · rw [f_S_letter, isKind_yes hk, sm_some, if_neg (by decide), isForm_no hn, sm_some, if_pos rfl, f_S_letter_b14, fnd0, sm_some]
      · rw [f_M_letter, MisKind_yes hk, sm_some, if_neg (by decide), MisForm_no hn, sm_some, if_pos rfl, f_M_letter_b14, mno0, sm_some]
  · refine ⟨-1000000001, _, _, K, F, D, N, n, dp, fm, kd, s, ?_, ?_, hF.fin (k := 0) (by decide), h'⟩
    · rw [f_S_letter, isKind_no hn, sm_some, if_pos rfl, f_S_letter_b14, fnd0, sm_some]
    · rw [f_M_letter, MisKind_no hn, sm_some, if_pos rfl, f_M_letter_b14, mno0, sm_some]
theorem isWithin_yes {j m : Nat} (h : j ≤ m) (hm : m < 2147483648) : f_S_isWithin (nI j) (nI m) = some 1 := by
  rw [f_S_isWithin, if_neg (nI_pos (by omega)), if_neg (nnlt j m h hm)]
theorem isWithin_no {a : Int32} {m : Nat} (h : a < 0 ∨ nI m < a) : f_S_isWithin a (nI m) = some 0 := by
  rw [f_S_isWithin]
  by_cases h0 : a < 0
  · rw [if_pos h0]
  · rcases h with h | h
    · exact absurd h h0
    · rw [if_neg h0, if_pos h]
theorem case_set (hF : rF c d) (h : rPl B K F D N H S bf kd fm dp n hr sn s) (a w b : Int32) : ∃ r c' d' F' D' dp' fm' s', f_S_set c n dp fm a w b = some (r, c', dp', fm') ∧ f_M_set d s a w b = some (r, d', s') ∧ rF c' d' ∧ rPl B K F' D' N H S bf kd fm' dp' n hr sn s' := by
  have h' := h
  obtain ⟨⟨b1, b2, b3⟩, ⟨l1, l2⟩, ⟨n1, n2, n3⟩, ⟨h1, h2, h3⟩, ⟨s1, s2, s3⟩⟩ := h
  rcases lng a N n3 with ⟨l, hl, rfl⟩ | hn
  · have hl12 : l < 12 := by omega
    by_cases w1 : w = 1
    · subst w1
      rcases rng b 4095 (by decide) with ⟨f, hf, rfl⟩ | hn
      · refine ⟨nI (F l), c, d, _, _, _, _, _, ?_, ?_, hF, rPl_F h' l (show f < 4096 by omega)⟩
        · rw [f_S_set, n1, has_yes n3 hl, sm_some, if_neg (by decide), if_pos rfl, isForm_yes hf, sm_some, if_neg (by decide), rlf l1 hl12, sm_some, wr_nI hl12 (by decide), sm_some]
        · rw [f_M_set, if_pos rfl, MisForm_yes hf, sm_some, f_M_set_b32, isL_yes n2 n3 hl, sm_some, if_neg (by decide), if_neg (by decide), at1, sm_some, f_M_puts, rl1 l1 hl12, sm_some, wr_nI (by omega) (by decide), sm_some, sm_some]
      · refine ⟨-1000000001, _, _, F, D, dp, fm, s, ?_, ?_, hF.fin (k := 0) (by decide), h'⟩
        · rw [f_S_set, n1, has_yes n3 hl, sm_some, if_neg (by decide), if_pos rfl, isForm_no hn, sm_some, if_pos rfl, f_S_set_b54, if_neg (by decide), f_S_set_b92, fnd0, sm_some]
        · rw [f_M_set, if_pos rfl, MisForm_no hn, sm_some, f_M_set_b32, isL_yes n2 n3 hl, sm_some, if_neg (by decide), if_pos rfl, f_M_set_b61, mno0, sm_some]
    · by_cases w2 : w = 2
      · subst w2
        rcases rng b 99 (by decide) with ⟨f, hf, rfl⟩ | hn
        · refine ⟨nI (D l), c, d, _, _, _, _, _, ?_, ?_, hF, rPl_D h' l hf⟩
          · rw [f_S_set, n1, has_yes n3 hl, sm_some, if_neg (by decide), if_neg (by decide), f_S_set_b54, if_pos rfl, show (99 : Int32) = nI 99 from rfl, isWithin_yes hf (by decide), sm_some, if_neg (by decide), rld l1 hl12, sm_some, wr_nI hl12 (by decide), sm_some]
          · rw [f_M_set, if_neg (by decide), if_pos rfl, show (99 : Int32) = nI 99 from rfl, MinN_yes hf (by decide), sm_some, if_neg (by decide), f_M_set_b32, isL_yes n2 n3 hl, sm_some, if_neg (by decide), if_neg (by decide), at2, sm_some, f_M_puts, rl2 l1 hl12, sm_some, wr_nI (by omega) (by decide), sm_some, sm_some]
        · refine ⟨-1000000001, _, _, F, D, dp, fm, s, ?_, ?_, hF.fin (k := 0) (by decide), h'⟩
          · rw [f_S_set, n1, has_yes n3 hl, sm_some, if_neg (by decide), if_neg (by decide), f_S_set_b54, if_pos rfl, show (99 : Int32) = nI 99 from rfl, isWithin_no hn, sm_some, if_pos rfl, f_S_set_b92, fnd0, sm_some]
          · rw [f_M_set, if_neg (by decide), if_pos rfl, show (99 : Int32) = nI 99 from rfl, Min_no hn, sm_some, if_pos rfl, f_M_set_b32, isL_yes n2 n3 hl, sm_some, if_neg (by decide), if_pos rfl, f_M_set_b61, mno0, sm_some]
      · refine ⟨-1000000001, _, _, F, D, dp, fm, s, ?_, ?_, hF.fin (k := 0) (by decide), h'⟩
        · rw [f_S_set, n1, has_yes n3 hl, sm_some, if_neg (by decide), if_neg w1, f_S_set_b54, if_neg w2, f_S_set_b92, fnd0, sm_some]
        · rw [f_M_set, if_neg w1, if_neg w2, f_M_set_b32, isL_yes n2 n3 hl, sm_some, if_neg (by decide), if_pos rfl, f_M_set_b61, mno0, sm_some]
  · refine ⟨-1000000001, _, _, F, D, dp, fm, s, ?_, ?_, hF.fin (k := 0) (by decide), h'⟩
    · rw [f_S_set, n1, has_no hn, sm_some, if_pos rfl, fnd0, sm_some]
    · have hz : ∀ z, f_M_set_b32 a w b d s z = some (-1000000001, upd d 0 (d 0 + 1), s) := by
        intro z
        rw [f_M_set_b32, isL_no n2 n3 hn, sm_some, if_pos rfl, f_M_set_b61, mno0, sm_some]
      rw [f_M_set]
      by_cases w1 : w = 1
      · rw [if_pos w1]
        rcases rng b 4095 (by decide) with ⟨f, hf, rfl⟩ | hn
        · rw [MisForm_yes hf, sm_some, hz]
        · rw [MisForm_no hn, sm_some, hz]
      · rw [if_neg w1]
        by_cases w2 : w = 2
        · rw [if_pos w2, show (99 : Int32) = nI 99 from rfl]
          rcases rng b 99 (by decide) with ⟨f, hf, rfl⟩ | hn
          · rw [MinN_yes hf (by decide), sm_some, if_neg (by decide), hz]
          · rw [Min_no hn, sm_some, if_pos rfl, hz]
        · rw [if_neg w2, hz]
theorem case_turn (hF : rF c d) (h : rPl B K F D N H S bf kd fm dp n hr sn s) (a b : Int32) : ∃ r c' d' K' kd' s', f_S_turn c n kd a b = some (r, c', kd') ∧ f_M_turn d s a b = some (r, d', s') ∧ rF c' d' ∧ rPl B K' F D N H S bf kd' fm dp n hr sn s' := by
  have h' := h
  obtain ⟨⟨b1, b2, b3⟩, ⟨l1, l2⟩, ⟨n1, n2, n3⟩, ⟨h1, h2, h3⟩, ⟨s1, s2, s3⟩⟩ := h
  rcases lng a N n3 with ⟨l, hl, rfl⟩ | hn
  · have hl12 : l < 12 := by omega
    rcases rng b 5 (by decide) with ⟨k, hk, rfl⟩ | hn
    · refine ⟨nI (K l), c, d, _, _, _, ?_, ?_, hF, rPl_K h' l (show k < 6 by omega)⟩
      · rw [f_S_turn, n1, has_yes n3 hl, sm_some, if_neg (by decide), isKind_yes hk, sm_some, if_neg (by decide), rlk l1 hl12, sm_some, wr_nI hl12 (by decide), sm_some]
      · rw [f_M_turn, isL_yes n2 n3 hl, sm_some, if_neg (by decide), MisKind_yes hk, sm_some, if_neg (by decide), at0, sm_some, f_M_puts, rl0 l1 hl12, sm_some, wr_nI (by omega) (by decide), sm_some, sm_some]
    · refine ⟨-1000000001, _, _, K, kd, s, ?_, ?_, hF.fin (k := 0) (by decide), h'⟩
      · rw [f_S_turn, n1, has_yes n3 hl, sm_some, if_neg (by decide), isKind_no hn, sm_some, if_pos rfl, f_S_turn_b18, fnd0, sm_some]
      · rw [f_M_turn, isL_yes n2 n3 hl, sm_some, if_neg (by decide), MisKind_no hn, sm_some, if_pos rfl, f_M_turn_b29, mno0, sm_some]
  · refine ⟨-1000000001, _, _, K, kd, s, ?_, ?_, hF.fin (k := 0) (by decide), h'⟩
    · rw [f_S_turn, n1, has_no hn, sm_some, if_pos rfl, f_S_turn_b18, fnd0, sm_some]
    · rw [f_M_turn, isL_no n2 n3 hn, sm_some, if_pos rfl, f_M_turn_b29, mno0, sm_some]
theorem isUnder_eq : ∀ k, k < 6 → ∀ m, m < 6 → f_Kinds_isUnder (nI k) (nI m) = f_M_isUnder (nI k) (nI m) ∧ (f_M_isUnder (nI k) (nI m) = some 0 ∨ f_M_isUnder (nI k) (nI m) = some 1) := by decide +kernel
theorem case_as (hF : rF c d) (h : rPl B K F D N H S bf kd fm dp n hr sn s) (a b : Int32) : ∃ r c' d', f_S_as c n dp kd a b = some (r, c') ∧ f_M_as d s a b = some (r, d') ∧ rF c' d' := by
  obtain ⟨⟨b1, b2, b3⟩, ⟨l1, l2⟩, ⟨n1, n2, n3⟩, ⟨h1, h2, h3⟩, ⟨s1, s2, s3⟩⟩ := h
  rcases lng a N n3 with ⟨l, hl, rfl⟩ | hn
  · have hl12 : l < 12 := by omega
    rcases rng b 5 (by decide) with ⟨k, hk, rfl⟩ | hn
    · obtain ⟨e, e2⟩ := isUnder_eq (K l) (l2 l hl12).1 k (by omega)
      rcases e2 with e2 | e2
      · refine ⟨-1000000003, _, _, ?_, ?_, hF.fin (k := 2) (by decide)⟩
        · rw [f_S_as, n1, has_yes n3 hl, sm_some, if_neg (by decide), isKind_yes hk, sm_some, if_neg (by decide), rlk l1 hl12, sm_some, e, e2, sm_some, if_pos rfl, fnd2, sm_some]
        · rw [f_M_as, isL_yes n2 n3 hl, sm_some, if_neg (by decide), MisKind_yes hk, sm_some, if_neg (by decide), at0, sm_some, rl0 l1 hl12, sm_some, e2, sm_some, if_pos rfl, mno2, sm_some]
      · refine ⟨nI (D l), c, d, ?_, ?_, hF⟩
        · rw [f_S_as, n1, has_yes n3 hl, sm_some, if_neg (by decide), isKind_yes hk, sm_some, if_neg (by decide), rlk l1 hl12, sm_some, e, e2, sm_some, if_neg (by decide), rld l1 hl12, sm_some]
        · rw [f_M_as, isL_yes n2 n3 hl, sm_some, if_neg (by decide), MisKind_yes hk, sm_some, if_neg (by decide), at0, sm_some, rl0 l1 hl12, sm_some, e2, sm_some, if_neg (by decide), at2, sm_some, rl2 l1 hl12, sm_some]
    · refine ⟨-1000000001, _, _, ?_, ?_, hF.fin (k := 0) (by decide)⟩
      · rw [f_S_as, n1, has_yes n3 hl, sm_some, if_neg (by decide), isKind_no hn, sm_some, if_pos rfl, f_S_as_b18, fnd0, sm_some]
      · rw [f_M_as, isL_yes n2 n3 hl, sm_some, if_neg (by decide), MisKind_no hn, sm_some, if_pos rfl, f_M_as_b15, mno0, sm_some]
  · refine ⟨-1000000001, _, _, ?_, ?_, hF.fin (k := 0) (by decide)⟩
    · rw [f_S_as, n1, has_no hn, sm_some, if_pos rfl, f_S_as_b18, fnd0, sm_some]
    · rw [f_M_as, isL_no n2 n3 hn, sm_some, if_pos rfl, f_M_as_b15, mno0, sm_some]
theorem case_sun (hF : rF c d) (h : rPl B K F D N H S bf kd fm dp n hr sn s) (a : Int32) : ∃ r c' d' S' sn' s', f_S_sun c sn a = some (r, c', sn') ∧ f_M_sun d s a = some (r, d', s') ∧ rF c' d' ∧ rPl B K F D N H S' bf kd fm dp n hr sn' s' := by
  have h' := h
  obtain ⟨⟨b1, b2, b3⟩, ⟨l1, l2⟩, ⟨n1, n2, n3⟩, ⟨h1, h2, h3⟩, ⟨s1, s2, s3⟩⟩ := h
  rcases rng a 4095 (by decide) with ⟨f, hf, rfl⟩ | hn
  · refine ⟨nI S, c, d, _, _, _, ?_, ?_, hF, rPl_S h' (show f < 4096 by omega)⟩
    · rw [f_S_sun, isForm_yes hf, sm_some, if_neg (by decide), s1]
    · rw [f_M_sun, MisForm_yes hf, sm_some, if_neg (by decide), f_M_puts, rs1, sm_some, wr1, sm_some, sm_some, s2]
  · refine ⟨-1000000001, _, _, S, sn, s, ?_, ?_, hF.fin (k := 0) (by decide), h'⟩
    · rw [f_S_sun, isForm_no hn, sm_some, if_pos rfl, fnd0, sm_some]
    · rw [f_M_sun, MisForm_no hn, sm_some, if_pos rfl, mno0, sm_some]
end LET2
