-- ===== BEST, WORTH 3 =====
section BW3
variable {B K F D : Nat → Nat} {N H S : Nat} {bf kd fm dp s c d : Nat → Int32} {n hr sn : Int32}
def stN (K F : Nat → Nat) (l : Nat) : Nat := ftN (K l) (F l)
theorem up_all {f : Nat → Int32} {q : Nat → Nat} {k : Nat} (h : ∀ l, l < k → f l = nI (q l)) : ∀ l, l < k + 1 → upd f k (nI (q k)) l = nI (q l) := by
  intro l hl
  by_cases e : l = k
  · subst e; rw [upd_at]
  · rw [upd_ne _ _ e]; exact h l (by omega)
theorem x8_loop (h : rPl B K F D N H S bf kd fm dp n hr sn s) (a : Int32) : ∀ (j k fuel : Nat) (ch mo : Int32) (st wt : Nat → Int32), k + j = N → j < fuel → (∀ l, l < k → st l = nI (stN K F l)) → (∀ l, l < k → wt l = nI (wtN B K F D S H l)) → ∃ st' wt', f_Choice_choose_b8 n hr sn bf dp fm kd a fuel ch mo st wt (nI N) (nI k) = f_Choice_choose_b68 n hr sn bf dp fm kd a 5000 0 0 st' wt' (nI N) 0 0 0 1 ∧ (∀ l, l < N → st' l = nI (stN K F l)) ∧ (∀ l, l < N → wt' l = nI (wtN B K F D S H l)) := by
  have h' := h
  obtain ⟨⟨b1, b2, b3⟩, ⟨l1, l2⟩, ⟨n1, n2, n3⟩, ⟨h1, h2, h3⟩, ⟨s1, s2, s3⟩⟩ := h
  intro j
  induction j with
  | zero =>
    intro k fuel ch mo st wt e1 e2 e3 e4
    obtain ⟨n', rfl⟩ : ∃ n, fuel = n + 1 := ⟨fuel - 1, by omega⟩
    obtain rfl : k = N := by omega
    refine ⟨st, wt, ?_, e3, e4⟩
    rw [f_Choice_choose_b8, if_pos (nles k k (by omega) (by omega))]
  | succ j ih =>
    intro k fuel ch mo st wt e1 e2 e3 e4
    obtain ⟨n', rfl⟩ : ∃ n, fuel = n + 1 := ⟨fuel - 1, by omega⟩
    obtain ⟨st', wt', e5, e6⟩ := ih (k + 1) n' ch mo _ _ (by omega) (by omega) (up_all e3) (up_all e4)
    refine ⟨st', wt', ?_, e6⟩
    rw [f_Choice_choose_b8, if_neg (nge k N (by omega) (by omega)), feetOf_ok l1 l2 (by omega), sm_some, wr_nI (by omega) (by decide), sm_some, Xworth h' (by omega), sm_some, wr_nI (by omega) (by decide), sm_some, nI_1]
    exact e5
theorem choose_ok (h : rPl B K F D N H S bf kd fm dp n hr sn s) (ch mo : Int32) (st wt : Nat → Int32) {a : Nat} (ha : a ≤ 9999) : ∃ b w st' wt', f_Choice_choose ch mo st wt n hr sn bf dp fm kd (nI a) = some (nI b, nI w, st', wt') ∧ bsP (fun m => smB (stN K F) m N) (fun m => smB (wtN B K F D S H) m N) a (fun m => m < 2 ^ N) b w := by
  have hN := h.2.2.1.2.2
  have hn := h.2.2.1.1
  obtain ⟨st', wt', e1, e2, e3⟩ := x8_loop h (nI a) N 0 5000 ch mo st wt (by omega) (by omega) (fun l hl => by omega) (fun l hl => by omega)
  have hp : 2 ^ N ≤ 2 ^ 12 := Nat.pow_le_pow_right (by decide) hN
  have hp0 : 0 < 2 ^ N := Nat.two_pow_pos N
  have g0 : gray 0 = 0 := rfl
  obtain ⟨b, w, e4, e5⟩ := gx_loop (n := n) (hr := hr) (sn := sn) (bf := bf) (dp := dp) (fm := fm) (kd := kd) (fun l => ftN_le (K l) (F l)) (wtN_le B K F D S H) hN e2 e3 ha (2 ^ N - 1) 1 5000 0 0 (by omega) (by decide) (by omega) (by
    refine ⟨⟨0, by decide, rfl⟩, (smB_0 _ N).symm, ?_, ?_⟩
    · show smB (stN K F) 0 N ≤ a
      rw [smB_0]; exact Nat.zero_le a
    · rintro m ⟨i, hi, e⟩ _
      obtain rfl : i = 0 := by omega
      rw [← e, g0]
      exact Or.inr ⟨smB_0 _ N, Nat.le_refl 0⟩)
  refine ⟨b, w, st', wt', ?_, bsP_to e5 (VX_all hN)⟩
  rw [f_Choice_choose]
  have e1' : f_Choice_choose_b8 n hr sn bf dp fm kd (nI a) 5000 ch mo st wt n 0 = f_Choice_choose_b68 n hr sn bf dp fm kd (nI a) 5000 0 0 st' wt' (nI N) 0 0 0 1 := by
    have := e1
    rw [← hn] at this ⊢
    exact this
  rw [e1']
  have e4' := e4
  rw [show (1 : Nat) - 1 = 0 from rfl, g0] at e4'
  rw [show smB (fun l => ftN (K l) (F l)) 0 N = 0 from smB_0 _ N, show smB (wtN B K F D S H) 0 N = 0 from smB_0 _ N] at e4'
  exact e4'
theorem m2_loop (h : rPl B K F D N H S bf kd fm dp n hr sn s) (a : Int32) : ∀ (j k fuel : Nat) (mo : Int32) (st wt : Nat → Int32), k + j = N → j < fuel → (∀ l, l < k → st l = nI (stN K F l)) → (∀ l, l < k → wt l = nI (wtN B K F D S H l)) → ∃ st' wt', f_M_bestSet_b2 s a fuel mo st wt (nI k) = f_M_bestSet_b49 s a 5000 0 st' wt' 0 1 ∧ (∀ l, l < N → st' l = nI (stN K F l)) ∧ (∀ l, l < N → wt' l = nI (wtN B K F D S H l)) := by
  have h' := h
  obtain ⟨⟨b1, b2, b3⟩, ⟨l1, l2⟩, ⟨n1, n2, n3⟩, ⟨h1, h2, h3⟩, ⟨s1, s2, s3⟩⟩ := h
  intro j
  induction j with
  | zero =>
    intro k fuel mo st wt e1 e2 e3 e4
    obtain ⟨n', rfl⟩ : ∃ n, fuel = n + 1 := ⟨fuel - 1, by omega⟩
    obtain rfl : k = N := by omega
    refine ⟨st, wt, ?_, e3, e4⟩
    rw [f_M_bestSet_b2, rs2, sm_some, n2, if_pos (nles k k (by omega) (by omega))]
  | succ j ih =>
    intro k fuel mo st wt e1 e2 e3 e4
    obtain ⟨n', rfl⟩ : ∃ n, fuel = n + 1 := ⟨fuel - 1, by omega⟩
    obtain ⟨st', wt', e5, e6⟩ := ih (k + 1) n' mo _ _ (by omega) (by omega) (up_all e3) (up_all e4)
    refine ⟨st', wt', ?_, e6⟩
    rw [f_M_bestSet_b2, rs2, sm_some, n2, if_neg (nge k N (by omega) (by omega)), Mworth h' (by omega), sm_some, wr_nI (by omega) (by decide), sm_some, Mfeet_ok l1 l2 (by omega), sm_some, wr_nI (by omega) (by decide), sm_some, nI_1]
    exact e5
theorem m70_loop {q u : Nat → Nat} {st wt : Nat → Int32} (hN : N ≤ 12) (n2 : s 2 = nI N) (hst : ∀ l, l < N → st l = nI (q l)) (hwt : ∀ l, l < N → wt l = nI (u l)) (k49 : Int32 → (Nat → Int32) → (Nat → Int32) → Int32 → Int32 → Option (Int32 × Int32 × (Nat → Int32) × (Nat → Int32))) (a mo v2 : Int32) (m : Nat) : ∀ (j k fuel : Nat), k + j = N → j < fuel → f_M_bestSet_b70 k49 s a fuel mo st wt v2 (nI m) (nI (smB u m k)) (nI (smB q m k)) (nI k) = if a < nI (smB q m N) then k49 mo st wt v2 (nI (m + 1)) else if nI (smB u m N) ≤ mo then k49 mo st wt v2 (nI (m + 1)) else k49 (nI (smB u m N)) st wt (nI m) (nI (m + 1)) := by
  intro j
  induction j with
  | zero =>
    intro k fuel e1 e2
    obtain ⟨n', rfl⟩ : ∃ n, fuel = n + 1 := ⟨fuel - 1, by omega⟩
    obtain rfl : k = N := by omega
    rw [f_M_bestSet_b70, rs2, sm_some, n2, if_pos (nles k k (by omega) (by omega)), nI_1]
  | succ j ih =>
    intro k fuel e1 e2
    obtain ⟨n', rfl⟩ : ∃ n, fuel = n + 1 := ⟨fuel - 1, by omega⟩
    have step := ih (k + 1) n' (by omega) (by omega)
    rw [smB, smB] at step
    rw [f_M_bestSet_b70, rs2, sm_some, n2, if_neg (nge k N (by omega) (by omega))]
    cases hb : m.testBit k
    · rw [hb, if_neg (by decide), if_neg (by decide)] at step
      rw [Mhas0 (by omega) hb, sm_some, if_pos rfl, f_M_bestSet_b103, Mhas0 (by omega) hb, sm_some, if_pos rfl, f_M_bestSet_b128, nI_1, show (0 : Int32) = nI 0 from rfl, nI_add, nI_add]
      exact step
    · rw [hb, if_pos rfl, if_pos rfl] at step
      rw [Mhas1 (by omega) hb, sm_some, if_neg (by decide), rd_nI (by omega) (by decide), sm_some, hwt k (by omega), f_M_bestSet_b103, Mhas1 (by omega) hb, sm_some, if_neg (by decide), rd_nI (by omega) (by decide), sm_some, hst k (by omega), f_M_bestSet_b128, nI_1, nI_add, nI_add]
      exact step
theorem lt_1 (k m : Nat) : m < k + 1 ↔ (m < k ∨ m = k) := by omega
theorem m49_loop {q u : Nat → Nat} {st wt : Nat → Int32} (hq : ∀ l, q l ≤ 400) (hu : ∀ l, u l ≤ 22) (hN : N ≤ 12) (n2 : s 2 = nI N) (hst : ∀ l, l < N → st l = nI (q l)) (hwt : ∀ l, l < N → wt l = nI (u l)) {a : Nat} (ha : a ≤ 9999) : ∀ (j k fuel b w : Nat), k + j = 2 ^ N → 0 < k → j < fuel → bsP (fun m => smB q m N) (fun m => smB u m N) a (fun m => m < k) b w → ∃ b' w', f_M_bestSet_b49 s (nI a) fuel (nI w) st wt (nI b) (nI k) = some (nI b', nI w', st, wt) ∧ bsP (fun m => smB q m N) (fun m => smB u m N) a (fun m => m < 2 ^ N) b' w' := by
  have hp : 2 ^ N ≤ 2 ^ 12 := Nat.pow_le_pow_right (by decide) hN
  have hC : ∀ m, smB q m N ≤ 4800 := fun m => Nat.le_trans (smB_le hq m N) (by omega)
  have hW : ∀ m, smB u m N ≤ 264 := fun m => Nat.le_trans (smB_le hu m N) (by omega)
  intro j
  induction j with
  | zero =>
    intro k fuel b w h1 h0 h2 hb
    obtain ⟨n, rfl⟩ : ∃ n, fuel = n + 1 := ⟨fuel - 1, by omega⟩
    obtain rfl : k = 2 ^ N := by omega
    refine ⟨b, w, ?_, hb⟩
    rw [f_M_bestSet_b49, rs2, sm_some, n2, one_shl (by omega), if_pos (nles _ _ (Nat.le_refl _) (by omega))]
  | succ j ih =>
    intro k fuel b w h1 h0 h2 hb
    obtain ⟨n', rfl⟩ : ∃ n, fuel = n + 1 := ⟨fuel - 1, by omega⟩
    have hCk := hC k
    have hWk := hW k
    have hb4 : b < k := hb.1
    have hw4 : w ≤ 264 := by
      rw [hb.2.1]
      exact hW b
    have e70 := m70_loop hN n2 hst hwt (f_M_bestSet_b49 s (nI a) n') (nI a) (nI w) (nI b) k N 0 5000 (by omega) (by omega)
    rw [f_M_bestSet_b49, rs2, sm_some, n2, one_shl (by omega), if_neg (nge _ _ (by omega) (by omega))]
    rw [show f_M_bestSet_b70 (f_M_bestSet_b49 s (nI a) n') s (nI a) 5000 (nI w) st wt (nI b) (nI k) 0 0 0 = _ from e70]
    rcases Nat.lt_or_ge a (smB q k N) with qa | qa
    · rw [if_pos (nlts _ _ qa (by omega))]
      exact ih (k + 1) n' b w (by omega) (by omega) (by omega) (bsP_skip hb (lt_1 k) (fun z => absurd z (by show ¬ smB q k N ≤ a; omega)))
    · rw [if_neg (nnlt _ _ qa (by omega))]
      rcases Nat.lt_or_ge w (smB u k N) with qw | qw
      · rw [if_neg (nge _ _ qw (by omega))]
        exact ih (k + 1) n' k _ (by omega) (by omega) (by omega) (bsP_take hb (lt_1 k) qa (Or.inl qw))
      · rw [if_pos (nles _ _ qw (by omega))]
        exact ih (k + 1) n' b w (by omega) (by omega) (by omega) (bsP_skip hb (lt_1 k) (fun _ => by show smB u k N < w ∨ (smB u k N = w ∧ b ≤ k); omega))
theorem bestSet_ok (h : rPl B K F D N H S bf kd fm dp n hr sn s) (mo : Int32) (st wt : Nat → Int32) {a : Nat} (ha : a ≤ 9999) : ∃ b w st' wt', f_M_bestSet mo s st wt (nI a) = some (nI b, nI w, st', wt') ∧ bsP (fun m => smB (stN K F) m N) (fun m => smB (wtN B K F D S H) m N) a (fun m => m < 2 ^ N) b w := by
  have hN := h.2.2.1.2.2
  have n2 := h.2.2.1.2.1
  obtain ⟨st', wt', e1, e2, e3⟩ := m2_loop h (nI a) N 0 5000 mo st wt (by omega) (by omega) (fun l hl => by omega) (fun l hl => by omega)
  have hp : 2 ^ N ≤ 2 ^ 12 := Nat.pow_le_pow_right (by decide) hN
  have hp0 : 0 < 2 ^ N := Nat.two_pow_pos N
  obtain ⟨b, w, e4, e5⟩ := m49_loop (fun l => ftN_le (K l) (F l)) (wtN_le B K F D S H) hN n2 e2 e3 ha (2 ^ N - 1) 1 5000 0 0 (by omega) (by decide) (by omega) (by
    refine ⟨by decide, (smB_0 _ N).symm, ?_, ?_⟩
    · show smB (stN K F) 0 N ≤ a
      rw [smB_0]; exact Nat.zero_le a
    · intro m hm _
      obtain rfl : m = 0 := by omega
      exact Or.inr ⟨smB_0 _ N, Nat.le_refl 0⟩)
  exact ⟨b, w, st', wt', (show f_M_bestSet mo s st wt (nI a) = _ from e1).trans e4, e5⟩
theorem case_best (hF : rF c d) (h : rPl B K F D N H S bf kd fm dp n hr sn s) (ch mo : Int32) (st wt : Nat → Int32) (mo' : Int32) (st' wt' : Nat → Int32) (a : Int32) : ∃ r c' d' ch2 mo2 st2 wt2 mo3 st3 wt3, f_S_best ch mo st wt c n hr sn bf dp fm kd a = some (r, ch2, mo2, st2, wt2, c') ∧ f_M_best mo' d s st' wt' a = some (r, mo3, d', st3, wt3) ∧ rF c' d' := by
  rcases rng a 9999 (by decide) with ⟨j, hj, rfl⟩ | hn
  · obtain ⟨b, w, x1, x2, e1, e2⟩ := choose_ok h ch mo st wt hj
    obtain ⟨b', w', x3, x4, e3, e4⟩ := bestSet_ok h mo' st' wt' hj
    obtain ⟨rfl, rfl⟩ := bsP_one e2 e4
    refine ⟨nI b, c, d, nI b, nI w, x1, x2, nI w, x3, x4, ?_, ?_, hF⟩
    · rw [f_S_best, show (9999 : Int32) = nI 9999 from rfl, isWithin_yes hj (by decide), sm_some, if_neg (by decide), e1, sm_some]
    · rw [f_M_best, show (9999 : Int32) = nI 9999 from rfl, MinN_yes hj (by decide), sm_some, if_neg (by decide), e3, sm_some]
  · refine ⟨-1000000001, _, _, ch, mo, st, wt, mo', st', wt', ?_, ?_, hF.fin (k := 0) (by decide)⟩
    · rw [f_S_best, show (9999 : Int32) = nI 9999 from rfl, isWithin_no hn, sm_some, if_pos rfl, fnd0, sm_some]
    · rw [f_M_best, show (9999 : Int32) = nI 9999 from rfl, Min_no hn, sm_some, if_pos rfl, mno0, sm_some]
theorem case_worth (hF : rF c d) (h : rPl B K F D N H S bf kd fm dp n hr sn s) (ch mo : Int32) (st wt : Nat → Int32) (mo' : Int32) (st' wt' : Nat → Int32) (a : Int32) : ∃ r c' d' ch2 mo2 st2 wt2 mo3 st3 wt3, f_S_worth ch mo st wt c n hr sn bf dp fm kd a = some (r, ch2, mo2, st2, wt2, c') ∧ f_M_worth mo' d s st' wt' a = some (r, mo3, d', st3, wt3) ∧ rF c' d' := by
  rcases rng a 9999 (by decide) with ⟨j, hj, rfl⟩ | hn
  · obtain ⟨b, w, x1, x2, e1, e2⟩ := choose_ok h ch mo st wt hj
    obtain ⟨b', w', x3, x4, e3, e4⟩ := bestSet_ok h mo' st' wt' hj
    obtain ⟨rfl, rfl⟩ := bsP_one e2 e4
    refine ⟨nI w, c, d, nI b, nI w, x1, x2, nI w, x3, x4, ?_, ?_, hF⟩
    · rw [f_S_worth, show (9999 : Int32) = nI 9999 from rfl, isWithin_yes hj (by decide), sm_some, if_neg (by decide), e1, sm_some]
    · rw [f_M_worth, show (9999 : Int32) = nI 9999 from rfl, MinN_yes hj (by decide), sm_some, if_neg (by decide), e3, sm_some]
  · refine ⟨-1000000001, _, _, ch, mo, st, wt, mo', st', wt', ?_, ?_, hF.fin (k := 0) (by decide)⟩
    · rw [f_S_worth, show (9999 : Int32) = nI 9999 from rfl, isWithin_no hn, sm_some, if_pos rfl, fnd0, sm_some]
    · rw [f_M_worth, show (9999 : Int32) = nI 9999 from rfl, Min_no hn, sm_some, if_pos rfl, mno0, sm_some]
end BW3
