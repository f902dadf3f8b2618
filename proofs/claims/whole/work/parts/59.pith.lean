-- ===== FORMS: the first way =====
def gG (f p t : Nat) : Bool := f.testBit t && (eB_ t p && cbT (wo f t) (acN t p))
def lgF (f p : Nat) : Nat → Nat → Nat
  | 0, k => k
  | j + 1, k => if gG f p k then k else lgF f p j (k + 1)
def lgN (f p : Nat) : Nat := lgF f p 12 0
theorem lg_spec (f p : Nat) : ∀ (j k : Nat), k + j = 12 → (∃ t, k ≤ t ∧ t < 12 ∧ gG f p t = true) → k ≤ lgF f p j k ∧ lgF f p j k < 12 ∧ gG f p (lgF f p j k) = true ∧ ∀ t, k ≤ t → t < lgF f p j k → gG f p t = false := by
  intro j
  induction j with
  | zero =>
    rintro k h1 ⟨t, h2, h3, -⟩
    omega
  | succ j ih =>
    rintro k h1 ⟨t, h2, h3, h4⟩
    rw [lgF]
    cases hg : gG f p k
    · rw [if_neg (by decide)]
      have hne : k ≠ t := by
        rintro rfl
        rw [hg] at h4
        cases h4
      obtain ⟨a1, a2, a3, a4⟩ := ih (k + 1) (by omega) ⟨t, by omega, h3, h4⟩
      refine ⟨by omega, a2, a3, fun u h5 h6 => ?_⟩
      rcases Nat.lt_or_ge k u with q | q
      · exact a4 u q h6
      · obtain rfl : u = k := by omega
        exact hg
    · rw [if_pos rfl]
      exact ⟨Nat.le_refl k, by omega, hg, fun u h5 h6 => by omega⟩
theorem lgN_ok {f p : Nat} (hf : f < 4096) (hp : p < 9) (h0 : f ≠ 0) (hc : cbT f p = true) : lgN f p < 12 ∧ gG f p (lgN f p) = true ∧ ∀ t, t < lgN f p → gG f p t = false := by
  rw [cb_step hf hp h0, List.any_eq_true] at hc
  obtain ⟨t, h2, h3⟩ := hc
  rw [Bool.and_eq_true] at h3
  have ht := ts_lt p hp t h2
  have he : eB_ t p = true := by rw [← ts_ok p hp t ht]; exact decide_eq_true h2
  obtain ⟨-, a2, a3, a4⟩ := lg_spec f p 12 0 rfl ⟨t, Nat.zero_le t, ht, by unfold gG; rw [h3.1, he]; exact h3.2⟩
  exact ⟨a2, a3, fun u hu => a4 u (Nat.zero_le u) hu⟩
theorem lo_loop {f p : Nat} (hf : f < 4096) (hp : p < 9) : ∀ (d k fuel : Nat), k + d < 12 → gG f p (k + d) = true → (∀ t, k ≤ t → t < k + d → gG f p t = false) → d < fuel → f_Forms_leastOnward_b2 (nI f) (nI p) fuel (nI k) = some (nI (k + d)) := by
  intro d
  induction d with
  | zero =>
    intro k fuel h1 hb h h2
    obtain ⟨n, rfl⟩ : ∃ n, fuel = n + 1 := ⟨fuel - 1, by omega⟩
    rw [Nat.add_zero] at hb
    unfold gG at hb
    rw [Bool.and_eq_true, Bool.and_eq_true] at hb
    have hac := acN_lt k (by omega) p hp
    rw [f_Forms_leastOnward_b2, if_neg (show ¬ (12 : Int32) ≤ nI k from nge k 12 (by omega) (by decide)), across_ok k (by omega) p hp, sm_some, has1 (by omega) (by omega) hb.1, sm_some, if_neg (by decide), if_pos hb.2.1, if_neg (nI_pos (by omega)), wo_nI hf (by omega), canBe_ok (wo_lt hf) hac, sm_some, if_pos hb.2.2, if_neg (by decide)]
    rfl
  | succ d ih =>
    intro k fuel h1 hb h h2
    obtain ⟨n, rfl⟩ : ∃ n, fuel = n + 1 := ⟨fuel - 1, by omega⟩
    have hk := h k (Nat.le_refl k) (by omega)
    have hrest : f_Forms_leastOnward_b2 (nI f) (nI p) n (nI k + 1) = some (nI (k + (d + 1))) := by
      rw [nI_1]
      rw [show k + (d + 1) = (k + 1) + d by omega] at hb h1 ⊢
      exact ih (k + 1) n h1 hb (fun t h3 h4 => h t (by omega) (by omega)) (by omega)
    have hac := acN_lt k (by omega) p hp
    rw [f_Forms_leastOnward_b2, if_neg (show ¬ (12 : Int32) ≤ nI k from nge k 12 (by omega) (by decide)), across_ok k (by omega) p hp, sm_some]
    unfold gG at hk
    cases hb1 : f.testBit k
    · rw [has0 (by omega) (by omega) hb1, sm_some, if_pos rfl, hrest]
    · rw [hb1, Bool.true_and] at hk
      rw [has1 (by omega) (by omega) hb1, sm_some, if_neg (by decide)]
      cases he : eB_ k p
      · rw [if_neg (show ¬ (false = true) by decide), if_pos (by decide), hrest]
      · rw [he, Bool.true_and] at hk
        rw [if_pos rfl, if_neg (nI_pos (by omega)), wo_nI hf (by omega), canBe_ok (wo_lt hf) hac, sm_some, hk, if_neg (show ¬ (false = true) by decide), if_pos rfl, hrest]
theorem leastOnward_ok {f p : Nat} (hf : f < 4096) (hp : p < 9) (h0 : f ≠ 0) (hc : cbT f p = true) : f_Forms_leastOnward (nI f) (nI p) = some (nI (lgN f p)) := by
  obtain ⟨a1, a2, a3⟩ := lgN_ok hf hp h0 hc
  have := lo_loop hf hp (lgN f p) 0 5000 (by rw [Nat.zero_add]; exact a1) (by rw [Nat.zero_add]; exact a2) (fun t _ h => a3 t (by rw [Nat.zero_add] at h; exact h)) (by omega)
  rw [Nat.zero_add] at this
  exact this
theorem w0_iff {f p : Nat} (hf : f < 4096) (hp : p < 9) : lg_cmp (lN (wN 14 f p)) (0 : Int64) = 0 ↔ cbT f p = false := by
  have hpop := popN_le f
  rw [lg_cmp_eq, show (0 : Int64) = lN 0 from rfl, pk_lEQ (w14_lt f p) (by decide)]
  have hw := w_pos 14 f p hf hp (by omega)
  constructor
  · intro z
    cases hc : cbT f p
    · rfl
    · have := hw.mpr hc
      omega
  · intro z
    rcases Nat.eq_zero_or_pos (wN 14 f p) with q | q
    · exact q
    · rw [hw.mp q] at z; cases z
theorem ns_loop {f p : Nat} (hf : f < 4096) (hp : p < 9) : ∀ (d k fuel : Nat), k + d < 12 → gG f p (k + d) = true → (∀ t, k ≤ t → t < k + d → gG f p t = false) → d < fuel → f_M_nextStroke_b2 (nI f) (nI p) fuel (nI k) = some (nI (k + d)) := by
  intro d
  induction d with
  | zero =>
    intro k fuel h1 hb h h2
    obtain ⟨n, rfl⟩ : ∃ n, fuel = n + 1 := ⟨fuel - 1, by omega⟩
    rw [Nat.add_zero] at hb
    unfold gG at hb
    rw [Bool.and_eq_true, Bool.and_eq_true] at hb
    have hac := acN_lt k (by omega) p hp
    have hpop := popN_le (wo f k)
    rw [f_M_nextStroke_b2, Mhas1 (by omega) hb.1, sm_some, if_neg (by decide), Mends_ok k (by omega) p hp, sm_some, if_pos hb.2.1, if_neg (by decide), Mone_ok k (by omega), sm_some, Mother_ok k (by omega), sm_some, wo_nI hf (by omega), ac_sum k (by omega) p hp hb.2.1, mw_ok 14 _ _ (wo_lt hf) hac (by omega), sm_some, if_neg (fun z => by rw [w0_iff (wo_lt hf) hac] at z; rw [z] at hb; cases hb.2.2)]
    rfl
  | succ d ih =>
    intro k fuel h1 hb h h2
    obtain ⟨n, rfl⟩ : ∃ n, fuel = n + 1 := ⟨fuel - 1, by omega⟩
    have hk := h k (Nat.le_refl k) (by omega)
    have hrest : f_M_nextStroke_b2 (nI f) (nI p) n (nI k + 1) = some (nI (k + (d + 1))) := by
      rw [nI_1]
      rw [show k + (d + 1) = (k + 1) + d by omega] at hb h1 ⊢
      exact ih (k + 1) n h1 hb (fun t h3 h4 => h t (by omega) (by omega)) (by omega)
    have hac := acN_lt k (by omega) p hp
    have hpop := popN_le (wo f k)
    rw [f_M_nextStroke_b2]
    unfold gG at hk
    cases hb1 : f.testBit k
    · rw [Mhas0 (by omega) hb1, sm_some, if_pos rfl, hrest]
    · rw [hb1, Bool.true_and] at hk
      rw [Mhas1 (by omega) hb1, sm_some, if_neg (by decide), Mends_ok k (by omega) p hp, sm_some]
      cases he : eB_ k p
      · rw [if_neg (show ¬ (false = true) by decide), if_pos rfl, hrest]
      · rw [he, Bool.true_and] at hk
        rw [if_pos rfl, if_neg (by decide), Mone_ok k (by omega), sm_some, Mother_ok k (by omega), sm_some, wo_nI hf (by omega), ac_sum k (by omega) p hp he, mw_ok 14 _ _ (wo_lt hf) hac (by omega), sm_some, if_pos ((w0_iff (wo_lt hf) hac).mpr hk), hrest]
theorem nextStroke_ok {f p : Nat} (hf : f < 4096) (hp : p < 9) (h0 : f ≠ 0) (hc : cbT f p = true) : f_M_nextStroke (nI f) (nI p) = some (nI (lgN f p)) := by
  obtain ⟨a1, a2, a3⟩ := lgN_ok hf hp h0 hc
  have := ns_loop hf hp (lgN f p) 0 5000 (by rw [Nat.zero_add]; exact a1) (by rw [Nat.zero_add]; exact a2) (fun t _ h => a3 t (by rw [Nat.zero_add] at h; exact h)) (by omega)
  rw [Nat.zero_add] at this
  exact this
/-- the stroke of the first way at a place -/
def itN : Nat → Nat → Nat → Nat
  | 0, f, p => lgN f p
  | n + 1, f, p => itN n (wo f (lgN f p)) (acN (lgN f p) p)
theorem itN_next {f p : Nat} (hf : f < 4096) (hp : p < 9) (hc : cbT f p = true) (h0 : 0 < popN f) : f ≠ 0 ∧ lgN f p < 12 ∧ eB_ (lgN f p) p = true ∧ cbT (wo f (lgN f p)) (acN (lgN f p) p) = true ∧ popN (wo f (lgN f p)) + 1 = popN f := by
  have hne : f ≠ 0 := by
    rintro rfl
    exact absurd h0 (by decide)
  obtain ⟨a1, a2, -⟩ := lgN_ok hf hp hne hc
  unfold gG at a2
  rw [Bool.and_eq_true, Bool.and_eq_true] at a2
  exact ⟨hne, a1, a2.2.1, a2.2.2, wo_popN a2.1 a1⟩
theorem itS_loop (a0 a1 : Int32) {i : Nat} (hi : i ≤ 11) : ∀ (r s f p fuel : Nat) (v5 : Int32), s + r = i → f < 4096 → p < 9 → cbT f p = true → r < popN f → r + 1 < fuel → f_Forms_strokeOfFirstWay_b33 a0 a1 (nI i) fuel (nI f) (nI p) v5 (nI s) = some (nI (itN r f p)) := by
  intro r
  induction r with
  | zero =>
    intro s f p fuel v5 h1 hf hp hc hr h2
    obtain ⟨n, rfl⟩ : ∃ n, fuel = n + 1 + 1 := ⟨fuel - 2, by omega⟩
    obtain rfl : s = i := by omega
    obtain ⟨g0, g1, g2, g3, g4⟩ := itN_next hf hp hc (by omega)
    rw [f_Forms_strokeOfFirstWay_b33, if_neg (nnlt s s (Nat.le_refl s) (by omega)), leastOnward_ok hf hp g0 hc, sm_some, if_pos (nI_pos' (by omega)), across_ok _ g1 p hp, sm_some, if_pos g2, nI_1]
    rw [f_Forms_strokeOfFirstWay_b33, if_pos (nlts s (s + 1) (by omega) (by omega))]
    rfl
  | succ r ih =>
    intro s f p fuel v5 h1 hf hp hc hr h2
    obtain ⟨n, rfl⟩ : ∃ n, fuel = n + 1 := ⟨fuel - 1, by omega⟩
    obtain ⟨g0, g1, g2, g3, g4⟩ := itN_next hf hp hc (by omega)
    rw [f_Forms_strokeOfFirstWay_b33, if_neg (nnlt s i (by omega) (by omega)), leastOnward_ok hf hp g0 hc, sm_some, if_pos (nI_pos' (by omega)), across_ok _ g1 p hp, sm_some, if_pos g2, nI_1, wo_nI hf g1]
    exact ih (s + 1) _ _ n _ (by omega) (wo_lt hf) (acN_lt _ g1 p hp) g3 (by omega) (by omega)
theorem itM_loop (d : Nat → Int32) (a1 a2 : Int32) {i : Nat} (hi : i ≤ 11) : ∀ (r k f p fuel : Nat), k + r = i → f < 4096 → p < 9 → cbT f p = true → r < popN f → r < fuel → f_M_ith_b72 a1 a2 (nI i) fuel d (nI f) (nI p) (nI (lgN f p)) (nI k) = some (nI (itN r f p), d) := by
  intro r
  induction r with
  | zero =>
    intro k f p fuel h1 hf hp hc hr h2
    obtain ⟨n, rfl⟩ : ∃ n, fuel = n + 1 := ⟨fuel - 1, by omega⟩
    obtain rfl : k = i := by omega
    rw [f_M_ith_b72, if_pos (nles k k (Nat.le_refl k) (by omega))]
    rfl
  | succ r ih =>
    intro k f p fuel h1 hf hp hc hr h2
    obtain ⟨n, rfl⟩ : ∃ n, fuel = n + 1 := ⟨fuel - 1, by omega⟩
    obtain ⟨g0, g1, g2, g3, g4⟩ := itN_next hf hp hc (by omega)
    obtain ⟨g5, -⟩ := itN_next (wo_lt hf) (acN_lt _ g1 p hp) g3 (by omega)
    rw [f_M_ith_b72, if_neg (nge k i (by omega) (by omega)), Mone_ok _ g1, sm_some, Mother_ok _ g1, sm_some, wo_nI hf g1, ac_sum _ g1 p hp g2, nextStroke_ok (wo_lt hf) (acN_lt _ g1 p hp) g5 g3, sm_some, nI_1]
    exact ih (k + 1) _ _ n (by omega) (wo_lt hf) (acN_lt _ g1 p hp) g3 (by omega) (by omega)
theorem case_ith {c d : Nat → Int32} (h : rF c d) (a b i : Int32) : ∃ r c' d', f_S_ith c a b i = some (r, c') ∧ f_M_ith d a b i = some (r, d') ∧ rF c' d' := by
  rcases rng a 4095 (by decide) with ⟨f, hf, rfl⟩ | hn
  · rcases rng b 8 (by decide) with ⟨p, hp, rfl⟩ | hb
    · rcases rng i 11 (by decide) with ⟨i, hi, rfl⟩ | hi
      · have hpop := popN_le f
        have hw := w0_iff (f := f) (p := p) (by omega) (by omega)
        by_cases hok : cbT f p = true ∧ i < popN f
        · obtain ⟨hc, hlt⟩ := hok
          obtain ⟨g0, g1, -⟩ := itN_next (f := f) (p := p) (by omega) (by omega) hc (by omega)
          have hs := itS_loop (nI f) (nI p) hi i 0 f p 5000 (-1) (by omega) (by omega) (by omega) hc hlt (by omega)
          have hm := itM_loop d (nI f) (nI p) hi i 0 f p 5000 (by omega) (by omega) (by omega) hc hlt (by omega)
          have hit : itN i f p < 12 := by
            have : ∀ (n f p : Nat), f < 4096 → p < 9 → cbT f p = true → n < popN f → itN n f p < 12 := by
              intro n
              induction n with
              | zero =>
                intro f p hf hp hc hr
                exact (itN_next hf hp hc hr).2.1
              | succ n ih =>
                intro f p hf hp hc hr
                obtain ⟨q0, q1, q2, q3, q4⟩ := itN_next hf hp hc (by omega)
                exact ih _ _ (wo_lt hf) (acN_lt _ q1 p hp) q3 (by omega)
            exact this i f p (by omega) (by omega) hc hlt
          refine ⟨nI (itN i f p), c, d, ?_, ?_, h⟩
          · rw [f_S_ith, isForm_yes hf, sm_some, if_neg (by decide), isPoint_yes p hp, sm_some, if_neg (by decide), show (11 : Int32) = nI 11 from rfl, within_yes hi (by decide), sm_some, if_neg (by decide), f_Forms_strokeOfFirstWay, if_neg (nI_pos (by omega)), bitCount_ok (by omega), sm_some, if_neg (nge i _ hlt (by omega)), canBe_ok (by omega) (by omega), sm_some, if_pos hc, if_neg (by decide), show (0 : Int32) = nI 0 from rfl, hs, sm_some, if_pos (nles 0 _ (Nat.zero_le _) (by omega))]
          · rw [f_M_ith, MisForm_yes hf, sm_some, if_neg (by decide), MisPoint_yes hp, sm_some, if_neg (by decide), show (11 : Int32) = nI 11 from rfl, MinN_yes hi (by decide), sm_some, if_neg (by decide), mw_ok 14 f p (by omega) (by omega) (by omega), sm_some, if_neg (fun z => by rw [hw.mp z] at hc; cases hc), Mones_ok (by omega), sm_some, if_pos (nlts i _ hlt (by omega)), nextStroke_ok (by omega) (by omega) g0 hc, sm_some, show (0 : Int32) = nI 0 from rfl, hm]
        · refine ⟨-1000000004, _, _, ?_, ?_, h.fin (k := 3) (by decide)⟩
          · have hneg : f_Forms_strokeOfFirstWay (nI f) (nI p) (nI i) = some (-1) := by
              rw [f_Forms_strokeOfFirstWay, if_neg (nI_pos (by omega)), bitCount_ok (by omega), sm_some]
              by_cases hlt : i < popN f
              · rw [if_neg (nge i _ hlt (by omega)), canBe_ok (by omega) (by omega), sm_some, if_neg (fun z => hok ⟨z, hlt⟩), if_pos rfl]
              · rw [if_pos (nles _ i (by omega) (by omega))]
            rw [f_S_ith, isForm_yes hf, sm_some, if_neg (by decide), isPoint_yes p hp, sm_some, if_neg (by decide), show (11 : Int32) = nI 11 from rfl, within_yes hi (by decide), sm_some, if_neg (by decide), hneg, sm_some, if_neg (by decide), fnd3, sm_some]
          · rw [f_M_ith, MisForm_yes hf, sm_some, if_neg (by decide), MisPoint_yes hp, sm_some, if_neg (by decide), show (11 : Int32) = nI 11 from rfl, MinN_yes hi (by decide), sm_some, if_neg (by decide), mw_ok 14 f p (by omega) (by omega) (by omega), sm_some]
            cases hc : cbT f p
            · rw [if_pos (hw.mpr hc), f_M_ith_b48, mno3, sm_some]
            · have hlt : ¬ i < popN f := fun z => hok ⟨hc, z⟩
              rw [if_neg (fun z => by rw [hw.mp z] at hc; cases hc), Mones_ok (by omega), sm_some, if_neg (nnlt _ i (by omega) (by omega)), f_M_ith_b48, mno3, sm_some]
      · refine ⟨-1000000001, _, _, ?_, ?_, h.fin (k := 0) (by decide)⟩
        · rw [f_S_ith, isForm_yes hf, sm_some, if_neg (by decide), isPoint_yes p hp, sm_some, if_neg (by decide), show (11 : Int32) = nI 11 from rfl, within_no hi, sm_some, if_pos rfl, f_S_ith_b24, fnd0, sm_some]
        · rw [f_M_ith, MisForm_yes hf, sm_some, if_neg (by decide), MisPoint_yes hp, sm_some, if_neg (by decide), show (11 : Int32) = nI 11 from rfl, Min_no hi, sm_some, if_pos rfl, f_M_ith_b24, mno0, sm_some]
    · refine ⟨-1000000001, _, _, ?_, ?_, h.fin (k := 0) (by decide)⟩
      · rw [f_S_ith, isForm_yes hf, sm_some, if_neg (by decide), isPoint_no hb, sm_some, if_pos rfl, f_S_ith_b24, fnd0, sm_some]
      · rw [f_M_ith, MisForm_yes hf, sm_some, if_neg (by decide), MisPoint_no hb, sm_some, if_pos rfl, f_M_ith_b24, mno0, sm_some]
  · refine ⟨-1000000001, _, _, ?_, ?_, h.fin (k := 0) (by decide)⟩
    · rw [f_S_ith, isForm_no hn, sm_some, if_pos rfl, f_S_ith_b24, fnd0, sm_some]
    · rw [f_M_ith, MisForm_no hn, sm_some, if_pos rfl, f_M_ith_b24, mno0, sm_some]
