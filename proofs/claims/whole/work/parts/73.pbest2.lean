-- ===== BEST, WORTH 2 =====
section BW2
variable {B K F D : Nat → Nat} {N H S : Nat} {bf kd fm dp s c d : Nat → Int32} {n hr sn : Int32}
def bsP (C W : Nat → Nat) (a : Nat) (V : Nat → Prop) (b w : Nat) : Prop := V b ∧ w = W b ∧ C b ≤ a ∧ ∀ m, V m → C m ≤ a → W m < w ∨ (W m = w ∧ b ≤ m)
theorem bsP_one {C W : Nat → Nat} {a : Nat} {V : Nat → Prop} {b w b' w' : Nat} (h : bsP C W a V b w) (h' : bsP C W a V b' w') : b = b' ∧ w = w' := by
  obtain ⟨h1, h2, h3, h4⟩ := h
  obtain ⟨g1, g2, g3, g4⟩ := h'
  have q1 := h4 b' g1 g3
  have q2 := g4 b h1 h3
  omega
theorem bsP_to {C W : Nat → Nat} {a : Nat} {V V' : Nat → Prop} {b w : Nat} (h : bsP C W a V b w) (e : ∀ m, V m ↔ V' m) : bsP C W a V' b w := by
  obtain ⟨h1, h2, h3, h4⟩ := h
  exact ⟨(e b).mp h1, h2, h3, fun m hm hc => h4 m ((e m).mpr hm) hc⟩
/-- one more set is looked at -/
theorem bsP_skip {C W : Nat → Nat} {a : Nat} {V V' : Nat → Prop} {b w m : Nat} (h : bsP C W a V b w) (e : ∀ x, V' x ↔ (V x ∨ x = m)) (hc : C m ≤ a → W m < w ∨ (W m = w ∧ b ≤ m)) : bsP C W a V' b w := by
  obtain ⟨h1, h2, h3, h4⟩ := h
  refine ⟨(e b).mpr (Or.inl h1), h2, h3, fun x hx hxa => ?_⟩
  rcases (e x).mp hx with q | q
  · exact h4 x q hxa
  · subst q; exact hc hxa
theorem bsP_take {C W : Nat → Nat} {a : Nat} {V V' : Nat → Prop} {b w m : Nat} (h : bsP C W a V b w) (e : ∀ x, V' x ↔ (V x ∨ x = m)) (ha : C m ≤ a) (hc : w < W m ∨ (W m = w ∧ m < b)) : bsP C W a V' m (W m) := by
  obtain ⟨h1, h2, h3, h4⟩ := h
  refine ⟨(e m).mpr (Or.inr rfl), rfl, ha, fun x hx hxa => ?_⟩
  rcases (e x).mp hx with q | q
  · have := h4 x q hxa
    omega
  · subst q; omega
def VX (k m : Nat) : Prop := ∃ i, i < k ∧ gray i = m
theorem VX_1 (k m : Nat) : VX (k + 1) m ↔ (VX k m ∨ m = gray k) := by
  constructor
  · rintro ⟨i, hi, e⟩
    rcases Nat.lt_or_ge i k with q | q
    · exact Or.inl ⟨i, q, e⟩
    · obtain rfl : i = k := by omega
      exact Or.inr e.symm
  · rintro (⟨i, hi, e⟩ | e)
    · exact ⟨i, by omega, e⟩
    · exact ⟨k, by omega, e.symm⟩
theorem VX_all {n : Nat} (hn : n ≤ 12) (m : Nat) : VX (2 ^ n) m ↔ m < 2 ^ n := by
  constructor
  · rintro ⟨i, hi, rfl⟩
    exact gray_lt hi
  · intro h
    have : 2 ^ n ≤ 2 ^ 12 := Nat.pow_le_pow_right (by decide) hn
    exact ⟨yarg m, yarg_lt h, gray_yarg m (by omega)⟩
theorem neg1_mul (x y : Nat) (h : y ≤ x) : nI x + (-1 : Int32) * nI y = nI (x - y) := by
  rw [show (-1 : Int32) = -(1 : Int32) from rfl, Int32.neg_mul, Int32.one_mul, ← Int32.sub_eq_add_neg, pk_sub h]
theorem pos1_mul (x y : Nat) : nI x + (1 : Int32) * nI y = nI (x + y) := by rw [Int32.one_mul, nI_add]
theorem offer_take {b w m v : Nat} (hb : b < 2147483648) (hw : w < 2147483648) (hm : m < 2147483648) (hv : v < 2147483648) (h : w < v ∨ (v = w ∧ m < b)) : f_Choice_offer (nI b) (nI w) (nI m) (nI v) = some (nI m, nI v) := by
  rw [f_Choice_offer, f_Choice_offer_b24]
  by_cases h1 : w < v
  · rw [if_pos (nlts _ _ h1 hv)]
  · obtain ⟨rfl, h2⟩ := h.resolve_left h1
    rw [if_neg (nnlt _ _ (by omega) hw), if_pos rfl, if_neg (nge _ _ h2 hb)]
theorem offer_keep {b w m v : Nat} (hb : b < 2147483648) (hw : w < 2147483648) (hm : m < 2147483648) (hv : v < 2147483648) (h : v < w ∨ (v = w ∧ b ≤ m)) : f_Choice_offer (nI b) (nI w) (nI m) (nI v) = some (nI b, nI w) := by
  rw [f_Choice_offer, if_neg (nnlt _ _ (by omega) hw)]
  by_cases h1 : v < w
  · rw [if_neg (nI_nq hv hw (by omega))]
  · obtain ⟨rfl, h2⟩ := h.resolve_left h1
    rw [if_pos rfl, if_pos (nles _ _ h2 hm)]
/-- the class's walk over all sets -/
theorem gx_loop {q u : Nat → Nat} {st wt : Nat → Int32} (hq : ∀ l, q l ≤ 400) (hu : ∀ l, u l ≤ 22) (hN : N ≤ 12) (hst : ∀ l, l < N → st l = nI (q l)) (hwt : ∀ l, l < N → wt l = nI (u l)) {a : Nat} (ha : a ≤ 9999) : ∀ (j k fuel b w : Nat), k + j = 2 ^ N → 0 < k → j < fuel → bsP (fun m => smB q m N) (fun m => smB u m N) a (VX k) b w → ∃ b' w', f_Choice_choose_b68 n hr sn bf dp fm kd (nI a) fuel (nI b) (nI w) st wt (nI N) (nI (gray (k - 1))) (nI (smB q (gray (k - 1)) N)) (nI (smB u (gray (k - 1)) N)) (nI k) = some (nI b', nI w', st, wt) ∧ bsP (fun m => smB q m N) (fun m => smB u m N) a (VX (2 ^ N)) b' w' := by
  have hp : 2 ^ N ≤ 2 ^ 12 := Nat.pow_le_pow_right (by decide) hN
  have hC : ∀ m, smB q m N ≤ 4800 := fun m => Nat.le_trans (smB_le hq m N) (by omega)
  have hW : ∀ m, smB u m N ≤ 264 := fun m => Nat.le_trans (smB_le hu m N) (by omega)
  intro j
  induction j with
  | zero =>
    intro k fuel b w h1 h0 h2 hb
    obtain ⟨n, rfl⟩ : ∃ n, fuel = n + 1 := ⟨fuel - 1, by omega⟩
    obtain rfl : k = 2 ^ N := by omega
    refine ⟨b, w, ?_, hb⟩
    rw [f_Choice_choose_b68, one_shl (by omega), if_pos (nles _ _ (Nat.le_refl _) (by omega))]
  | succ j ih =>
    intro k fuel b w h1 h0 h2 hb
    obtain ⟨n', rfl⟩ : ∃ n, fuel = n + 1 := ⟨fuel - 1, by omega⟩
    obtain ⟨g1, g2, g3⟩ := gray_step k (by omega) (by omega)
    have hg : gray k < 2 ^ N := gray_lt (by omega)
    have hg' : gray (k - 1) < 2 ^ N := gray_lt (by omega)
    have ht : tzF 12 k < N := (Nat.pow_lt_pow_iff_right (by decide)).mp (Nat.lt_of_le_of_lt g2 (show k < 2 ^ N by omega))
    have hb4 : b < 2 ^ N := by
      obtain ⟨i, hi, e⟩ := hb.1
      rw [← e]
      exact gray_lt (by omega)
    have hw4 : w ≤ 264 := by
      rw [hb.2.1]
      exact hW b
    have tq := smB_tog q (gray (k - 1)) (tzF 12 k) N
    have tu := smB_tog u (gray (k - 1)) (tzF 12 k) N
    rw [← g1] at tq tu
    have hCk := hC (gray k)
    have hWk := hW (gray k)
    have hCk' := hC (gray (k - 1))
    have hWk' := hW (gray (k - 1))
    have hbit : (gray k).testBit (tzF 12 k) = !(gray (k - 1)).testBit (tzF 12 k) := by
      rw [g1, Nat.testBit_xor, Nat.testBit_two_pow, decide_eq_true rfl, Bool.xor_true]
    have key : ∀ s0 : Int32, nI (smB q (gray (k - 1)) N) + s0 * nI (q (tzF 12 k)) = nI (smB q (gray k) N) → nI (smB u (gray (k - 1)) N) + s0 * nI (u (tzF 12 k)) = nI (smB u (gray k) N) → ∃ b' w', f_Choice_choose_b107 (f_Choice_choose_b68 n hr sn bf dp fm kd (nI a) n') n hr sn bf dp fm kd (nI a) (nI b) (nI w) st wt (nI N) (nI (gray k)) (nI (smB q (gray (k - 1)) N)) (nI (smB u (gray (k - 1)) N)) (nI k) (nI (tzF 12 k)) s0 = some (nI b', nI w', st, wt) ∧ bsP (fun m => smB q m N) (fun m => smB u m N) a (VX (2 ^ N)) b' w' := by
      intro s0 z1 z2
      rw [f_Choice_choose_b107, rd_nI (by omega) (by decide), sm_some, rd_nI (by omega) (by decide), sm_some, hst _ ht, hwt _ ht, z1, z2, nI_1]
      rcases Nat.lt_or_ge a (smB q (gray k) N) with qa | qa
      · rw [if_pos (nlts _ _ qa (by omega))]
        exact ih (k + 1) n' b w (by omega) (by omega) (by omega) (bsP_skip hb (VX_1 k) (fun z => absurd z (by show ¬ smB q (gray k) N ≤ a; omega)))
      · rw [if_neg (nnlt _ _ qa (by omega))]
        by_cases hc : w < smB u (gray k) N ∨ (smB u (gray k) N = w ∧ gray k < b)
        · rw [offer_take (by omega) (by omega) (by omega) (by omega) hc, sm_some]
          exact ih (k + 1) n' _ _ (by omega) (by omega) (by omega) (bsP_take hb (VX_1 k) qa hc)
        · rw [offer_keep (by omega) (by omega) (by omega) (by omega) (by omega), sm_some]
          exact ih (k + 1) n' b w (by omega) (by omega) (by omega) (bsP_skip hb (VX_1 k) (fun _ => by show smB u (gray k) N < w ∨ _; omega))
    rw [f_Choice_choose_b68, one_shl (by omega), if_neg (nge _ _ (by omega) (by omega)), g3, sm_some, one_shl (by omega), fb_xorI, ← g1]
    cases hx : (gray (k - 1)).testBit (tzF 12 k)
    · rw [hx] at hbit
      rw [if_neg (fun z => by have := (bit_shr0 (by omega) (by omega)).mp z; rw [this] at hbit; cases hbit)]
      rw [if_neg (by rw [hx]; exact fun z => by cases z.2), if_pos ⟨ht, hx⟩] at tq tu
      refine key 1 ?_ ?_
      · rw [pos1_mul, ← tq]; rfl
      · rw [pos1_mul, ← tu]; rfl
    · rw [hx] at hbit
      rw [if_pos ((bit_shr0 (by omega) (by omega)).mpr hbit)]
      rw [if_pos ⟨ht, hx⟩, if_neg (by rw [hx]; exact fun z => by cases z.2)] at tq tu
      refine key (-1) ?_ ?_
      · rw [neg1_mul _ _ (by omega)]; congr 1; omega
      · rw [neg1_mul _ _ (by omega)]; congr 1; omega
end BW2
