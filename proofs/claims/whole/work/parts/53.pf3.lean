-- ===== FORMS: pieces =====
/-- of each stroke: its bit, its ends, the strokes that hang on it -/
def TL : List (Nat × Nat × Nat) := [(1, 3, 195), (2, 6, 387), (4, 24, 1740), (8, 48, 3468), (16, 192, 1584), (32, 384, 3120), (64, 9, 581), (128, 18, 1167), (256, 36, 2314), (512, 72, 596), (1024, 144, 1212), (2048, 288, 2344)]
def adN (k : Nat) : Nat := (TL.getD k (0, 0, 0)).2.2
theorem TL_at : ∀ k, k < 12 → TL.drop k = (2 ^ k, eN k, adN k) :: TL.drop (k + 1) := by decide +kernel
theorem ad_bit : ∀ k, k < 12 → ∀ t, t < 12 → (adN k).testBit t = (eB_ t (oN k) || eB_ t (rN k)) := by decide +kernel
theorem ad_lt : ∀ k, k < 12 → adN k < 4096 := by decide +kernel
theorem p2_lt : ∀ k, k < 12 → 2 ^ k < 4096 := by decide +kernel
/-- a round of the class: piece and points -/
def fpI (f : Nat) : List (Nat × Nat × Nat) → Nat → Nat → Nat × Nat
  | [], p, q => (p, q)
  | x :: l, p, q => bif (Nat.ble 1 (Nat.land p x.1) || Nat.ble 1 (Nat.land q x.2.1)) && Nat.ble 1 (Nat.land f x.1) then fpI f l (Nat.lor p x.1) (Nat.lor q x.2.1) else fpI f l p q
def fpO (f : Nat) : Nat → Nat → Nat → Nat
  | 0, p, _ => p
  | j + 1, p, q => bif Nat.beq (fpI f TL p q).2 q then (fpI f TL p q).1 else fpO f j (fpI f TL p q).1 (fpI f TL p q).2
def lowN (f : Nat) : Nat := Nat.land f (Nat.xor f (f - 1))
def fpN (f : Nat) : Nat := fpO f 12 (lowN f) 0
theorem land_ble (a b : Nat) : Nat.ble 1 (Nat.land a b) = !decide (a &&& b = 0) := by
  show Nat.ble 1 (a &&& b) = _
  cases h : a &&& b with
  | zero => rfl
  | succ n => simp [Nat.ble]
theorem land_nI (a b : Nat) (ha : a < 2 ^ 31) : (nI a &&& nI b = 0) ↔ (a &&& b = 0) := by
  rw [fa_and]
  exact nI_eq (a := a &&& b) (b := 0) (Nat.lt_of_le_of_lt Nat.and_le_left ha) (by decide)
theorem fpI_lt (f : Nat) : ∀ (j k p q : Nat), k + j = 12 → p < 4096 → q < 512 → (fpI f (TL.drop k) p q).1 < 4096 ∧ (fpI f (TL.drop k) p q).2 < 512 := by
  intro j
  induction j with
  | zero =>
    intro k p q h1 hp hq
    obtain rfl : k = 12 := by omega
    exact ⟨hp, hq⟩
  | succ j ih =>
    intro k p q h1 hp hq
    rw [TL_at k (by omega), fpI]
    cases ((Nat.ble 1 (Nat.land p (2 ^ k)) || Nat.ble 1 (Nat.land q (eN k))) && Nat.ble 1 (Nat.land f (2 ^ k)))
    · exact ih (k + 1) p q (by omega) hp hq
    · exact ih (k + 1) _ _ (by omega) (Nat.or_lt_two_pow (n := 12) hp (p2_lt k (by omega))) (Nat.or_lt_two_pow (n := 9) hq (eN_lt k (by omega)))
theorem fp_in {f : Nat} (hf : f < 4096) (k9 : Int32 → Int32 → Int32 → Option Int32) (v3 : Int32) {bf : Nat} (hbf : bf < 512) : ∀ (j k p q fuel : Nat), k + j = 12 → p < 4096 → q < 512 → j < fuel →
    f_Forms_firstPiece_b21 k9 (nI f) fuel (nI p) (nI q) v3 (nI bf) (nI k) = if (fpI f (TL.drop k) p q).2 = bf then some (nI (fpI f (TL.drop k) p q).1) else k9 (nI (fpI f (TL.drop k) p q).1) (nI (fpI f (TL.drop k) p q).2) (v3 + 1) := by
  intro j
  induction j with
  | zero =>
    intro k p q fuel h1 hp hq h2
    obtain ⟨n, rfl⟩ : ∃ n, fuel = n + 1 := ⟨fuel - 1, by omega⟩
    obtain rfl : k = 12 := by omega
    rw [f_Forms_firstPiece_b21, if_pos (show (12 : Int32) ≤ nI 12 by decide)]
    show (if nI q = nI bf then some (nI p) else k9 (nI p) (nI q) (v3 + 1)) = if q = bf then some (nI p) else k9 (nI p) (nI q) (v3 + 1)
    simp only [nI_eq (a := q) (b := bf) (by omega) (by omega)]
  | succ j ih =>
    intro k p q fuel h1 hp hq h2
    obtain ⟨n, rfl⟩ : ∃ n, fuel = n + 1 := ⟨fuel - 1, by omega⟩
    have hno : f_Forms_firstPiece_b21 k9 (nI f) n (nI p) (nI q) v3 (nI bf) (nI k + 1) = if (fpI f (TL.drop (k + 1)) p q).2 = bf then some (nI (fpI f (TL.drop (k + 1)) p q).1) else k9 (nI (fpI f (TL.drop (k + 1)) p q).1) (nI (fpI f (TL.drop (k + 1)) p q).2) (v3 + 1) := by
      rw [nI_1]
      exact ih (k + 1) p q n (by omega) hp hq (by omega)
    have hyes : f_Forms_firstPiece_b57 k9 (f_Forms_firstPiece_b21 k9 (nI f) n) (nI f) (nI p) (nI q) v3 (nI bf) (nI k) ((1 : Int32) <<< (nI k &&& 31)) 1 = if f &&& 2 ^ k = 0 then (if (fpI f (TL.drop (k + 1)) p q).2 = bf then some (nI (fpI f (TL.drop (k + 1)) p q).1) else k9 (nI (fpI f (TL.drop (k + 1)) p q).1) (nI (fpI f (TL.drop (k + 1)) p q).2) (v3 + 1)) else
        (if (fpI f (TL.drop (k + 1)) (p ||| 2 ^ k) (q ||| eN k)).2 = bf then some (nI (fpI f (TL.drop (k + 1)) (p ||| 2 ^ k) (q ||| eN k)).1) else k9 (nI (fpI f (TL.drop (k + 1)) (p ||| 2 ^ k) (q ||| eN k)).1) (nI (fpI f (TL.drop (k + 1)) (p ||| 2 ^ k) (q ||| eN k)).2) (v3 + 1)) := by
      rw [f_Forms_firstPiece_b57, if_neg (by decide), one_shl (by omega)]
      by_cases hz : f &&& 2 ^ k = 0
      · rw [if_pos ((land_nI f (2 ^ k) (by omega)).mpr hz), if_pos hz, hno]
      · rw [if_neg (fun z => hz ((land_nI f (2 ^ k) (by omega)).mp z)), if_neg hz, rd_nI (by omega) (by decide), sm_some, tE_ok k (by omega), fa_or, fa_or, nI_1]
        exact ih (k + 1) _ _ n (by omega) (Nat.or_lt_two_pow (n := 12) hp (p2_lt k (by omega))) (Nat.or_lt_two_pow (n := 9) hq (eN_lt k (by omega))) (by omega)
    have hzero : f_Forms_firstPiece_b57 k9 (f_Forms_firstPiece_b21 k9 (nI f) n) (nI f) (nI p) (nI q) v3 (nI bf) (nI k) ((1 : Int32) <<< (nI k &&& 31)) 0 = if (fpI f (TL.drop (k + 1)) p q).2 = bf then some (nI (fpI f (TL.drop (k + 1)) p q).1) else k9 (nI (fpI f (TL.drop (k + 1)) p q).1) (nI (fpI f (TL.drop (k + 1)) p q).2) (v3 + 1) := by
      rw [f_Forms_firstPiece_b57, if_pos rfl, hno]
    rw [f_Forms_firstPiece_b21, if_neg (show ¬ (12 : Int32) ≤ nI k from nge k 12 (by omega) (by decide)), TL_at k (by omega), fpI]
    simp only [land_ble]
    by_cases hp0 : p &&& 2 ^ k = 0
    · rw [if_pos (by rw [one_shl (by omega)]; exact (land_nI p (2 ^ k) (by omega)).mpr hp0), rd_nI (by omega) (by decide), sm_some, tE_ok k (by omega)]
      by_cases hq0 : q &&& eN k = 0
      · rw [if_pos ((land_nI q (eN k) (by omega)).mpr hq0), hzero]
        simp [hp0, hq0]
      · rw [if_neg (fun z => hq0 ((land_nI q (eN k) (by omega)).mp z)), hyes]
        by_cases hz : f &&& 2 ^ k = 0
        · simp [hp0, hq0, hz]
        · rw [if_neg hz]
          simp [hp0, hq0, hz]
    · rw [if_neg (by rw [one_shl (by omega)]; exact fun z => hp0 ((land_nI p (2 ^ k) (by omega)).mp z)), hyes]
      by_cases hz : f &&& 2 ^ k = 0
      · simp [hp0, hz]
      · rw [if_neg hz]
        simp [hp0, hz]
theorem fpO_lt (f : Nat) : ∀ (j p q : Nat), p < 4096 → q < 512 → fpO f j p q < 4096 := by
  intro j
  induction j with
  | zero => intro p q hp _; exact hp
  | succ j ih =>
    intro p q hp hq
    obtain ⟨h1, h2⟩ := fpI_lt f 12 0 p q rfl hp hq
    rw [fpO]
    cases Nat.beq (fpI f TL p q).2 q
    · exact ih _ _ h1 h2
    · exact h1
theorem fp_out {f : Nat} (hf : f < 4096) : ∀ (j r p q fuel : Nat), r + j = 12 → p < 4096 → q < 512 → j < fuel → f_Forms_firstPiece_b9 (nI f) fuel (nI p) (nI q) (nI r) = some (nI (fpO f j p q)) := by
  intro j
  induction j with
  | zero =>
    intro r p q fuel h1 hp hq h2
    obtain ⟨n, rfl⟩ : ∃ n, fuel = n + 1 := ⟨fuel - 1, by omega⟩
    obtain rfl : r = 12 := by omega
    rw [f_Forms_firstPiece_b9, if_pos (show (12 : Int32) ≤ nI 12 by decide)]
    rfl
  | succ j ih =>
    intro r p q fuel h1 hp hq h2
    obtain ⟨n, rfl⟩ : ∃ n, fuel = n + 1 := ⟨fuel - 1, by omega⟩
    obtain ⟨g1, g2⟩ := fpI_lt f 12 0 p q rfl hp hq
    rw [f_Forms_firstPiece_b9, if_neg (show ¬ (12 : Int32) ≤ nI r from nge r 12 (by omega) (by decide))]
    have h := fp_in hf (f_Forms_firstPiece_b9 (nI f) n) (nI r) hq 12 0 p q 5000 rfl hp hq (by omega)
    rw [show (0 : Int32) = nI 0 from rfl, h, fpO]
    show (if (fpI f TL p q).2 = q then _ else _) = _
    by_cases hc : (fpI f TL p q).2 = q
    · rw [if_pos hc]
      have : Nat.beq (fpI f TL p q).2 q = true := by rw [hc]; exact Nat.beq_refl q
      rw [this]
      rfl
    · rw [if_neg hc]
      have : Nat.beq (fpI f TL p q).2 q = false := by
        cases hh : Nat.beq (fpI f TL p q).2 q
        · rfl
        · exact absurd (Nat.eq_of_beq_eq_true hh) hc
      rw [this]
      show f_Forms_firstPiece_b9 (nI f) n (nI (fpI f TL p q).1) (nI (fpI f TL p q).2) (nI r + 1) = _
      rw [nI_1]
      exact ih (r + 1) _ _ n (by omega) g1 g2 (by omega)
set_option maxRecDepth 100000 in
theorem low_chk : (List.range 4096).all (fun f => decide (nI f &&& (-nI f) = nI (lowN f)) && Nat.ble (lowN f) 4095) = true := by decide +kernel
theorem low_ok {f : Nat} (hf : f < 4096) : nI f &&& (-nI f) = nI (lowN f) ∧ lowN f < 4096 := by
  have h := List.all_eq_true.mp low_chk f (List.mem_range.mpr hf)
  simp only [Bool.and_eq_true, decide_eq_true_eq] at h
  exact ⟨h.1, by have := Nat.le_of_ble_eq_true h.2; omega⟩
theorem firstPiece_ok {f : Nat} (hf : f < 4096) : f_Forms_firstPiece (nI f) = some (nI (fpN f)) := by
  obtain ⟨h1, h2⟩ := low_ok hf
  rw [f_Forms_firstPiece, h1]
  exact fp_out hf 12 0 (lowN f) 0 5000 rfl h2 (by decide) (by omega)
theorem fpN_lt {f : Nat} (hf : f < 4096) : fpN f < 4096 := fpO_lt f 12 _ _ (low_ok hf).2 (by decide)
