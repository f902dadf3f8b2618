-- ===== FORMS: pieces, the reference's way; both ways alike =====
theorem degF_zero (f p : Nat) : ∀ (j k acc : Nat), k + j = 12 → (degF f p j k acc = 0 ↔ acc = 0 ∧ ∀ t, k ≤ t → t < 12 → (f.testBit t && eB_ t p) = false) := by
  intro j
  induction j with
  | zero =>
    intro k acc h1
    exact ⟨fun h => ⟨h, fun t ht1 ht2 => by omega⟩, fun h => h.1⟩
  | succ j ih =>
    intro k acc h1
    rw [degF, ih (k + 1) _ (by omega)]
    constructor
    · rintro ⟨h2, h3⟩
      cases hb : (f.testBit k && eB_ k p)
      · simp [hb] at h2
        refine ⟨h2, fun t ht1 ht2 => ?_⟩
        rcases Nat.lt_or_ge k t with q | q
        · exact h3 t q ht2
        · obtain rfl : t = k := by omega
          exact hb
      · simp [hb] at h2
    · rintro ⟨h2, h3⟩
      have hb := h3 k (Nat.le_refl k) (by omega)
      exact ⟨by simp [hb, h2], fun t ht1 ht2 => h3 t (by omega) ht2⟩
theorem deg_ad {p k : Nat} (hp : p < 4096) (hk : k < 12) : degN p (oN k) + degN p (rN k) = 0 ↔ p &&& adN k = 0 := by
  have e1 := degF_zero p (oN k) 12 0 0 rfl
  have e2 := degF_zero p (rN k) 12 0 0 rfl
  constructor
  · intro h
    have h1 := (e1.mp (show degN p (oN k) = 0 by omega)).2
    have h2 := (e2.mp (show degN p (rN k) = 0 by omega)).2
    refine bits_eq (Nat.lt_of_le_of_lt Nat.and_le_left hp) (by decide) (fun t ht => ?_)
    rw [Nat.testBit_and, ad_bit k hk t ht, Nat.zero_testBit]
    have a1 := h1 t (Nat.zero_le t) ht
    have a2 := h2 t (Nat.zero_le t) ht
    cases hb : p.testBit t
    · rfl
    · simp [hb] at a1 a2
      simp [a1, a2]
  · intro h
    have hbit : ∀ t, t < 12 → (p.testBit t && (eB_ t (oN k) || eB_ t (rN k))) = false := by
      intro t ht
      rw [← ad_bit k hk t ht, ← Nat.testBit_and, h, Nat.zero_testBit]
    have h1 : degN p (oN k) = 0 := e1.mpr ⟨rfl, fun t _ ht => by
      have := hbit t ht
      cases hb : p.testBit t
      · rfl
      · simp [hb] at this ⊢
        exact this.1⟩
    have h2 : degN p (rN k) = 0 := e2.mpr ⟨rfl, fun t _ ht => by
      have := hbit t ht
      cases hb : p.testBit t
      · rfl
      · simp [hb] at this ⊢
        exact this.2⟩
    omega
/-- a round of the reference: piece, and whether a stroke came -/
def poI (f : Nat) : List (Nat × Nat × Nat) → Nat → Bool → Nat × Bool
  | [], p, m => (p, m)
  | x :: l, p, m => bif Nat.ble 1 (Nat.land f x.1) && (!(Nat.ble 1 (Nat.land p x.1)) && Nat.ble 1 (Nat.land p x.2.2)) then poI f l (Nat.lor p x.1) true else poI f l p m
def poO (f : Nat) : Nat → Nat → Option Nat
  | 0, _ => none
  | n + 1, p => bif (poI f TL p false).2 then poO f n (poI f TL p false).1 else some (poI f TL p false).1
theorem poI_lt (f : Nat) : ∀ (j k p : Nat) (m : Bool), k + j = 12 → p < 4096 → (poI f (TL.drop k) p m).1 < 4096 := by
  intro j
  induction j with
  | zero =>
    intro k p m h1 hp
    obtain rfl : k = 12 := by omega
    exact hp
  | succ j ih =>
    intro k p m h1 hp
    rw [TL_at k (by omega), poI]
    cases (Nat.ble 1 (Nat.land f (2 ^ k)) && (!(Nat.ble 1 (Nat.land p (2 ^ k))) && Nat.ble 1 (Nat.land p (adN k))))
    · exact ih (k + 1) p m (by omega) hp
    · exact ih (k + 1) _ _ (by omega) (Nat.or_lt_two_pow (n := 12) hp (p2_lt k (by omega)))
theorem and_bit (f k : Nat) : (f &&& 2 ^ k = 0) ↔ f.testBit k = false := fb_bit_nat f k
theorem degF_le (f p : Nat) : ∀ (j k acc : Nat), degF f p j k acc ≤ acc + j := by
  intro j
  induction j with
  | zero => intro k acc; exact Nat.le_refl _
  | succ j ih =>
    intro k acc
    rw [degF]
    have h1 := ih (k + 1) (acc + if (f.testBit k && eB_ k p) = true then 1 else 0)
    have h2 : (if (f.testBit k && eB_ k p) = true then 1 else 0) ≤ 1 := by split <;> omega
    omega
theorem po_in {f : Nat} (hf : f < 4096) (a1 : Int32) (k6 : Int32 → Int32 → Option Int32) : ∀ (j k p fuel : Nat) (m : Bool), k + j = 12 → p < 4096 → j < fuel →
    f_M_pieceOf_b15 k6 (nI f) a1 fuel (nI p) (if m then 1 else 0) (nI k) = k6 (nI (poI f (TL.drop k) p m).1) (if (poI f (TL.drop k) p m).2 then 1 else 0) := by
  intro j
  induction j with
  | zero =>
    intro k p fuel m h1 hp h2
    obtain ⟨n, rfl⟩ : ∃ n, fuel = n + 1 := ⟨fuel - 1, by omega⟩
    obtain rfl : k = 12 := by omega
    rw [f_M_pieceOf_b15, if_pos (show (12 : Int32) ≤ nI 12 by decide)]
    rfl
  | succ j ih =>
    intro k p fuel m h1 hp h2
    obtain ⟨n, rfl⟩ : ∃ n, fuel = n + 1 := ⟨fuel - 1, by omega⟩
    have h0 : f_M_pieceOf_b67 k6 (f_M_pieceOf_b15 k6 (nI f) a1 n) (nI f) a1 (nI p) (if m then 1 else 0) (nI k) 0 = k6 (nI (poI f (TL.drop (k + 1)) p m).1) (if (poI f (TL.drop (k + 1)) p m).2 then 1 else 0) := by
      rw [f_M_pieceOf_b67, if_pos rfl, f_M_pieceOf_b83, show nI p ||| (0 : Int32) = nI p from by rw [show (0 : Int32) = nI 0 from rfl, fa_or, Nat.or_zero], show (if m = true then (1 : Int32) else 0) ||| (0 : Int32) = if m = true then 1 else 0 from by cases m <;> decide, nI_1]
      exact ih (k + 1) p n m (by omega) hp (by omega)
    have hy : f_M_pieceOf_b67 k6 (f_M_pieceOf_b15 k6 (nI f) a1 n) (nI f) a1 (nI p) (if m then 1 else 0) (nI k) 1 = k6 (nI (poI f (TL.drop (k + 1)) (p ||| 2 ^ k) true).1) (if (poI f (TL.drop (k + 1)) (p ||| 2 ^ k) true).2 then 1 else 0) := by
      rw [f_M_pieceOf_b67, if_neg (by decide), f_M_pieceOf_b83, one_shl (by omega), fa_or, show (if m = true then (1 : Int32) else 0) ||| (1 : Int32) = if true = true then 1 else 0 from by cases m <;> decide, nI_1]
      exact ih (k + 1) _ n true (by omega) (Nat.or_lt_two_pow (n := 12) hp (p2_lt k (by omega))) (by omega)
    rw [f_M_pieceOf_b15, if_neg (show ¬ (12 : Int32) ≤ nI k from nge k 12 (by omega) (by decide)), TL_at k (by omega), poI]
    simp only [land_ble]
    cases hfb : f.testBit k
    · have e1 := (and_bit f k).mpr hfb
      rw [Mhas0 (by omega) hfb, sm_some, if_pos rfl, h0]
      simp [e1]
    · have e1 : ¬ (f &&& 2 ^ k = 0) := fun z => by rw [(and_bit f k).mp z] at hfb; cases hfb
      rw [Mhas1 (by omega) hfb, sm_some, if_neg (by decide)]
      cases hpb : p.testBit k
      · have e2 := (and_bit p k).mpr hpb
        rw [Mhas0 (by omega) hpb, sm_some, if_pos rfl, Mone_ok k (by omega), sm_some, Mdegree_ok (oN_lt k (by omega)).1, sm_some, Mother_ok k (by omega), sm_some, Mdegree_ok (oN_lt k (by omega)).2, sm_some, nI_add]
        have b1 := degF_le p (oN k) 12 0 0
        have b2 := degF_le p (rN k) 12 0 0
        have c1 : degN p (oN k) ≤ 12 := by unfold degN; omega
        have c2 : degN p (rN k) ≤ 12 := by unfold degN; omega
        by_cases hd : p &&& adN k = 0
        · have hs := (deg_ad hp (show k < 12 by omega)).mpr hd
          rw [hs, if_pos (show nI 0 ≤ (0 : Int32) by decide), h0]
          simp [e1, e2, hd]
        · have hs : ¬ degN p (oN k) + degN p (rN k) = 0 := fun z => hd ((deg_ad hp (show k < 12 by omega)).mp z)
          rw [if_neg (show ¬ nI (degN p (oN k) + degN p (rN k)) ≤ (0 : Int32) from nI_nle (by omega) (by omega)), hy]
          simp [e1, e2, hd]
      · have e2 : ¬ (p &&& 2 ^ k = 0) := fun z => by rw [(and_bit p k).mp z] at hpb; cases hpb
        rw [Mhas1 (by omega) hpb, sm_some, if_neg (by decide), h0]
        simp [e1, e2]
theorem poO_lt (f : Nat) : ∀ (n p r : Nat), p < 4096 → poO f n p = some r → r < 4096 := by
  intro n
  induction n with
  | zero => intro p r _ h; cases h
  | succ n ih =>
    intro p r hp h
    have g := poI_lt f 12 0 p false rfl hp
    rw [poO] at h
    cases hm : (poI f TL p false).2
    · rw [hm] at h
      cases h
      exact g
    · rw [hm] at h
      exact ih _ _ g h
theorem po_out {f : Nat} (hf : f < 4096) (a1 : Int32) : ∀ (n p r fuel : Nat), p < 4096 → poO f n p = some r → n < fuel → f_M_pieceOf_b6 (nI f) a1 fuel (nI p) 1 = some (nI r) := by
  intro n
  induction n with
  | zero => intro p r fuel _ h; cases h
  | succ n ih =>
    intro p r fuel hp h h2
    obtain ⟨w, rfl⟩ : ∃ w, fuel = w + 1 := ⟨fuel - 1, by omega⟩
    have g := poI_lt f 12 0 p false rfl hp
    have hin := po_in hf a1 (f_M_pieceOf_b6 (nI f) a1 w) 12 0 p 5000 false rfl hp (by omega)
    rw [f_M_pieceOf_b6, if_neg (by decide)]
    have e0 : f_M_pieceOf_b15 (f_M_pieceOf_b6 (nI f) a1 w) (nI f) a1 5000 (nI p) (0 : Int32) (0 : Int32) = f_M_pieceOf_b15 (f_M_pieceOf_b6 (nI f) a1 w) (nI f) a1 5000 (nI p) (if false = true then 1 else 0) (nI 0) := rfl
    rw [e0, hin]
    rw [poO] at h
    show f_M_pieceOf_b6 (nI f) a1 w (nI (poI f TL p false).1) (if (poI f TL p false).2 then 1 else 0) = some (nI r)
    cases hm : (poI f TL p false).2
    · rw [hm] at h
      cases h
      obtain ⟨w', rfl⟩ : ∃ w', w = w' + 1 := ⟨w - 1, by omega⟩
      rw [if_neg (by decide), f_M_pieceOf_b6, if_pos rfl]
    · rw [hm] at h
      rw [if_pos rfl]
      exact ih _ _ w g h (by omega)
/-- the least stroke -/
def lsF (f : Nat) : Nat → Nat → Nat
  | 0, k => k
  | j + 1, k => bif Nat.ble 1 (Nat.land f (2 ^ k)) then k else lsF f j (k + 1)
def lsN (f : Nat) : Nat := lsF f 12 0
theorem ls_lt (f : Nat) : ∀ (j k : Nat), k + j = 12 → f ≠ 0 → f < 4096 → (∀ t, t < k → f.testBit t = false) → lsF f j k < 12 ∧ f.testBit (lsF f j k) = true ∧ ∀ t, t < lsF f j k → f.testBit t = false := by
  intro j
  induction j with
  | zero =>
    intro k h1 h0 hf h
    obtain rfl : k = 12 := by omega
    exact absurd (bits_eq hf (by decide) (fun i hi => by rw [h i hi]; simp)) h0
  | succ j ih =>
    intro k h1 h0 hf h
    rw [lsF, land_ble]
    cases hb : f.testBit k
    · have e := (and_bit f k).mpr hb
      simp only [e, decide_true, Bool.not_true, cond_false]
      exact ih (k + 1) (by omega) h0 hf (fun t ht => by
        rcases Nat.lt_or_ge t k with q | q
        · exact h t q
        · obtain rfl : t = k := by omega
          exact hb)
    · have e : ¬ (f &&& 2 ^ k = 0) := fun z => by rw [(and_bit f k).mp z] at hb; cases hb
      simp only [e, decide_false, Bool.not_false, cond_true]
      exact ⟨by omega, hb, h⟩
theorem least_loop {f : Nat} : ∀ (d k fuel : Nat), k + d < 12 → f.testBit (k + d) = true → (∀ t, k ≤ t → t < k + d → f.testBit t = false) → d < fuel → f_M_least_b2 (nI f) fuel (nI k) = some (nI (k + d)) := by
  intro d
  induction d with
  | zero =>
    intro k fuel h1 hb h h2
    obtain ⟨n, rfl⟩ : ∃ n, fuel = n + 1 := ⟨fuel - 1, by omega⟩
    rw [Nat.add_zero] at hb
    rw [f_M_least_b2, Mhas1 (by omega) hb, sm_some, if_neg (by decide)]
    rfl
  | succ d ih =>
    intro k fuel h1 hb h h2
    obtain ⟨n, rfl⟩ : ∃ n, fuel = n + 1 := ⟨fuel - 1, by omega⟩
    rw [f_M_least_b2, Mhas0 (by omega) (h k (Nat.le_refl k) (by omega)), sm_some, if_pos rfl, nI_1]
    rw [show k + (d + 1) = (k + 1) + d by omega] at hb h1 ⊢
    exact ih (k + 1) n h1 hb (fun t h3 h4 => h t (by omega) (by omega)) (by omega)
theorem Mleast_ok {f : Nat} (hf : f < 4096) (h0 : f ≠ 0) : f_M_least (nI f) = some (nI (lsN f)) := by
  obtain ⟨h1, h2, h3⟩ := ls_lt f 12 0 rfl h0 hf (fun t h => by omega)
  have := least_loop (f := f) (lsN f) 0 5000 (by rw [Nat.zero_add]; exact h1) (by rw [Nat.zero_add]; exact h2) (fun t _ h => h3 t (by rw [Nat.zero_add] at h; exact h)) (by have : lsN f < 12 := h1; omega)
  rw [Nat.zero_add] at this
  exact this
/-- the pieces, one behind the other -/
def pcX : Nat → Nat → List Nat
  | 0, _ => []
  | n + 1, r => bif Nat.beq r 0 then [] else fpN r :: pcX n (Nat.xor r (Nat.land r (fpN r)))
def pcM (f : Nat) : Nat → Nat → Option (List Nat)
  | 0, _ => none
  | n + 1, l => bif Nat.beq l 0 then some [] else match poO f 13 (2 ^ lsN l) with
    | none => none
    | some p => match pcM f n (Nat.xor l (Nat.land l p)) with
      | none => none
      | some L => some (p :: L)
