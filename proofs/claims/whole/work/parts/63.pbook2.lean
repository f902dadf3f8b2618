-- ===== THE BOOK: doubts, apart, stay =====
def cnF (B : Nat → Nat) (f D : Nat) : Nat → Nat → Nat → Nat
  | 0, _, acc => acc
  | j + 1, k, acc => cnF B f D j (k + 1) (acc + if B k ≠ 0 ∧ dN (B k) f = D then 1 else 0)
theorem cnX_loop {c : Nat → Int32} {B : Nat → Nat} (h : rBX B c) (hB : okB B) {f D : Nat} (hf : f < 4096) (hD : D ≤ 12) (a2 : Int32) : ∀ (j k acc fuel : Nat), k + j = 26 → j < fuel → f_Book_countAsNear_b16 c (nI f) a2 fuel (nI D) (nI acc) (nI k) = some (nI (cnF B f D j k acc)) := by
  intro j
  induction j with
  | zero =>
    intro k acc fuel h1 h2
    obtain ⟨n, rfl⟩ : ∃ n, fuel = n + 1 := ⟨fuel - 1, by omega⟩
    obtain rfl : k = 26 := by omega
    rw [f_Book_countAsNear_b16, if_pos (show (26 : Int32) ≤ nI 26 by decide)]
    rfl
  | succ j ih =>
    intro k acc fuel h1 h2
    obtain ⟨n, rfl⟩ : ∃ n, fuel = n + 1 := ⟨fuel - 1, by omega⟩
    have hk := hB k (by omega)
    have hd := dN_le (B k) f
    rw [f_Book_countAsNear_b16, if_neg (show ¬ (26 : Int32) ≤ nI k from nge k 26 (by omega) (by decide)), rd_nI (by omega) (by decide), sm_some, h k (by omega), nI_1, cnF]
    by_cases h0 : B k = 0
    · rw [if_pos (show nI (B k) = (0 : Int32) by rw [h0]; rfl), if_neg (fun z => z.1 h0)]
      exact ih (k + 1) acc n (by omega) (by omega)
    · rw [if_neg (show ¬ nI (B k) = (0 : Int32) from nI_ne0 (by omega) (by omega)), sm_some, differ_ok hk hf, sm_some]
      by_cases hc : dN (B k) f = D
      · rw [if_pos (by rw [hc]), if_pos ⟨h0, hc⟩, nI_1]
        exact ih (k + 1) (acc + 1) n (by omega) (by omega)
      · rw [if_neg (fun z => hc ((nI_eq (by omega) (by omega)).mp z)), if_neg (fun z => hc z.2)]
        exact ih (k + 1) acc n (by omega) (by omega)
theorem add0 (a : Nat) : nI a + (0 : Int32) = nI a := nI_add a 0
theorem or0 (a : Nat) : nI a ||| (0 : Int32) = nI a := by rw [show (0 : Int32) = nI 0 from rfl, fa_or, Nat.or_zero]
theorem cnM_loop {s d : Nat → Int32} {B : Nat → Nat} (h : rBM B s) (hB : okB B) {f g : Nat} (hf : f < 4096) (hg : g < 26) : ∀ (j k acc fuel : Nat), k + j = 26 → j < fuel → f_M_doubts_b34 s (nI f) fuel d (nI g) (nI acc) (nI k) = some (nI (cnF B f (dN (B g) f) j k acc), d) := by
  intro j
  induction j with
  | zero =>
    intro k acc fuel h1 h2
    obtain ⟨n, rfl⟩ : ∃ n, fuel = n + 1 := ⟨fuel - 1, by omega⟩
    obtain rfl : k = 26 := by omega
    rw [f_M_doubts_b34, if_pos (show (26 : Int32) ≤ nI 26 by decide)]
    rfl
  | succ j ih =>
    intro k acc fuel h1 h2
    obtain ⟨n, rfl⟩ : ∃ n, fuel = n + 1 := ⟨fuel - 1, by omega⟩
    have hk := hB k (by omega)
    have hd := dN_le (B k) f
    have hd2 := dN_le (B g) f
    rw [f_M_doubts_b34, if_neg (show ¬ (26 : Int32) ≤ nI k from nge k 26 (by omega) (by decide)), rdM h (by omega), sm_some, cnF]
    by_cases h0 : B k = 0
    · rw [if_pos (show nI (B k) = (0 : Int32) by rw [h0]; rfl), if_neg (fun z => z.1 h0), f_M_doubts_b75, add0, nI_1]
      exact ih (k + 1) acc n (by omega) (by omega)
    · rw [if_neg (show ¬ nI (B k) = (0 : Int32) from nI_ne0 (by omega) (by omega)), apartFrom_ok h hB hf (by omega), sm_some, apartFrom_ok h hB hf hg, sm_some]
      by_cases hc : dN (B k) f = dN (B g) f
      · rw [if_pos (by rw [hc]), if_pos ⟨h0, hc⟩, f_M_doubts_b75, show nI acc + (1 : Int32) = nI (acc + 1) from nI_1 acc, nI_1]
        exact ih (k + 1) (acc + 1) n (by omega) (by omega)
      · rw [if_neg (fun z => hc ((nI_eq (by omega) (by omega)).mp z)), if_neg (fun z => hc z.2), f_M_doubts_b75, add0, nI_1]
        exact ih (k + 1) acc n (by omega) (by omega)
theorem case_doubts {c d bf s : Nat → Int32} {B : Nat → Nat} (h : rF c d) (hb : rBX B bf) (hm : rBM B s) (hB : okB B) (a : Int32) : ∃ r c' d', f_S_doubts c bf a = some (r, c') ∧ f_M_doubts d s a = some (r, d') ∧ rF c' d' := by
  rcases rng a 4095 (by decide) with ⟨f, hf, rfl⟩ | hn
  · have h1 := nearest_ok hb hB (show f < 4096 by omega)
    have h2 := readAs_ok hm hB (show f < 4096 by omega)
    have hU := nrU_ok B f 26
    cases ho : nrU B f 26 with
    | none =>
      rw [ho] at h1 h2
      refine ⟨-1000000004, _, _, ?_, ?_, h.fin (k := 3) (by decide)⟩
      · rw [f_S_doubts, isForm_yes hf, sm_some, if_neg (by decide), h1, sm_some, if_neg (by decide), fnd3, sm_some]
      · rw [f_M_doubts, MisForm_yes hf, sm_some, if_neg (by decide), h2, sm_some, if_neg (by decide), mno3, sm_some]
    | some g =>
      rw [ho] at h1 h2 hU
      have hg := hU.2.1
      refine ⟨nI (cnF B f (dN (B g) f) 26 0 0), c, d, ?_, ?_, h⟩
      · rw [f_S_doubts, isForm_yes hf, sm_some, if_neg (by decide), h1, sm_some, enc_some, if_pos (nI_pos' (by omega)), f_Book_countAsNear, formAt_ok hb (by omega), sm_some, differ_ok (hB g hg) (by omega), sm_some, show (0 : Int32) = nI 0 from rfl, cnX_loop hb hB (by omega) (dN_le _ _) _ 26 0 0 5000 rfl (by omega), sm_some]
      · rw [f_M_doubts, MisForm_yes hf, sm_some, if_neg (by decide), h2, sm_some, enc_some, if_pos (nI_pos' (by omega)), show (0 : Int32) = nI 0 from rfl, cnM_loop hm hB (by omega) hg 26 0 0 5000 rfl (by omega)]
  · refine ⟨-1000000001, _, _, ?_, ?_, h.fin (k := 0) (by decide)⟩
    · rw [f_S_doubts, isForm_no hn, sm_some, if_pos rfl, fnd0, sm_some]
    · rw [f_M_doubts, MisForm_no hn, sm_some, if_pos rfl, mno0, sm_some]
/-- apart: the least so far -/
def apS (B : Nat → Nat) (a b : Nat) (o : Option Nat) : Option Nat := if B a ≠ 0 ∧ B b ≠ 0 then (match o with
  | none => some (dN (B a) (B b))
  | some m => if m ≤ dN (B a) (B b) then some m else some (dN (B a) (B b))) else o
def apI (B : Nat → Nat) (a : Nat) : Nat → Nat → Option Nat → Option Nat
  | 0, _, o => o
  | j + 1, b, o => apI B a j (b + 1) (apS B a b o)
def apO (B : Nat → Nat) : Nat → Nat → Option Nat → Option Nat
  | 0, _, o => o
  | j + 1, a, o => apO B j (a + 1) (apI B a a 0 o)
def okO (o : Option Nat) : Prop := ∀ m, o = some m → m ≤ 12
theorem apS_ok {B : Nat → Nat} {a b : Nat} {o : Option Nat} (h : okO o) : okO (apS B a b o) := by
  have hd := dN_le (B a) (B b)
  unfold apS
  split
  · cases o with
    | none => intro m e; cases e; exact hd
    | some x =>
      intro m e
      have hx := h x rfl
      simp only [] at e
      split at e <;> cases e <;> omega
  · exact h
theorem apI_ok {B : Nat → Nat} {a : Nat} : ∀ (j b : Nat) (o : Option Nat), okO o → okO (apI B a j b o) := by
  intro j
  induction j with
  | zero => intro b o h; exact h
  | succ j ih => intro b o h; exact ih (b + 1) _ (apS_ok h)
theorem apX_in {c : Nat → Int32} {B : Nat → Nat} (h : rBX B c) (hB : okB B) (k4 : Int32 → Int32 → Option Int32) {a : Nat} (ha : a < 26) : ∀ (j b fuel : Nat) (o : Option Nat), b + j = a → j < fuel → okO o → f_Book_leastBetweenTwo_b12 k4 c fuel (enc o) (nI a) (nI b) = k4 (enc (apI B a j b o)) (nI (a + 1)) := by
  intro j
  induction j with
  | zero =>
    intro b fuel o h1 h2 _
    obtain ⟨n, rfl⟩ : ∃ n, fuel = n + 1 := ⟨fuel - 1, by omega⟩
    obtain rfl : b = a := by omega
    rw [f_Book_leastBetweenTwo_b12, if_pos (nles b b (Nat.le_refl b) (by omega)), nI_1]
    rfl
  | succ j ih =>
    intro b fuel o h1 h2 ho
    obtain ⟨n, rfl⟩ : ∃ n, fuel = n + 1 := ⟨fuel - 1, by omega⟩
    have hk := hB a ha
    have hk2 := hB b (by omega)
    have hd := dN_le (B a) (B b)
    have step := ih (b + 1) n (apS B a b o) (by omega) (by omega) (apS_ok ho)
    rw [f_Book_leastBetweenTwo_b12, if_neg (nge b a (by omega) (by omega)), rd_nI ha (by decide), sm_some, rd_nI (show b < 26 by omega) (by decide), sm_some, h a ha, h b (by omega), differ_ok hk hk2, sm_some, sm_some, apI]
    simp only [nI_1]
    unfold apS at step ⊢
    by_cases h0 : B a = 0
    · rw [if_pos (show nI (B a) = (0 : Int32) by rw [h0]; rfl)]
      rw [if_neg (show ¬ (B a ≠ 0 ∧ B b ≠ 0) from fun z => z.1 h0)] at step ⊢
      exact step
    · rw [if_neg (show ¬ nI (B a) = (0 : Int32) from nI_ne0 (by omega) (by omega)), sm_some]
      by_cases h00 : B b = 0
      · rw [if_pos (show nI (B b) = (0 : Int32) by rw [h00]; rfl)]
        rw [if_neg (show ¬ (B a ≠ 0 ∧ B b ≠ 0) from fun z => z.2 h00)] at step ⊢
        exact step
      · rw [if_neg (show ¬ nI (B b) = (0 : Int32) from nI_ne0 (by omega) (by omega))]
        rw [if_pos (show B a ≠ 0 ∧ B b ≠ 0 from ⟨h0, h00⟩)] at step ⊢
        cases o with
        | none =>
          rw [if_pos (by decide : enc none < 0), f_Book_leastBetweenTwo_b62, nI_1]
          exact step
        | some m =>
          have hm := ho m rfl
          simp only [] at step ⊢
          rw [enc_some, if_neg (nI_pos (by omega))]
          by_cases hc : m ≤ dN (B a) (B b)
          · rw [if_pos (nles m _ hc (by omega))]
            rw [if_pos hc] at step ⊢
            exact step
          · rw [if_neg (nge _ m (by omega) (by omega)), f_Book_leastBetweenTwo_b62, nI_1]
            rw [if_neg hc] at step ⊢
            exact step
theorem apX_out {c : Nat → Int32} {B : Nat → Nat} (h : rBX B c) (hB : okB B) : ∀ (j a fuel : Nat) (o : Option Nat), a + j = 26 → j < fuel → okO o → f_Book_leastBetweenTwo_b4 c fuel (enc o) (nI a) = some (enc (apO B j a o)) := by
  intro j
  induction j with
  | zero =>
    intro a fuel o h1 h2 _
    obtain ⟨n, rfl⟩ : ∃ n, fuel = n + 1 := ⟨fuel - 1, by omega⟩
    obtain rfl : a = 26 := by omega
    rw [f_Book_leastBetweenTwo_b4, if_pos (show (26 : Int32) ≤ nI 26 by decide)]
    rfl
  | succ j ih =>
    intro a fuel o h1 h2 ho
    obtain ⟨n, rfl⟩ : ∃ n, fuel = n + 1 := ⟨fuel - 1, by omega⟩
    rw [f_Book_leastBetweenTwo_b4, if_neg (show ¬ (26 : Int32) ≤ nI a from nge a 26 (by omega) (by decide)), show (0 : Int32) = nI 0 from rfl, apX_in h hB _ (by omega) a 0 5000 o (by omega) (by omega) ho]
    exact ih (a + 1) n _ (by omega) (by omega) (apI_ok _ _ _ ho)
def encM : Option Nat → Int32
  | none => 13
  | some m => nI m
theorem apM_in {s d : Nat → Int32} {B : Nat → Nat} (h : rBM B s) (hB : okB B) (k5 : (Nat → Int32) → Int32 → Int32 → Option (Int32 × (Nat → Int32))) {a : Nat} (ha : a < 26) : ∀ (j b fuel : Nat) (o : Option Nat), b + j = a → j < fuel → okO o → f_M_apart_b13 k5 s fuel d (encM o) (nI a) (nI b) = k5 d (encM (apI B a j b o)) (nI (a + 1)) := by
  intro j
  induction j with
  | zero =>
    intro b fuel o h1 h2 _
    obtain ⟨n, rfl⟩ : ∃ n, fuel = n + 1 := ⟨fuel - 1, by omega⟩
    obtain rfl : b = a := by omega
    rw [f_M_apart_b13, if_pos (nles b b (Nat.le_refl b) (by omega)), nI_1]
    rfl
  | succ j ih =>
    intro b fuel o h1 h2 ho
    obtain ⟨n, rfl⟩ : ∃ n, fuel = n + 1 := ⟨fuel - 1, by omega⟩
    have hk := hB a ha
    have hk2 := hB b (by omega)
    have hd := dN_le (B a) (B b)
    have step := ih (b + 1) n (apS B a b o) (by omega) (by omega) (apS_ok ho)
    rw [f_M_apart_b13, if_neg (nge b a (by omega) (by omega)), rdM h ha, sm_some, apI]
    simp only [nI_1]
    unfold apS at step ⊢
    by_cases h0 : B a = 0
    · rw [if_pos (show nI (B a) = (0 : Int32) by rw [h0]; rfl)]
      rw [if_neg (show ¬ (B a ≠ 0 ∧ B b ≠ 0) from fun z => z.1 h0)] at step ⊢
      exact step
    · rw [if_neg (show ¬ nI (B a) = (0 : Int32) from nI_ne0 (by omega) (by omega)), rdM h (show b < 26 by omega), sm_some]
      by_cases h00 : B b = 0
      · rw [if_pos (show nI (B b) = (0 : Int32) by rw [h00]; rfl)]
        rw [if_neg (show ¬ (B a ≠ 0 ∧ B b ≠ 0) from fun z => z.2 h00)] at step ⊢
        exact step
      · rw [if_neg (show ¬ nI (B b) = (0 : Int32) from nI_ne0 (by omega) (by omega)), sm_some, apartFrom_ok h hB hk (show b < 26 by omega), sm_some, dN_comm (B b) (B a)]
        rw [if_pos (show B a ≠ 0 ∧ B b ≠ 0 from ⟨h0, h00⟩)] at step ⊢
        cases o with
        | none =>
          rw [if_neg (show ¬ encM none ≤ nI (dN (B a) (B b)) from nge _ 13 (by omega) (by decide)), sm_some, apartFrom_ok h hB hk (show b < 26 by omega), sm_some, dN_comm (B b) (B a)]
          exact step
        | some m =>
          have hm := ho m rfl
          simp only [] at step ⊢
          by_cases hc : m ≤ dN (B a) (B b)
          · rw [if_pos (show encM (some m) ≤ nI (dN (B a) (B b)) from nles m _ hc (by omega))]
            rw [if_pos hc] at step ⊢
            exact step
          · rw [if_neg (show ¬ encM (some m) ≤ nI (dN (B a) (B b)) from nge _ m (by omega) (by omega)), sm_some, apartFrom_ok h hB hk (show b < 26 by omega), sm_some, dN_comm (B b) (B a)]
            rw [if_neg hc] at step ⊢
            exact step
theorem apM_out {s d : Nat → Int32} {B : Nat → Nat} (h : rBM B s) (hB : okB B) : ∀ (j a fuel : Nat) (o : Option Nat), a + j = 26 → j < fuel → okO o → f_M_apart_b5 s fuel d (encM o) (nI a) = (match apO B j a o with
    | none => some (-1000000004, upd d 3 (d 3 + 1))
    | some m => some (nI m, d)) ∧ okO (apO B j a o) := by
  intro j
  induction j with
  | zero =>
    intro a fuel o h1 h2 ho
    obtain ⟨n, rfl⟩ : ∃ n, fuel = n + 1 := ⟨fuel - 1, by omega⟩
    obtain rfl : a = 26 := by omega
    refine ⟨?_, ho⟩
    rw [f_M_apart_b5, if_pos (show (26 : Int32) ≤ nI 26 by decide)]
    cases o with
    | none => rw [if_neg (show ¬ encM none ≤ (12 : Int32) by decide), mno3, sm_some]; rfl
    | some m => rw [if_pos (show encM (some m) ≤ (12 : Int32) from nles m 12 (ho m rfl) (by decide))]; rfl
  | succ j ih =>
    intro a fuel o h1 h2 ho
    obtain ⟨n, rfl⟩ : ∃ n, fuel = n + 1 := ⟨fuel - 1, by omega⟩
    rw [f_M_apart_b5, if_neg (show ¬ (26 : Int32) ≤ nI a from nge a 26 (by omega) (by decide)), show (0 : Int32) = nI 0 from rfl, apM_in h hB _ (by omega) a 0 5000 o (by omega) (by omega) ho]
    exact ih (a + 1) n _ (by omega) (by omega) (apI_ok _ _ _ ho)
theorem case_apart {c d bf s : Nat → Int32} {B : Nat → Nat} (h : rF c d) (hb : rBX B bf) (hm : rBM B s) (hB : okB B) : ∃ r c' d', f_S_apart c bf = some (r, c') ∧ f_M_apart d s = some (r, d') ∧ rF c' d' := by
  have h1 : f_Book_leastBetweenTwo bf = some (enc (apO B 26 0 none)) := apX_out hb hB 26 0 5000 none rfl (by omega) (fun m e => by cases e)
  obtain ⟨h2, hok⟩ := apM_out (d := d) hm hB 26 0 5000 none rfl (by omega) (fun m e => by cases e)
  have h3 : f_M_apart d s = f_M_apart_b5 s 5000 d (encM none) (nI 0) := rfl
  rw [← h3] at h2
  cases ho : apO B 26 0 none with
  | none =>
    rw [ho] at h1 h2
    refine ⟨-1000000004, _, _, ?_, h2, h.fin (k := 3) (by decide)⟩
    rw [f_S_apart, h1, sm_some, if_neg (by decide), fnd3, sm_some]
  | some m =>
    rw [ho] at h1 h2
    have := hok m ho
    refine ⟨nI m, c, d, ?_, h2, h⟩
    rw [f_S_apart, h1, sm_some, enc_some, if_pos (nI_pos' (by omega))]
/-- a form without some strokes -/
abbrev mlt (b S : Nat) : Nat := b ^^^ (b &&& S)
theorem mlt_lt {b S : Nat} (h : b < 4096) : mlt b S < 4096 := Nat.xor_lt_two_pow (n := 12) h (Nat.lt_of_le_of_lt Nat.and_le_left h)
theorem enc_eq {B : Nat → Nat} {f g : Nat} (hg : g < 26) : enc (nrU B f 26) = nI g ↔ nrU B f 26 = some g := by
  have hU := nrU_ok B f 26
  cases ho : nrU B f 26 with
  | none =>
    constructor
    · intro z
      exfalso
      have : ∀ g, g < 26 → ¬ enc none = nI g := by decide
      exact this g hg z
    · intro z; cases z
  | some b =>
    rw [ho] at hU
    have := hU.2.1
    rw [enc_some, nI_eq (by omega) (by omega)]
    constructor
    · intro z; rw [z]
    · intro z; cases z; rfl
def stF (B : Nat → Nat) (S : Nat) : Nat → Nat → Nat → Nat
  | 0, _, acc => acc
  | j + 1, k, acc => stF B S j (k + 1) (if B k ≠ 0 ∧ nrU B (mlt (B k) S) 26 = some k then acc ||| 2 ^ k else acc)
theorem stX_loop {c : Nat → Int32} {B : Nat → Nat} (h : rBX B c) (hB : okB B) (S : Nat) : ∀ (j k acc fuel : Nat), k + j = 26 → j < fuel → f_Book_signsThatStay_b4 c (nI S) fuel (nI acc) (nI k) = some (nI (stF B S j k acc)) := by
  intro j
  induction j with
  | zero =>
    intro k acc fuel h1 h2
    obtain ⟨n, rfl⟩ : ∃ n, fuel = n + 1 := ⟨fuel - 1, by omega⟩
    obtain rfl : k = 26 := by omega
    rw [f_Book_signsThatStay_b4, if_pos (show (26 : Int32) ≤ nI 26 by decide)]
    rfl
  | succ j ih =>
    intro k acc fuel h1 h2
    obtain ⟨n, rfl⟩ : ∃ n, fuel = n + 1 := ⟨fuel - 1, by omega⟩
    have hk := hB k (by omega)
    rw [f_Book_signsThatStay_b4, if_neg (show ¬ (26 : Int32) ≤ nI k from nge k 26 (by omega) (by decide)), rd_nI (by omega) (by decide), sm_some, h k (by omega), nI_1, stF]
    by_cases h0 : B k = 0
    · rw [if_pos (show nI (B k) = (0 : Int32) by rw [h0]; rfl), if_neg (fun z => z.1 h0)]
      exact ih (k + 1) acc n (by omega) (by omega)
    · rw [if_neg (show ¬ nI (B k) = (0 : Int32) from nI_ne0 (by omega) (by omega)), sm_some, not_nI (by omega), nearest_ok h hB (mlt_lt hk), sm_some]
      by_cases hc : nrU B (mlt (B k) S) 26 = some k
      · rw [if_pos ((enc_eq (by omega)).mpr hc), if_pos ⟨h0, hc⟩, one_shl (by omega), fa_or]
        exact ih (k + 1) _ n (by omega) (by omega)
      · rw [if_neg (fun z => hc ((enc_eq (by omega)).mp z)), if_neg (fun z => hc z.2)]
        exact ih (k + 1) acc n (by omega) (by omega)
theorem stM_loop {s : Nat → Int32} {B : Nat → Nat} (h : rBM B s) (hB : okB B) {S : Nat} (hs : s 1 = nI S) : ∀ (j k acc fuel : Nat), k + j = 26 → j < fuel → f_M_stay_b4 s fuel (nI acc) (nI k) = some (nI (stF B S j k acc)) := by
  intro j
  induction j with
  | zero =>
    intro k acc fuel h1 h2
    obtain ⟨n, rfl⟩ : ∃ n, fuel = n + 1 := ⟨fuel - 1, by omega⟩
    obtain rfl : k = 26 := by omega
    rw [f_M_stay_b4, if_pos (show (26 : Int32) ≤ nI 26 by decide)]
    rfl
  | succ j ih =>
    intro k acc fuel h1 h2
    obtain ⟨n, rfl⟩ : ∃ n, fuel = n + 1 := ⟨fuel - 1, by omega⟩
    have hk := hB k (by omega)
    rw [f_M_stay_b4, if_neg (show ¬ (26 : Int32) ≤ nI k from nge k 26 (by omega) (by decide)), rdM h (by omega), sm_some, stF]
    by_cases h0 : B k = 0
    · rw [if_pos (show nI (B k) = (0 : Int32) by rw [h0]; rfl), if_neg (fun z => z.1 h0), f_M_stay_b54, or0, nI_1]
      exact ih (k + 1) acc n (by omega) (by omega)
    · rw [if_neg (show ¬ nI (B k) = (0 : Int32) from nI_ne0 (by omega) (by omega)), sm_some, show rd s 65 (1 : Int32) = some (s 1) from rd_nI (k := 1) (by decide) (by decide), sm_some, hs, not_nI (by omega), readAs_ok h hB (mlt_lt hk), sm_some]
      by_cases hc : nrU B (mlt (B k) S) 26 = some k
      · rw [if_pos ((enc_eq (by omega)).mpr hc), if_pos ⟨h0, hc⟩, f_M_stay_b54, one_shl (by omega), fa_or, nI_1]
        exact ih (k + 1) _ n (by omega) (by omega)
      · rw [if_neg (fun z => hc ((enc_eq (by omega)).mp z)), if_neg (fun z => hc z.2), f_M_stay_b54, or0, nI_1]
        exact ih (k + 1) acc n (by omega) (by omega)
theorem case_stay {bf s : Nat → Int32} {sn : Int32} {B : Nat → Nat} {S : Nat} (hb : rBX B bf) (hm : rBM B s) (hB : okB B) (h1 : sn = nI S) (h2 : s 1 = nI S) : ∃ r, f_S_stay sn bf = some r ∧ f_M_stay s = some r := by
  refine ⟨nI (stF B S 26 0 0), ?_, ?_⟩
  · rw [f_S_stay, h1, f_Book_signsThatStay, show (0 : Int32) = nI 0 from rfl, stX_loop hb hB S 26 0 0 5000 rfl (by omega), sm_some]
  · exact stM_loop hm hB h2 26 0 0 5000 rfl (by omega)
