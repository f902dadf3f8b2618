-- ===== THE BOOK =====
def rBX (B : Nat → Nat) (c : Nat → Int32) : Prop := ∀ g, g < 26 → c g = nI (B g)
def rBM (B : Nat → Nat) (s : Nat → Int32) : Prop := ∀ g, g < 26 → s (3 + g) = nI (B g)
def okB (B : Nat → Nat) : Prop := ∀ g, g < 26 → B g < 4096
def dN (a b : Nat) : Nat := popN (a ^^^ b)
theorem dN_le (a b : Nat) : dN a b ≤ 12 := popN_le _
theorem dN_comm (a b : Nat) : dN a b = dN b a := by unfold dN; rw [Nat.xor_comm]
theorem differ_ok {a b : Nat} (ha : a < 4096) (hb : b < 4096) : f_Forms_differ (nI a) (nI b) = some (nI (dN a b)) := by
  rw [f_Forms_differ, fb_xorI, bitCount_ok (Nat.xor_lt_two_pow (n := 12) ha hb), sm_some]
  rfl
theorem rdM {s : Nat → Int32} {B : Nat → Nat} (h : rBM B s) {g : Nat} (hg : g < 26) : rd s 65 ((3 : Int32) + nI g) = some (nI (B g)) := by
  rw [show (3 : Int32) + nI g = nI (3 + g) from nI_add 3 g, rd_nI (by omega) (by decide), h g hg]
theorem apartFrom_ok {s : Nat → Int32} {B : Nat → Nat} (h : rBM B s) (hB : okB B) {f g : Nat} (hf : f < 4096) (hg : g < 26) : f_M_apartFrom s (nI f) (nI g) = some (nI (dN (B g) f)) := by
  rw [f_M_apartFrom, rdM h hg, sm_some, fb_xorI, Mones_ok (Nat.xor_lt_two_pow (n := 12) hf (hB g hg)), sm_some, dN_comm]
  rfl
def enc : Option Nat → Int32
  | none => -1
  | some g => nI g
/-- the nearest among the first k signs -/
def nrU (B : Nat → Nat) (f : Nat) : Nat → Option Nat
  | 0 => none
  | k + 1 => if B k = 0 then nrU B f k else match nrU B f k with
    | none => some k
    | some b => if dN (B k) f < dN (B b) f then some k else some b
def nrP (B : Nat → Nat) (f lo hi : Nat) : Option Nat → Prop
  | none => ∀ g, lo ≤ g → g < hi → B g = 0
  | some b => lo ≤ b ∧ b < hi ∧ B b ≠ 0 ∧ ∀ g, lo ≤ g → g < hi → B g ≠ 0 → dN (B b) f ≤ dN (B g) f ∧ (g < b → dN (B b) f < dN (B g) f)
theorem nrP_one {B : Nat → Nat} {f lo hi : Nat} {o p : Option Nat} (h1 : nrP B f lo hi o) (h2 : nrP B f lo hi p) : o = p := by
  cases o with
  | none =>
    cases p with
    | none => rfl
    | some b => exact absurd (h1 b h2.1 h2.2.1) h2.2.2.1
  | some a =>
    cases p with
    | none => exact absurd (h2 a h1.1 h1.2.1) h1.2.2.1
    | some b =>
      obtain ⟨a1, a2, a3, a4⟩ := h1
      obtain ⟨b1, b2, b3, b4⟩ := h2
      have c1 := a4 b b1 b2 b3
      have c2 := b4 a a1 a2 a3
      congr 1
      rcases Nat.lt_or_ge a b with q | q
      · have := c2.2 q; omega
      · rcases Nat.lt_or_ge b a with q' | q'
        · have := c1.2 q'; omega
        · omega
theorem nrU_ok (B : Nat → Nat) (f : Nat) : ∀ k, nrP B f 0 k (nrU B f k) := by
  intro k
  induction k with
  | zero => intro g _ h; omega
  | succ k ih =>
    rw [nrU]
    by_cases h0 : B k = 0
    · rw [if_pos h0]
      cases ho : nrU B f k with
      | none =>
        rw [ho] at ih
        intro g h1 h2
        rcases Nat.lt_or_ge g k with q | q
        · exact ih g h1 q
        · obtain rfl : g = k := by omega
          exact h0
      | some b =>
        rw [ho] at ih
        obtain ⟨a1, a2, a3, a4⟩ := ih
        refine ⟨a1, by omega, a3, fun g h1 h2 h3 => ?_⟩
        rcases Nat.lt_or_ge g k with q | q
        · exact a4 g h1 q h3
        · obtain rfl : g = k := by omega
          exact absurd h0 h3
    · rw [if_neg h0]
      cases ho : nrU B f k with
      | none =>
        rw [ho] at ih
        refine ⟨Nat.zero_le k, by omega, h0, fun g h1 h2 h3 => ?_⟩
        rcases Nat.lt_or_ge g k with q | q
        · exact absurd (ih g h1 q) h3
        · obtain rfl : g = k := by omega
          exact ⟨Nat.le_refl _, fun z => by omega⟩
      | some b =>
        rw [ho] at ih
        obtain ⟨a1, a2, a3, a4⟩ := ih
        show nrP B f 0 (k + 1) (if dN (B k) f < dN (B b) f then some k else some b)
        by_cases hc : dN (B k) f < dN (B b) f
        · rw [if_pos hc]
          refine ⟨Nat.zero_le k, by omega, h0, fun g h1 h2 h3 => ?_⟩
          rcases Nat.lt_or_ge g k with q | q
          · have := a4 g h1 q h3
            exact ⟨by omega, fun _ => by omega⟩
          · obtain rfl : g = k := by omega
            exact ⟨Nat.le_refl _, fun z => by omega⟩
        · rw [if_neg hc]
          refine ⟨a1, by omega, a3, fun g h1 h2 h3 => ?_⟩
          rcases Nat.lt_or_ge g k with q | q
          · exact a4 g h1 q h3
          · obtain rfl : g = k := by omega
            exact ⟨by omega, fun z => by omega⟩
theorem near_loop {c : Nat → Int32} {B : Nat → Nat} (h : rBX B c) (hB : okB B) {f : Nat} (hf : f < 4096) : ∀ (j k fuel : Nat) (v3 : Int32), k + j = 26 → j < fuel → v3 = nI (match nrU B f k with | none => 13 | some b => dN (B b) f) → f_Book_nearest_b8 c (nI f) fuel (enc (nrU B f k)) v3 (nI k) = some (enc (nrU B f 26)) := by
  intro j
  induction j with
  | zero =>
    intro k fuel v3 h1 h2 _
    obtain ⟨n, rfl⟩ : ∃ n, fuel = n + 1 := ⟨fuel - 1, by omega⟩
    obtain rfl : k = 26 := by omega
    rw [f_Book_nearest_b8, if_pos (show (26 : Int32) ≤ nI 26 by decide)]
  | succ j ih =>
    intro k fuel v3 h1 h2 h3
    obtain ⟨n, rfl⟩ : ∃ n, fuel = n + 1 := ⟨fuel - 1, by omega⟩
    have hk := hB k (by omega)
    have hd := dN_le (B k) f
    have step := fun v3 => ih (k + 1) n v3 (by omega) (by omega)
    rw [nrU] at step
    rw [f_Book_nearest_b8, if_neg (show ¬ (26 : Int32) ≤ nI k from nge k 26 (by omega) (by decide)), rd_nI (by omega) (by decide), sm_some, h k (by omega), differ_ok hk hf, sm_some, sm_some, nI_1]
    by_cases h0 : B k = 0
    · simp only [if_pos h0] at step
      rw [if_pos (show nI (B k) = (0 : Int32) by rw [h0]; rfl)]
      exact step v3 h3
    · rw [if_neg (show ¬ nI (B k) = (0 : Int32) from nI_ne0 (by omega) (by omega))]
      simp only [if_neg h0] at step
      cases ho : nrU B f k with
      | none =>
        rw [ho] at h3 step
        rw [h3, if_neg (nge _ 13 (by omega) (by decide))]
        exact step _ rfl
      | some b =>
        rw [ho] at h3 step
        have hdb := dN_le (B b) f
        simp only [] at h3 step
        rw [h3]
        by_cases hc : dN (B k) f < dN (B b) f
        · rw [if_neg (nge _ _ hc (by omega))]
          simp only [if_pos hc] at step
          exact step _ rfl
        · rw [if_pos (nles _ _ (by omega) (by omega))]
          simp only [if_neg hc] at step
          exact step _ rfl
theorem nearest_ok {c : Nat → Int32} {B : Nat → Nat} (h : rBX B c) (hB : okB B) {f : Nat} (hf : f < 4096) : f_Book_nearest c (nI f) = some (enc (nrU B f 26)) := near_loop h hB hf 26 0 5000 13 rfl (by omega) rfl
/-- the number below k -/
def dwn : Nat → Int32
  | 0 => -1
  | k + 1 => nI k
theorem dwn_1 (k : Nat) : nI k + (-1) = dwn k := by
  cases k with
  | zero => decide
  | succ k => exact pk_m1 k
theorem enc_some (g : Nat) : enc (some g) = nI g := rfl
theorem readAs_loop {s : Nat → Int32} {B : Nat → Nat} (h : rBM B s) (hB : okB B) {f : Nat} (hf : f < 4096) : ∀ (k fuel : Nat) (o : Option Nat), k ≤ 26 → k < fuel → nrP B f k 26 o → ∃ p, f_M_readAs_b5 s (nI f) fuel (enc o) (dwn k) = some (enc p) ∧ nrP B f 0 26 p := by
  intro k
  induction k with
  | zero =>
    intro fuel o _ h2 ho
    obtain ⟨n, rfl⟩ : ∃ n, fuel = n + 1 := ⟨fuel - 1, by omega⟩
    refine ⟨o, ?_, ho⟩
    rw [f_M_readAs_b5, if_pos (by decide)]
  | succ k ih =>
    intro fuel o h1 h2 ho
    obtain ⟨n, rfl⟩ : ∃ n, fuel = n + 1 := ⟨fuel - 1, by omega⟩
    have hk := hB k (by omega)
    have hd := dN_le (B k) f
    rw [dwn, f_M_readAs_b5, if_neg (nI_pos (by omega)), rdM h (by omega), sm_some, dwn_1]
    by_cases h0 : B k = 0
    · rw [if_pos (show nI (B k) = (0 : Int32) by rw [h0]; rfl)]
      refine ih n o (by omega) (by omega) ?_
      cases o with
      | none =>
        intro g a b
        rcases Nat.lt_or_ge k g with q | q
        · exact ho g q b
        · obtain rfl : g = k := by omega
          exact h0
      | some b =>
        obtain ⟨a1, a2, a3, a4⟩ := ho
        refine ⟨by omega, a2, a3, fun g x y z => ?_⟩
        rcases Nat.lt_or_ge k g with q | q
        · exact a4 g q y z
        · obtain rfl : g = k := by omega
          exact absurd h0 z
    · rw [if_neg (show ¬ nI (B k) = (0 : Int32) from nI_ne0 (by omega) (by omega))]
      cases o with
      | none =>
        rw [if_pos (by decide : enc none < 0), f_M_readAs_b39, dwn_1]
        refine ih n (some k) (by omega) (by omega) ⟨Nat.le_refl k, by omega, h0, fun g x y z => ?_⟩
        rcases Nat.lt_or_ge k g with q | q
        · exact absurd (ho g q y) z
        · obtain rfl : g = k := by omega
          exact ⟨Nat.le_refl _, fun w => by omega⟩
      | some b =>
        obtain ⟨a1, a2, a3, a4⟩ := ho
        have hdb := dN_le (B b) f
        rw [enc_some, if_neg (nI_pos (by omega)), apartFrom_ok h hB hf (by omega), sm_some, apartFrom_ok h hB hf a2, sm_some]
        by_cases hc : dN (B b) f < dN (B k) f
        · rw [if_pos (nlts _ _ hc (by omega)), ← enc_some]
          refine ih n (some b) (by omega) (by omega) ⟨by omega, a2, a3, fun g x y z => ?_⟩
          rcases Nat.lt_or_ge k g with q | q
          · exact a4 g q y z
          · obtain rfl : g = k := by omega
            exact ⟨by omega, fun _ => hc⟩
        · rw [if_neg (nnlt _ _ (by omega) (by omega)), f_M_readAs_b39, dwn_1, ← enc_some]
          refine ih n (some k) (by omega) (by omega) ⟨Nat.le_refl k, by omega, h0, fun g x y z => ?_⟩
          rcases Nat.lt_or_ge k g with q | q
          · have := a4 g q y z
            exact ⟨by omega, fun w => by omega⟩
          · obtain rfl : g = k := by omega
            exact ⟨Nat.le_refl _, fun w => by omega⟩
theorem readAs_ok {s : Nat → Int32} {B : Nat → Nat} (h : rBM B s) (hB : okB B) {f : Nat} (hf : f < 4096) : f_M_readAs s (nI f) = some (enc (nrU B f 26)) := by
  obtain ⟨p, e1, e2⟩ := readAs_loop h hB hf 26 5000 none (Nat.le_refl 26) (by omega) (fun g a b => by omega)
  rw [nrP_one (nrU_ok B f 26) e2]
  exact e1
theorem isSign_yes {g : Nat} (h : g ≤ 25) : f_Book_isSign (nI g) = some 1 := by
  rw [f_Book_isSign, if_neg (nI_pos (by omega)), if_neg (show ¬ (26 : Int32) ≤ nI g from nge g 26 (by omega) (by decide))]
theorem isSign_no {a : Int32} (h : a < 0 ∨ nI 25 < a) : f_Book_isSign a = some 0 := by
  rw [f_Book_isSign]
  by_cases h0 : a < 0
  · rw [if_pos h0]
  · obtain ⟨j, hj, rfl⟩ := nI_of h0
    rcases h with h | h
    · exact absurd h h0
    · have : 25 < j := by
        rcases Nat.lt_or_ge 25 j with q | q
        · exact q
        · exact absurd h (nnlt j 25 q (by decide))
      rw [if_neg h0, if_pos (show (26 : Int32) ≤ nI j from nles 26 j (by omega) hj)]
theorem MisSign_yes {g : Nat} (h : g ≤ 25) : f_M_isSign (nI g) = some 1 := by
  rw [f_M_isSign, show (25 : Int32) = nI 25 from rfl, MinN_yes h (by decide), sm_some, bl1, sm_some]
theorem MisSign_no {a : Int32} (h : a < 0 ∨ nI 25 < a) : f_M_isSign a = some 0 := by
  rw [f_M_isSign, show (25 : Int32) = nI 25 from rfl, Min_no h, sm_some, bl0, sm_some]
theorem formAt_ok {c : Nat → Int32} {B : Nat → Nat} (h : rBX B c) {g : Nat} (hg : g ≤ 25) : f_Book_formAt c (nI g) = some (nI (B g)) := by
  rw [f_Book_formAt, isSign_yes hg, sm_some, if_neg (by decide), rd_nI (by omega) (by decide), sm_some, h g (by omega)]
theorem put_ok {c : Nat → Int32} {g : Nat} (hg : g ≤ 25) (x : Int32) : f_Book_put c (nI g) x = some (upd c g x) := by
  rw [f_Book_put, isSign_yes hg, sm_some, if_neg (by decide), wr_nI (by omega) (by decide), sm_some]
/-- the book with another form -/
def upB (B : Nat → Nat) (g f : Nat) : Nat → Nat := fun i => if i = g then f else B i
theorem rBX_up {B : Nat → Nat} {c : Nat → Int32} (h : rBX B c) (g f : Nat) : rBX (upB B g f) (upd c g (nI f)) := by
  intro i hi
  unfold upB upd
  by_cases e : i = g
  · simp [e]
  · simp [e, h i hi]
theorem rBM_up {B : Nat → Nat} {s : Nat → Int32} (h : rBM B s) (g f : Nat) : rBM (upB B g f) (upd s (3 + g) (nI f)) := by
  intro i hi
  unfold upB upd
  by_cases e : i = g
  · simp [e]
  · have : ¬ 3 + i = 3 + g := by omega
    simp [e, h i hi]
theorem okB_up {B : Nat → Nat} (h : okB B) (g f : Nat) (hf : f < 4096) : okB (upB B g f) := by
  intro i hi
  unfold upB
  split
  · exact hf
  · exact h i hi
theorem case_form {c d bf s : Nat → Int32} {B : Nat → Nat} (h : rF c d) (hb : rBX B bf) (hm : rBM B s) (a : Int32) : ∃ r c' d', f_S_form c bf a = some (r, c') ∧ f_M_form d s a = some (r, d') ∧ rF c' d' := by
  rcases rng a 25 (by decide) with ⟨g, hg, rfl⟩ | hn
  · refine ⟨nI (B g), c, d, ?_, ?_, h⟩
    · rw [f_S_form, isSign_yes hg, sm_some, if_neg (by decide), formAt_ok hb hg, sm_some]
    · rw [f_M_form, MisSign_yes hg, sm_some, if_neg (by decide), rdM hm (by omega), sm_some]
  · refine ⟨-1000000001, _, _, ?_, ?_, h.fin (k := 0) (by decide)⟩
    · rw [f_S_form, isSign_no hn, sm_some, if_pos rfl, fnd0, sm_some]
    · rw [f_M_form, MisSign_no hn, sm_some, if_pos rfl, mno0, sm_some]
/-- sign: either nothing but a finding, or a form at a sign -/
theorem case_sign {c d bf s : Nat → Int32} {B : Nat → Nat} (h : rF c d) (hb : rBX B bf) (hm : rBM B s) (a b : Int32) : (∃ r c' d', f_S_sign c bf a b = some (r, c', bf) ∧ f_M_sign d s a b = some (r, d', s) ∧ rF c' d') ∨ ∃ g f r, g ≤ 25 ∧ f ≤ 4095 ∧ f_S_sign c bf a b = some (r, c, upd bf g (nI f)) ∧ f_M_sign d s a b = some (r, d, upd s (3 + g) (nI f)) := by
  rcases rng a 25 (by decide) with ⟨g, hg, rfl⟩ | hn
  · rcases rng b 4095 (by decide) with ⟨f, hf, rfl⟩ | hn
    · refine Or.inr ⟨g, f, nI (B g), hg, hf, ?_, ?_⟩
      · rw [f_S_sign, isSign_yes hg, sm_some, if_neg (by decide), isForm_yes hf, sm_some, if_neg (by decide), formAt_ok hb hg, sm_some, put_ok hg, sm_some]
      · rw [f_M_sign, MisSign_yes hg, sm_some, if_neg (by decide), MisForm_yes hf, sm_some, if_neg (by decide), f_M_puts, rdM hm (by omega), sm_some, show (3 : Int32) + nI g = nI (3 + g) from nI_add 3 g, wr_nI (by omega) (by decide), sm_some, sm_some]
    · refine Or.inl ⟨-1000000001, _, _, ?_, ?_, h.fin (k := 0) (by decide)⟩
      · rw [f_S_sign, isSign_yes hg, sm_some, if_neg (by decide), isForm_no hn, sm_some, if_pos rfl, f_S_sign_b14, fnd0, sm_some]
      · rw [f_M_sign, MisSign_yes hg, sm_some, if_neg (by decide), MisForm_no hn, sm_some, if_pos rfl, f_M_sign_b25, mno0, sm_some]
  · refine Or.inl ⟨-1000000001, _, _, ?_, ?_, h.fin (k := 0) (by decide)⟩
    · rw [f_S_sign, isSign_no hn, sm_some, if_pos rfl, f_S_sign_b14, fnd0, sm_some]
    · rw [f_M_sign, MisSign_no hn, sm_some, if_pos rfl, f_M_sign_b25, mno0, sm_some]
theorem case_read {c d bf s : Nat → Int32} {B : Nat → Nat} (h : rF c d) (hb : rBX B bf) (hm : rBM B s) (hB : okB B) (a : Int32) : ∃ r c' d', f_S_read c bf a = some (r, c') ∧ f_M_read d s a = some (r, d') ∧ rF c' d' := by
  rcases rng a 4095 (by decide) with ⟨f, hf, rfl⟩ | hn
  · have h1 := nearest_ok hb hB (show f < 4096 by omega)
    have h2 := readAs_ok hm hB (show f < 4096 by omega)
    have hU := nrU_ok B f 26
    cases ho : nrU B f 26 with
    | none =>
      rw [ho] at h1 h2
      refine ⟨-1000000004, _, _, ?_, ?_, h.fin (k := 3) (by decide)⟩
      · rw [f_S_read, isForm_yes hf, sm_some, if_neg (by decide), h1, sm_some, if_neg (by decide), fnd3, sm_some]
      · rw [f_M_read, MisForm_yes hf, sm_some, if_neg (by decide), h2, sm_some, if_neg (by decide), mno3, sm_some]
    | some g =>
      rw [ho] at h1 h2 hU
      have hg := hU.2.1
      refine ⟨nI g, c, d, ?_, ?_, h⟩
      · rw [f_S_read, isForm_yes hf, sm_some, if_neg (by decide), h1, sm_some, enc_some, if_pos (nI_pos' (by omega))]
      · rw [f_M_read, MisForm_yes hf, sm_some, if_neg (by decide), h2, sm_some, enc_some, if_pos (nI_pos' (by omega))]
  · refine ⟨-1000000001, _, _, ?_, ?_, h.fin (k := 0) (by decide)⟩
    · rw [f_S_read, isForm_no hn, sm_some, if_pos rfl, fnd0, sm_some]
    · rw [f_M_read, MisForm_no hn, sm_some, if_pos rfl, mno0, sm_some]
