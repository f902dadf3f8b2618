-- ===== THE TEXT: bytes, runs, words, numbers =====
def rTb (T : Nat) (g : Nat → Nat) (bs tp : Nat → Int32) : Prop := T ≤ 120 ∧ ∀ i, i < T → bs i &&& 255 = nI (g i) ∧ tp i = nI (g i) ∧ g i < 256
theorem rTp.bytes {T : Nat} {bs tp : Nat → Int32} (h : rTp T bs tp) : ∃ g, rTb T g bs tp := by
  refine ⟨fun i => (tp i).toNatClampNeg, h.1, fun i hi => ?_⟩
  obtain ⟨e1, b, hb, e2⟩ := h.2 i hi
  have e3 : (tp i).toNatClampNeg = b := by rw [e2, nI_clamp (by omega)]
  show bs i &&& 255 = nI (tp i).toNatClampNeg ∧ tp i = nI (tp i).toNatClampNeg ∧ (tp i).toNatClampNeg < 256
  rw [e3, e1, e2]
  exact ⟨rfl, rfl, hb⟩
def tyN (b : Nat) : Nat := if 97 ≤ b ∧ b ≤ 122 then 1 else if 48 ≤ b ∧ b ≤ 57 then 2 else if b = 59 then 3 else if b = 32 then 0 else 4
theorem typeOf_ok : ∀ b, b < 256 → f_Tokens_typeOf (nI b) = some (nI (tyN b)) := by decide +kernel
theorem isLow_ok : ∀ b, b < 256 → f_M_isLow (nI b) = some (if tyN b = 1 then 1 else 0) := by decide +kernel
theorem isDigit_ok : ∀ b, b < 256 → f_M_isDigit (nI b) = some (if tyN b = 2 then 1 else 0) := by decide +kernel
theorem blank_ok : ∀ b, b < 256 → (nI b = (32 : Int32) ↔ tyN b = 0) := by decide +kernel
theorem semi_ok : ∀ b, b < 256 → (nI b = (59 : Int32) ↔ tyN b = 3) := by decide +kernel
theorem isLow_end : f_M_isLow (-1) = some 0 := by decide
theorem isDigit_end : f_M_isDigit (-1) = some 0 := by decide
theorem digit_rng : ∀ b, b < 256 → tyN b = 2 → 48 ≤ b ∧ b ≤ 57 := by decide +kernel
theorem tyN_le (b : Nat) : tyN b ≤ 4 := by
  unfold tyN
  repeat' split
  all_goals omega
/-- a run of bytes of one type -/
def Rn (T : Nat) (g : Nat → Nat) (c h e : Nat) : Prop := h ≤ e ∧ e ≤ T ∧ (∀ i, h ≤ i → i < e → tyN (g i) = c) ∧ (e < T → tyN (g e) ≠ c)
section TX
variable {T : Nat} {g : Nat → Nat} {bs tp : Nat → Int32}
theorem Rn_ex (T : Nat) (g : Nat → Nat) (c : Nat) : ∀ (j h : Nat), h + j = T → ∃ e, Rn T g c h e := by
  intro j
  induction j with
  | zero =>
    intro h hh
    exact ⟨h, Nat.le_refl _, by omega, fun i h1 h2 => by omega, fun h1 => by omega⟩
  | succ j ih =>
    intro h hh
    by_cases q : tyN (g h) = c
    · obtain ⟨e, h1, h2, h3, h4⟩ := ih (h + 1) (by omega)
      refine ⟨e, by omega, h2, fun i h5 h6 => ?_, h4⟩
      by_cases e1 : i = h
      · rw [e1]; exact q
      · exact h3 i (by omega) h6
    · exact ⟨h, Nat.le_refl _, by omega, fun i h1 h2 => by omega, fun _ => q⟩
theorem Rn_of (c : Nat) {h : Nat} (hh : h ≤ T) : ∃ e, Rn T g c h e := Rn_ex T g c (T - h) h (by omega)
theorem Rn.step {c h e : Nat} (hr : Rn T g c h e) (hlt : h < e) : Rn T g c (h + 1) e := ⟨hlt, hr.2.1, fun i h1 h2 => hr.2.2.1 i (by omega) h2, hr.2.2.2⟩
theorem Rn.back {c h e : Nat} (hr : Rn T g c (h + 1) e) (hc : tyN (g h) = c) : Rn T g c h e := by
  have h1 := hr.1
  refine ⟨by omega, hr.2.1, fun i h5 h6 => ?_, hr.2.2.2⟩
  by_cases e1 : i = h
  · rw [e1]; exact hc
  · exact hr.2.2.1 i (by omega) h6
theorem Rn.stay {c h e : Nat} (hr : Rn T g c h e) (hc : h < T → tyN (g h) ≠ c) : e = h := by
  have h1 := hr.1
  have h2 := hr.2.1
  rcases Nat.lt_or_ge h e with q | q
  · exact absurd (hr.2.2.1 h (Nat.le_refl _) q) (hc (by omega))
  · omega
theorem byteX {i : Nat} (h : rTb T g bs tp) (hi : i < T) : f_Tape_byteAt (nI T) bs (nI i) = some (nI (g i)) := by
  have hT := h.1
  rw [f_Tape_byteAt, if_neg (nI_pos (by omega)), if_neg (nge i T hi (by omega)), rd_nI (by omega) (by decide), sm_some, (h.2 i hi).1]
theorem byteM {i : Nat} (h : rTb T g bs tp) (hi : i < T) : f_M_byteAt (nI T) tp (nI i) = some (nI (g i)) := by
  have hT := h.1
  rw [f_M_byteAt, if_neg (nge i T hi (by omega)), rd_nI (by omega) (by decide), sm_some, (h.2 i hi).2.1]
theorem byteM_end {i : Nat} (hi : T ≤ i) (h : i < 2147483648) : f_M_byteAt (nI T) tp (nI i) = some (-1) := by rw [f_M_byteAt, if_pos (nles T i hi h)]
theorem blanks_loop (ht : rTb T g bs tp) {e : Nat} : ∀ (j h fuel : Nat), h + j = e → j < fuel → Rn T g 0 h e → f_M_blanks_b0 (nI T) tp fuel (nI h) = some (nI e) := by
  intro j
  have hT := ht.1
  induction j with
  | zero =>
    intro h fuel h1 h2 hr
    obtain ⟨n, rfl⟩ : ∃ n, fuel = n + 1 := ⟨fuel - 1, by omega⟩
    obtain rfl : h = e := by omega
    have he := hr.2.1
    by_cases q : h < T
    · rw [f_M_blanks_b0, byteM ht q, sm_some, if_neg (fun z => hr.2.2.2 q ((blank_ok _ (ht.2 h q).2.2).mp z))]
    · rw [f_M_blanks_b0, byteM_end (by omega) (by omega), sm_some, if_neg (by decide)]
  | succ j ih =>
    intro h fuel h1 h2 hr
    obtain ⟨n, rfl⟩ : ∃ n, fuel = n + 1 := ⟨fuel - 1, by omega⟩
    have he := hr.2.1
    have q : h < T := by omega
    rw [f_M_blanks_b0, byteM ht q, sm_some, if_pos ((blank_ok _ (ht.2 h q).2.2).mpr (hr.2.2.1 h (Nat.le_refl _) (by omega))), nI_1]
    exact ih (h + 1) n (by omega) (by omega) (hr.step (by omega))
theorem blanks_ok (ht : rTb T g bs tp) {h e : Nat} (hr : Rn T g 0 h e) : f_M_blanks (nI T) (nI h) tp = some (nI e) := by
  have h1 := hr.1
  have h2 := hr.2.1
  have h3 := ht.1
  rw [f_M_blanks]
  exact blanks_loop ht (e - h) h 5000 (by omega) (by omega) hr
theorem wordEnd_loop (ht : rTb T g bs tp) {e : Nat} (x : Int32) : ∀ (j h fuel : Nat), h + j = e → j < fuel → Rn T g 1 h e → f_M_wordEnd_b5 (nI T) x tp fuel (nI h) = some (nI e) := by
  intro j
  have hT := ht.1
  induction j with
  | zero =>
    intro h fuel h1 h2 hr
    obtain ⟨n, rfl⟩ : ∃ n, fuel = n + 1 := ⟨fuel - 1, by omega⟩
    obtain rfl : h = e := by omega
    have he := hr.2.1
    by_cases q : h < T
    · rw [f_M_wordEnd_b5, byteM ht q, sm_some, isLow_ok _ (ht.2 h q).2.2, sm_some, if_neg (hr.2.2.2 q), if_pos rfl]
    · rw [f_M_wordEnd_b5, byteM_end (by omega) (by omega), sm_some, isLow_end, sm_some, if_pos rfl]
  | succ j ih =>
    intro h fuel h1 h2 hr
    obtain ⟨n, rfl⟩ : ∃ n, fuel = n + 1 := ⟨fuel - 1, by omega⟩
    have he := hr.2.1
    have q : h < T := by omega
    rw [f_M_wordEnd_b5, byteM ht q, sm_some, isLow_ok _ (ht.2 h q).2.2, sm_some, if_pos (hr.2.2.1 h (Nat.le_refl _) (by omega)), if_neg (by decide), nI_1]
    exact ih (h + 1) n (by omega) (by omega) (hr.step (by omega))
theorem wordEnd_ok (ht : rTb T g bs tp) {h e : Nat} (hr : Rn T g 1 h e) : f_M_wordEnd (nI T) (nI h) tp = some (nI e) := by
  have h1 := hr.1
  have h2 := hr.2.1
  have h3 := ht.1
  rw [f_M_wordEnd]
  exact wordEnd_loop ht _ (e - h) h 5000 (by omega) (by omega) hr
theorem endOf_loop (ht : rTb T g bs tp) {e c : Nat} (hc : c ≤ 4) (x : Int32) : ∀ (j h fuel : Nat), h + j = e → j < fuel → Rn T g c h e → f_Tokens_endOf_b21 (nI T) bs x (nI c) fuel (nI h) 1 = some (nI e) := by
  intro j
  have hT := ht.1
  induction j with
  | zero =>
    intro h fuel h1 h2 hr
    obtain ⟨n, rfl⟩ : ∃ n, fuel = n + 1 := ⟨fuel - 1, by omega⟩
    obtain rfl : h = e := by omega
    have he := hr.2.1
    by_cases q : h < T
    · have hz := tyN_le (g h)
      rw [f_Tokens_endOf_b21, if_neg (by decide), if_neg (nge h T q (by omega)), byteX ht q, sm_some, typeOf_ok _ (ht.2 h q).2.2, sm_some, if_neg (nI_nq (by omega) (by omega) (hr.2.2.2 q))]
    · rw [f_Tokens_endOf_b21, if_neg (by decide), if_pos (nles T h (by omega) (by omega))]
  | succ j ih =>
    intro h fuel h1 h2 hr
    obtain ⟨n, rfl⟩ : ∃ n, fuel = n + 1 := ⟨fuel - 1, by omega⟩
    have he := hr.2.1
    have q : h < T := by omega
    rw [f_Tokens_endOf_b21, if_neg (by decide), if_neg (nge h T q (by omega)), byteX ht q, sm_some, typeOf_ok _ (ht.2 h q).2.2, sm_some, if_pos (congrArg nI (hr.2.2.1 h (Nat.le_refl _) (by omega))), nI_1]
    exact ih (h + 1) n (by omega) (by omega) (hr.step (by omega))
/-- a token's end -/
def En (T : Nat) (g : Nat → Nat) (a e : Nat) : Prop := a < e ∧ e ≤ T ∧ (tyN (g a) = 1 → Rn T g 1 a e) ∧ (tyN (g a) = 2 → Rn T g 2 a e) ∧ (tyN (g a) ≠ 1 → tyN (g a) ≠ 2 → e = a + 1)
theorem endOf_ok (ht : rTb T g bs tp) {a : Nat} (ha : a < T) : ∃ e, En T g a e ∧ f_Tokens_endOf (nI T) bs (nI a) (nI (tyN (g a))) = some (nI e) := by
  have hT := ht.1
  by_cases q1 : tyN (g a) = 1
  · obtain ⟨e, hr⟩ := Rn_of (g := g) 1 (show a + 1 ≤ T by omega)
    have h1 := hr.1
    have h2 := hr.2.1
    refine ⟨e, ⟨by omega, h2, fun _ => hr.back q1, fun z => by omega, fun z => absurd q1 z⟩, ?_⟩
    rw [q1, f_Tokens_endOf, if_pos (by decide), f_Tokens_endOf_b14, nI_1]
    exact endOf_loop ht (c := 1) (by decide) _ (e - (a + 1)) (a + 1) 5000 (by omega) (by omega) hr
  · by_cases q2 : tyN (g a) = 2
    · obtain ⟨e, hr⟩ := Rn_of (g := g) 2 (show a + 1 ≤ T by omega)
      have h1 := hr.1
      have h2 := hr.2.1
      refine ⟨e, ⟨by omega, h2, fun z => by omega, fun _ => hr.back q2, fun _ z => absurd q2 z⟩, ?_⟩
      rw [q2, f_Tokens_endOf, if_neg (by decide), if_pos (by decide), f_Tokens_endOf_b14, nI_1]
      exact endOf_loop ht (c := 2) (by decide) _ (e - (a + 1)) (a + 1) 5000 (by omega) (by omega) hr
    · have hz := tyN_le (g a)
      refine ⟨a + 1, ⟨by omega, by omega, fun z => absurd z q1, fun z => absurd z q2, fun _ _ => rfl⟩, ?_⟩
      have hb : ∀ fuel, 0 < fuel → ∀ y, f_Tokens_endOf_b21 (nI T) bs (nI a) y fuel (nI (a + 1)) 0 = some (nI (a + 1)) := by
        intro fuel hf y
        obtain ⟨n, rfl⟩ : ∃ n, fuel = n + 1 := ⟨fuel - 1, by omega⟩
        rw [f_Tokens_endOf_b21, if_pos rfl]
      rw [f_Tokens_endOf, if_neg (show ¬ nI (tyN (g a)) = (1 : Int32) from nI_nq (b := 1) (by omega) (by decide) q1), if_neg (show ¬ nI (tyN (g a)) = (2 : Int32) from nI_nq (b := 2) (by omega) (by decide) q2), nI_1]
      exact hb 5000 (by decide) _
/-- the number of a run of digits, held at M -/
def nv (M : Nat) (g : Nat → Nat) (a : Nat) : Nat → Nat
  | 0 => 0
  | k + 1 => if 10 * nv M g a k + g (a + k) - 48 < M then 10 * nv M g a k + g (a + k) - 48 else M
theorem nv_le (M : Nat) (g : Nat → Nat) (a : Nat) : ∀ k, nv M g a k ≤ M := by
  intro k
  cases k with
  | zero => exact Nat.zero_le _
  | succ k =>
    rw [nv]
    split <;> omega
theorem nv_two {a e : Nat} (hd : ∀ i, a ≤ i → i < e → 48 ≤ g i ∧ g i ≤ 57) : ∀ k, a + k ≤ e → (nv 4096 g a k = nv 99999 g a k ∧ nv 4096 g a k ≤ 4095) ∨ (nv 4096 g a k = 4096 ∧ 4096 ≤ nv 99999 g a k) := by
  intro k
  induction k with
  | zero => intro _; exact Or.inl ⟨rfl, Nat.zero_le _⟩
  | succ k ih =>
    intro hk
    have h1 := hd (a + k) (by omega) (by omega)
    rw [nv, nv]
    rcases ih (by omega) with ⟨e1, e2⟩ | ⟨e1, e2⟩
    · rw [← e1]
      split
      · rw [if_pos (by omega)]
        exact Or.inl ⟨rfl, by omega⟩
      · refine Or.inr ⟨rfl, ?_⟩
        split <;> omega
    · rw [e1, if_neg (by omega)]
      refine Or.inr ⟨rfl, ?_⟩
      split <;> omega
theorem numX_loop (ht : rTb T g bs tp) {a e : Nat} (he : e ≤ T) (hd : ∀ i, a ≤ i → i < e → 48 ≤ g i ∧ g i ≤ 57) (x : Int32) : ∀ (j k fuel : Nat), a + k + j = e → j < fuel → f_Tokens_numberIn_b5 (nI T) bs x (nI e) fuel (nI (nv 4096 g a k)) (nI (a + k)) = some (nI (nv 4096 g a (k + j))) := by
  intro j
  have hT := ht.1
  induction j with
  | zero =>
    intro k fuel h1 h2
    obtain ⟨n, rfl⟩ : ∃ n, fuel = n + 1 := ⟨fuel - 1, by omega⟩
    rw [f_Tokens_numberIn_b5, if_pos (nles _ _ (by omega) (by omega))]
    rfl
  | succ j ih =>
    intro k fuel h1 h2
    obtain ⟨n, rfl⟩ : ∃ n, fuel = n + 1 := ⟨fuel - 1, by omega⟩
    have hq := hd (a + k) (by omega) (by omega)
    have hl := nv_le 4096 g a k
    have ex : (if nI (nv 4096 g a k) * (10 : Int32) + nI (g (a + k)) - (48 : Int32) < (4096 : Int32) then nI (nv 4096 g a k) * (10 : Int32) + nI (g (a + k)) - (48 : Int32) else (4096 : Int32)) = nI (nv 4096 g a (k + 1)) := by
      rw [show (10 : Int32) = nI 10 from rfl, show (48 : Int32) = nI 48 from rfl, show (4096 : Int32) = nI 4096 from rfl, pk_mul, nI_add, pk_sub (by omega), show nv 4096 g a k * 10 + g (a + k) - 48 = 10 * nv 4096 g a k + g (a + k) - 48 by omega, nv]
      by_cases q : 10 * nv 4096 g a k + g (a + k) - 48 < 4096
      · rw [if_pos (nlts _ _ q (by decide)), if_pos q]
      · rw [if_neg (nnlt _ _ (by omega) (by omega)), if_neg q]
    rw [f_Tokens_numberIn_b5, if_neg (nge _ _ (by omega) (by omega)), byteX ht (by omega), sm_some, kl, ex, nI_1, show a + k + 1 = a + (k + 1) by omega, show k + (j + 1) = k + 1 + j by omega]
    exact ih (k + 1) n (by omega) (by omega)
theorem numX_ok (ht : rTb T g bs tp) {a e : Nat} (hr : Rn T g 2 a e) : f_Tokens_numberIn (nI T) bs (nI a) (nI e) = some (nI (nv 4096 g a (e - a))) := by
  have h1 := hr.1
  have h2 := hr.2.1
  have hT := ht.1
  have := numX_loop ht h2 (fun i h3 h4 => digit_rng _ (ht.2 i (by omega)).2.2 (hr.2.2.1 i h3 h4)) (nI a) (e - a) 0 5000 (by omega) (by omega)
  rw [f_Tokens_numberIn]
  rw [Nat.zero_add] at this
  exact this
theorem numX_one (ht : rTb T g bs tp) {a : Nat} (ha : a < T) : ∃ v, f_Tokens_numberIn (nI T) bs (nI a) (nI (a + 1)) = some v := by
  have hT := ht.1
  have hb : ∀ fuel, 1 < fuel → ∀ x, ∃ v, f_Tokens_numberIn_b5 (nI T) bs x (nI (a + 1)) fuel 0 (nI a) = some v := by
    intro fuel hf x
    obtain ⟨n, rfl⟩ : ∃ n, fuel = n + 1 + 1 := ⟨fuel - 2, by omega⟩
    rw [f_Tokens_numberIn_b5, if_neg (nge _ _ (by omega) (by omega)), byteX ht ha, sm_some, kl, nI_1, f_Tokens_numberIn_b5, if_pos (nles _ _ (by omega) (by omega))]
    exact ⟨_, rfl⟩
  rw [f_Tokens_numberIn]
  exact hb 5000 (by decide) _
theorem numM_loop (ht : rTb T g bs tp) {a e m : Nat} (hr : Rn T g 2 a e) (hm : m ≤ 4095) (val : Int32) : ∀ (j k fuel : Nat), a + k + j = e → j < fuel → f_M_number_b38 (nI T) tp 0 (nI m) fuel (nI a) (-1) val (lN (nv 99999 g a k)) (nI (a + k)) = if nv 99999 g a (k + j) ≤ m then some (1, nI e, -1, nI (nv 99999 g a (k + j))) else some (0, nI a, nI a, val) := by
  intro j
  have hT := ht.1
  have he := hr.2.1
  have e0 : (0 : Int32).toInt64 = lN 0 := by decide
  have hd : ∀ i, a ≤ i → i < e → 48 ≤ g i ∧ g i ≤ 57 := fun i h3 h4 => digit_rng _ (ht.2 i (by omega)).2.2 (hr.2.2.1 i h3 h4)
  induction j with
  | zero =>
    intro k fuel h1 h2
    obtain ⟨n, rfl⟩ : ∃ n, fuel = n + 1 := ⟨fuel - 1, by omega⟩
    obtain rfl : a + k = e := by omega
    have hl := nv_le 99999 g a k
    have hbit : ∃ b, f_M_byteAt (nI T) tp (nI (a + k)) = some b ∧ f_M_isDigit b = some 0 := by
      by_cases q : a + k < T
      · exact ⟨_, byteM ht q, by rw [isDigit_ok _ (ht.2 _ q).2.2, if_neg (hr.2.2.2 q)]⟩
      · exact ⟨_, byteM_end (by omega) (by omega), isDigit_end⟩
    obtain ⟨b, hb1, hb2⟩ := hbit
    rw [f_M_number_b38, hb1, sm_some, hb2, sm_some, if_pos rfl, e0, if_neg (fun z => by rw [lg_cmp_lt, pk_lLT (by omega) (by decide)] at z; omega), nI_l (by omega), Nat.add_zero]
    by_cases q : nv 99999 g a k ≤ m
    · rw [if_pos ((lg_cmp_le _ _).mpr ((pk_lLE (by omega) (by omega)).mpr q)), if_pos q, lN_i]
    · rw [if_neg (fun z => q ((pk_lLE (by omega) (by omega)).mp ((lg_cmp_le _ _).mp z))), if_neg q, f_M_number_b94, f_M_fails, if_neg (by decide), f_M_fails_b19, sm_some, bl0, sm_some]
  | succ j ih =>
    intro k fuel h1 h2
    obtain ⟨n, rfl⟩ : ∃ n, fuel = n + 1 := ⟨fuel - 1, by omega⟩
    have hq := hd (a + k) (by omega) (by omega)
    have hl := nv_le 99999 g a k
    have ex : (if (10 : Int64) * lN (nv 99999 g a k) + (nI (g (a + k))).toInt64 - (48 : Int64) < (99999 : Int64) then (10 : Int64) * lN (nv 99999 g a k) + (nI (g (a + k))).toInt64 - (48 : Int64) else (99999 : Int64)) = lN (nv 99999 g a (k + 1)) := by
      rw [show (10 : Int64) = lN 10 from rfl, show (48 : Int64) = lN 48 from rfl, show (99999 : Int64) = lN 99999 from rfl, lN_mul, nI_l (by omega), lN_add, lN_sub (by omega), nv]
      by_cases q : 10 * nv 99999 g a k + g (a + k) - 48 < 99999
      · rw [if_pos ((pk_lLT (by omega) (by decide)).mpr q), if_pos q]
      · rw [if_neg (fun z => q ((pk_lLT (by omega) (by decide)).mp z)), if_neg q]
    have hty : tyN (g (a + k)) = 2 := hr.2.2.1 _ (by omega) (by omega)
    rw [f_M_number_b38, byteM ht (by omega), sm_some, isDigit_ok _ (ht.2 _ (by omega)).2.2, if_pos hty, sm_some, if_neg (by decide), sm_some, kl, ex, nI_1, show a + k + 1 = a + (k + 1) by omega, show k + (j + 1) = k + 1 + j by omega]
    exact ih (k + 1) n (by omega) (by omega)
/-- a word's spelling -/
def lnW (w : Nat) : Nat := sLen.getD w 0
def chW (w i : Nat) : Int32 := (sByt.getD w []).getD i 0 &&& 255
def Spl (g : Nat → Nat) (a e w : Nat) : Prop := e = a + lnW w ∧ ∀ i, i < lnW w → nI (g (a + i)) = chW w i
theorem lnW_le : ∀ w, w < 12 → lnW w ≤ 10 := by decide
theorem lnW_pos : ∀ w, w < 11 → 0 < lnW w := by decide
theorem W_one : ∀ w, w < 11 → ∀ v, v < 11 → lnW w = lnW v → (∀ i, i < lnW w → chW w i = chW v i) → w = v := by decide +kernel
theorem Spl.one {a e w v : Nat} (h1 : Spl g a e w) (h2 : Spl g a e v) (hw : w < 11) (hv : v < 11) : w = v := by
  have h3 : lnW w = lnW v := by
    have := h1.1
    have := h2.1
    omega
  exact W_one w hw v hv h3 (fun i hi => by rw [← h1.2 i hi, h2.2 i (by omega)])
theorem length_ok {w : Nat} (hw : w < 12) : f_Str_length w = some (nI (lnW w)) := by
  rw [f_Str_length, if_pos hw]
  rfl
theorem charAt_ok {w i : Nat} (hw : w < 12) (hi : i < lnW w) : f_Str_charAt w (nI i) = some (chW w i) := by
  have := lnW_le w hw
  rw [f_Str_charAt, if_pos hw]
  exact rd_nI hi (show lnW w < 2 ^ 31 by omega)
theorem spX_loop (ht : rTb T g bs tp) {a w : Nat} (hw : w < 12) (he : a + lnW w ≤ T) (x : Int32) : ∀ (j i fuel : Nat), i + j = lnW w → j < fuel → (f_Tokens_isSpelt_b15 (nI T) bs (nI a) x w fuel (nI i) = some 1 ∧ ∀ k, i ≤ k → k < lnW w → nI (g (a + k)) = chW w k) ∨ (f_Tokens_isSpelt_b15 (nI T) bs (nI a) x w fuel (nI i) = some 0 ∧ ∃ k, k < lnW w ∧ ¬ nI (g (a + k)) = chW w k) := by
  intro j
  have hT := ht.1
  have hl := lnW_le w hw
  induction j with
  | zero =>
    intro i fuel h1 h2
    obtain ⟨n, rfl⟩ : ∃ n, fuel = n + 1 := ⟨fuel - 1, by omega⟩
    refine Or.inl ⟨?_, fun k h3 h4 => by omega⟩
    rw [f_Tokens_isSpelt_b15, length_ok hw, sm_some, if_pos (nles _ _ (by omega) (by omega))]
  | succ j ih =>
    intro i fuel h1 h2
    obtain ⟨n, rfl⟩ : ∃ n, fuel = n + 1 := ⟨fuel - 1, by omega⟩
    rw [f_Tokens_isSpelt_b15, length_ok hw, sm_some, if_neg (nge _ _ (by omega) (by omega)), nI_add, byteX ht (by omega), sm_some, charAt_ok hw (by omega), sm_some, nI_1]
    by_cases q : nI (g (a + i)) = chW w i
    · rw [if_pos q]
      rcases ih (i + 1) n (by omega) (by omega) with ⟨e1, e2⟩ | ⟨e1, e2⟩
      · refine Or.inl ⟨e1, fun k h3 h4 => ?_⟩
        by_cases ek : k = i
        · rw [ek]; exact q
        · exact e2 k (by omega) h4
      · exact Or.inr ⟨e1, e2⟩
    · rw [if_neg q]
      exact Or.inr ⟨rfl, i, by omega, q⟩
theorem spX_ok (ht : rTb T g bs tp) {a e w : Nat} (hw : w < 12) (ha : a ≤ e) (he : e ≤ T) : (f_Tokens_isSpelt (nI T) bs (nI a) (nI e) w = some 1 ∧ Spl g a e w) ∨ (f_Tokens_isSpelt (nI T) bs (nI a) (nI e) w = some 0 ∧ ¬ Spl g a e w) := by
  have hT := ht.1
  have hl := lnW_le w hw
  rw [f_Tokens_isSpelt, length_ok hw, sm_some, pk_sub ha]
  by_cases q : e - a = lnW w
  · rw [if_pos (congrArg nI q)]
    rcases spX_loop ht hw (a := a) (by omega) (nI e) (lnW w) 0 5000 (by omega) (by omega) with ⟨e1, e2⟩ | ⟨e1, k, e2, e3⟩
    · exact Or.inl ⟨e1, by omega, fun i hi => e2 i (by omega) hi⟩
    · exact Or.inr ⟨e1, fun z => e3 (z.2 k e2)⟩
  · rw [if_neg (nI_nq (by omega) (by omega) q)]
    exact Or.inr ⟨rfl, fun z => q (by have := z.1; omega)⟩
theorem spM_loop (ht : rTb T g bs tp) {a w : Nat} (hw : w < 12) (he : a + lnW w ≤ T) : ∀ (j i fuel : Nat), i + j = lnW w → j < fuel → (f_M_isWord_b28 (nI T) tp w fuel (nI a) 1 (nI i) = some (1, nI a) ∧ ∀ k, i ≤ k → k < lnW w → nI (g (a + k)) = chW w k) ∨ (f_M_isWord_b28 (nI T) tp w fuel (nI a) 1 (nI i) = some (0, nI a) ∧ ∃ k, k < lnW w ∧ ¬ nI (g (a + k)) = chW w k) := by
  intro j
  have hT := ht.1
  have hl := lnW_le w hw
  induction j with
  | zero =>
    intro i fuel h1 h2
    obtain ⟨n, rfl⟩ : ∃ n, fuel = n + 1 := ⟨fuel - 1, by omega⟩
    refine Or.inl ⟨?_, fun k h3 h4 => by omega⟩
    rw [f_M_isWord_b28, length_ok hw, sm_some, if_pos (nles _ _ (by omega) (by omega)), bl1, sm_some]
  | succ j ih =>
    intro i fuel h1 h2
    obtain ⟨n, rfl⟩ : ∃ n, fuel = n + 1 := ⟨fuel - 1, by omega⟩
    rw [f_M_isWord_b28, length_ok hw, sm_some, if_neg (nge _ _ (by omega) (by omega)), if_neg (by decide), nI_add, byteM ht (by omega), sm_some, charAt_ok hw (by omega), sm_some]
    by_cases q : nI (g (a + i)) = chW w i
    · rw [if_pos q, f_M_isWord_b63, nI_1]
      rcases ih (i + 1) n (by omega) (by omega) with ⟨e1, e2⟩ | ⟨e1, e2⟩
      · refine Or.inl ⟨e1, fun k h3 h4 => ?_⟩
        by_cases ek : k = i
        · rw [ek]; exact q
        · exact e2 k (by omega) h4
      · exact Or.inr ⟨e1, e2⟩
    · rw [if_neg q, f_M_isWord_b63, nI_1]
      refine Or.inr ⟨?_, i, by omega, q⟩
      obtain ⟨m, rfl⟩ : ∃ m, n = m + 1 := ⟨n - 1, by omega⟩
      rw [f_M_isWord_b28, length_ok hw, sm_some, if_pos rfl, bl0, sm_some]
      split <;> rfl
theorem isWord_ok (ht : rTb T g bs tp) {h a e w : Nat} (hw : w < 12) (h0 : Rn T g 0 h a) (h1 : Rn T g 1 a e) : (f_M_isWord (nI T) (nI h) tp w = some (1, nI a) ∧ Spl g a e w) ∨ (f_M_isWord (nI T) (nI h) tp w = some (0, nI a) ∧ ¬ Spl g a e w) := by
  have hT := ht.1
  have hl := lnW_le w hw
  have ha := h1.1
  have he := h1.2.1
  rw [f_M_isWord, blanks_ok ht h0, sm_some, wordEnd_ok ht h1, sm_some, length_ok hw, sm_some, pk_sub ha]
  by_cases q : e - a = lnW w
  · rw [if_pos (congrArg nI q), f_M_isWord_b25]
    rcases spM_loop ht hw (a := a) (by omega) (lnW w) 0 5000 (by omega) (by omega) with ⟨e1, e2⟩ | ⟨e1, k, e2, e3⟩
    · exact Or.inl ⟨e1, by omega, fun i hi => e2 i (by omega) hi⟩
    · exact Or.inr ⟨e1, fun z => e3 (z.2 k e2)⟩
  · rw [if_neg (nI_nq (by omega) (by omega) q), f_M_isWord_b25]
    refine Or.inr ⟨?_, fun z => q (by have := z.1; omega)⟩
    have hb : ∀ fuel, 0 < fuel → f_M_isWord_b28 (nI T) tp w fuel (nI a) 0 0 = some (0, nI a) := by
      intro fuel hf
      obtain ⟨m, rfl⟩ : ∃ m, fuel = m + 1 := ⟨fuel - 1, by omega⟩
      rw [f_M_isWord_b28, length_ok hw, sm_some, if_pos rfl, bl0, sm_some]
      split <;> rfl
    exact hb 5000 (by decide)
/-- a word's value -/
def WV (g : Nat → Nat) (a e : Nat) (v : Int32) : Prop := (∃ w, w < 11 ∧ v = nI w ∧ Spl g a e w) ∨ (v = -1 ∧ ∀ w, w < 11 → ¬ Spl g a e w)
theorem spelling_ok : ∀ w, w < 11 → f_Tokens_spellingOf (nI w) = some w := by decide
theorem wordIn_loop (ht : rTb T g bs tp) {a e : Nat} (ha : a ≤ e) (he : e ≤ T) : ∀ (j i fuel : Nat), i + j = 11 → j < fuel → (∀ w, w < i → ¬ Spl g a e w) → ∃ v, f_Tokens_wordIn_b2 (nI T) bs (nI a) (nI e) fuel (nI i) = some v ∧ WV g a e v := by
  intro j
  induction j with
  | zero =>
    intro i fuel h1 h2 h3
    obtain ⟨n, rfl⟩ : ∃ n, fuel = n + 1 := ⟨fuel - 1, by omega⟩
    obtain rfl : i = 11 := by omega
    exact ⟨-1, by rw [f_Tokens_wordIn_b2, if_pos (by decide)], Or.inr ⟨rfl, h3⟩⟩
  | succ j ih =>
    intro i fuel h1 h2 h3
    obtain ⟨n, rfl⟩ : ∃ n, fuel = n + 1 := ⟨fuel - 1, by omega⟩
    rw [f_Tokens_wordIn_b2, if_neg (show ¬ (11 : Int32) ≤ nI i from nge i 11 (by omega) (by decide)), spelling_ok i (by omega), sm_some]
    rcases spX_ok ht (w := i) (by omega) ha he with ⟨e1, e2⟩ | ⟨e1, e2⟩
    · rw [e1, sm_some, if_neg (by decide)]
      exact ⟨_, rfl, Or.inl ⟨i, by omega, rfl, e2⟩⟩
    · rw [e1, sm_some, if_pos rfl, nI_1]
      exact ih (i + 1) n (by omega) (by omega) (fun w hw => by
        by_cases q : w = i
        · rw [q]; exact e2
        · exact h3 w (by omega))
theorem wordIn_ok (ht : rTb T g bs tp) {a e : Nat} (ha : a ≤ e) (he : e ≤ T) : ∃ v, f_Tokens_wordIn (nI T) bs (nI a) (nI e) = some v ∧ WV g a e v := by
  rw [f_Tokens_wordIn]
  exact wordIn_loop ht ha he 11 0 5000 rfl (by decide) (fun w hw => by omega)
end TX
