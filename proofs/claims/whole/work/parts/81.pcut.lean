-- ===== THE TEXT: tokens on both sides =====
/-- the k-th token -/
def TkR (T : Nat) (g : Nat → Nat) (p q : Nat → Nat) (st ty vl : Nat → Int32) (k : Nat) : Prop :=
  (p k < T ∧ tyN (g (p k)) ≠ 0) ∧ En T g (p k) (q k) ∧ Rn T g 0 (q k) (p (k + 1)) ∧ st k = nI (p k) ∧ ty k = nI (tyN (g (p k))) ∧ (tyN (g (p k)) = 1 → WV g (p k) (q k) (vl k)) ∧ (tyN (g (p k)) = 2 → vl k = nI (nv 4096 g (p k) (q k - p k)))
section CU
variable {T : Nat} {g : Nat → Nat} {bs tp : Nat → Int32}
theorem cut_loop (ht : rTb T g bs tp) : ∀ (j h m r fuel : Nat) (st ty vl : Nat → Int32), h + j = T → j < fuel → m ≤ h → r ≤ h → ∃ n p q st' ty' vl', f_Tokens_cut_b17 (nI T) bs fuel (nI m) (nI T) st ty vl (nI h) (nI r) = some (nI n, nI T, st', ty', vl') ∧ m ≤ n ∧ n ≤ T ∧ p n = T ∧ Rn T g 0 h (p m) ∧ (∀ k, k < m → st' k = st k ∧ ty' k = ty k ∧ vl' k = vl k) ∧ ∀ k, m ≤ k → k < n → TkR T g p q st' ty' vl' k := by
  intro j
  have hT := ht.1
  induction j using Nat.strongRecOn with
  | ind j ih =>
    intro h m r fuel st ty vl h1 h2 h3 h3r
    obtain ⟨n, rfl⟩ : ∃ n, fuel = n + 1 := ⟨fuel - 1, by omega⟩
    by_cases hj : j = 0
    · have eh : h = T := by omega
      refine ⟨m, fun _ => T, fun _ => T, st, ty, vl, ?_, Nat.le_refl _, by omega, rfl, ?_, fun k hk => ⟨rfl, rfl, rfl⟩, fun k h4 h5 => by omega⟩
      · rw [f_Tokens_cut_b17]
        by_cases hr : 120 ≤ r
        · rw [if_pos (show (120 : Int32) ≤ nI r from nles 120 r hr (by omega))]
        · rw [if_neg (show ¬ (120 : Int32) ≤ nI r from nge r 120 (by omega) (by decide)), if_pos (nles _ _ (by omega) (by omega))]
      · show Rn T g 0 h T
        exact ⟨by omega, Nat.le_refl _, fun i h4 h5 => by omega, fun z => by omega⟩
    · have hh : h < T := by omega
      obtain ⟨e, he, ee⟩ := endOf_ok ht hh
      have he1 := he.1
      have he2 := he.2.1
      have hz := tyN_le (g h)
      have hb := (ht.2 h hh).2.2
      rw [f_Tokens_cut_b17, if_neg (show ¬ (120 : Int32) ≤ nI r from nge r 120 (by omega) (by decide)), if_neg (nge _ _ hh (by omega)), byteX ht hh, sm_some, typeOf_ok _ hb, sm_some, ee, sm_some]
      by_cases q0 : tyN (g h) = 0
      · have e1 : e = h + 1 := he.2.2.2.2 (by omega) (by omega)
        rw [if_pos (show nI (tyN (g h)) = (0 : Int32) by rw [q0]; rfl), f_Tokens_cut_b118, nI_1]
        obtain ⟨n', p, q, st', ty', vl', a1, a2, a3, a4, a5, a6, a7⟩ := ih (T - e) (by omega) e m (r + 1) n st ty vl (by omega) (by omega) (by omega) (by omega)
        rw [e1] at a5
        exact ⟨n', p, q, st', ty', vl', a1, a2, a3, a4, a5.back q0, a6, a7⟩
      · rw [if_neg (show ¬ nI (tyN (g h)) = (0 : Int32) from nI_nq (b := 0) (by omega) (by decide) q0), wr_nI (by omega) (by decide), sm_some, wr_nI (by omega) (by decide), sm_some]
        have hv : ∃ v, (if nI (tyN (g h)) = (1 : Int32) then (f_Tokens_wordIn (nI T) bs (nI h) (nI e)).bind fun r12 => f_Tokens_cut_b107 (f_Tokens_cut_b17 (nI T) bs n) (nI T) bs (nI m) (nI T) (upd st m (nI h)) (upd ty m (nI (tyN (g h)))) vl (nI r) (nI e) r12 (nI m) else (f_Tokens_numberIn (nI T) bs (nI h) (nI e)).bind fun r11 => f_Tokens_cut_b107 (f_Tokens_cut_b17 (nI T) bs n) (nI T) bs (nI m) (nI T) (upd st m (nI h)) (upd ty m (nI (tyN (g h)))) vl (nI r) (nI e) r11 (nI m)) = f_Tokens_cut_b107 (f_Tokens_cut_b17 (nI T) bs n) (nI T) bs (nI m) (nI T) (upd st m (nI h)) (upd ty m (nI (tyN (g h)))) vl (nI r) (nI e) v (nI m) ∧ (tyN (g h) = 1 → WV g h e v) ∧ (tyN (g h) = 2 → v = nI (nv 4096 g h (e - h))) := by
          by_cases q1 : tyN (g h) = 1
          · obtain ⟨v, v1, v2⟩ := wordIn_ok ht (show h ≤ e by omega) he2
            refine ⟨v, ?_, fun _ => v2, fun z => by omega⟩
            rw [if_pos (show nI (tyN (g h)) = (1 : Int32) by rw [q1]; rfl), v1, sm_some]
          · have q1' : ¬ nI (tyN (g h)) = (1 : Int32) := nI_nq (b := 1) (by omega) (by decide) q1
            by_cases q2 : tyN (g h) = 2
            · refine ⟨_, ?_, fun z => absurd z q1, fun _ => rfl⟩
              rw [if_neg q1', numX_ok ht (he.2.2.2.1 q2), sm_some]
            · have e1 : e = h + 1 := he.2.2.2.2 q1 q2
              obtain ⟨v, v1⟩ := numX_one ht hh
              refine ⟨v, ?_, fun z => absurd z q1, fun z => absurd z q2⟩
              rw [if_neg q1', e1, v1, sm_some]
        obtain ⟨v, v1, v2, v3⟩ := hv
        rw [v1, f_Tokens_cut_b107, wr_nI (by omega) (by decide), sm_some, f_Tokens_cut_b118, nI_1, nI_1]
        obtain ⟨n', p, q, st', ty', vl', a1, a2, a3, a4, a5, a6, a7⟩ := ih (T - e) (by omega) e (m + 1) (r + 1) n (upd st m (nI h)) (upd ty m (nI (tyN (g h)))) (upd vl m v) (by omega) (by omega) (by omega) (by omega)
        refine ⟨n', fun i => if i = m then h else p i, fun i => if i = m then e else q i, st', ty', vl', a1, by omega, a3, ?_, ?_, fun k hk => ?_, fun k hk1 hk2 => ?_⟩
        · show (if n' = m then h else p n') = T
          rw [if_neg (by omega), a4]
        · show Rn T g 0 h (if m = m then h else p m)
          rw [if_pos rfl]
          exact ⟨Nat.le_refl _, by omega, fun i h4 h5 => by omega, fun _ => q0⟩
        · obtain ⟨b1, b2, b3⟩ := a6 k (by omega)
          rw [b1, b2, b3, upd_ne _ _ (by omega), upd_ne _ _ (by omega), upd_ne _ _ (by omega)]
          exact ⟨rfl, rfl, rfl⟩
        · by_cases ek : k = m
          · subst ek
            obtain ⟨b1, b2, b3⟩ := a6 k (by omega)
            rw [upd_at] at b1 b2 b3
            unfold TkR
            simp only [if_true, if_neg (show ¬ k + 1 = k by omega)]
            exact ⟨⟨hh, q0⟩, he, a5, b1, b2, fun z => by rw [b3]; exact v2 z, fun z => by rw [b3]; exact v3 z⟩
          · have := a7 k (by omega) hk2
            unfold TkR at this ⊢
            simp only [if_neg ek, if_neg (show ¬ k + 1 = m by omega)]
            exact this
/-- all tokens -/
def Tk (T : Nat) (g : Nat → Nat) (n : Nat) (p q : Nat → Nat) (st ty vl : Nat → Int32) : Prop := n ≤ T ∧ p n = T ∧ Rn T g 0 0 (p 0) ∧ ∀ k, k < n → TkR T g p q st ty vl k
theorem cut_ok (ht : rTb T g bs tp) (a b : Int32) (st ty vl : Nat → Int32) : ∃ n p q st' ty' vl', f_Tokens_cut a b st ty vl (nI T) bs = some (nI n, nI T, st', ty', vl') ∧ Tk T g n p q st' ty' vl' := by
  have hT := ht.1
  obtain ⟨n, p, q, st', ty', vl', a1, a2, a3, a4, a5, a6, a7⟩ := cut_loop ht T 0 0 0 5000 st ty vl (by omega) (by omega) (by omega) (by omega)
  exact ⟨n, p, q, st', ty', vl', a1, a3, a4, a5, fun k hk => a7 k (by omega) hk⟩
end CU
/-- the class's place k and the reference's place h -/
def Ps (T : Nat) (g : Nat → Nat) (n : Nat) (p : Nat → Nat) (k h : Nat) : Prop := k ≤ n ∧ Rn T g 0 h (p k)
def wdK (T : Nat) (g : Nat → Nat) (n : Nat) (p q : Nat → Nat) (k w : Nat) : Prop := k < n ∧ tyN (g (p k)) = 1 ∧ Spl g (p k) (q k) w
theorem one0 : ¬ (1 : Int32) = 0 := by decide
section PA
variable {T n : Nat} {g p q : Nat → Nat} {bs tp st ty vl : Nat → Int32}
theorem Tk.le (hk : Tk T g n p q st ty vl) {k : Nat} (h : k ≤ n) : p k ≤ T := by
  rcases Nat.lt_or_ge k n with c | c
  · exact Nat.le_of_lt (hk.2.2.2 k c).1.1
  · have : k = n := by omega
    rw [this, hk.2.1]
    exact Nat.le_refl _
theorem Tk.stay (hk : Tk T g n p q st ty vl) {k : Nat} (h : k ≤ n) : Ps T g n p k (p k) := by
  refine ⟨h, Nat.le_refl _, hk.le h, fun i h1 h2 => by omega, fun z => ?_⟩
  rcases Nat.lt_or_ge k n with c | c
  · exact (hk.2.2.2 k c).1.2
  · have : k = n := by omega
    rw [this, hk.2.1] at z
    omega
theorem Tk.next (hk : Tk T g n p q st ty vl) {k : Nat} (h : k < n) : Ps T g n p (k + 1) (q k) := ⟨h, (hk.2.2.2 k h).2.2.1⟩
theorem value_in (hT : T ≤ 120) (hk : Tk T g n p q st ty vl) {k : Nat} (h : k < n) {c : Nat} (hc : c ≤ 4) : f_Tokens_valueAt (nI n) ty vl (nI k) (nI c) = some (if tyN (g (p k)) = c then vl k else -1) := by
  have h0 := hk.1
  have hz := tyN_le (g (p k))
  rw [f_Tokens_valueAt, if_neg (nI_pos (by omega)), if_neg (nge _ _ h (by omega)), rd_nI (by omega) (by decide), sm_some, (hk.2.2.2 k h).2.2.2.2.1]
  by_cases e : tyN (g (p k)) = c
  · rw [if_pos (congrArg nI e), rd_nI (by omega) (by decide), sm_some, if_pos e]
  · rw [if_neg (nI_nq (by omega) (by omega) e), if_neg e]
theorem value_out (hT : T ≤ 120) (hk : Tk T g n p q st ty vl) (c : Int32) : f_Tokens_valueAt (nI n) ty vl (nI n) c = some (-1) := by
  have h0 := hk.1
  rw [f_Tokens_valueAt, if_neg (nI_pos (by omega)), if_pos (nles _ _ (by omega) (by omega))]
theorem m1_nI {w : Nat} (hw : w < 2147483648) : ¬ (-1 : Int32) = nI w := by
  intro z
  have := nI_pos (n := w) hw
  rw [← z] at this
  exact this (by decide)
/-- the word at k, if there is one -/
theorem txt_at (ht : rTb T g bs tp) (hk : Tk T g n p q st ty vl) {k : Nat} (h : k ≤ n) : ∃ v, f_Tokens_valueAt (nI n) ty vl (nI k) 1 = some v ∧ ((∃ w, w < 11 ∧ v = nI w ∧ wdK T g n p q k w) ∨ (v = -1 ∧ ∀ w, w < 11 → ¬ wdK T g n p q k w)) := by
  have hT := ht.1
  rcases Nat.lt_or_ge k n with c | c
  · rw [show (1 : Int32) = nI 1 from rfl, value_in hT hk c (by decide)]
    by_cases e : tyN (g (p k)) = 1
    · rw [if_pos e]
      refine ⟨_, rfl, ?_⟩
      rcases (hk.2.2.2 k c).2.2.2.2.2.1 e with ⟨w, h1, h2, h3⟩ | ⟨h1, h2⟩
      · exact Or.inl ⟨w, h1, h2, c, e, h3⟩
      · exact Or.inr ⟨h1, fun w hw z => h2 w hw z.2.2⟩
    · rw [if_neg e]
      exact ⟨_, rfl, Or.inr ⟨rfl, fun w hw z => e z.2.1⟩⟩
  · have : k = n := by omega
    subst this
    exact ⟨_, value_out hT hk 1, Or.inr ⟨rfl, fun w hw z => by have := z.1; omega⟩⟩
theorem passWord_ok (ht : rTb T g bs tp) (hk : Tk T g n p q st ty vl) {k w : Nat} (h : k ≤ n) (hw : w < 11) : (wdK T g n p q k w ∧ f_FieldText_passWord (nI k) (nI n) ty vl (nI w) = some (1, nI (k + 1))) ∨ (¬ wdK T g n p q k w ∧ f_FieldText_passWord (nI k) (nI n) ty vl (nI w) = some (0, nI k)) := by
  obtain ⟨v, v1, v2⟩ := txt_at ht hk h
  rw [f_FieldText_passWord, v1, sm_some]
  rcases v2 with ⟨w', h1, rfl, h3⟩ | ⟨rfl, h2⟩
  · by_cases e : w' = w
    · subst e
      rw [if_pos rfl, nI_1]
      exact Or.inl ⟨h3, rfl⟩
    · rw [if_neg (nI_nq (by omega) (by omega) e)]
      exact Or.inr ⟨fun z => e (h3.2.2.one z.2.2 h1 hw), rfl⟩
  · rw [if_neg (m1_nI (by omega))]
    exact Or.inr ⟨h2 w hw, rfl⟩
theorem isWordK (ht : rTb T g bs tp) (hk : Tk T g n p q st ty vl) {k h w : Nat} (hp : Ps T g n p k h) (hw : w < 11) : (wdK T g n p q k w ∧ f_M_isWord (nI T) (nI h) tp w = some (1, nI (p k))) ∨ (¬ wdK T g n p q k w ∧ f_M_isWord (nI T) (nI h) tp w = some (0, nI (p k))) := by
  have hl := lnW_pos w hw
  by_cases c : k < n ∧ tyN (g (p k)) = 1
  · rcases isWord_ok ht (w := w) (by omega) hp.2 ((hk.2.2.2 k c.1).2.1.2.2.1 c.2) with ⟨e1, e2⟩ | ⟨e1, e2⟩
    · exact Or.inl ⟨⟨c.1, c.2, e2⟩, e1⟩
    · exact Or.inr ⟨fun z => e2 z.2.2, e1⟩
  · have hr : Rn T g 1 (p k) (p k) := by
      refine ⟨Nat.le_refl _, hk.le hp.1, fun i h1 h2 => by omega, fun z y => c ⟨?_, y⟩⟩
      rcases Nat.lt_or_ge k n with c1 | c1
      · exact c1
      · have : k = n := by have := hp.1; omega
        rw [this, hk.2.1] at z
        omega
    refine Or.inr ⟨fun z => c ⟨z.1, z.2.1⟩, ?_⟩
    rcases isWord_ok ht (w := w) (by omega) hp.2 hr with ⟨e1, e2⟩ | ⟨e1, e2⟩
    · have := e2.1
      omega
    · exact e1
theorem mayK (ht : rTb T g bs tp) (hk : Tk T g n p q st ty vl) {k h w : Nat} (hp : Ps T g n p k h) (hw : w < 11) : (wdK T g n p q k w ∧ f_M_may (nI T) (nI h) (-1) tp w = some (1, nI (q k))) ∨ (¬ wdK T g n p q k w ∧ f_M_may (nI T) (nI h) (-1) tp w = some (0, nI (p k))) := by
  rw [f_M_may, if_neg (by decide)]
  rcases isWordK ht hk hp hw with ⟨e1, e2⟩ | ⟨e1, e2⟩
  · refine Or.inl ⟨e1, ?_⟩
    rw [e2]
    simp only [sm_some]
    rw [if_neg one0, f_M_may_b20, if_neg one0, length_ok (by omega), sm_some, f_M_may_b38, bl1, sm_some, nI_add, ← e1.2.2.1]
  · refine Or.inr ⟨e1, ?_⟩
    rw [e2]
    simp only [sm_some]
    rw [if_pos trivial, f_M_may_b20, if_pos rfl, f_M_may_b38, bl0, sm_some, show nI (p k) + (0 : Int32) = nI (p k) from nI_add (p k) 0]
theorem mustK (ht : rTb T g bs tp) (hk : Tk T g n p q st ty vl) {k h w : Nat} (hp : Ps T g n p k h) (hw : w < 11) : (wdK T g n p q k w ∧ f_M_must (nI T) (nI h) (-1) tp w = some (1, nI (q k), -1)) ∨ (¬ wdK T g n p q k w ∧ f_M_must (nI T) (nI h) (-1) tp w = some (0, nI (p k), nI (p k))) := by
  rw [f_M_must]
  rcases mayK ht hk hp hw with ⟨e1, e2⟩ | ⟨e1, e2⟩
  · refine Or.inl ⟨e1, ?_⟩
    rw [e2]
    simp only [sm_some]
    rw [if_neg one0, f_M_must_b15]
  · refine Or.inr ⟨e1, ?_⟩
    rw [e2]
    simp only [sm_some]
    rw [if_pos trivial, f_M_fails, if_neg (by decide), f_M_fails_b19]
    simp only [sm_some]
    rw [if_pos trivial]
theorem numberK (ht : rTb T g bs tp) (hk : Tk T g n p q st ty vl) {k h m : Nat} (hp : Ps T g n p k h) (hm : m ≤ 4095) (val : Int32) : (∃ x, x ≤ m ∧ k < n ∧ f_FieldText_passNumber (nI k) (nI n) ty vl (nI m) = some (nI x, nI (k + 1)) ∧ f_M_number (nI T) (nI h) (-1) val tp 0 (nI m) = some (1, nI (q k), -1, nI x)) ∨ (f_FieldText_passNumber (nI k) (nI n) ty vl (nI m) = some (-1, nI k) ∧ f_M_number (nI T) (nI h) (-1) val tp 0 (nI m) = some (0, nI (p k), nI (p k), val)) := by
  have hT := ht.1
  rw [f_FieldText_passNumber, f_M_number, blanks_ok ht hp.2, sm_some, if_neg (show ¬ (0 : Int32) ≤ -1 by decide)]
  have hno : ∀ c b, f_M_isDigit b = some 0 → f_M_byteAt (nI T) tp (nI (p k)) = some b → ((some b).bind fun r14 => (f_M_isDigit r14).bind fun r15 => if r15 = (0 : Int32) then f_M_number_b25 (nI T) tp 0 (nI m) (nI (p k)) (-1) val else c) = some (0, nI (p k), nI (p k), val) := by
    intro c b h1 h2
    rw [sm_some, h1, sm_some, if_pos rfl, f_M_number_b25, f_M_fails, if_neg (by decide), f_M_fails_b19, sm_some, bl0, sm_some]
  by_cases c : k < n
  · have hR := hk.2.2.2 k c
    have hb := (ht.2 _ hR.1.1).2.2
    rw [show (2 : Int32) = nI 2 from rfl, value_in hT hk c (by decide), sm_some]
    by_cases e : tyN (g (p k)) = 2
    · have hr := hR.2.1.2.2.2.1 e
      have h1 := hr.1
      have h2 := hr.2.1
      rw [if_pos e, hR.2.2.2.2.2.2 e, byteM ht hR.1.1, sm_some, isDigit_ok _ hb, if_pos e, sm_some, if_neg (show ¬ nI (nv 4096 g (p k) (q k - p k)) < 0 from nI_pos (by have := nv_le 4096 g (p k) (q k - p k); omega)), if_neg one0]
      have hM := numM_loop ht hr hm val (q k - p k) 0 5000 (by omega) (by omega)
      rw [Nat.zero_add] at hM
      have hM' : f_M_number_b38 (nI T) tp 0 (nI m) 5000 (nI (p k)) (-1) val 0 (nI (p k)) = _ := hM
      rw [hM']
      have hd : ∀ i, p k ≤ i → i < q k → 48 ≤ g i ∧ g i ≤ 57 := fun i h3 h4 => digit_rng _ (ht.2 i (by omega)).2.2 (hr.2.2.1 i h3 h4)
      rcases nv_two hd (q k - p k) (by omega) with ⟨e1, e2⟩ | ⟨e1, e2⟩
      · rw [← e1]
        by_cases z : nv 4096 g (p k) (q k - p k) ≤ m
        · rw [if_pos (nles _ _ z (by omega)), if_pos z, nI_1]
          exact Or.inl ⟨_, z, c, rfl, rfl⟩
        · rw [if_neg (nge _ _ (by omega) (by omega)), if_neg z]
          exact Or.inr ⟨rfl, rfl⟩
      · rw [e1, if_neg (nge _ _ (by omega) (by decide)), if_neg (by omega)]
        exact Or.inr ⟨rfl, rfl⟩
    · rw [if_neg e, if_pos (by decide), byteM ht hR.1.1]
      exact Or.inr ⟨rfl, hno _ _ (by rw [isDigit_ok _ hb, if_neg e]) (byteM ht hR.1.1)⟩
  · have ek : k = n := by have := hp.1; omega
    subst ek
    rw [value_out hT hk, sm_some, if_pos (by decide), hk.2.1, byteM_end (Nat.le_refl _) (by omega)]
    rw [hk.2.1] at hno
    exact Or.inr ⟨rfl, hno _ _ isDigit_end (byteM_end (Nat.le_refl _) (by omega))⟩
end PA
