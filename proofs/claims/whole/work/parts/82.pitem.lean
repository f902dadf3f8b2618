-- ===== THE TEXT: items on both sides =====
section IT
variable {T n : Nat} {g p q : Nat → Nat} {bs tp st ty vl : Nat → Int32}
theorem wordB (ht : rTb T g bs tp) (hk : Tk T g n p q st ty vl) {k h w : Nat} {c : Int32} (hp : Ps T g n p k h) (hc : c = nI w) (hw : w < 11) : (wdK T g n p q k w ∧ f_FieldText_passWord (nI k) (nI n) ty vl c = some (1, nI (k + 1)) ∧ f_M_may (nI T) (nI h) (-1) tp w = some (1, nI (q k)) ∧ Ps T g n p (k + 1) (q k)) ∨ (¬ wdK T g n p q k w ∧ f_FieldText_passWord (nI k) (nI n) ty vl c = some (0, nI k) ∧ f_M_may (nI T) (nI h) (-1) tp w = some (0, nI (p k)) ∧ Ps T g n p k (p k)) := by
  subst hc
  rcases passWord_ok ht hk hp.1 hw with ⟨a1, a2⟩ | ⟨a1, a2⟩
  · rcases mayK ht hk hp hw with ⟨b1, b2⟩ | ⟨b1, b2⟩
    · exact Or.inl ⟨a1, a2, b2, hk.next a1.1⟩
    · exact absurd a1 b1
  · rcases mayK ht hk hp hw with ⟨b1, b2⟩ | ⟨b1, b2⟩
    · exact absurd b1 a1
    · exact Or.inr ⟨a1, a2, b2, hk.stay hp.1⟩
theorem mustB (ht : rTb T g bs tp) (hk : Tk T g n p q st ty vl) {k h w : Nat} {c : Int32} (hp : Ps T g n p k h) (hc : c = nI w) (hw : w < 11) : (wdK T g n p q k w ∧ f_FieldText_passWord (nI k) (nI n) ty vl c = some (1, nI (k + 1)) ∧ f_M_must (nI T) (nI h) (-1) tp w = some (1, nI (q k), -1) ∧ Ps T g n p (k + 1) (q k)) ∨ (¬ wdK T g n p q k w ∧ f_FieldText_passWord (nI k) (nI n) ty vl c = some (0, nI k) ∧ f_M_must (nI T) (nI h) (-1) tp w = some (0, nI (p k), nI (p k)) ∧ Ps T g n p k (p k)) := by
  subst hc
  rcases passWord_ok ht hk hp.1 hw with ⟨a1, a2⟩ | ⟨a1, a2⟩
  · rcases mustK ht hk hp hw with ⟨b1, b2⟩ | ⟨b1, b2⟩
    · exact Or.inl ⟨a1, a2, b2, hk.next a1.1⟩
    · exact absurd a1 b1
  · rcases mustK ht hk hp hw with ⟨b1, b2⟩ | ⟨b1, b2⟩
    · exact absurd b1 a1
    · exact Or.inr ⟨a1, a2, b2, hk.stay hp.1⟩
theorem numberB (ht : rTb T g bs tp) (hk : Tk T g n p q st ty vl) {k h m : Nat} {c : Int32} (hp : Ps T g n p k h) (hc : c = nI m) (hm : m ≤ 4095) (val : Int32) : (∃ x, x ≤ m ∧ Ps T g n p (k + 1) (q k) ∧ f_FieldText_passNumber (nI k) (nI n) ty vl c = some (nI x, nI (k + 1)) ∧ f_M_number (nI T) (nI h) (-1) val tp 0 c = some (1, nI (q k), -1, nI x)) ∨ (f_FieldText_passNumber (nI k) (nI n) ty vl c = some (-1, nI k) ∧ f_M_number (nI T) (nI h) (-1) val tp 0 c = some (0, nI (p k), nI (p k), val)) := by
  subst hc
  rcases numberK ht hk hp hm val with ⟨x, a1, a2, a3, a4⟩ | h
  · exact Or.inl ⟨x, a1, hk.next a2, a3, a4⟩
  · exact Or.inr h
theorem m1_neg : ¬ (0 : Int32) ≤ -1 := by decide
section LT
variable {B K F D : Nat → Nat} {N H S : Nat} {bf kd fm dp s : Nat → Int32} {n0 hr sn : Int32}
theorem tailK (ht : rTb T g bs tp) (hk : Tk T g n p q st ty vl) (hs : s 2 = nI N) (hN : N < 12) {k h : Nat} (hp : Ps T g n p k h) (kk f : Nat) (val : Int32) : (∃ k' y1 y2, k' ≤ n ∧ ((f_FieldText_passWord (nI k) (nI n) ty vl 10).bind fun r5 => if r5.1 = (0 : Int32) then f_FieldText_passLetter_b33 (nI n) ty vl bf (nI kk) r5.2 (nI N) dp fm kd (nI f) 6 else (f_FieldText_passNumber r5.2 (nI n) ty vl 99).bind fun r7 => f_FieldText_passLetter_b33 (nI n) ty vl bf (nI kk) r7.2 (nI N) dp fm kd (nI f) r7.1) = some (0, nI k', nI N, dp, fm, kd) ∧ f_M_letterTold_b64 (nI T) tp (nI kk) (nI h) (-1) val s (nI f) = some (0, y1, nI (p k'), y2, s)) ∨ (∃ k' h' val' e, k ≤ k' ∧ e ≤ 99 ∧ Ps T g n p k' h' ∧ ((f_FieldText_passWord (nI k) (nI n) ty vl 10).bind fun r5 => if r5.1 = (0 : Int32) then f_FieldText_passLetter_b33 (nI n) ty vl bf (nI kk) r5.2 (nI N) dp fm kd (nI f) 6 else (f_FieldText_passNumber r5.2 (nI n) ty vl 99).bind fun r7 => f_FieldText_passLetter_b33 (nI n) ty vl bf (nI kk) r7.2 (nI N) dp fm kd (nI f) r7.1) = some (1, nI k', nI (N + 1), upd dp N (nI e), upd fm N (nI f), upd kd N (nI kk)) ∧ f_M_letterTold_b64 (nI T) tp (nI kk) (nI h) (-1) val s (nI f) = some (1, nI h', -1, val', upd (upd (upd (upd s (29 + 3 * N) (nI kk)) (30 + 3 * N) (nI f)) (31 + 3 * N) (nI e)) 2 (nI (N + 1)))) := by
  rw [f_M_letterTold_b64]
  rcases wordB ht hk hp (c := 10) (w := 10) rfl (by decide) with ⟨a1, a2, a3, a4⟩ | ⟨a1, a2, a3, a4⟩
  · rw [a2, a3]
    simp only [sm_some]
    rw [if_neg one0, if_neg one0]
    rcases numberB ht hk a4 (c := 99) (m := 99) rfl (by decide) val with ⟨x, b1, b2, b3, b4⟩ | ⟨b3, b4⟩
    · rw [b3, b4]
      simp only [sm_some]
      rw [if_neg one0, f_FieldText_passLetter_b33, if_pos (nI_pos' (by omega)), add_ok hN, f_M_letterTold_b96, adds_ok hN hs]
      simp only [sm_some]
      exact Or.inr ⟨k + 1 + 1, _, _, x, by omega, b1, b2, rfl, rfl⟩
    · rw [b3, b4]
      simp only [sm_some]
      rw [if_pos trivial, f_FieldText_passLetter_b33, if_neg m1_neg]
      exact Or.inl ⟨k + 1, _, _, a4.1, rfl, rfl⟩
  · rw [a2, a3]
    simp only [sm_some]
    rw [if_pos trivial, if_pos trivial, f_FieldText_passLetter_b33, if_pos (by decide), add_ok hN, f_M_letterTold_b96, adds_ok hN hs]
    simp only [sm_some]
    exact Or.inr ⟨k, _, _, 6, Nat.le_refl _, by decide, a4, rfl, rfl⟩
theorem letterK (ht : rTb T g bs tp) (hk : Tk T g n p q st ty vl) (hP : rPl B K F D N H S bf kd fm dp n0 hr sn s) (hN : N < 12) {k h : Nat} (hp : Ps T g n p k h) {kk : Nat} (hkk : kk < 6) (val : Int32) : (∃ k' y1 y2, k' ≤ n ∧ f_FieldText_passLetter (nI k) (nI n) ty vl (nI N) bf dp fm kd (nI kk) = some (0, nI k', nI N, dp, fm, kd) ∧ f_M_letterTold (nI T) (nI h) (-1) val s tp (nI kk) = some (0, y1, nI (p k'), y2, s)) ∨ (∃ k' h' val' K' F' D' dp' fm' kd' s', k ≤ k' ∧ Ps T g n p k' h' ∧ f_FieldText_passLetter (nI k) (nI n) ty vl (nI N) bf dp fm kd (nI kk) = some (1, nI k', nI (N + 1), dp', fm', kd') ∧ f_M_letterTold (nI T) (nI h) (-1) val s tp (nI kk) = some (1, nI h', -1, val', s') ∧ rPl B K' F' D' (N + 1) H S bf kd' fm' dp' (nI (N + 1)) hr sn s') := by
  have hs : s 2 = nI N := hP.2.2.1.2.1
  have hfin : ∀ {k1 h1 f : Nat} (v1 : Int32), k ≤ k1 → Ps T g n p k1 h1 → f < 4096 → f_FieldText_passForm (nI k) (nI n) ty vl bf = some (nI f, nI k1) → f_M_letterTold (nI T) (nI h) (-1) val s tp (nI kk) = f_M_letterTold_b64 (nI T) tp (nI kk) (nI h1) (-1) v1 s (nI f) → (∃ k' y1 y2, k' ≤ n ∧ f_FieldText_passLetter (nI k) (nI n) ty vl (nI N) bf dp fm kd (nI kk) = some (0, nI k', nI N, dp, fm, kd) ∧ f_M_letterTold (nI T) (nI h) (-1) val s tp (nI kk) = some (0, y1, nI (p k'), y2, s)) ∨ (∃ k' h' val' K' F' D' dp' fm' kd' s', k ≤ k' ∧ Ps T g n p k' h' ∧ f_FieldText_passLetter (nI k) (nI n) ty vl (nI N) bf dp fm kd (nI kk) = some (1, nI k', nI (N + 1), dp', fm', kd') ∧ f_M_letterTold (nI T) (nI h) (-1) val s tp (nI kk) = some (1, nI h', -1, val', s') ∧ rPl B K' F' D' (N + 1) H S bf kd' fm' dp' (nI (N + 1)) hr sn s') := by
    intro k1 h1 f v1 hle hp1 hf e1 e2
    rw [e2, f_FieldText_passLetter, e1]
    simp only [sm_some]
    rw [if_pos (nI_pos' (by omega))]
    rcases tailK (bf := bf) (dp := dp) (fm := fm) (kd := kd) ht hk hs hN hp1 kk f v1 with ⟨k', y1, y2, c1, c2, c3⟩ | ⟨k', h', val', e, c0, c1, c2, c3, c4⟩
    · exact Or.inl ⟨k', y1, y2, c1, c2, c3⟩
    · exact Or.inr ⟨k', h', val', _, _, _, _, _, _, _, by omega, c2, c3, c4, rPl_add hP hN hkk hf c1⟩
  rcases wordB ht hk hp (c := 8) (w := 8) rfl (by decide) with ⟨a1, a2, a3, a4⟩ | ⟨a1, a2, a3, a4⟩
  · rcases numberB ht hk a4 (c := 4095) (m := 4095) rfl (by decide) val with ⟨x, b1, b2, b3, b4⟩ | ⟨b3, b4⟩
    · refine hfin (nI x) (show k ≤ k + 1 + 1 by omega) b2 (show x < 4096 by omega) ?_ ?_
      · rw [f_FieldText_passForm, a2]
        simp only [sm_some]
        rw [if_neg one0, b3]
        simp only [sm_some]
      · rw [f_M_letterTold, a3]
        simp only [sm_some]
        rw [if_neg one0, f_M_letterTold_b20, if_neg one0, f_M_letterTold_b34, b4]
        simp only [sm_some]
        rw [if_neg one0, if_neg one0]
    · refine Or.inl ⟨k + 1, nI (p (k + 1)), val, a4.1, ?_, ?_⟩
      rotate_left
      · rw [f_M_letterTold, a3]
        simp only [sm_some]
        rw [if_neg one0, f_M_letterTold_b20, if_neg one0, f_M_letterTold_b34, b4]
        simp only [sm_some]
        rw [if_pos trivial]
      · rw [f_FieldText_passLetter, f_FieldText_passForm, a2]
        simp only [sm_some]
        rw [if_neg one0, b3]
        simp only [sm_some]
        rw [if_neg m1_neg]
  · rcases mustB ht hk a4 (c := 9) (w := 9) rfl (by decide) with ⟨d1, d2, d3, d4⟩ | ⟨d1, d2, d3, d4⟩
    · rcases numberB ht hk d4 (c := 25) (m := 25) rfl (by decide) val with ⟨x, b1, b2, b3, b4⟩ | ⟨b3, b4⟩
      · refine hfin (nI x) (show k ≤ k + 1 + 1 by omega) b2 (hP.1.2.2 x (by omega)) ?_ ?_
        · rw [f_FieldText_passForm, a2]
          simp only [sm_some]
          rw [if_pos trivial, d2]
          simp only [sm_some]
          rw [if_neg one0, b3]
          simp only [sm_some]
          rw [if_pos (nI_pos' (by omega)), formAt_ok hP.1.1 b1]
          simp only [sm_some]
        · rw [f_M_letterTold, a3]
          simp only [sm_some]
          rw [if_pos trivial, d3]
          simp only [sm_some]
          rw [if_neg one0, f_M_letterTold_b20, if_pos rfl, f_M_letterTold_b34, b4]
          simp only [sm_some]
          rw [if_neg one0, if_pos trivial, rdM hP.1.2.1 (by omega)]
          simp only [sm_some]
      · refine Or.inl ⟨k + 1, nI (p (k + 1)), val, d4.1, ?_, ?_⟩
        rotate_left
        · rw [f_M_letterTold, a3]
          simp only [sm_some]
          rw [if_pos trivial, d3]
          simp only [sm_some]
          rw [if_neg one0, f_M_letterTold_b20, if_pos rfl, f_M_letterTold_b34, b4]
          simp only [sm_some]
          rw [if_pos trivial]
        · rw [f_FieldText_passLetter, f_FieldText_passForm, a2]
          simp only [sm_some]
          rw [if_pos trivial, d2]
          simp only [sm_some]
          rw [if_neg one0, b3]
          simp only [sm_some]
          rw [if_neg m1_neg]
          simp only [sm_some]
          rw [if_neg m1_neg]
    · refine Or.inl ⟨k, nI (p k), val, hp.1, ?_, ?_⟩
      rotate_left
      · rw [f_M_letterTold, a3]
        simp only [sm_some]
        rw [if_pos trivial, d3]
        simp only [sm_some]
        rw [if_pos trivial]
      · rw [f_FieldText_passLetter, f_FieldText_passForm, a2]
        simp only [sm_some]
        rw [if_pos trivial, d2]
        simp only [sm_some]
        rw [if_pos trivial]
        simp only [sm_some]
        rw [if_neg m1_neg]
theorem rPl_B (h : rPl B K F D N H S bf kd fm dp n0 hr sn s) {i f : Nat} (hi : i ≤ 25) (hf : f < 4096) : rPl (upB B i f) K F D N H S (upd bf i (nI f)) kd fm dp n0 hr sn (upd s (3 + i) (nI f)) := by
  obtain ⟨⟨b1, b2, b3⟩, ⟨l1, l2⟩, ⟨n1, n2, n3⟩, ⟨h1, h2, h3⟩, ⟨s1, s2, s3⟩⟩ := h
  refine ⟨⟨rBX_up b1 i f, rBM_up b2 i f, okB_up b3 i f hf⟩, ⟨rL_lo l1 _ (by omega), l2⟩, ⟨n1, ?_, n3⟩, ⟨h1, ?_, h3⟩, ⟨s1, ?_, s3⟩⟩
  · rw [upd_ne _ _ (by omega), n2]
  · rw [upd_ne _ _ (by omega), h2]
  · rw [upd_ne _ _ (by omega), s2]
-- the reference's loop over the kinds
theorem kindName_ok : ∀ i, i < 6 → f_M_kindName (nI i) = some i := by decide
theorem item_no (ht : rTb T g bs tp) (hk : Tk T g n p q st ty vl) {k h i : Nat} (hp : Ps T g n p k h) (hi : i < 6) (hw : ¬ wdK T g n p q k i) (fuel : Nat) (val : Int32) : f_M_item_b2 (nI T) tp (fuel + 1) (nI h) (-1) val s (nI i) = f_M_item_b2 (nI T) tp fuel (nI (p k)) (-1) val s (nI (i + 1)) := by
  rw [f_M_item_b2, if_neg (show ¬ (5 : Int32) < nI i from nnlt i 5 (by omega) (by decide)), kindName_ok i hi, sm_some]
  rcases isWordK ht hk hp (w := i) (by omega) with ⟨a1, a2⟩ | ⟨a1, a2⟩
  · exact absurd a1 hw
  · rw [a2]
    simp only [sm_some]
    rw [if_pos trivial, f_M_item_b34, kindName_ok i hi, sm_some]
    rcases mayK ht hk (hk.stay hp.1) (w := i) (by omega) with ⟨b1, b2⟩ | ⟨b1, b2⟩
    · exact absurd b1 hw
    · rw [b2]
      simp only [sm_some]
      rw [if_pos trivial, nI_1]
theorem item_skip (ht : rTb T g bs tp) (hk : Tk T g n p q st ty vl) {k : Nat} (val : Int32) : ∀ (j i h fuel : Nat), Ps T g n p k h → i + j ≤ 6 → (∀ w, i ≤ w → w < i + j → ¬ wdK T g n p q k w) → ∃ h', Ps T g n p k h' ∧ f_M_item_b2 (nI T) tp (fuel + j) (nI h) (-1) val s (nI i) = f_M_item_b2 (nI T) tp fuel (nI h') (-1) val s (nI (i + j)) := by
  intro j
  induction j with
  | zero => intro i h fuel hp _ _; exact ⟨h, hp, rfl⟩
  | succ j ih =>
    intro i h fuel hp h1 h2
    obtain ⟨h', e1, e2⟩ := ih (i + 1) (p k) fuel (hk.stay hp.1) (by omega) (fun w h3 h4 => h2 w (by omega) (by omega))
    refine ⟨h', e1, ?_⟩
    rw [show fuel + (j + 1) = fuel + j + 1 by omega, item_no ht hk hp (by omega) (h2 i (by omega) (by omega)), e2, show i + 1 + j = i + (j + 1) by omega]
theorem item_at (ht : rTb T g bs tp) (hk : Tk T g n p q st ty vl) {k h : Nat} (hp : Ps T g n p k h) (i : Nat) (hi : i ≤ 6) (hw : ∀ w, w < i → ¬ wdK T g n p q k w) (val : Int32) : ∃ h' fuel, Ps T g n p k h' ∧ f_M_item (nI T) (nI h) (-1) val s tp = f_M_item_b2 (nI T) tp (fuel + 1) (nI h') (-1) val s (nI i) := by
  obtain ⟨h', e1, e2⟩ := item_skip (s := s) ht hk val i 0 h (5000 - i) hp (by omega) (fun w h3 h4 => hw w (by omega))
  obtain ⟨m, hm⟩ : ∃ m, 5000 - i = m + 1 := ⟨4999 - i, by omega⟩
  refine ⟨h', m, e1, ?_⟩
  rw [f_M_item]
  rw [show 5000 - i + i = 5000 by omega, Nat.zero_add, hm] at e2
  exact e2
end LT
end IT
