-- ===== IMAGES, COUNT =====
section IM
variable {B K F D : Nat → Nat} {N H S : Nat} {bf kd fm dp s c d : Nat → Int32} {n hr sn : Int32}
theorem cpy_all {α : Type} (f g : Nat → α) {m : Nat} (hm : m < 2147483648) : cpy f g m m 0 0 (nI m) = some (va_cpy f g 0 0 m) := by
  have e0 : (0 : Int32).toNatClampNeg = 0 := by decide
  have e1 : (nI m).toNatClampNeg = m := nI_clamp (by omega)
  unfold cpy
  rw [e0, e1, if_neg]
  rintro ((h | h | h) | h | h)
  · exact absurd h (by decide)
  · exact absurd h (by decide)
  · exact nI_pos (by omega) h
  · omega
  · omega
theorem cpy_at {α : Type} (f g : Nat → α) {m j : Nat} (h : j < m) : va_cpy f g 0 0 m j = f j := by
  rw [pk_cpy_in (by omega) (by omega)]
  congr 1
  omega
theorem lay_loop {p : Nat → Int32} : ∀ (j k fuel : Nat) (t : Nat → Int32), k + j = 65 → j < fuel → (∀ i, i < k → t i = p i) → ∃ t', f_M_lay_b2 p fuel t (nI k) = some t' ∧ ∀ i, i < 65 → t' i = p i := by
  intro j
  induction j with
  | zero =>
    intro k fuel t h1 h2 h3
    obtain ⟨n, rfl⟩ : ∃ n, fuel = n + 1 := ⟨fuel - 1, by omega⟩
    obtain rfl : k = 65 := by omega
    exact ⟨t, by rw [f_M_lay_b2, if_pos (by decide)], h3⟩
  | succ j ih =>
    intro k fuel t h1 h2 h3
    obtain ⟨n, rfl⟩ : ∃ n, fuel = n + 1 := ⟨fuel - 1, by omega⟩
    obtain ⟨t', e1, e2⟩ := ih (k + 1) n (upd t k (p k)) (by omega) (by omega) (by
      intro i hi
      by_cases e : i = k
      · subst e; rw [upd_at]
      · rw [upd_ne _ _ e]; exact h3 i (by omega))
    refine ⟨t', ?_, e2⟩
    rw [f_M_lay_b2, if_neg (show ¬ (65 : Int32) ≤ nI k from nge k 65 (by omega) (by decide)), rd_nI (by omega) (by decide), sm_some, wr_nI (by omega) (by decide), sm_some, nI_1]
    exact e1
theorem lay_ok (p t : Nat → Int32) : ∃ t', f_M_lay p t = some t' ∧ ∀ i, i < 65 → t' i = p i := lay_loop 65 0 5000 t rfl (by decide) (fun i hi => by omega)
/-- a state laid over another, on both sides -/
theorem rPl_lay (h : rPl B K F D N H S bf kd fm dp n hr sn s) {bf' kd' fm' dp' s' : Nat → Int32} (e1 : ∀ i, i < 26 → bf' i = bf i) (e2 : ∀ i, i < 12 → kd' i = kd i) (e3 : ∀ i, i < 12 → fm' i = fm i) (e4 : ∀ i, i < 12 → dp' i = dp i) (e5 : ∀ i, i < 65 → s' i = s i) : rPl B K F D N H S bf' kd' fm' dp' n hr sn s' := by
  obtain ⟨⟨b1, b2, b3⟩, ⟨l1, l2⟩, ⟨n1, n2, n3⟩, ⟨h1, h2, h3⟩, ⟨s1, s2, s3⟩⟩ := h
  refine ⟨⟨fun g hg => ?_, fun g hg => ?_, b3⟩, ⟨fun l hl => ?_, l2⟩, ⟨n1, ?_, n3⟩, ⟨h1, ?_, h3⟩, ⟨s1, ?_, s3⟩⟩
  · rw [e1 g hg, b1 g hg]
  · rw [e5 _ (by omega), b2 g hg]
  · rw [e2 l hl, e3 l hl, e4 l hl, e5 _ (by omega), e5 _ (by omega), e5 _ (by omega)]
    exact l1 l hl
  · rw [e5 _ (by omega), n2]
  · rw [e5 _ (by omega), h2]
  · rw [e5 _ (by omega), s2]
theorem become_ok (n0 h0 s0 : Int32) (bf0 dp0 fm0 kd0 : Nat → Int32) : f_Plain_become n0 h0 s0 bf0 dp0 fm0 kd0 n hr sn bf dp fm kd = some (n, hr, sn, va_cpy bf bf0 0 0 26, va_cpy dp dp0 0 0 12, va_cpy fm fm0 0 0 12, va_cpy kd kd0 0 0 12) := by
  rw [f_Plain_become, f_Book_become, show (26 : Int32) = nI 26 from rfl, show (12 : Int32) = nI 12 from rfl, cpy_all _ _ (by decide), sm_some, sm_some, cpy_all _ _ (by decide), sm_some, cpy_all _ _ (by decide), sm_some, cpy_all _ _ (by decide), sm_some]
theorem case_image (h : rPl B K F D N H S bf kd fm dp n hr sn s) (ik n0 h0 s0 : Int32) (bf0 dp0 fm0 kd0 : Nat → Int32) (ikM : Int32) (kM : Nat → Int32) : ∃ n' h' s' bf' dp' fm' kd' kM', f_S_image ik n0 h0 s0 bf0 dp0 fm0 kd0 n hr sn bf dp fm kd = some (1, 1, n', h', s', bf', dp', fm', kd') ∧ f_M_image ikM kM s = some (1, 1, kM') ∧ rPl B K F D N H S bf' kd' fm' dp' n' h' s' kM' := by
  obtain ⟨t', e1, e2⟩ := lay_ok s kM
  refine ⟨n, hr, sn, _, _, _, _, t', ?_, ?_, rPl_lay h (fun i hi => cpy_at bf bf0 hi) (fun i hi => cpy_at kd kd0 hi) (fun i hi => cpy_at fm fm0 hi) (fun i hi => cpy_at dp dp0 hi) e2⟩
  · rw [f_S_image, become_ok, sm_some]
  · rw [f_M_image, e1, sm_some]
theorem case_undo0 (hF : rF c d) (n0 h0 s0 : Int32) (bf0 dp0 fm0 kd0 : Nat → Int32) (kM : Nat → Int32) : f_S_undo 0 c n0 h0 s0 bf0 dp0 fm0 kd0 n hr sn bf dp fm kd = some (-1000000004, upd c 3 (c 3 + 1), n, hr, sn, bf, dp, fm, kd) ∧ f_M_undo 0 d kM s = some (-1000000004, upd d 3 (d 3 + 1), s) ∧ rF (upd c 3 (c 3 + 1)) (upd d 3 (d 3 + 1)) := by
  refine ⟨?_, ?_, hF.fin (k := 3) (by decide)⟩
  · rw [f_S_undo, if_pos rfl, fnd3, sm_some]
  · rw [f_M_undo, if_pos rfl, mno3, sm_some]
theorem case_undo1 {n0 h0 s0 : Int32} {bf0 dp0 fm0 kd0 kM : Nat → Int32} (h : rPl B K F D N H S bf0 kd0 fm0 dp0 n0 h0 s0 kM) : ∃ r bf' dp' fm' kd' s', f_S_undo 1 c n0 h0 s0 bf0 dp0 fm0 kd0 n hr sn bf dp fm kd = some (r, c, n0, h0, s0, bf', dp', fm', kd') ∧ f_M_undo 1 d kM s = some (r, d, s') ∧ rPl B K F D N H S bf' kd' fm' dp' n0 h0 s0 s' := by
  obtain ⟨t', e1, e2⟩ := lay_ok kM s
  refine ⟨n0, _, _, _, _, t', ?_, ?_, rPl_lay h (fun i hi => cpy_at bf0 bf hi) (fun i hi => cpy_at kd0 kd hi) (fun i hi => cpy_at fm0 fm hi) (fun i hi => cpy_at dp0 dp hi) e2⟩
  · rw [f_S_undo, if_neg (by decide), become_ok, sm_some]
  · rw [f_M_undo, if_neg (by decide), e1, sm_some, rs2, sm_some, e2 2 (by decide), h.2.2.1.2.1, h.2.2.1.1]
theorem case_tear : (∀ x, f_S_tear x = f_M_tear x) ∧ ∀ x, ∃ r, f_S_tear x = some (r, 0) := by
  refine ⟨fun x => rfl, fun x => ?_⟩
  rw [f_S_tear]
  split
  · exact ⟨0, rfl⟩
  · exact ⟨1, rfl⟩
end IM
