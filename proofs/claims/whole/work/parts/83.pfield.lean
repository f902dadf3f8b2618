-- ===== THE TEXT: an item, the field =====
section FI
variable {T n : Nat} {g p q : Nat → Nat} {bs tp st ty vl : Nat → Int32}
variable {B K F D : Nat → Nat} {N H S : Nat} {bf kd fm dp s : Nat → Int32} {n0 hr sn : Int32}
/-- an item told on both sides, or a fault at the same place -/
def itR (T n : Nat) (g p : Nat → Nat) (k H : Nat) (hr : Int32) (X : Option (Int32 × Int32 × Int32 × Int32 × (Nat → Int32) × (Nat → Int32) × (Nat → Int32) × (Nat → Int32))) (M : Option (Int32 × Int32 × Int32 × Int32 × (Nat → Int32))) : Prop :=
  (∃ k' x1 x2 x3 x4 x5 x6 y1 y2 y3, k' ≤ n ∧ X = some (0, nI k', x1, x2, x3, x4, x5, x6) ∧ M = some (0, y1, nI (p k'), y2, y3)) ∨ (∃ k' h' val' B' K' F' D' N' S' n1 sn' bf' dp' fm' kd' s', k < k' ∧ Ps T g n p k' h' ∧ X = some (1, nI k', n1, sn', bf', dp', fm', kd') ∧ M = some (1, nI h', -1, val', s') ∧ rPl B' K' F' D' N' H S' bf' kd' fm' dp' n1 hr sn' s')
theorem item_tail (ht : rTb T g bs tp) (hk : Tk T g n p q st ty vl) {k h : Nat} (hp : Ps T g n p k h) (hw : ∀ w, w < 6 → ¬ wdK T g n p q k w) (val : Int32) : ∃ h', Ps T g n p k h' ∧ f_M_item (nI T) (nI h) (-1) val s tp = ((f_M_may (nI T) (nI h') (-1) tp 6).bind fun r7 =>
      if r7.1 = (0 : Int32) then
        (f_M_must (nI T) r7.2 (-1) tp 7).bind fun r9 =>
        if r9.1 = (0 : Int32) then
          some ((0 : Int32), r9.2.1, r9.2.2, val, s)
        else
          (f_M_number (nI T) r9.2.1 r9.2.2 val tp (0 : Int32) (4095 : Int32)).bind fun r11 =>
          if r11.1 = (0 : Int32) then
            some ((0 : Int32), r11.2.1, r11.2.2.1, r11.2.2.2, s)
          else
            (wr s 65 (1 : Int32) r11.2.2.2).bind fun r13 =>
            some ((1 : Int32), r11.2.1, r11.2.2.1, r11.2.2.2, r13)
      else
        (f_M_signTold (nI T) r7.2 (-1) val s tp).bind fun r14 =>
        (bl r14.1).bind fun b15 =>
        some (b15, r14.2.1, r14.2.2.1, r14.2.2.2.1, r14.2.2.2.2)) := by
  obtain ⟨h', m, e1, e2⟩ := item_at (s := s) ht hk hp 6 (Nat.le_refl _) hw val
  refine ⟨h', e1, ?_⟩
  rw [e2, f_M_item_b2, if_pos (by decide)]
theorem itemK (ht : rTb T g bs tp) (hk : Tk T g n p q st ty vl) (hP : rPl B K F D N H S bf kd fm dp n0 hr sn s) {k h : Nat} (hp : Ps T g n p k h) (val : Int32) : itR T n g p k H hr (f_FieldText_passItem (nI k) (nI n) ty vl n0 sn bf dp fm kd) (f_M_item (nI T) (nI h) (-1) val s tp) := by
  have hn0 : n0 = nI N := hP.2.2.1.1
  have hn2 : s 2 = nI N := hP.2.2.1.2.1
  have hN : N ≤ 12 := hP.2.2.1.2.2
  obtain ⟨v, v1, v2⟩ := txt_at ht hk hp.1
  -- no word of the first eight
  have hD : f_Kinds_isKind v = some 0 → (∀ w, w < 8 → ¬ wdK T g n p q k w) → itR T n g p k H hr (f_FieldText_passItem (nI k) (nI n) ty vl n0 sn bf dp fm kd) (f_M_item (nI T) (nI h) (-1) val s tp) := by
    intro hv hw
    obtain ⟨h', e1, e2⟩ := item_tail (s := s) ht hk hp (fun w h => hw w (by omega)) val
    rw [e2, f_FieldText_passItem]
    rcases wordB ht hk e1 (c := 6) (w := 6) rfl (by decide) with ⟨a1, a2, a3, a4⟩ | ⟨a1, a2, a3, a4⟩
    · exact absurd a1 (hw 6 (by decide))
    · rw [a2, a3]
      simp only [sm_some]
      rw [if_pos trivial, if_pos trivial]
      rcases mustB ht hk a4 (c := 7) (w := 7) rfl (by decide) with ⟨d1, d2, d3, d4⟩ | ⟨d1, d2, d3, d4⟩
      · exact absurd d1 (hw 7 (by decide))
      · rw [d2, d3]
        simp only [sm_some]
        rw [if_pos trivial, if_pos trivial, v1]
        simp only [sm_some]
        rw [hv]
        simp only [sm_some]
        rw [if_pos trivial]
        exact Or.inl ⟨k, _, _, _, _, _, _, _, _, _, hp.1, rfl, rfl⟩
  rcases v2 with ⟨w, hw, rfl, hwd⟩ | ⟨rfl, hno⟩
  · have hone : ∀ w', w' < 11 → wdK T g n p q k w' → w' = w := fun w' h1 h2 => h2.2.2.one hwd.2.2 h1 hw
    by_cases q8 : 8 ≤ w
    · exact hD (isKind_no (Or.inr (nlts 5 w (by omega) (by omega)))) (fun w' h1 h2 => by have := hone w' (by omega) h2; omega)
    · by_cases q6 : w = 6
      · subst q6
        obtain ⟨h', e1, e2⟩ := item_tail (s := s) ht hk hp (fun w h z => by have := hone w (by omega) z; omega) val
        rw [e2, f_FieldText_passItem]
        rcases wordB ht hk e1 (c := 6) (w := 6) rfl (by decide) with ⟨a1, a2, a3, a4⟩ | ⟨a1, a2, a3, a4⟩
        · rw [a2, a3]
          simp only [sm_some]
          rw [if_neg one0, if_neg one0, f_FieldText_passSign, f_M_signTold]
          rcases numberB ht hk a4 (c := 25) (m := 25) rfl (by decide) val with ⟨x, b1, b2, b3, b4⟩ | ⟨b3, b4⟩
          · rw [b3, b4]
            simp only [sm_some]
            rw [if_pos (nI_pos' (by omega)), if_neg one0]
            rcases numberB ht hk b2 (c := 4095) (m := 4095) rfl (by decide) (nI x) with ⟨y, d1, d2, d3, d4⟩ | ⟨d3, d4⟩
            · rw [d3, d4]
              simp only [sm_some]
              rw [if_pos (nI_pos' (by omega)), if_neg one0, put_ok b1, show (3 : Int32) + nI x = nI (3 + x) from nI_add 3 x, wr_nI (by omega) (by decide)]
              simp only [sm_some]
              rw [bl1]
              simp only [sm_some]
              exact Or.inr ⟨k + 1 + 1 + 1, _, _, _, _, _, _, _, _, _, _, _, _, _, _, _, by omega, d2, rfl, rfl, rPl_B hP b1 (by omega)⟩
            · rw [d3, d4]
              simp only [sm_some]
              rw [if_neg m1_neg, if_pos trivial]
              simp only [sm_some]
              rw [bl0]
              simp only [sm_some]
              exact Or.inl ⟨k + 1 + 1, _, _, _, _, _, _, _, _, _, b2.1, rfl, rfl⟩
          · rw [b3, b4]
            simp only [sm_some]
            rw [if_neg m1_neg, if_pos trivial]
            simp only [sm_some]
            rw [bl0]
            simp only [sm_some]
            exact Or.inl ⟨k + 1, _, _, _, _, _, _, _, _, _, a4.1, rfl, rfl⟩
        · exact absurd hwd a1
      · by_cases q7 : w = 7
        · subst q7
          obtain ⟨h', e1, e2⟩ := item_tail (s := s) ht hk hp (fun w h z => by have := hone w (by omega) z; omega) val
          rw [e2, f_FieldText_passItem]
          rcases wordB ht hk e1 (c := 6) (w := 6) rfl (by decide) with ⟨a1, a2, a3, a4⟩ | ⟨a1, a2, a3, a4⟩
          · exact absurd (hone 6 (by decide) a1) (by decide)
          · rw [a2, a3]
            simp only [sm_some]
            rw [if_pos trivial, if_pos trivial]
            rcases mustB ht hk a4 (c := 7) (w := 7) rfl (by decide) with ⟨d1, d2, d3, d4⟩ | ⟨d1, d2, d3, d4⟩
            · rw [d2, d3]
              simp only [sm_some]
              rw [if_neg one0, if_neg one0, f_FieldText_passSun]
              rcases numberB ht hk d4 (c := 4095) (m := 4095) rfl (by decide) val with ⟨x, b1, b2, b3, b4⟩ | ⟨b3, b4⟩
              · rw [b3, b4]
                simp only [sm_some]
                rw [if_pos (nI_pos' (by omega)), if_neg one0, wr1]
                simp only [sm_some]
                rw [bl1]
                simp only [sm_some]
                exact Or.inr ⟨k + 1 + 1, _, _, _, _, _, _, _, _, _, _, _, _, _, _, _, by omega, b2, rfl, rfl, rPl_S hP (by omega)⟩
              · rw [b3, b4]
                simp only [sm_some]
                rw [if_neg m1_neg, if_pos trivial]
                simp only [sm_some]
                rw [bl0]
                simp only [sm_some]
                exact Or.inl ⟨k + 1, _, _, _, _, _, _, _, _, _, d4.1, rfl, rfl⟩
            · exact absurd hwd d1
        · -- a kind
          have hw6 : w < 6 := by omega
          obtain ⟨h', m, e1, e2⟩ := item_at (s := s) ht hk hp w (by omega) (fun w' h1 h2 => by have := hone w' (by omega) h2; omega) val
          rw [e2, f_FieldText_passItem]
          rcases wordB ht hk e1 (c := 6) (w := 6) rfl (by decide) with ⟨a1, a2, a3, a4⟩ | ⟨a1, a2, a3, a4⟩
          · exact absurd (hone 6 (by decide) a1) (by omega)
          · rw [a2]
            simp only [sm_some]
            rw [if_pos trivial]
            rcases mustB ht hk a4 (c := 7) (w := 7) rfl (by decide) with ⟨d1, d2, d3, d4⟩ | ⟨d1, d2, d3, d4⟩
            · exact absurd (hone 7 (by decide) d1) (by omega)
            · rw [d2]
              simp only [sm_some]
              rw [if_pos trivial, v1]
              simp only [sm_some]
              rw [isKind_yes (by omega)]
              simp only [sm_some]
              rw [if_neg one0, f_M_item_b2, if_neg (show ¬ (5 : Int32) < nI w from nnlt w 5 (by omega) (by decide)), kindName_ok w hw6, sm_some]
              rcases isWordK ht hk e1 (w := w) hw with ⟨i1, i2⟩ | ⟨i1, i2⟩
              · rw [i2]
                simp only [sm_some]
                rw [if_neg one0, rs2]
                simp only [sm_some]
                rw [hn2, hn0]
                rcases Nat.lt_or_ge N 12 with qN | qN
                · rw [isFull_no qN, if_neg (show ¬ nI N = (12 : Int32) from nI_nq (b := 12) (by omega) (by decide) (by omega))]
                  simp only [sm_some]
                  rw [if_pos trivial, f_M_item_b34, kindName_ok w hw6, sm_some]
                  rcases mayK ht hk (hk.stay hp.1) (w := w) hw with ⟨j1, j2⟩ | ⟨j1, j2⟩
                  · rw [j2]
                    simp only [sm_some]
                    rw [if_neg one0, nI_1]
                    rcases letterK ht hk hP qN (hk.next hwd.1) hw6 val with ⟨k', y1, y2, c1, c2, c3⟩ | ⟨k', h2, val', K', F', D', dp', fm', kd', s', c0, c1, c2, c3, c4⟩
                    · rw [c2, c3]
                      simp only [sm_some]
                      rw [bl0]
                      simp only [sm_some]
                      exact Or.inl ⟨k', _, _, _, _, _, _, _, _, _, c1, rfl, rfl⟩
                    · rw [c2, c3]
                      simp only [sm_some]
                      rw [bl1]
                      simp only [sm_some]
                      exact Or.inr ⟨k', _, _, _, _, _, _, _, _, _, _, _, _, _, _, _, by omega, c1, rfl, rfl, c4⟩
                  · exact absurd hwd j1
                · obtain rfl : N = 12 := by omega
                  rw [f_Plain_isFull, if_neg (by decide), if_pos (by decide), f_M_fails, if_neg (by decide), f_M_fails_b19]
                  simp only [sm_some]
                  rw [if_neg one0, bl0]
                  simp only [sm_some]
                  exact Or.inl ⟨k, _, _, _, _, _, _, _, _, _, hp.1, rfl, rfl⟩
              · exact absurd hwd i1
  · exact hD (isKind_no (Or.inl (by decide))) (fun w hw => hno w (by omega))
theorem place_ok (ht : rTb T g bs tp) (hk : Tk T g n p q st ty vl) {k : Nat} (h : k ≤ n) : f_Tokens_placeAt (nI n) (nI T) st (nI k) = some (nI (p k)) := by
  have hT := ht.1
  have h0 := hk.1
  rw [f_Tokens_placeAt, if_neg (nI_pos (by omega))]
  rcases Nat.lt_or_ge k n with c | c
  · rw [if_neg (nge _ _ c (by omega)), rd_nI (by omega) (by decide), sm_some, (hk.2.2.2 k c).2.2.2.1]
  · have ek : k = n := by omega
    subst ek
    rw [if_pos (nles _ _ (by omega) (by omega)), f_Tokens_placeAt_b21, hk.2.1]
theorem type_in (ht : rTb T g bs tp) (hk : Tk T g n p q st ty vl) {k : Nat} (h : k < n) : f_Tokens_typeAt (nI n) ty (nI k) = some (nI (tyN (g (p k)))) := by
  have hT := ht.1
  have h0 := hk.1
  rw [f_Tokens_typeAt, if_neg (nI_pos (by omega)), if_neg (nge _ _ h (by omega)), rd_nI (by omega) (by decide), sm_some, (hk.2.2.2 k h).2.2.2.2.1]
theorem type_out (ht : rTb T g bs tp) (hk : Tk T g n p q st ty vl) : f_Tokens_typeAt (nI n) ty (nI n) = some 0 := by
  have hT := ht.1
  have h0 := hk.1
  rw [f_Tokens_typeAt, if_neg (nI_pos (by omega)), if_pos (nles _ _ (by omega) (by omega))]
theorem flt_neg : ∀ x, x ≤ 120 → (-1 : Int32) - nI x < 0 := by decide +kernel
/-- the whole text, on both sides -/
def fdR (H : Nat) (hr : Int32) (bf0 : Nat → Int32) (X : Option (Int32 × Int32 × Int32 × Int32 × (Nat → Int32) × (Nat → Int32) × (Nat → Int32) × Int32 × Int32 × (Nat → Int32) × (Nat → Int32) × (Nat → Int32) × (Nat → Int32))) (M : Option (Int32 × Int32 × Int32 × Int32 × Int32 × (Nat → Int32) × (Nat → Int32))) : Prop :=
  (∃ r x1 x2 x3 x4 x5 x6 x7 x8 x9 x10 x11 x12 y1 y2 y3 y4 s', r < 0 ∧ X = some (r, x1, x2, x3, x4, x5, x6, x7, x8, x9, x10, x11, x12) ∧ M = some (r, 0, y1, y2, y3, y4, s') ∧ ∀ i, i < 65 → s' i = bf0 i) ∨ (∃ r x1 x2 x3 x4 x5 x6 n1 sn' bf' dp' fm' kd' y1 y2 y3 y4 s' B' K' F' D' N' S', ¬ r < 0 ∧ X = some (r, x1, x2, x3, x4, x5, x6, n1, sn', bf', dp', fm', kd') ∧ M = some (r, 0, y1, y2, y3, y4, s') ∧ rPl B' K' F' D' N' H S' bf' kd' fm' dp' n1 hr sn' s')
theorem field_loop (ht : rTb T g bs tp) (hk : Tk T g n p q st ty vl) {bef : Nat → Int32} : ∀ (j k h i fuel fuel2 : Nat) (val : Int32) (B K F D : Nat → Nat) (N S : Nat) (bf kd fm dp s : Nat → Int32) (n0 sn : Int32), rPl B K F D N H S bf kd fm dp n0 hr sn s → Ps T g n p k h → k + j = n → 2 * i ≤ k → j + 2 < fuel → j + 2 < fuel2 → fdR H hr bef (f_FieldText_tell_b15 (nI T) bs fuel (nI k) (nI n) (nI T) st ty vl n0 sn bf dp fm kd (nI (i + 1))) (f_M_field_b25 tp fuel2 (nI T) (nI h) (-1) val bef s (nI i) 1) := by
  intro j
  have hT := ht.1
  have h0 := hk.1
  induction j using Nat.strongRecOn with
  | ind j ih =>
    intro k h i fuel fuel2 val B K F D N S bf kd fm dp s n0 sn hP hp hj hi hf hf2
    obtain ⟨m, rfl⟩ : ∃ m, fuel = m + 1 := ⟨fuel - 1, by omega⟩
    obtain ⟨m2, rfl⟩ : ∃ m2, fuel2 = m2 + 1 + 1 := ⟨fuel2 - 2, by omega⟩
    rw [f_FieldText_tell_b15, if_neg (show ¬ (120 : Int32) < nI (i + 1) from nnlt (i + 1) 120 (by omega) (by decide)), f_M_field_b25, if_neg one0]
    rcases itemK ht hk hP hp val with ⟨k', x1, x2, x3, x4, x5, x6, y1, y2, y3, c1, c2, c3⟩ | ⟨k', h', val', B', K', F', D', N', S', n1, sn', bf', dp', fm', kd', s', c1, c2, c3, c4, c5⟩
    · obtain ⟨t', t1, t2⟩ := lay_ok bef y3
      have hle := hk.le c1
      rw [c2, c3]
      simp only [sm_some]
      rw [if_pos trivial, if_pos trivial, f_FieldText_tell_b82, place_ok ht hk c1, f_M_field_b83, if_pos (nI_pos' (by omega)), f_M_field_b106, if_neg (nI_pos (by omega)), t1]
      simp only [sm_some]
      exact Or.inl ⟨_, _, _, _, _, _, _, _, _, _, _, _, _, _, _, _, _, _, flt_neg (p k') (by omega), rfl, rfl, t2⟩
    · have hle := hk.le c2.1
      rw [c3, c4]
      simp only [sm_some]
      rw [if_neg one0, if_neg one0, blanks_ok ht c2.2]
      simp only [sm_some]
      rcases Nat.lt_or_ge k' n with c | c
      · have hR := hk.2.2.2 k' c
        have hz := tyN_le (g (p k'))
        have hb := (ht.2 _ hR.1.1).2.2
        rw [type_in ht hk c, byteM ht hR.1.1]
        simp only [sm_some]
        rw [if_neg (show ¬ nI (tyN (g (p k'))) = (0 : Int32) from nI_nq (b := 0) (by omega) (by decide) hR.1.2)]
        by_cases q3 : tyN (g (p k')) = 3
        · have hq : q k' = p k' + 1 := hR.2.1.2.2.2.2 (by omega) (by omega)
          have hn := hk.next c
          rw [if_pos (show nI (tyN (g (p k'))) = (3 : Int32) by rw [q3]; rfl), if_pos ((semi_ok _ hb).mpr q3), f_M_field_b61, if_neg one0, f_M_field_b76, nI_1, nI_1, nI_1, nI_1, ← hq]
          exact ih (n - (k' + 1)) (by omega) (k' + 1) (q k') (i + 1) m (m2 + 1) val' B' K' F' D' N' S' bf' kd' fm' dp' s' n1 sn' c5 hn (by omega) (by omega) (by omega) (by omega)
        · obtain ⟨t', t1, t2⟩ := lay_ok bef s'
          rw [if_neg (show ¬ nI (tyN (g (p k'))) = (3 : Int32) from nI_nq (b := 3) (by omega) (by decide) q3), if_neg (fun z => q3 ((semi_ok _ hb).mp z)), f_M_field_b61, if_pos rfl, f_M_field_b76, f_FieldText_tell_b82, place_ok ht hk c2.1, f_M_field_b25, if_pos rfl, f_M_field_b83, if_neg m1_neg, show nI (p k') + (0 : Int32) = nI (p k') from nI_add (p k') 0, if_neg (nge _ _ hR.1.1 (by omega)), f_M_fails, if_neg m1_neg, f_M_fails_b19]
          simp only [sm_some]
          rw [f_M_field_b106, if_neg (nI_pos (by omega)), t1]
          simp only [sm_some]
          exact Or.inl ⟨_, _, _, _, _, _, _, _, _, _, _, _, _, _, _, _, _, _, flt_neg (p k') (by omega), rfl, rfl, t2⟩
      · have ek : k' = n := by have := c2.1; omega
        subst ek
        rw [type_out ht hk, hk.2.1, byteM_end (Nat.le_refl _) (by omega)]
        simp only [sm_some]
        rw [if_pos trivial, if_neg (by decide), f_M_field_b61, if_pos rfl, f_M_field_b76, f_M_field_b25, if_pos rfl, f_M_field_b83, if_neg m1_neg, show nI T + (0 : Int32) = nI T from nI_add T 0, if_pos (nles _ _ (Nat.le_refl _) (by omega)), f_M_field_b106, if_pos (by decide), nI_1]
        exact Or.inr ⟨_, _, _, _, _, _, _, _, _, _, _, _, _, _, _, _, _, _, _, _, _, _, _, _, nI_pos (by omega), rfl, rfl, c5⟩
end FI
section FC
variable {B K F D : Nat → Nat} {N H S : Nat} {bf kd fm dp s : Nat → Int32} {n hr sn : Int32}
theorem tell_ok (h : rPl B K F D N H S bf kd fm dp n hr sn s) {T : Nat} {bs tp : Nat → Int32} (hT : rTp T bs tp) (bef : Nat → Int32) (x1 x2 x3 : Int32) (x4 x5 x6 : Nat → Int32) (y3 : Int32) : fdR H hr bef (f_FieldText_tell x1 x2 x3 x4 x5 x6 (nI T) bs n sn bf dp fm kd) (f_M_field_b25 tp 5000 (nI T) 0 (-1) y3 bef s 0 1) := by
  obtain ⟨g, ht⟩ := hT.bytes
  have h120 := ht.1
  obtain ⟨nn, p, q, st, ty, vl, e1, hk⟩ := cut_ok ht x2 x3 x4 x5 x6
  have h0 := hk.1
  have hL := field_loop (bef := bef) ht hk nn 0 0 0 5000 5000 y3 B K F D N S bf kd fm dp s n sn h ⟨Nat.zero_le _, hk.2.2.1⟩ (by omega) (by omega) (by omega) (by omega)
  have e2 : f_FieldText_tell x1 x2 x3 x4 x5 x6 (nI T) bs n sn bf dp fm kd = f_FieldText_tell_b15 (nI T) bs 5000 (nI 0) (nI nn) (nI T) st ty vl n sn bf dp fm kd (nI (0 + 1)) := by
    rw [f_FieldText_tell, e1, sm_some]
    rfl
  rw [e2]
  exact hL
theorem field_fin (h : rPl B K F D N H S bf kd fm dp n hr sn s) {bef : Nat → Int32} (hb : ∀ i, i < 65 → bef i = s i) (T bs) (x1 x2 x3 : Int32) (x4 x5 x6 : Nat → Int32) (x7 x8 x9 : Int32) (x10 x11 x12 x13 : Nat → Int32) {M : Option (Int32 × Int32 × Int32 × Int32 × Int32 × (Nat → Int32) × (Nat → Int32))} (hL : fdR H hr bef (f_FieldText_tell x1 x2 x3 x4 x5 x6 (nI T) bs n sn (va_cpy bf x10 0 0 26) (va_cpy dp x11 0 0 12) (va_cpy fm x12 0 0 12) (va_cpy kd x13 0 0 12)) M) : ∃ r B' K' F' D' N' S' n' sn' bf' dp' fm' kd' s' z1 z2 z3 z4 z5 z6 z7 z8 z9 z10 z11 z12 z13 u1 u2 u3 u4, f_S_field n hr sn bf dp fm kd (nI T) bs x1 x2 x3 x4 x5 x6 x7 x8 x9 x10 x11 x12 x13 = some (r, n', hr, sn', bf', dp', fm', kd', 0, z1, z2, z3, z4, z5, z6, z7, z8, z9, z10, z11, z12, z13) ∧ M = some (r, 0, u1, u2, u3, u4, s') ∧ rPl B' K' F' D' N' H S' bf' kd' fm' dp' n' hr sn' s' := by
  rw [f_S_field, become_ok]
  simp only [sm_some]
  generalize f_FieldText_tell x1 x2 x3 x4 x5 x6 (nI T) bs n sn (va_cpy bf x10 0 0 26) (va_cpy dp x11 0 0 12) (va_cpy fm x12 0 0 12) (va_cpy kd x13 0 0 12) = X at hL ⊢
  rcases hL with ⟨r, a1, a2, a3, a4, a5, a6, a7, a8, a9, a10, a11, a12, u1, u2, u3, u4, s', c1, c2, c3, c4⟩ | ⟨r, a1, a2, a3, a4, a5, a6, n1, sn', bf', dp', fm', kd', u1, u2, u3, u4, s', B', K', F', D', N', S', c1, c2, c3, c4⟩
  · rw [c2, c3]
    simp only [sm_some]
    rw [if_pos c1, f_S_field_b42, f_Tape_empty]
    simp only [sm_some]
    exact ⟨_, _, _, _, _, _, _, _, _, _, _, _, _, _, _, _, _, _, _, _, _, _, _, _, _, _, _, _, _, _, _, rfl, rfl, rPl_lay h (fun i hi => rfl) (fun i hi => rfl) (fun i hi => rfl) (fun i hi => rfl) (fun i hi => by rw [c4 i hi, hb i hi])⟩
  · rw [c2, c3]
    simp only [sm_some]
    rw [if_neg c1, become_ok]
    simp only [sm_some]
    rw [f_S_field_b42, f_Tape_empty]
    simp only [sm_some]
    exact ⟨_, _, _, _, _, _, _, _, _, _, _, _, _, _, _, _, _, _, _, _, _, _, _, _, _, _, _, _, _, _, _, rfl, rfl, rPl_lay c4 (fun i hi => cpy_at bf' bf hi) (fun i hi => cpy_at kd' kd hi) (fun i hi => cpy_at fm' fm hi) (fun i hi => cpy_at dp' dp hi) (fun i hi => rfl)⟩
theorem case_field (h : rPl B K F D N H S bf kd fm dp n hr sn s) {T : Nat} {bs tp : Nat → Int32} (hT : rTp T bs tp) (x1 x2 x3 : Int32) (x4 x5 x6 : Nat → Int32) (x7 x8 x9 : Int32) (x10 x11 x12 x13 : Nat → Int32) (y1 y2 y3 : Int32) (y4 : Nat → Int32) : ∃ r B' K' F' D' N' S' n' sn' bf' dp' fm' kd' s' z1 z2 z3 z4 z5 z6 z7 z8 z9 z10 z11 z12 z13 u1 u2 u3 u4, f_S_field n hr sn bf dp fm kd (nI T) bs x1 x2 x3 x4 x5 x6 x7 x8 x9 x10 x11 x12 x13 = some (r, n', hr, sn', bf', dp', fm', kd', 0, z1, z2, z3, z4, z5, z6, z7, z8, z9, z10, z11, z12, z13) ∧ f_M_field (nI T) y1 y2 y3 y4 s tp = some (r, 0, u1, u2, u3, u4, s') ∧ rPl B' K' F' D' N' H S' bf' kd' fm' dp' n' hr sn' s' := by
  obtain ⟨bef, b1, b2⟩ := lay_ok s y4
  have hP : rPl B K F D N H S (va_cpy bf x10 0 0 26) (va_cpy kd x13 0 0 12) (va_cpy fm x12 0 0 12) (va_cpy dp x11 0 0 12) n hr sn s := rPl_lay h (fun i hi => cpy_at bf x10 hi) (fun i hi => cpy_at kd x13 hi) (fun i hi => cpy_at fm x12 hi) (fun i hi => cpy_at dp x11 hi) (fun i hi => rfl)
  have hM : f_M_field (nI T) y1 y2 y3 y4 s tp = f_M_field_b25 tp 5000 (nI T) 0 (-1) y3 bef s 0 1 := by rw [f_M_field, b1, sm_some]
  rw [hM]
  exact field_fin h b2 T bs x1 x2 x3 x4 x5 x6 x7 x8 x9 x10 x11 x12 x13 (tell_ok hP hT bef x1 x2 x3 x4 x5 x6 y3)
end FC
