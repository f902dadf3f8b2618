-- ===== SHEETS: walk =====
def btN (a b : Nat) : Option Nat := (List.range 12).find? fun t => eB_ t a && Nat.beq (acN t a) b
theorem between_ok : ∀ a, a < 9 → ∀ b, b < 9 → f_Forms_between (nI a) (nI b) = some (enc (btN a b)) := by decide +kernel
theorem bt_iff : ∀ a, a < 9 → ∀ b, b < 9 → ∀ t, t < 12 → ((a ≠ b ∧ eB_ t a = true ∧ eB_ t b = true) ↔ btN a b = some t) := by decide +kernel
theorem bt_all : ∀ a, a < 9 → ∀ b, b < 9 → (btN a b).all (fun t => decide (t < 12)) = true := by decide +kernel
theorem bt_lt {a b t : Nat} (ha : a < 9) (hb : b < 9) (h : btN a b = some t) : t < 12 := by
  have := bt_all a ha b hb
  rw [h] at this
  simpa using this
/-- the stroke of a form that leads from a point to another, among the first k -/
def ld (f a b k : Nat) : Int32 := match btN a b with
  | some t => if t < k ∧ f.testBit t = true then nI t else -1
  | none => -1
theorem ld_step (f a b k : Nat) : ld f a b (k + 1) = if f.testBit k = true ∧ btN a b = some k then nI k else ld f a b k := by
  unfold ld
  cases btN a b with
  | none => simp
  | some t =>
    by_cases e : t = k
    · subst e
      by_cases q : f.testBit t = true
      · simp [q]
      · simp [q]
    · have e2 : ¬ (f.testBit k = true ∧ some t = some k) := fun z => e (Option.some.inj z.2)
      rw [if_neg e2]
      by_cases q : t < k
      · simp [q, show t < k + 1 by omega]
      · simp [q, show ¬ t < k + 1 by omega]
theorem leads_loop {f a b : Nat} (hf : f < 4096) (ha : a < 9) (hb : b < 9) : ∀ (j k fuel : Nat), k + j = 12 → j < fuel → f_M_leads_b5 (nI f) (nI a) (nI b) fuel (ld f a b k) (nI k) = some (ld f a b 12) := by
  intro j
  induction j with
  | zero =>
    intro k fuel h1 h2
    obtain ⟨n, rfl⟩ : ∃ n, fuel = n + 1 := ⟨fuel - 1, by omega⟩
    obtain rfl : k = 12 := by omega
    rw [f_M_leads_b5, if_pos (by decide)]
  | succ j ih =>
    intro k fuel h1 h2
    obtain ⟨n, rfl⟩ : ∃ n, fuel = n + 1 := ⟨fuel - 1, by omega⟩
    have hk : k < 12 := by omega
    have hI := ih (k + 1) n (by omega) (by omega)
    rw [ld_step] at hI
    have hi := bt_iff a ha b hb k hk
    rw [f_M_leads_b5, if_neg (show ¬ (12 : Int32) ≤ nI k from nge k 12 hk (by decide))]
    by_cases q1 : f.testBit k = true
    · rw [Mhas1 (by omega) q1, sm_some, if_neg one0]
      by_cases q2 : a = b
      · rw [if_pos (congrArg nI q2), f_M_leads_b50, nI_1]
        rw [if_neg (fun z => (hi.mpr z.2).1 q2)] at hI
        exact hI
      · rw [if_neg (nI_nq (by omega) (by omega) q2), Mends_ok k hk a ha, sm_some]
        by_cases q3 : eB_ k a = true
        · rw [if_pos q3, if_neg one0, Mends_ok k hk b hb, sm_some]
          by_cases q4 : eB_ k b = true
          · rw [if_pos q4, if_neg one0, f_M_leads_b50, nI_1]
            rw [if_pos ⟨q1, hi.mp ⟨q2, q3, q4⟩⟩] at hI
            exact hI
          · rw [if_neg q4, if_pos rfl, f_M_leads_b50, nI_1]
            rw [if_neg (fun z => q4 (hi.mpr z.2).2.2)] at hI
            exact hI
        · rw [if_neg q3, if_pos rfl, f_M_leads_b50, nI_1]
          rw [if_neg (fun z => q3 (hi.mpr z.2).2.1)] at hI
          exact hI
    · rw [Mhas0 (by omega) (by simpa using q1), sm_some, if_pos rfl, f_M_leads_b50, nI_1]
      rw [if_neg (fun z => q1 z.1)] at hI
      exact hI
theorem leads_ok {f a b : Nat} (hf : f < 4096) (ha : a < 9) (hb : b < 9) : f_M_leads (nI f) (nI a) (nI b) = some (ld f a b 12) := by
  have := leads_loop hf ha hb 12 0 5000 rfl (by decide)
  have e : ld f a b 0 = -1 := by
    unfold ld
    cases btN a b with
    | none => rfl
    | some t => simp
  rw [e, nI_0] at this
  rw [f_M_leads]
  exact this
theorem pnt (v : Int64) : (∃ x, x ≤ 8 ∧ v = lN x) ∨ (v < 0 ∨ (¬ v < 0 ∧ (9 : Int64) ≤ v)) := by
  by_cases h0 : v < 0
  · exact Or.inr (Or.inl h0)
  · obtain ⟨x, hx, rfl⟩ := pk_lOf h0
    rcases Nat.lt_or_ge 8 x with q | q
    · exact Or.inr (Or.inr ⟨h0, (pk_lLE (a := 9) (by decide) hx).mpr q⟩)
    · exact Or.inl ⟨x, q, rfl⟩
section WK
variable {Z : Nat → Nat} {wd sz bt lg c d : Nat → Int32} {nu ce : Nat → Int64}
theorem walk_loop (h : rSh Z wd sz nu bt lg ce) {k : Nat} (hk : k ≤ 3) (a2 : Int32) : ∀ (j i f fuel fuel2 : Nat) (w : Int32), i + j = Z k → j < fuel → j < fuel2 → f < 4096 → (0 < i → ∃ a, a ≤ 8 ∧ w = nI a ∧ ce (40 * k + (i - 1)) = lN a) → ∃ r, f_Sheets_walkOver_b12 nu sz (nI k) a2 fuel (nI (Z k)) (nI f) (nI i) = some r ∧ f_M_walk_b49 bt ce lg (nI k) a2 fuel2 d (nI f) w (nI i) = some (r, d) := by
  intro j
  have hz := (h.1 k (by omega)).2.2.2
  have hl := (h.1 k (by omega)).2.2.1
  induction j with
  | zero =>
    intro i f fuel fuel2 w h1 h2 h3 hf hw
    obtain ⟨p, rfl⟩ : ∃ p, fuel = p + 1 := ⟨fuel - 1, by omega⟩
    obtain ⟨q, rfl⟩ : ∃ q, fuel2 = q + 1 := ⟨fuel2 - 1, by omega⟩
    rw [f_Sheets_walkOver_b12, if_pos (nles _ _ (by omega) (by omega)), f_M_walk_b49, rd_nI (by omega) (by decide), sm_some, sm_some, hl, if_pos (nles _ _ (by omega) (by omega))]
    by_cases e : nI f = 0
    · rw [if_pos e, if_pos e]
      exact ⟨_, rfl, rfl⟩
    · rw [if_neg e, if_neg e]
      exact ⟨_, rfl, rfl⟩
  | succ j ih =>
    intro i f fuel fuel2 w h1 h2 h3 hf hw
    obtain ⟨p, rfl⟩ : ∃ p, fuel = p + 1 := ⟨fuel - 1, by omega⟩
    obtain ⟨q, rfl⟩ : ∃ q, fuel2 = q + 1 := ⟨fuel2 - 1, by omega⟩
    rw [f_Sheets_walkOver_b12, if_neg (nge _ _ (by omega) (by omega)), at_ok h hk (by omega), sm_some, f_M_walk_b49, rd_nI (by omega) (by decide), sm_some, hl, if_neg (nge _ _ (by omega) (by omega)), Mat_ok h hk (by omega), sm_some]
    have hbad : ∀ v, f_Forms_isPoint v = some 0 → ∀ k49, (∃ r, ((f_Forms_isPoint v).bind fun r4 => if r4 = (0 : Int32) then some ((1 : Int32) + nI i) else if nI i ≤ (0 : Int32) then f_Sheets_walkOver_b12 nu sz (nI k) a2 p (nI (Z k)) (nI f) (nI i + 1) else (f_Sheets_at nu sz (nI k) (nI i - 1)).bind fun r7 => (some v).bind fun r8 => (f_Forms_between r7.toInt32 r8.toInt32).bind fun r9 => if r9 < (0 : Int32) then f_Sheets_walkOver_b79 nu sz (nI k) a2 (nI i) else (f_Forms_hasStroke (nI f) r9).bind fun r11 => if r11 = (0 : Int32) then f_Sheets_walkOver_b79 nu sz (nI k) a2 (nI i) else f_Sheets_walkOver_b12 nu sz (nI k) a2 p (nI (Z k)) (nI f &&& (((1 : Int32) <<< (r9 &&& 31)) ^^^ (-1 : Int32))) (nI i + 1)) = some r ∧ f_M_walk_b97 k49 bt ce lg (nI k) a2 d (nI f) w (nI i) (-1) = some (r, d)) := by
      intro v hv k49
      refine ⟨1 + nI i, ?_, ?_⟩
      · rw [hv, sm_some, if_pos rfl]
      · rw [f_M_walk_b97, if_pos (by decide), f_M_walk_b121, if_pos (by decide), f_M_walk_b138]
    have hstop : ∀ (x : Nat) k49, x ≤ 8 → 0 < i → f_M_walk_b121 k49 bt ce lg (nI k) a2 d (nI f) (nI i) (nI x) (-1) = some (1 + nI i, d) := by
      intro x k49 hx hi
      rw [f_M_walk_b121, if_neg (nI_pos (by omega)), if_neg (nI_nle hi (by omega)), if_neg m1_neg, f_M_walk_b138]
    rcases pnt (ce (40 * k + i)) with ⟨x, hx, e⟩ | e | ⟨e0, e1⟩
    · have g0 : ¬ lN x < (0 : Int64) := fun z => by rw [l0, pk_lLT (by omega) (by decide)] at z; omega
      have g1 : ¬ (9 : Int64) ≤ lN x := fun z => by
        have := (pk_lLE (a := 9) (by decide) (by omega)).mp z
        omega
      have gp : f_Forms_isPoint (lN x) = some 1 := by rw [← nI_l (by omega)]; exact isPoint_yes x hx
      rw [e, gp, sm_some, if_neg one0, if_neg (fun z => g0 ((lg_cmp_lt _ _).mp z)), if_neg (fun z => g1 ((lg_cmp_ge _ _).mp z)), lN_i, f_M_walk_b97, if_neg (nI_pos (by omega))]
      by_cases hi : i = 0
      · subst hi
        rw [if_pos (by decide), if_pos (by decide), f_M_walk_b121, if_neg (nI_pos (by omega)), if_pos (by decide), f_M_walk_b143, if_pos (by decide), f_M_walk_b159, nI_1, fa_and, Nat.and_self]
        exact ih (0 + 1) f p q (nI x) (by omega) (by omega) (by omega) hf (fun _ => ⟨x, hx, rfl, e⟩)
      · have hi' : ¬ nI i ≤ (0 : Int32) := nI_nle (by omega) (by omega)
        obtain ⟨a, ha, rfl, ea⟩ := hw (by omega)
        rw [if_neg hi', if_neg hi', show nI i - (1 : Int32) = nI (i - 1) from pk_sub (b := 1) (by omega), at_ok h hk (by omega), sm_some, sm_some, ea, lN_i, lN_i, between_ok a (by omega) x (by omega), sm_some, leads_ok hf (by omega) (by omega), sm_some]
        have hld : ld f a x 12 = match btN a x with
          | some t => if t < 12 ∧ f.testBit t = true then nI t else -1
          | none => -1 := rfl
        cases hb : btN a x with
        | none =>
          rw [hb] at hld
          rw [hld, show enc none = (-1 : Int32) from rfl, if_pos (by decide), f_Sheets_walkOver_b79, hstop x _ hx (by omega)]
          exact ⟨_, rfl, rfl⟩
        | some t =>
          have ht := bt_lt (by omega) (by omega) hb
          rw [hb] at hld
          rw [enc_some, if_neg (nI_pos (by omega))]
          by_cases qb : f.testBit t = true
          · have hld' : ld f a x 12 = nI t := by rw [hld]; exact if_pos ⟨ht, qb⟩
            rw [hld', has1 (by omega) (by omega) qb, sm_some, if_neg one0, wo_nI hf ht, f_M_walk_b121, if_neg (nI_pos (by omega)), if_neg hi', if_pos (nI_pos' (by omega)), f_M_walk_b143, if_neg hi', f_M_walk_b159, wo_nI hf ht, nI_1]
            exact ih (i + 1) (wo f t) p q (nI x) (by omega) (by omega) (by omega) (wo_lt hf) (fun _ => ⟨x, hx, rfl, e⟩)
          · have hld' : ld f a x 12 = -1 := by rw [hld]; exact if_neg (fun z => qb z.2)
            rw [hld', has0 (by omega) (by omega) (by simpa using qb), sm_some, if_pos rfl, f_Sheets_walkOver_b79, hstop x _ hx (by omega)]
            exact ⟨_, rfl, rfl⟩
    · rw [if_pos ((lg_cmp_lt _ _).mpr e)]
      exact hbad _ (by rw [f_Forms_isPoint, if_pos ((lg_cmp_lt _ _).mpr e)]) _
    · rw [if_neg (fun z => e0 ((lg_cmp_lt _ _).mp z)), if_pos ((lg_cmp_ge _ _).mpr e1)]
      exact hbad _ (by rw [f_Forms_isPoint, if_neg (fun z => e0 ((lg_cmp_lt _ _).mp z)), if_pos ((lg_cmp_ge _ _).mpr e1)]) _
theorem case_walk (hF : rF c d) (h : rSh Z wd sz nu bt lg ce) (a b : Int32) : ∃ r c' d', f_S_walk c nu sz wd a b = some (r, c') ∧ f_M_walk bt ce d lg a b = some (r, d') ∧ rF c' d' := by
  rcases rng a 3 (by decide) with ⟨k, hk, rfl⟩ | hn
  · have hz := (h.1 k (by omega)).2.2.2
    by_cases h0 : bt k = 0
    · refine ⟨-1000000006, _, _, ?_, ?_, hF.fin (k := 5) (by decide)⟩
      · rw [f_S_walk, isSheet_yes hk, sm_some, if_neg one0, missing_yes h hk h0, sm_some, if_neg one0, fnd5, sm_some]
      · rw [f_M_walk, MisSheet_yes hk, sm_some, if_neg one0, rd_nI (by omega) (by decide), sm_some, if_pos h0, mno5, sm_some]
    · rcases rng b 4095 (by decide) with ⟨f, hf, rfl⟩ | hn
      · obtain ⟨r, e1, e2⟩ := walk_loop (d := d) h hk (nI f) (Z k) 0 f 5000 5000 (-1) (by omega) (by omega) (by omega) (by omega) (fun z => by omega)
        rw [nI_0] at e1 e2
        refine ⟨r, c, d, ?_, ?_, hF⟩
        · rw [f_S_walk, isSheet_yes hk, sm_some, if_neg one0, missing_no h hk h0, sm_some, if_pos rfl, isForm_yes hf, sm_some, if_neg one0, f_Sheets_walkOver, sizeOf_ok h hk, sm_some, e1, sm_some]
        · rw [f_M_walk, MisSheet_yes hk, sm_some, if_neg one0, rd_nI (by omega) (by decide), sm_some, if_neg h0, MisForm_yes hf, sm_some, if_neg one0, e2]
      · refine ⟨-1000000001, _, _, ?_, ?_, hF.fin (k := 0) (by decide)⟩
        · rw [f_S_walk, isSheet_yes hk, sm_some, if_neg one0, missing_no h hk h0, sm_some, if_pos rfl, isForm_no hn, sm_some, if_pos rfl, fnd0, sm_some]
        · rw [f_M_walk, MisSheet_yes hk, sm_some, if_neg one0, rd_nI (by omega) (by decide), sm_some, if_neg h0, MisForm_no hn, sm_some, if_pos rfl, mno0, sm_some]
  · refine ⟨-1000000001, _, _, ?_, ?_, hF.fin (k := 0) (by decide)⟩
    · rw [f_S_walk, isSheet_no hn, sm_some, if_pos rfl, fnd0, sm_some]
    · rw [f_M_walk, MisSheet_no hn, sm_some, if_pos rfl, mno0, sm_some]
end WK
