-- ===== THE BOOK: forge =====
theorem popK_le {x y z : Nat} : ∀ k, (∀ i, i < k → (if x.testBit i then 1 else 0) ≤ (if y.testBit i then 1 else 0) + (if z.testBit i then 1 else 0)) → popK x k ≤ popK y k + popK z k := by
  intro k
  induction k with
  | zero => intro _; exact Nat.zero_le _
  | succ k ih =>
    intro h
    have h1 := ih (fun i hi => h i (by omega))
    have h2 := h k (by omega)
    rw [popK, popK, popK]
    omega
theorem popK_add {x y z : Nat} : ∀ k, (∀ i, i < k → (if y.testBit i then 1 else 0) + (if z.testBit i then 1 else 0) = (if x.testBit i then 1 else 0)) → popK y k + popK z k = popK x k := by
  intro k
  induction k with
  | zero => intro _; rfl
  | succ k ih =>
    intro h
    have h1 := ih (fun i hi => h i (by omega))
    have h2 := h k (by omega)
    rw [popK, popK, popK]
    omega
/-- READ as o -/
def rdO (B : Nat → Nat) (o f : Nat) : Prop := ∀ g, g < 26 → B g ≠ 0 → (if g < o then dN (B o) f + 1 else dN (B o) f) ≤ dN (B g) f
theorem rdO_iff {B : Nat → Nat} {o f : Nat} (ho : o < 26) (h0 : B o ≠ 0) : nrU B f 26 = some o ↔ rdO B o f := by
  constructor
  · intro e g hg hb
    have hU := nrU_ok B f 26
    rw [e] at hU
    have h1 := hU.2.2.2 g (Nat.zero_le g) hg hb
    split
    · have := h1.2 (by assumption); omega
    · exact h1.1
  · intro h
    refine nrP_one (nrU_ok B f 26) ⟨Nat.zero_le o, ho, h0, fun g _ hg hb => ?_⟩
    have h1 := h g hg hb
    split at h1
    · exact ⟨by omega, fun _ => by omega⟩
    · exact ⟨h1, fun z => by omega⟩
/-- moved towards o's form it is still READ as o -/
theorem rdO_move {B : Nat → Nat} {o f e : Nat} (h : rdO B o f) (he : ∀ i, i < 12 → e.testBit i = true → (B o ^^^ f).testBit i = true) : rdO B o (f ^^^ e) := by
  have h1 : popK (B o ^^^ (f ^^^ e)) 12 + popK e 12 = popK (B o ^^^ f) 12 := by
    refine popK_add 12 (fun i hi => ?_)
    have hh := he i hi
    rw [Nat.testBit_xor] at hh
    rw [Nat.testBit_xor, Nat.testBit_xor, Nat.testBit_xor]
    revert hh
    cases (B o).testBit i <;> cases f.testBit i <;> cases e.testBit i <;> simp
  intro g hg hb
  have h2 : popK (B g ^^^ f) 12 ≤ popK (B g ^^^ (f ^^^ e)) 12 + popK e 12 := by
    refine popK_le 12 (fun i hi => ?_)
    simp only [Nat.testBit_xor]
    cases (B g).testBit i <;> cases f.testBit i <;> cases e.testBit i <;> simp
  have h3 := h g hg hb
  unfold dN at h3 ⊢
  simp only [popN_eq] at h3 ⊢
  split <;> split at h3 <;> omega
theorem ira_loop {c : Nat → Int32} {B : Nat → Nat} (h : rBX B c) (hB : okB B) {f o : Nat} (hf : f < 4096) (ho : o < 26) : ∀ (j k fuel : Nat), k + j = 26 → j < fuel → (f_Book_isReadAs_b13 c (nI f) (nI o) fuel (nI (dN (B o) f)) (nI k) = some 1 ∧ ∀ g, k ≤ g → g < 26 → B g ≠ 0 → (if g < o then dN (B o) f + 1 else dN (B o) f) ≤ dN (B g) f) ∨ (f_Book_isReadAs_b13 c (nI f) (nI o) fuel (nI (dN (B o) f)) (nI k) = some 0 ∧ ¬ rdO B o f) := by
  intro j
  induction j with
  | zero =>
    intro k fuel h1 h2
    obtain ⟨n, rfl⟩ : ∃ n, fuel = n + 1 := ⟨fuel - 1, by omega⟩
    obtain rfl : k = 26 := by omega
    left
    rw [f_Book_isReadAs_b13, if_pos (show (26 : Int32) ≤ nI 26 by decide)]
    exact ⟨rfl, fun g a b => by omega⟩
  | succ j ih =>
    intro k fuel h1 h2
    obtain ⟨n, rfl⟩ : ∃ n, fuel = n + 1 := ⟨fuel - 1, by omega⟩
    have hk := hB k (by omega)
    have hd := dN_le (B k) f
    have hdo := dN_le (B o) f
    obtain ⟨L, hL⟩ : ∃ L, L = if k < o then dN (B o) f + 1 else dN (B o) f := ⟨_, rfl⟩
    have hLle : L ≤ 13 := by rw [hL]; split <;> omega
    have key : f_Book_isReadAs_b13 c (nI f) (nI o) (n + 1) (nI (dN (B o) f)) (nI k) = f_Book_isReadAs_b33 (f_Book_isReadAs_b13 c (nI f) (nI o) n) c (nI f) (nI o) (nI (dN (B o) f)) (nI k) (nI L) := by
      rw [f_Book_isReadAs_b13, if_neg (show ¬ (26 : Int32) ≤ nI k from nge k 26 (by omega) (by decide))]
      by_cases hc : k < o
      · rw [if_neg (nge k o hc (by omega)), hL, if_pos hc]
        rw [show nI (dN (B o) f) + (1 : Int32) = nI (dN (B o) f + 1) from nI_1 _]
      · rw [if_pos (nles o k (by omega) (by omega)), hL, if_neg hc]
    rw [key, f_Book_isReadAs_b33, rd_nI (by omega) (by decide), sm_some, h k (by omega), nI_1]
    by_cases h0 : B k = 0
    · rw [if_pos (show nI (B k) = (0 : Int32) by rw [h0]; rfl)]
      rcases ih (k + 1) n (by omega) (by omega) with ⟨e1, e2⟩ | ⟨e1, e2⟩
      · refine Or.inl ⟨e1, fun g a b z => ?_⟩
        rcases Nat.lt_or_ge k g with q | q
        · exact e2 g q b z
        · obtain rfl : g = k := by omega
          exact absurd h0 z
      · exact Or.inr ⟨e1, e2⟩
    · rw [if_neg (show ¬ nI (B k) = (0 : Int32) from nI_ne0 (by omega) (by omega)), sm_some, differ_ok hk hf, sm_some]
      by_cases hc : L ≤ dN (B k) f
      · rw [if_pos (nles _ _ hc (by omega))]
        rcases ih (k + 1) n (by omega) (by omega) with ⟨e1, e2⟩ | ⟨e1, e2⟩
        · refine Or.inl ⟨e1, fun g a b z => ?_⟩
          rcases Nat.lt_or_ge k g with q | q
          · exact e2 g q b z
          · obtain rfl : g = k := by omega
            rw [← hL]
            exact hc
        · exact Or.inr ⟨e1, e2⟩
      · rw [if_neg (nge _ _ (by omega) (by omega))]
        refine Or.inr ⟨rfl, fun z => ?_⟩
        have := z k (by omega) h0
        rw [← hL] at this
        omega
theorem isReadAs_ok {c : Nat → Int32} {B : Nat → Nat} (h : rBX B c) (hB : okB B) {f o : Nat} (hf : f < 4096) (ho : o < 26) (h0 : B o ≠ 0) : f_Book_isReadAs c (nI f) (nI o) = some (if nrU B f 26 = some o then 1 else 0) := by
  rw [f_Book_isReadAs, formAt_ok h (by omega), sm_some, differ_ok (hB o ho) hf, sm_some]
  rcases ira_loop h hB hf ho 26 0 5000 rfl (by omega) with ⟨e1, e2⟩ | ⟨e1, e2⟩
  · rw [if_pos ((rdO_iff ho h0).mpr (fun g hg hb => e2 g (Nat.zero_le g) hg hb))]
    exact e1
  · rw [if_neg (fun z => e2 ((rdO_iff ho h0).mp z))]
    exact e1
abbrev okF (B : Nat → Nat) (A o : Nat) : Nat → Bool := fun p => decide (nrU B (A ^^^ p) 26 = some o)
theorem ff_b81 {f i m : Nat} (hf : f < 4096) (hi : i < dsz 12 f) (k44 : Int32 → Int32 → Int32 → Int32 → Int32 → Option Int32) (c : Nat → Int32) (a1 a2 v3 v8 : Int32) : f_Book_fewestToForge_b81 k44 c a1 a2 v3 (nI f) (nI m) (nI (dep 12 f i)) v8 = if i + 1 < dsz 12 f then k44 v3 (nI f) (nI m) (nI (dep 12 f (i + 1))) (v8 + 1) else some (nI m) := by
  rw [f_Book_fewestToForge_b81, nextPart_ok hf hi, sm_some]
  by_cases hc : i + 1 < dsz 12 f
  · have h1 := dep_pos 12 f (i + 1) (by omega) hc
    have h2 := dep12_lt f (i + 1)
    rw [if_pos hc, if_pos hc, if_neg (show ¬ nI (dep 12 f (i + 1)) = (0 : Int32) from nI_ne0 h1 (by omega))]
  · rw [if_neg hc, if_neg hc, if_pos (show nI 0 = (0 : Int32) from rfl)]
theorem ff_loop {c : Nat → Int32} {B : Nat → Nat} (h : rBX B c) (hB : okB B) {A f o : Nat} (hA : A < 4096) (hf : f < 4096) (ho : o < 26) (h0 : B o ≠ 0) (a1 : Int32) : ∀ (j i m fuel : Nat), i + j = dsz 12 f → 0 < j → m ≤ 12 → j < fuel → ∃ r, f_Book_fewestToForge_b44 c a1 (nI o) fuel (nI A) (nI f) (nI m) (nI (dep 12 f i)) (nI i) = some (nI r) ∧ mnP (okF B A o) f i m r := by
  intro j
  induction j with
  | zero => intro i m fuel _ h; omega
  | succ j ih =>
    intro i m fuel h1 _ hm h2
    obtain ⟨n, rfl⟩ : ∃ n, fuel = n + 1 := ⟨fuel - 1, by omega⟩
    have hs := dsz12_le f
    have hd := dep12_lt f i
    have hpop := popN_le (dep 12 f i)
    obtain ⟨m', hm'⟩ : ∃ m', m' = if popN (dep 12 f i) < m ∧ okF B A o (dep 12 f i) = true then popN (dep 12 f i) else m := ⟨_, rfl⟩
    have hm2 : m' ≤ 12 := by rw [hm']; split <;> omega
    have key : f_Book_fewestToForge_b44 c a1 (nI o) (n + 1) (nI A) (nI f) (nI m) (nI (dep 12 f i)) (nI i) = f_Book_fewestToForge_b81 (f_Book_fewestToForge_b44 c a1 (nI o) n) c a1 (nI o) (nI A) (nI f) (nI m') (nI (dep 12 f i)) (nI i) := by
      rw [f_Book_fewestToForge_b44, if_neg (show ¬ (4095 : Int32) < nI i from nnlt i 4095 (by omega) (by decide)), bitCount_ok hd, sm_some]
      by_cases hc1 : popN (dep 12 f i) < m
      · rw [if_neg (nge _ m hc1 (by omega)), fb_xorI, isReadAs_ok h hB (Nat.xor_lt_two_pow (n := 12) hA hd) ho h0, sm_some]
        by_cases hc2 : nrU B (A ^^^ dep 12 f i) 26 = some o
        · rw [if_pos hc2, if_neg (by decide), sm_some, hm', if_pos ⟨hc1, decide_eq_true hc2⟩]
        · rw [if_neg hc2, if_pos rfl, hm', if_neg (fun z => hc2 (of_decide_eq_true z.2))]
      · rw [if_pos (nles m _ (by omega) (by omega)), hm', if_neg (fun z => hc1 z.1)]
    rw [key, ff_b81 hf (by omega)]
    by_cases hc : i + 1 < dsz 12 f
    · rw [if_pos hc, nI_1]
      obtain ⟨r, e1, e2⟩ := ih (i + 1) m' n (by omega) (by omega) hm2 (by omega)
      exact ⟨r, e1, mnP_step (by omega) hm' e2⟩
    · rw [if_neg hc]
      exact ⟨m', rfl, mnP_end (by omega) hc hm'⟩
theorem mf_loop {s d : Nat → Int32} {B : Nat → Nat} (h : rBM B s) (hB : okB B) {g o : Nat} (hg : g < 26) (ho : o < 26) : ∀ (j k m fuel : Nat), k + j = 4096 → m ≤ 13 → j < fuel → ∃ r, f_M_forge_b59 s (nI g) (nI o) fuel d (nI m) (nI k) = (if r ≤ 12 then some (nI r, d) else some (-1000000004, upd d 3 (d 3 + 1))) ∧ r ≤ m ∧ (r = m ∨ ∃ f, k ≤ f ∧ f < 4096 ∧ nrU B f 26 = some o ∧ dN (B g) f = r) ∧ ∀ f, k ≤ f → f < 4096 → nrU B f 26 = some o → r ≤ dN (B g) f := by
  intro j
  induction j with
  | zero =>
    intro k m fuel h1 hm h2
    obtain ⟨n, rfl⟩ : ∃ n, fuel = n + 1 := ⟨fuel - 1, by omega⟩
    obtain rfl : k = 4096 := by omega
    refine ⟨m, ?_, Nat.le_refl m, Or.inl rfl, fun f a b => by omega⟩
    rw [f_M_forge_b59, if_pos (show (4096 : Int32) ≤ nI 4096 by decide)]
    by_cases hc : m ≤ 12
    · rw [if_pos hc, if_pos (show nI m ≤ (12 : Int32) from nles m 12 hc (by decide))]
    · rw [if_neg hc, if_neg (show ¬ nI m ≤ (12 : Int32) from nge 12 m (by omega) (by omega)), mno3, sm_some]
  | succ j ih =>
    intro k m fuel h1 hm h2
    obtain ⟨n, rfl⟩ : ∃ n, fuel = n + 1 := ⟨fuel - 1, by omega⟩
    have hd := dN_le (B g) k
    obtain ⟨m', hm'⟩ : ∃ m', m' = if dN (B g) k < m ∧ nrU B k 26 = some o then dN (B g) k else m := ⟨_, rfl⟩
    have hm2 : m' ≤ 13 := by rw [hm']; split <;> omega
    have key : f_M_forge_b59 s (nI g) (nI o) (n + 1) d (nI m) (nI k) = f_M_forge_b59 s (nI g) (nI o) n d (nI m') (nI (k + 1)) := by
      rw [f_M_forge_b59, if_neg (show ¬ (4096 : Int32) ≤ nI k from nge k 4096 (by omega) (by decide)), apartFrom_ok h hB (by omega) hg, sm_some, nI_1]
      by_cases hc1 : dN (B g) k < m
      · rw [if_neg (nge _ m hc1 (by omega)), readAs_ok h hB (by omega), sm_some]
        by_cases hc2 : nrU B k 26 = some o
        · rw [if_pos ((enc_eq ho).mpr hc2), sm_some, hm', if_pos ⟨hc1, hc2⟩]
        · rw [if_neg (fun z => hc2 ((enc_eq ho).mp z)), hm', if_neg (fun z => hc2 z.2)]
      · rw [if_pos (nles m _ (by omega) (by omega)), hm', if_neg (fun z => hc1 z.1)]
    obtain ⟨r, e1, e2, e3, e4⟩ := ih (k + 1) m' n (by omega) hm2 (by omega)
    refine ⟨r, by rw [key]; exact e1, ?_, ?_, ?_⟩
    · have : m' ≤ m := by rw [hm']; split <;> omega
      omega
    · rcases e3 with e3 | ⟨f, a, b⟩
      · by_cases hc : dN (B g) k < m ∧ nrU B k 26 = some o
        · rw [if_pos hc] at hm'
          exact Or.inr ⟨k, Nat.le_refl k, by omega, hc.2, by omega⟩
        · rw [if_neg hc] at hm'
          exact Or.inl (by omega)
      · exact Or.inr ⟨f, by omega, b⟩
    · intro f a b z
      rcases Nat.lt_or_ge k f with q | q
      · exact e4 f q b z
      · obtain rfl : f = k := by omega
        by_cases hc : dN (B g) f < m
        · rw [if_pos ⟨hc, z⟩] at hm'
          omega
        · rw [if_neg (fun z => hc z.1)] at hm'
          omega
theorem dN_self (a : Nat) : dN a a = 0 := by unfold dN; rw [Nat.xor_self]; rfl
theorem xor_self_left (a b : Nat) : a ^^^ (a ^^^ b) = b := by rw [← Nat.xor_assoc, Nat.xor_self, Nat.zero_xor]
theorem case_forge {c d bf s : Nat → Int32} {B : Nat → Nat} (h : rF c d) (hb : rBX B bf) (hm : rBM B s) (hB : okB B) (a b : Int32) : ∃ r c' d', f_S_forge c bf a b = some (r, c') ∧ f_M_forge d s a b = some (r, d') ∧ rF c' d' := by
  rcases rng a 25 (by decide) with ⟨g, hg, rfl⟩ | hn
  · rcases rng b 25 (by decide) with ⟨o, ho, rfl⟩ | hn
    · have hAl := hB g (by omega)
      have hWl := hB o (by omega)
      by_cases hgo : g = o
      · subst hgo
        refine ⟨-1000000001, _, _, ?_, ?_, h.fin (k := 0) (by decide)⟩
        · rw [f_S_forge, isSign_yes hg, sm_some, if_neg (by decide), sm_some, if_neg (by decide), if_pos rfl, f_S_forge_b19, fnd0, sm_some]
        · rw [f_M_forge, MisSign_yes hg, sm_some, if_neg (by decide), sm_some, if_neg (by decide), if_pos rfl, f_M_forge_b19, mno0, sm_some]
      · have hne : ¬ nI g = nI o := fun z => hgo ((nI_eq (by omega) (by omega)).mp z)
        by_cases hA0 : B g = 0
        · refine ⟨-1000000005, _, _, ?_, ?_, h.fin (k := 4) (by decide)⟩
          · rw [f_S_forge, isSign_yes hg, sm_some, if_neg (by decide), isSign_yes ho, sm_some, if_neg (by decide), if_neg hne, formAt_ok hb hg, sm_some, if_pos (show nI (B g) = (0 : Int32) by rw [hA0]; rfl), f_S_forge_b54, fnd4, sm_some]
          · rw [f_M_forge, MisSign_yes hg, sm_some, if_neg (by decide), MisSign_yes ho, sm_some, if_neg (by decide), if_neg hne, rdM hm (by omega), sm_some, if_pos (show nI (B g) = (0 : Int32) by rw [hA0]; rfl), f_M_forge_b47, mno4, sm_some]
        · have hA1 : ¬ nI (B g) = (0 : Int32) := nI_ne0 (by omega) (by omega)
          by_cases hW0 : B o = 0
          · refine ⟨-1000000005, _, _, ?_, ?_, h.fin (k := 4) (by decide)⟩
            · rw [f_S_forge, isSign_yes hg, sm_some, if_neg (by decide), isSign_yes ho, sm_some, if_neg (by decide), if_neg hne, formAt_ok hb hg, sm_some, if_neg hA1, formAt_ok hb ho, sm_some, if_pos (show nI (B o) = (0 : Int32) by rw [hW0]; rfl), f_S_forge_b54, fnd4, sm_some]
            · rw [f_M_forge, MisSign_yes hg, sm_some, if_neg (by decide), MisSign_yes ho, sm_some, if_neg (by decide), if_neg hne, rdM hm (by omega), sm_some, if_neg hA1, rdM hm (by omega), sm_some, if_pos (show nI (B o) = (0 : Int32) by rw [hW0]; rfl), f_M_forge_b47, mno4, sm_some]
          · have hW1 : ¬ nI (B o) = (0 : Int32) := nI_ne0 (by omega) (by omega)
            obtain ⟨r2, e2, b1, b2, b3⟩ := mf_loop (d := d) hm hB (show g < 26 by omega) (show o < 26 by omega) 4096 0 13 5000 rfl (Nat.le_refl 13) (by omega)
            have hm2 : f_M_forge d s (nI g) (nI o) = if r2 ≤ 12 then some (nI r2, d) else some (-1000000004, upd d 3 (d 3 + 1)) := by
              rw [f_M_forge, MisSign_yes hg, sm_some, if_neg (by decide), MisSign_yes ho, sm_some, if_neg (by decide), if_neg hne, rdM hm (by omega), sm_some, if_neg hA1, rdM hm (by omega), sm_some, if_neg hW1]
              exact e2
            have hs2 : f_S_forge c bf (nI g) (nI o) = (f_Book_fewestToForge bf (nI g) (nI o)).bind fun r12 => if (0 : Int32) ≤ r12 then some (r12, c) else (f_S_finding c (-1000000004 : Int32)).bind fun r14 => some (r14.1, r14.2) := by
              rw [f_S_forge, isSign_yes hg, sm_some, if_neg (by decide), isSign_yes ho, sm_some, if_neg (by decide), if_neg hne, formAt_ok hb hg, sm_some, if_neg hA1, formAt_ok hb ho, sm_some, if_neg hW1]
            have iff := fun f => rdO_iff (B := B) (o := o) (f := f) (by omega) hW0
            by_cases hR : nrU B (B o) 26 = some o
            · obtain ⟨F, hF⟩ : ∃ F, F = B g ^^^ B o := ⟨_, rfl⟩
              have hFl : F < 4096 := by rw [hF]; exact Nat.xor_lt_two_pow (n := 12) hAl hWl
              have hpop := popN_le F
              have hpos := dsz_pos 12 F
              have hle := dsz12_le F
              obtain ⟨r1, e1, a1, a2, a3⟩ := ff_loop hb hB hAl hFl (show o < 26 by omega) hW0 (nI g) (dsz 12 F) 0 (popN F) 5000 (by omega) hpos hpop (by omega)
              have hs3 : f_Book_fewestToForge bf (nI g) (nI o) = some (nI r1) := by
                rw [f_Book_fewestToForge, formAt_ok hb hg, sm_some, formAt_ok hb ho, sm_some, nearest_ok hb hB hWl, sm_some, if_pos ((enc_eq (by omega)).mpr hR), fb_xorI, ← hF, bitCount_ok hFl, sm_some]
                rw [dep_0] at e1
                exact e1
              have hdW : dN (B g) (B o) = popN F := by rw [hF]; rfl
              have le1 : r1 ≤ r2 ∧ r2 ≤ 12 := by
                have hw := b3 (B o) (Nat.zero_le _) hWl hR
                rcases b2 with b2 | ⟨f, -, f1, f2, f3⟩
                · omega
                · refine ⟨?_, by omega⟩
                  -- the part of what was changed that lies between the two
                  obtain ⟨p, hp⟩ : ∃ p, p = (B g ^^^ f) &&& F := ⟨_, rfl⟩
                  have hpl : p < 4096 := by rw [hp]; exact Nat.lt_of_le_of_lt Nat.and_le_right hFl
                  have hps : p &&& F = p := by
                    rw [hp, Nat.and_assoc, Nat.and_self]
                  obtain ⟨i, hi, hdi⟩ := dep_onto 12 F p hpl hps
                  have hmv := rdO_move (e := (B g ^^^ f) ^^^ p) ((iff f).mp f2) (fun i hi => by
                    rw [hp, hF]
                    simp only [Nat.testBit_xor, Nat.testBit_and]
                    cases (B g).testBit i <;> cases (B o).testBit i <;> cases f.testBit i <;> simp)
                  have hfe : f ^^^ ((B g ^^^ f) ^^^ p) = B g ^^^ p := by
                    rw [← Nat.xor_assoc, Nat.xor_comm (B g) f, xor_self_left]
                  rw [hfe] at hmv
                  have hok := (iff (B g ^^^ p)).mpr hmv
                  have := a3 i (Nat.zero_le i) hi (by rw [hdi]; exact decide_eq_true hok)
                  rw [hdi] at this
                  have hpp : popN p ≤ dN (B g) f := by
                    unfold dN
                    rw [popN_eq, popN_eq]
                    have := popK_le (x := p) (y := B g ^^^ f) (z := 0) 12 (fun i _ => by
                      rw [hp]
                      simp only [Nat.testBit_and]
                      cases (B g ^^^ f).testBit i <;> cases F.testBit i <;> simp)
                    rw [popK_0] at this
                    exact this
                  omega
              have le2 : r2 ≤ r1 := by
                rcases a2 with a2 | ⟨i, -, hi, ok, e⟩
                · have hw := b3 (B o) (Nat.zero_le _) hWl hR
                  omega
                · have hd := dep12_lt F i
                  have := b3 (B g ^^^ dep 12 F i) (Nat.zero_le _) (Nat.xor_lt_two_pow (n := 12) hAl hd) (of_decide_eq_true ok)
                  have hx : dN (B g) (B g ^^^ dep 12 F i) = popN (dep 12 F i) := by
                    unfold dN
                    rw [xor_self_left]
                  omega
              obtain rfl : r1 = r2 := by omega
              refine ⟨nI r1, c, d, ?_, ?_, h⟩
              · rw [hs2, hs3, sm_some, if_pos (nI_pos' (by omega))]
              · rw [hm2, if_pos le1.2]
            · have hs3 : f_Book_fewestToForge bf (nI g) (nI o) = some (-1) := by
                rw [f_Book_fewestToForge, formAt_ok hb hg, sm_some, formAt_ok hb ho, sm_some, nearest_ok hb hB hWl, sm_some, if_neg (fun z => hR ((enc_eq (by omega)).mp z))]
              have hr2 : r2 = 13 := by
                rcases b2 with b2 | ⟨f, -, f1, f2, f3⟩
                · exact b2
                · exfalso
                  apply hR
                  have hmv := rdO_move (e := f ^^^ B o) ((iff f).mp f2) (fun i _ hi => by rw [Nat.xor_comm]; exact hi)
                  rw [xor_self_left] at hmv
                  exact (iff (B o)).mpr hmv
              refine ⟨-1000000004, _, _, ?_, ?_, h.fin (k := 3) (by decide)⟩
              · rw [hs2, hs3, sm_some, if_neg (by decide), fnd3, sm_some]
              · rw [hm2, hr2, if_neg (by decide)]
    · refine ⟨-1000000001, _, _, ?_, ?_, h.fin (k := 0) (by decide)⟩
      · rw [f_S_forge, isSign_yes hg, sm_some, if_neg (by decide), isSign_no hn, sm_some, if_pos rfl, f_S_forge_b19, fnd0, sm_some]
      · rw [f_M_forge, MisSign_yes hg, sm_some, if_neg (by decide), MisSign_no hn, sm_some, if_pos rfl, f_M_forge_b19, mno0, sm_some]
  · refine ⟨-1000000001, _, _, ?_, ?_, h.fin (k := 0) (by decide)⟩
    · rw [f_S_forge, isSign_no hn, sm_some, if_pos rfl, f_S_forge_b19, fnd0, sm_some]
    · rw [f_M_forge, MisSign_no hn, sm_some, if_pos rfl, f_M_forge_b19, mno0, sm_some]
