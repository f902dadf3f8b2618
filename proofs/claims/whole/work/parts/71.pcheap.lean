-- ===== MEANT, CHEAP =====
/-- the cheapest among the first k signs -/
def nqU (B Q : Nat → Nat) : Nat → Option Nat
  | 0 => none
  | k + 1 => if B k = 0 then nqU B Q k else match nqU B Q k with
    | none => some k
    | some b => if Q k < Q b then some k else some b
def nqP (B Q : Nat → Nat) (lo hi : Nat) : Option Nat → Prop
  | none => ∀ g, lo ≤ g → g < hi → B g = 0
  | some b => lo ≤ b ∧ b < hi ∧ B b ≠ 0 ∧ ∀ g, lo ≤ g → g < hi → B g ≠ 0 → Q b ≤ Q g ∧ (g < b → Q b < Q g)
theorem nqP_one {B Q : Nat → Nat} {lo hi : Nat} {o p : Option Nat} (h1 : nqP B Q lo hi o) (h2 : nqP B Q lo hi p) : o = p := by
  cases o with
  | none =>
    cases p with
    | none => rfl
    | some b => exact absurd (h1 b h2.1 h2.2.1) h2.2.2.1
  | some a =>
    cases p with
    | none => exact absurd (h2 a h1.1 h1.2.1) h1.2.2.1
    | some b =>
      obtain ⟨a1, a2, a3, a4⟩ := h1
      obtain ⟨b1, b2, b3, b4⟩ := h2
      have c1 := a4 b b1 b2 b3
      have c2 := b4 a a1 a2 a3
      congr 1
      rcases Nat.lt_or_ge a b with q | q
      · have := c2.2 q; omega
      · rcases Nat.lt_or_ge b a with q' | q'
        · have := c1.2 q'; omega
        · omega
theorem nqU_ok (B Q : Nat → Nat) : ∀ k, nqP B Q 0 k (nqU B Q k) := by
  intro k
  induction k with
  | zero => intro g _ h; omega
  | succ k ih =>
    rw [nqU]
    by_cases h0 : B k = 0
    · rw [if_pos h0]
      cases ho : nqU B Q k with
      | none =>
        rw [ho] at ih
        intro g h1 h2
        rcases Nat.lt_or_ge g k with q | q
        · exact ih g h1 q
        · obtain rfl : g = k := by omega
          exact h0
      | some b =>
        rw [ho] at ih
        obtain ⟨a1, a2, a3, a4⟩ := ih
        refine ⟨a1, by omega, a3, fun g h1 h2 h3 => ?_⟩
        rcases Nat.lt_or_ge g k with q | q
        · exact a4 g h1 q h3
        · obtain rfl : g = k := by omega
          exact absurd h0 h3
    · rw [if_neg h0]
      cases ho : nqU B Q k with
      | none =>
        rw [ho] at ih
        refine ⟨Nat.zero_le k, by omega, h0, fun g h1 h2 h3 => ?_⟩
        rcases Nat.lt_or_ge g k with q | q
        · exact absurd (ih g h1 q) h3
        · obtain rfl : g = k := by omega
          exact ⟨Nat.le_refl _, fun z => by omega⟩
      | some b =>
        rw [ho] at ih
        obtain ⟨a1, a2, a3, a4⟩ := ih
        show nqP B Q 0 (k + 1) (if Q k < Q b then some k else some b)
        by_cases hc : Q k < Q b
        · rw [if_pos hc]
          refine ⟨Nat.zero_le k, by omega, h0, fun g h1 h2 h3 => ?_⟩
          rcases Nat.lt_or_ge g k with q | q
          · have := a4 g h1 q h3
            exact ⟨by omega, fun _ => by omega⟩
          · obtain rfl : g = k := by omega
            exact ⟨Nat.le_refl _, fun z => by omega⟩
        · rw [if_neg hc]
          refine ⟨a1, by omega, a3, fun g h1 h2 h3 => ?_⟩
          rcases Nat.lt_or_ge g k with q | q
          · exact a4 g h1 q h3
          · obtain rfl : g = k := by omega
            exact ⟨by omega, fun z => by omega⟩

section MC
variable {B K F D : Nat → Nat} {N H S : Nat} {bf kd fm dp s c d : Nat → Int32} {n hr sn : Int32}
def ltI (B : Nat → Nat) (v u : Int32) (g : Nat) : Bool := decide (¬ B g = 0 ∧ v &&& (nI (B g) ^^^ -1) = 0 ∧ nI (B g) &&& (v ^^^ -1) &&& (u ^^^ -1) = 0)
def mtI (B : Nat → Nat) (v u : Int32) : Nat → Int32
  | 0 => 0
  | g + 1 => if ltI B v u g then mtI B v u g ||| ((1 : Int32) <<< (nI g &&& 31)) else mtI B v u g
theorem mtI_nI (B : Nat → Nat) (v u : Int32) : ∀ k, k ≤ 31 → ∃ m, mtI B v u k = nI m := by
  intro k
  induction k with
  | zero => intro _; exact ⟨0, rfl⟩
  | succ k ih =>
    intro hk
    obtain ⟨m, hm⟩ := ih (by omega)
    rw [mtI, hm, one_shl (by omega), fa_or]
    split
    · exact ⟨_, rfl⟩
    · exact ⟨_, rfl⟩
theorem sla_loop (b1 : rBX B bf) (b3 : okB B) (v u : Int32) : ∀ (j k fuel : Nat), k + j = 26 → j < fuel → f_Book_signsLeftAs_b5 bf v u fuel (mtI B v u k) (nI k) = some (mtI B v u 26) := by
  intro j
  induction j with
  | zero =>
    intro k fuel h1 h2
    obtain ⟨n, rfl⟩ : ∃ n, fuel = n + 1 := ⟨fuel - 1, by omega⟩
    obtain rfl : k = 26 := by omega
    rw [f_Book_signsLeftAs_b5, if_pos (by decide)]
  | succ j ih =>
    intro k fuel h1 h2
    obtain ⟨n, rfl⟩ : ∃ n, fuel = n + 1 := ⟨fuel - 1, by omega⟩
    have step := ih (k + 1) n (by omega) (by omega)
    have hk := b3 k (by omega)
    have hr : rd bf 26 (nI k) = some (nI (B k)) := by rw [rd_nI (by omega) (by decide), b1 k (by omega)]
    have e1 : (1 : Int32) ≠ 0 := by decide
    rw [mtI] at step
    rw [f_Book_signsLeftAs_b5, if_neg (show ¬ (26 : Int32) ≤ nI k from nge k 26 (by omega) (by decide)), hr, sm_some]
    simp only [f_Book_signsLeftAs_b31, f_Book_signsLeftAs_b56, hr, sm_some, nI_1, if_true, if_neg e1]
    by_cases h0 : B k = 0
    · rw [if_neg (show ¬ ltI B v u k = true by unfold ltI; rw [decide_eq_true_iff]; exact fun z => z.1 h0)] at step
      simp only [if_pos (show nI (B k) = (0 : Int32) by rw [h0]; rfl), ite_self]
      exact step
    · have h0' : ¬ nI (B k) = (0 : Int32) := nI_ne0 (by omega) (by omega)
      by_cases ha : v &&& (nI (B k) ^^^ -1) = 0
      · by_cases hb : nI (B k) &&& (v ^^^ -1) &&& (u ^^^ -1) = 0
        · rw [if_pos (show ltI B v u k = true by unfold ltI; rw [decide_eq_true_iff]; exact ⟨h0, ha, hb⟩)] at step
          simp only [if_neg h0', if_pos ha, if_pos hb]
          exact step
        · rw [if_neg (show ¬ ltI B v u k = true by unfold ltI; rw [decide_eq_true_iff]; exact fun z => hb z.2.2)] at step
          simp only [if_neg h0', if_pos ha, if_neg hb]
          exact step
      · rw [if_neg (show ¬ ltI B v u k = true by unfold ltI; rw [decide_eq_true_iff]; exact fun z => ha z.2.1)] at step
        simp only [if_neg h0', if_neg ha, ite_self]
        exact step
theorem mm_loop (b2 : rBM B s) (b3 : okB B) (a v : Int32) : ∀ (j k fuel : Nat), k + j = 26 → j < fuel → f_M_meant_b25 s a fuel d v (mtI B v (s 1) k) (nI k) = some (mtI B v (s 1) 26, d) := by
  intro j
  induction j with
  | zero =>
    intro k fuel h1 h2
    obtain ⟨n, rfl⟩ : ∃ n, fuel = n + 1 := ⟨fuel - 1, by omega⟩
    obtain rfl : k = 26 := by omega
    rw [f_M_meant_b25, if_pos (by decide)]
  | succ j ih =>
    intro k fuel h1 h2
    obtain ⟨n, rfl⟩ : ∃ n, fuel = n + 1 := ⟨fuel - 1, by omega⟩
    have step := ih (k + 1) n (by omega) (by omega)
    have hk := b3 k (by omega)
    obtain ⟨m, hm⟩ := mtI_nI B v (s 1) k (by omega)
    have hm0 : mtI B v (s 1) k ||| 0 = mtI B v (s 1) k := by rw [hm, or0]
    rw [mtI] at step
    rw [f_M_meant_b25, if_neg (show ¬ (26 : Int32) ≤ nI k from nge k 26 (by omega) (by decide)), rdM b2 (by omega), sm_some]
    by_cases h0 : B k = 0
    · rw [if_neg (show ¬ ltI B v (s 1) k = true by unfold ltI; rw [decide_eq_true_iff]; exact fun z => z.1 h0)] at step
      rw [if_pos (show nI (B k) = (0 : Int32) by rw [h0]; rfl), f_M_meant_b84, hm0, nI_1]
      exact step
    · have h0' : ¬ nI (B k) = (0 : Int32) := nI_ne0 (by omega) (by omega)
      rw [if_neg h0']
      by_cases ha : v &&& (nI (B k) ^^^ -1) = 0
      · rw [if_pos ha, rs1, sm_some]
        by_cases hb : nI (B k) &&& (v ^^^ -1) &&& (s 1 ^^^ -1) = 0
        · rw [if_pos (show ltI B v (s 1) k = true by unfold ltI; rw [decide_eq_true_iff]; exact ⟨h0, ha, hb⟩)] at step
          rw [if_pos hb, f_M_meant_b84, nI_1]
          exact step
        · rw [if_neg (show ¬ ltI B v (s 1) k = true by unfold ltI; rw [decide_eq_true_iff]; exact fun z => hb z.2.2)] at step
          rw [if_neg hb, f_M_meant_b84, hm0, nI_1]
          exact step
      · rw [if_neg (show ¬ ltI B v (s 1) k = true by unfold ltI; rw [decide_eq_true_iff]; exact fun z => ha z.2.1)] at step
        rw [if_neg ha, f_M_meant_b84, hm0, nI_1]
        exact step
theorem case_meant (hF : rF c d) (h : rPl B K F D N H S bf kd fm dp n hr sn s) (a : Int32) : ∃ r c' d', f_S_meant c n hr sn bf dp fm kd a = some (r, c') ∧ f_M_meant d s a = some (r, d') ∧ rF c' d' := by
  obtain ⟨⟨b1, b2, b3⟩, ⟨l1, l2⟩, ⟨n1, n2, n3⟩, ⟨h1, h2, h3⟩, ⟨s1, s2, s3⟩⟩ := h
  rcases lng a N n3 with ⟨l, hl, rfl⟩ | hn
  · have hl12 : l < 12 := by omega
    refine ⟨mtI B (nI (SHN (K l) (F l) (D l) S H)) (s 1) 26, c, d, ?_, ?_, hF⟩
    · rw [f_S_meant, n1, has_yes n3 hl, sm_some, if_neg (by decide), h1, s1, shownAt_ok l1 l2 S hl12 (by omega), sm_some, f_Book_signsLeftAs, ← s2, show f_Book_signsLeftAs_b5 bf (nI (SHN (K l) (F l) (D l) S H)) (s 1) 5000 0 0 = some (mtI B (nI (SHN (K l) (F l) (D l) S H)) (s 1) 26) from sla_loop b1 b3 _ _ 26 0 5000 rfl (by decide), sm_some]
    · rw [f_M_meant, isL_yes n2 n3 hl, sm_some, if_neg (by decide), Mshows_ok l1 l2 hl12 h2 (by omega) s2, sm_some]
      exact mm_loop b2 b3 (nI l) _ 26 0 5000 rfl (by decide)
  · refine ⟨-1000000001, _, _, ?_, ?_, hF.fin (k := 0) (by decide)⟩
    · rw [f_S_meant, n1, has_no hn, sm_some, if_pos rfl, fnd0, sm_some]
    · rw [f_M_meant, isL_no n2 n3 hn, sm_some, if_pos rfl, mno0, sm_some]
def cqN (B : Nat → Nat) (kk g : Nat) : Nat := ftN kk (B g)
theorem chX_loop (b1 : rBX B bf) (b3 : okB B) {kk : Nat} (hkk : kk < 6) : ∀ (j k fuel : Nat) (v3 : Int32), k + j = 26 → j < fuel → v3 = nI (match nqU B (cqN B kk) k with | none => 0 | some b => cqN B kk b) → f_Book_cheapest_b7 bf (nI kk) fuel (enc (nqU B (cqN B kk) k)) v3 (nI k) = some (enc (nqU B (cqN B kk) 26)) := by
  intro j
  induction j with
  | zero =>
    intro k fuel v3 h1 h2 _
    obtain ⟨n, rfl⟩ : ∃ n, fuel = n + 1 := ⟨fuel - 1, by omega⟩
    obtain rfl : k = 26 := by omega
    rw [f_Book_cheapest_b7, if_pos (show (26 : Int32) ≤ nI 26 by decide)]
  | succ j ih =>
    intro k fuel v3 h1 h2 h3
    obtain ⟨n, rfl⟩ : ∃ n, fuel = n + 1 := ⟨fuel - 1, by omega⟩
    have hk := b3 k (by omega)
    have step := fun v3 => ih (k + 1) n v3 (by omega) (by omega)
    have hU := nqU_ok B (cqN B kk) k
    have hr : rd bf 26 (nI k) = some (nI (B k)) := by rw [rd_nI (by omega) (by decide), b1 k (by omega)]
    have hft : f_Kinds_feet (nI kk) (nI (B k)) = some (nI (cqN B kk k)) := feet_ok hk kk hkk
    have hle : ∀ g, cqN B kk g ≤ 400 := fun g => ftN_le kk (B g)
    have hle1 := hle k
    rw [nqU] at step
    rw [f_Book_cheapest_b7, if_neg (show ¬ (26 : Int32) ≤ nI k from nge k 26 (by omega) (by decide)), hr, sm_some, hft, sm_some, sm_some, f_Book_cheapest_b47, nI_1]
    by_cases h0 : B k = 0
    · simp only [if_pos h0] at step
      rw [if_pos (show nI (B k) = (0 : Int32) by rw [h0]; rfl)]
      exact step v3 h3
    · rw [if_neg (show ¬ nI (B k) = (0 : Int32) from nI_ne0 (by omega) (by omega))]
      simp only [if_neg h0] at step
      cases ho : nqU B (cqN B kk) k with
      | none =>
        rw [ho] at h3 step
        rw [if_pos (by decide : enc none < 0)]
        exact step _ rfl
      | some b =>
        rw [ho] at h3 step hU
        have hb := hU.2.1
        have hle2 := hle b
        simp only [] at h3 step
        rw [h3, enc_some, if_neg (nI_pos (by omega))]
        by_cases hc : cqN B kk k < cqN B kk b
        · rw [if_neg (nge _ _ hc (by omega))]
          simp only [if_pos hc] at step
          exact step _ rfl
        · rw [if_pos (nles _ _ (by omega) (by omega))]
          simp only [if_neg hc] at step
          exact step _ rfl
def chR (d : Nat → Int32) : Option Nat → Option (Int32 × (Nat → Int32))
  | none => some (-1000000004, upd d 3 (d 3 + 1))
  | some g => some (nI g, d)
theorem chM_loop (h : rBM B s) (hB : okB B) {kk : Nat} (hkk : kk < 6) : ∀ (k fuel : Nat) (o : Option Nat), k ≤ 26 → k < fuel → nqP B (cqN B kk) k 26 o → ∃ p, f_M_cheap_b18 s (nI kk) fuel d (enc o) (dwn k) = chR d p ∧ nqP B (cqN B kk) 0 26 p := by
  intro k
  induction k with
  | zero =>
    intro fuel o _ h2 ho
    obtain ⟨n, rfl⟩ : ∃ n, fuel = n + 1 := ⟨fuel - 1, by omega⟩
    refine ⟨o, ?_, ho⟩
    rw [f_M_cheap_b18, if_pos (by decide)]
    cases o with
    | none => rw [if_neg (by decide), mno3, sm_some]; rfl
    | some g =>
      have hg := ho.2.1
      rw [enc_some, if_pos (nI_pos' (by omega))]; rfl
  | succ k ih =>
    intro fuel o h1 h2 ho
    obtain ⟨n, rfl⟩ : ∃ n, fuel = n + 1 := ⟨fuel - 1, by omega⟩
    have hk := hB k (by omega)
    have hle : ∀ g, cqN B kk g ≤ 400 := fun g => ftN_le kk (B g)
    have hd := hle k
    have hft : ∀ g, g < 26 → f_M_feetBy (nI kk) (nI (B g)) = some (nI (cqN B kk g)) := fun g hg => feetBy_ok (hB g hg) kk hkk
    rw [dwn, f_M_cheap_b18, if_neg (nI_pos (by omega)), rdM h (by omega), sm_some, dwn_1]
    by_cases h0 : B k = 0
    · rw [if_pos (show nI (B k) = (0 : Int32) by rw [h0]; rfl)]
      refine ih n o (by omega) (by omega) ?_
      cases o with
      | none =>
        intro g a b
        rcases Nat.lt_or_ge k g with q | q
        · exact ho g q b
        · obtain rfl : g = k := by omega
          exact h0
      | some b =>
        obtain ⟨a1, a2, a3, a4⟩ := ho
        refine ⟨by omega, a2, a3, fun g x y z => ?_⟩
        rcases Nat.lt_or_ge k g with q | q
        · exact a4 g q y z
        · obtain rfl : g = k := by omega
          exact absurd h0 z
    · rw [if_neg (show ¬ nI (B k) = (0 : Int32) from nI_ne0 (by omega) (by omega))]
      cases o with
      | none =>
        rw [if_pos (by decide : enc none < 0), f_M_cheap_b62, dwn_1]
        refine ih n (some k) (by omega) (by omega) ⟨Nat.le_refl k, by omega, h0, fun g x y z => ?_⟩
        rcases Nat.lt_or_ge k g with q | q
        · exact absurd (ho g q y) z
        · obtain rfl : g = k := by omega
          exact ⟨Nat.le_refl _, fun w => by omega⟩
      | some b =>
        obtain ⟨a1, a2, a3, a4⟩ := ho
        have hdb := hle b
        rw [enc_some, if_neg (nI_pos (by omega)), hft k (by omega), sm_some, rdM h a2, sm_some, hft b a2, sm_some]
        by_cases hc : cqN B kk b < cqN B kk k
        · rw [if_pos (nlts _ _ hc (by omega)), ← enc_some]
          refine ih n (some b) (by omega) (by omega) ⟨by omega, a2, a3, fun g x y z => ?_⟩
          rcases Nat.lt_or_ge k g with q | q
          · exact a4 g q y z
          · obtain rfl : g = k := by omega
            exact ⟨by omega, fun _ => hc⟩
        · rw [if_neg (nnlt _ _ (by omega) (by omega)), f_M_cheap_b62, dwn_1, ← enc_some]
          refine ih n (some k) (by omega) (by omega) ⟨Nat.le_refl k, by omega, h0, fun g x y z => ?_⟩
          rcases Nat.lt_or_ge k g with q | q
          · have := a4 g q y z
            exact ⟨by omega, fun w => by omega⟩
          · obtain rfl : g = k := by omega
            exact ⟨Nat.le_refl _, fun w => by omega⟩
theorem case_cheap (hF : rF c d) (b1 : rBX B bf) (b2 : rBM B s) (b3 : okB B) (a : Int32) : ∃ r c' d', f_S_cheap c bf a = some (r, c') ∧ f_M_cheap d s a = some (r, d') ∧ rF c' d' := by
  rcases rng a 5 (by decide) with ⟨kk, hkk, rfl⟩ | hn
  · have hX : f_Book_cheapest bf (nI kk) = some (enc (nqU B (cqN B kk) 26)) := chX_loop b1 b3 (by omega) 26 0 5000 0 rfl (by omega) rfl
    obtain ⟨p, e1, e2⟩ := chM_loop (d := d) b2 b3 (show kk < 6 by omega) 26 5000 none (Nat.le_refl 26) (by omega) (fun g a b => by omega)
    have hM : f_M_cheap d s (nI kk) = chR d p := by
      rw [f_M_cheap, MisKind_yes hkk, sm_some, if_neg (by decide)]
      exact e1
    have hp := nqP_one (nqU_ok B (cqN B kk) 26) e2
    rw [hp] at hX
    cases p with
    | none =>
      refine ⟨-1000000004, _, _, ?_, hM, hF.fin (k := 3) (by decide)⟩
      rw [f_S_cheap, isKind_yes hkk, sm_some, if_neg (by decide), hX, sm_some, if_neg (by decide), fnd3, sm_some]
    | some g =>
      have hg := e2.2.1
      refine ⟨nI g, c, d, ?_, hM, hF⟩
      rw [f_S_cheap, isKind_yes hkk, sm_some, if_neg (by decide), hX, sm_some, enc_some, if_pos (nI_pos' (by omega))]
  · refine ⟨-1000000001, _, _, ?_, ?_, hF.fin (k := 0) (by decide)⟩
    · rw [f_S_cheap, isKind_no hn, sm_some, if_pos rfl, fnd0, sm_some]
    · rw [f_M_cheap, MisKind_no hn, sm_some, if_pos rfl, mno0, sm_some]
end MC
