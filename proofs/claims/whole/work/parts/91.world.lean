-- ===== THE LAW: a world of many cells, calls in it =====
/-- some cells of a world take new contents -/
def putW : va_W → List Nat → va_W → va_W
  | w, i :: is, e :: es => putW (w.set i e) is es
  | w, _, _ => w
theorem putW_at : ∀ (is : List Nat) (w es : va_W) (k : Nat) (q : Nat × va_E), is.length = es.length → (putW w is es)[k]? = some q → (∃ j : Nat, is[j]? = some k ∧ es[j]? = some q) ∨ (k ∉ is ∧ w[k]? = some q) := by
  intro is
  induction is with
  | nil =>
    intro w es k q _ h
    cases es <;> exact Or.inr ⟨List.not_mem_nil, h⟩
  | cons i is ih =>
    intro w es k q hl h
    cases es with
    | nil => cases hl
    | cons x es =>
      rcases ih (w.set i x) es k q (Nat.succ.inj hl) h with ⟨j, h1, h2⟩ | ⟨h1, h2⟩
      · exact Or.inl ⟨j + 1, h1, h2⟩
      · by_cases e : i = k
        · subst e
          rw [List.getElem?_set_self'] at h2
          cases hw : w[i]? with
          | none => rw [hw] at h2; cases h2
          | some y => rw [hw] at h2; exact Or.inl ⟨0, rfl, h2⟩
        · rw [List.getElem?_set_ne e] at h2
          refine Or.inr ⟨fun z => ?_, h2⟩
          rcases List.mem_cons.mp z with z | z
          · exact e z.symm
          · exact h1 z
theorem pick_at {Wb W0 : va_W} {is : List Nat} (hC : is.map (fun i => Wb[i]?) = W0.map some) {j : Nat} {q : Nat × va_E} (h : W0[j]? = some q) : ∃ i, is[j]? = some i ∧ Wb[i]? = some q := by
  have h1 : (is.map (fun i => Wb[i]?))[j]? = some (some q) := by rw [hC, List.getElem?_map, h]; rfl
  rw [List.getElem?_map] at h1
  cases hi : is[j]? with
  | none => rw [hi] at h1; cases h1
  | some i => rw [hi] at h1; exact ⟨i, rfl, Option.some.inj h1⟩
theorem putW_ok {D : va_G} {cl : List vw_C} {A : Nat → Prop} {Wb W0 W1 : va_W} {H H1 : Heap} (hP : va_P D cl Wb H) (hD : va_D A Wb) (is : List Nat) (hC : is.map (fun i => Wb[i]?) = W0.map some) (hsame : W1.map (fun q => q.1) = W0.map (fun q => q.1)) (hk : ∀ q : Nat, q < H.size → ¬ va_A W0 H.size q → H1[q]? = H[q]?) (hP1 : va_P D cl W1 H1) : va_P D cl (putW Wb is W1) H1 ∧ va_D A (putW Wb is W1) := by
  have hlen : is.length = W1.length := by
    have h1 := congrArg List.length hC
    have h2 := congrArg List.length hsame
    rw [List.length_map, List.length_map] at h1 h2
    omega
  have hadd : ∀ (k : Nat) (q : Nat × va_E), (putW Wb is W1)[k]? = some q → ∃ x, Wb[k]? = some (q.1, x) := by
    intro k q h
    rcases putW_at is Wb W1 k q hlen h with ⟨j, h1, h2⟩ | ⟨h1, h2⟩
    · have h3 : (W0.map (fun q => q.1))[j]? = some q.1 := by rw [← hsame, List.getElem?_map, h2]; rfl
      rw [List.getElem?_map] at h3
      cases h4 : W0[j]? with
      | none => rw [h4] at h3; cases h3
      | some y =>
        rw [h4] at h3
        obtain ⟨i, h5, h6⟩ := pick_at hC h4
        have e : i = k := Option.some.inj (h5.symm.trans h1)
        subst e
        exact ⟨y.2, by rw [h6, ← Option.some.inj h3]⟩
    · exact ⟨q.2, h2⟩
  refine ⟨fun k q h => ?_, fun i j x y hx hy hxy => ?_, fun k q h => ?_⟩
  · rcases putW_at is Wb W1 k q hlen h with ⟨j, h1, h2⟩ | ⟨h1, h2⟩
    · exact hP1 j q h2
    · have hl := (hP k q h2).lt
      refine (hP k q h2).kept (hk q.1 hl (fun z => ?_))
      rcases z with ⟨j, e, z⟩ | z
      · obtain ⟨i, h5, h6⟩ := pick_at hC z
        have hki := hD.1 k i q (q.1, e) h2 h6 rfl
        subst hki
        exact h1 (List.mem_of_getElem? h5)
      · omega
  · obtain ⟨x', h1⟩ := hadd i x hx
    obtain ⟨y', h2⟩ := hadd j y hy
    exact hD.1 i j _ _ h1 h2 hxy
  · obtain ⟨x', h1⟩ := hadd k q h
    exact hD.2 k (q.1, x') h1
section LCALLS
variable {p : Program} {l : Launch} {e : Env} {R : Room} {s : State} {m : MethodId} {args : Array Value} {below : List Frame} {meth : Method} {c : Code} {H : Heap} {locs : List Loc} {Q : State → Prop} {cells slots : Nat}
variable {E : kE} {A : Nat → Prop} {own : String} {cc b : ByteArray} {nL n k idx h pc : Nat} {rt0 rt : Option FieldType} {y : MethodName} {Wb W0 W1 Wn : va_W} {av rest st0 : List Value} {ls : Array Slot} {lvs : List (Nat × Value)}
/-- a call of an instance method that writes nothing -/
theorem kRVg (C : kC own cc nL rt0 p s m args meth c) {v : Value} {a : Nat} (hM : Met l y (Cond.code y b n rt :: wG) (rm h) (pR E W0 (.ref a :: av)) (qR v) 0 0 (fun _ => False)) (hf : fV y b n rt k) (hl : Cond.methodLink own idx y ∈ wG) (hR : (rm h).frames + 1 ≤ R.frames ∧ 8 + (n + 11) + (rm h).locals ≤ R.locals) (hcs : cells ≤ R.cells ∧ slots ≤ R.slots)
    (hK : va_K (eD E) vwCl (eT E) s) (hT : sT E A s s.heap) (hS : va_S A s.heap H locs) (hrv : ∃ cell : Cell, H[a]? = some cell ∧ cell.vm.isStatics = false ∧ s.vm.findClass y.cls = some cell.cls) (hP : va_P (eD E) vwCl Wb H) (is : List Nat) (hi : is.map (fun i => Wb[i]?) = W0.map some) (hst : st0 = av.reverse ++ .ref a :: rest) (hlen : av.length = k) (hsz : lv_has ls nL lvs) (hroom : (rest.map fun v => v.category).sum ≤ 8) (hdg : decode cc pc = .ok (.invokevirtual idx, 3))
    (kk : W p l e R s m args below meth c H locs cells slots Q (F0 m (pc + 3) ls (v :: rest))) : W p l e R s m args below meth c H locs cells slots Q (F0 m pc ls st0) := by
  obtain ⟨hx, hb, hr, hml, hown, hw, hlk⟩ := C
  obtain ⟨f1, f2, f3, f4, f5⟩ := hf
  have hrun := va_runV (meth := meth) (p := p) (e := e) (below := below) (locs := locs) (cells := cells) (slots := slots) (g := F0 m pc ls st0) (H := H) (R := R) (As := av) (rest := rest) (Ts := wG) (C := y.cls) ⟨hx, hb, hml, hown, hw⟩ hM ⟨callB_of k hw (wG_in f1) rfl rfl rfl (hw _ f4) (hw _ hl) f5 hR, hw _ f2, hw _ f3⟩
    ⟨pR_blind, hrv, fun U hU hW => ⟨rfl, by rw [hU]; exact pickP hP is hi, va_K.moved hW.alike hK, hT.call hS (fun _ h => h.elim) hW hU⟩⟩ rfl hlen hsz.1 hst (lv_room hroom) hdg hcs
  intro T hT X
  obtain ⟨v', st₀, t, T', L, h0, X', hL, e1, e2, ⟨hv, hh⟩, st⟩ := hrun T hT X
  cases hv
  obtain ⟨t2, a1, b1⟩ := kk T' (by rw [e1, hh, h0]) (Stand.forget X' (fun q h => (hL q h).elim))
  exact ⟨t2, st t2 a1, b1⟩
theorem kW_rung {v : Option Value} {A1 : Nat → Prop} {a : Array Value} (hr : va_Run p l e R s m args below meth c H locs cells slots 0 0 (F0 m pc ls st0) rest (qW v E W1 A1 a) A1) (hS : va_S A s.heap H locs) (hA : ∀ q, A1 q → A q)
    (kk : ∀ (H1 : Heap) (locs1 : List Loc), va_P (eD E) vwCl W1 H1 → va_D A1 W1 → H.size ≤ H1.size → (∀ q : Nat, q < H.size → ¬ A1 q → H1[q]? = H[q]?) → va_S A s.heap H1 locs1 → W p l e R s m args below meth c H1 locs1 cells slots Q (F0 m (pc + 3) ls (v.toList ++ rest))) : W p l e R s m args below meth c H locs cells slots Q (F0 m pc ls st0) := by
  intro T hT X
  obtain ⟨v', st₀, t, T', L, h0, X', hL, e1, e2, ⟨⟨hv, hp, hd⟩, hz, hk⟩, st⟩ := hr T hT X
  cases hv
  rw [h0] at hz hk
  obtain ⟨t2, a1, b1⟩ := kk T'.heap (locs ++ L) (by rw [e1]; exact hp) hd (by rw [e1]; exact hz) (fun q h1 h2 => by rw [e1]; exact hk q h1 h2)
    ⟨Nat.le_trans hS.1 (by rw [e1]; exact hz), fun q h1 h2 => by rw [e1, hk q (Nat.lt_of_lt_of_le h1 hS.1) (fun z => h2 (hA q z))]; exact hS.2.1 q h1 h2, fun q hq => by
      rcases List.mem_append.mp hq with h | h
      · exact hS.2.2 q h
      · exact hA _ (hL q h)⟩ T' rfl X'
  exact ⟨t2, st t2 a1, b1⟩
/-- a call of an instance method that writes: its cells by their places -/
theorem kWVp (C : kC own cc nL rt0 p s m args meth c) {v : Option Value} {a : Nat} (hM : Met l y (Cond.code y b n rt :: wG) (rm h) (pW E W0 H.size (.ref a :: av)) (qW v E W1 (va_A W0 H.size)) 0 0 (va_A W0 H.size)) (hf : fV y b n rt k) (hl : Cond.methodLink own idx y ∈ wG) (hR : (rm h).frames + 1 ≤ R.frames ∧ 8 + (n + 11) + (rm h).locals ≤ R.locals) (hcs : cells ≤ R.cells ∧ slots ≤ R.slots)
    (hK : va_K (eD E) vwCl (eT E) s) (hT : sT E A s s.heap) (hS : va_S A s.heap H locs) (hA : ∀ q : Nat, s.heap.size ≤ q → A q) (hrv : ∃ cell : Cell, H[a]? = some cell ∧ cell.vm.isStatics = false ∧ s.vm.findClass y.cls = some cell.cls) (hP : va_P (eD E) vwCl Wb H) (hD : va_D A Wb) (is : List Nat) (hC : is.map (fun i => Wb[i]?) = W0.map some) (hCn : va_nd is = true) (hsame : W1.map (fun q => q.1) = W0.map (fun q => q.1)) (hn : putW Wb is W1 = Wn)
    (hst : st0 = av.reverse ++ .ref a :: rest) (hlen : av.length = k) (hsz : lv_has ls nL lvs) (hroom : (rest.map fun v => v.category).sum ≤ 8) (hdg : decode cc pc = .ok (.invokevirtual idx, 3))
    (kk : ∀ (H1 : Heap) (locs1 : List Loc), va_P (eD E) vwCl Wn H1 → va_D A Wn → va_S A s.heap H1 locs1 → W p l e R s m args below meth c H1 locs1 cells slots Q (F0 m (pc + 3) ls (v.toList ++ rest))) : W p l e R s m args below meth c H locs cells slots Q (F0 m pc ls st0) := by
  obtain ⟨hx, hb, hr, hml, hown, hw, hlk⟩ := C
  obtain ⟨f1, f2, f3, f4, f5⟩ := hf
  have hFc := va_free hD hS hA is hC
  have hrun := va_runV (meth := meth) (p := p) (e := e) (below := below) (locs := locs) (cells := cells) (slots := slots) (g := F0 m pc ls st0) (H := H) (R := R) (As := av) (rest := rest) (Ts := wG) (C := y.cls) ⟨hx, hb, hml, hown, hw⟩ hM ⟨callB_of k hw (wG_in f1) rfl rfl rfl (hw _ f4) (hw _ hl) f5 hR, hw _ f2, hw _ f3⟩
    ⟨pW_blind, hrv, fun U hU hW => ⟨rfl, by rw [hU], by rw [hU]; exact pickP hP is hC, va_K.moved hW.alike hK, (hD.sub is hCn hC).weaken (fun _ _ _ _ => trivial), hT.call hS hFc hW hU⟩⟩ rfl hlen hsz.1 hst (lv_room hroom) hdg hcs
  refine kW_rung hrun hS hFc (fun H1 locs1 hP1 hD1 hz1 hk1 hS1 => ?_)
  subst hn
  obtain ⟨hP2, hD2⟩ := putW_ok hP hD is hC hsame hk1 hP1
  exact kk H1 locs1 hP2 hD2 hS1
end LCALLS
/-- what the law's run starts with, and what a call of it knows -/
def AA (s : State) : Nat → Prop := fun q => s.heap.size ≤ q
def lawK (E : kE) (b L : Nat) (xs : Nat → Int32) (p : Program) (s : State) (m : MethodId) (meth : Method) (c : Code) : Prop :=
  kC RL code 4 ret p s m #[Value.ref b] meth c ∧ va_K (eD E) vwCl (eT E) s ∧ sT E (AA s) s s.heap ∧ va_X b L xs s s.heap ∧ b < s.heap.size ∧ L ≤ 3072
abbrev lawL (b qS qM i : Nat) : List (Nat × Value) := [(0, .ref b), (1, .ref qS), (2, .ref qM), (3, .int (nI i))]
section LLD
variable {p : Program} {l : Launch} {e : Env} {R : Room} {s : State} {m : MethodId} {below : List Frame} {meth : Method} {c : Code} {H : Heap} {locs : List Loc} {Q : State → Prop} {cells slots : Nat} {E : kE} {b L qS qM i pc : Nat} {xs : Nat → Int32} {ls : Array Slot} {rest : List Value}
/-- a number of the script: five instructions -/
theorem law_ld (K : lawK E b L xs p s m meth c) (hi : i + 6 ≤ L) (hS : va_S (AA s) s.heap H locs) (hl : lv_has ls 4 (lawL b qS qM i)) {k : Nat} {kv : Int} (hk : k ≤ 5) (hkv : Int32.ofInt kv = nI k) (d0 : decode code pc = .ok (.aload_n 0, 1)) (d1 : decode code (pc + 1) = .ok (.iload_n 3, 1)) (d2 : decode code (pc + 1 + 1) = .ok (.iconst kv, 1)) (d3 : decode code (pc + 1 + 1 + 1) = .ok (.iadd, 1)) (d4 : decode code (pc + 1 + 1 + 1 + 1) = .ok (.iaload, 1))
    (kk : W p l e R s m #[Value.ref b] below meth c H locs cells slots Q (F0 m (pc + 1 + 1 + 1 + 1 + 1) ls (.int (xs (i + k)) :: rest))) : W p l e R s m #[Value.ref b] below meth c H locs cells slots Q (F0 m pc ls rest) := by
  obtain ⟨⟨hx, hb, hr, hml, hown, hw, hlk⟩, hK, hT, hX, hbl, hL⟩ := K
  refine lv_aload_n hx hb d0 rfl (lv_at hl 0 rfl) ?_
  refine lv_iload_n hx hb d1 rfl (lv_at hl 3 rfl) ?_
  refine lv_iconst (v := nI k) hx hb d2 hkv ?_
  refine lv_iadd hx hb d3 ?_
  rw [nI_add]
  refine va_sld hx hb hX hbl (A := AA s) (Nat.not_le.mpr hbl) hS (vp_in_nI (by omega) (by omega)) d4 ?_
  rw [nI_clamp (by omega)]
  exact kk
end LLD
section WRAP
variable {B K F D : Nat → Nat} {N H S : Nat} {bf kd fm dp s c d : Nat → Int32} {n hr sn : Int32}
theorem case_sign' (hF : rF c d) (h : rPl B K F D N H S bf kd fm dp n hr sn s) (a b : Int32) : ∃ r c' d' B' bf' s', f_S_sign c bf a b = some (r, c', bf') ∧ f_M_sign d s a b = some (r, d', s') ∧ rF c' d' ∧ rPl B' K F D N H S bf' kd fm dp n hr sn s' := by
  rcases case_sign hF h.1.1 h.1.2.1 a b with ⟨r, c', d', e1, e2, e3⟩ | ⟨g, f, r, hg, hf, e1, e2⟩
  · exact ⟨r, c', d', B, bf, s, e1, e2, e3, h⟩
  · exact ⟨r, c, d, _, _, _, e1, e2, hF, rPl_B h hg (by omega)⟩
/-- what is kept, on both sides -/
def rKp (ik mik : Int32) (eb ek ef ed : Nat → Int32) (en eh es : Int32) (mke : Nat → Int32) : Prop := (ik = 0 ∧ mik = 0) ∨ (ik = 1 ∧ mik = 1 ∧ ∃ B K F D N H S, rPl B K F D N H S eb ek ef ed en eh es mke)
theorem case_undo' (hF : rF c d) (h : rPl B K F D N H S bf kd fm dp n hr sn s) {ik mik en eh es : Int32} {eb ed ef ek mke : Nat → Int32} (hk : rKp ik mik eb ek ef ed en eh es mke) : ∃ r c' d' B' K' F' D' N' H' S' n' h' s1 bf' dp' fm' kd' s', f_S_undo ik c en eh es eb ed ef ek n hr sn bf dp fm kd = some (r, c', n', h', s1, bf', dp', fm', kd') ∧ f_M_undo mik d mke s = some (r, d', s') ∧ rF c' d' ∧ rPl B' K' F' D' N' H' S' bf' kd' fm' dp' n' h' s1 s' := by
  rcases hk with ⟨rfl, rfl⟩ | ⟨rfl, rfl, B0, K0, F0, D0, N0, H0, S0, h0⟩
  · obtain ⟨e1, e2, e3⟩ := case_undo0 (n := n) (hr := hr) (sn := sn) (bf := bf) (dp := dp) (fm := fm) (kd := kd) (s := s) hF en eh es eb ed ef ek mke
    exact ⟨_, _, _, B, K, F, D, N, H, S, _, _, _, _, _, _, _, _, e1, e2, e3, h⟩
  · obtain ⟨r, bf', dp', fm', kd', s', e1, e2, e3⟩ := case_undo1 (c := c) (d := d) (n := n) (hr := hr) (sn := sn) (bf := bf) (dp := dp) (fm := fm) (kd := kd) (s := s) h0
    exact ⟨_, _, _, _, _, _, _, _, _, _, _, _, _, _, _, _, _, _, e1, e2, hF, e3⟩
theorem case_tear' {ik mik en eh es : Int32} {eb ed ef ek mke : Nat → Int32} (hk : rKp ik mik eb ek ef ed en eh es mke) : ∃ r, f_S_tear ik = some (r, 0) ∧ f_M_tear mik = some (r, 0) := by
  have e : ik = mik := by
    rcases hk with ⟨h1, h2⟩ | ⟨h1, h2, _⟩ <;> rw [h1, h2]
  subst e
  obtain ⟨r, h⟩ := case_tear.2 ik
  exact ⟨r, h, by rw [← case_tear.1]; exact h⟩
end WRAP

/-- all cells of the two objects -/
abbrev WX (E : kE) (Q : Nat → Nat) (ik : Int32) (pn : Int32) (ph : Int32) (ps : Int32) (en : Int32) (eh : Int32) (es : Int32) (tn : Int32) (th : Int32) (ts : Int32) (tpl : Int32) (tat : Int32) (ksz : Int32) (kln : Int32) (cch : Int32) (cmo : Int32) (mik : Int32) (mmo : Int32) (mtd : Int32) (mhe : Int32) (mfa : Int32) (mva : Int32) (pb : Nat → Int32) (pk : Nat → Int32) (pf : Nat → Int32) (pd : Nat → Int32) (eb : Nat → Int32) (ek : Nat → Int32) (ef : Nat → Int32) (ed : Nat → Int32) (tb : Nat → Int32) (tk : Nat → Int32) (tf : Nat → Int32) (td : Nat → Int32) (tpb : Nat → Int32) (kty : Nat → Int32) (kst : Nat → Int32) (kvl : Nat → Int32) (shw : Nat → Int32) (shz : Nat → Int32) (cst : Nat → Int32) (cwo : Nat → Int32) (fo : Nat → Int32) (ms : Nat → Int32) (mke : Nat → Int32) (mbe : Nat → Int32) (mfi : Nat → Int32) (msh : Nat → Int32) (mwo : Nat → Int32) (mst : Nat → Int32) (mta : Nat → Int32) (mbi : Nat → Int32) (mlo : Nat → Int32) (shn : Nat → Int64) (mce : Nat → Int64) (mbt : Nat → Int64) : va_W := [(Q 0, .inr (7, [.ref (Q 1), .ref (Q 7), .ref (Q 13), .ref (Q 19), .ref (Q 21), .ref (Q 26), .ref (Q 30), .ref (Q 33), .int ik])),
  (Q 1, .inr (3, [.ref (Q 2), .ref (Q 4), .ref (Q 5), .ref (Q 6), .int pn, .int ph, .int ps])),
  (Q 2, .inr (0, [.ref (Q 3)])),
  (Q 3, .inl (eI E, 26, .inl pb)),
  (Q 4, .inl (eI E, 12, .inl pk)),
  (Q 5, .inl (eI E, 12, .inl pf)),
  (Q 6, .inl (eI E, 12, .inl pd)),
  (Q 7, .inr (3, [.ref (Q 8), .ref (Q 10), .ref (Q 11), .ref (Q 12), .int en, .int eh, .int es])),
  (Q 8, .inr (0, [.ref (Q 9)])),
  (Q 9, .inl (eI E, 26, .inl eb)),
  (Q 10, .inl (eI E, 12, .inl ek)),
  (Q 11, .inl (eI E, 12, .inl ef)),
  (Q 12, .inl (eI E, 12, .inl ed)),
  (Q 13, .inr (3, [.ref (Q 14), .ref (Q 16), .ref (Q 17), .ref (Q 18), .int tn, .int th, .int ts])),
  (Q 14, .inr (0, [.ref (Q 15)])),
  (Q 15, .inl (eI E, 26, .inl tb)),
  (Q 16, .inl (eI E, 12, .inl tk)),
  (Q 17, .inl (eI E, 12, .inl tf)),
  (Q 18, .inl (eI E, 12, .inl td)),
  (Q 19, .inr (5, [.ref (Q 20), .int tpl])),
  (Q 20, .inl (eB E, 120, .inl tpb)),
  (Q 21, .inr (2, [.ref (Q 22), .int tat])),
  (Q 22, .inr (6, [.ref (Q 23), .ref (Q 24), .ref (Q 25), .int ksz, .int kln])),
  (Q 23, .inl (eI E, 120, .inl kty)),
  (Q 24, .inl (eI E, 120, .inl kst)),
  (Q 25, .inl (eI E, 120, .inl kvl)),
  (Q 26, .inr (4, [.ref (Q 27), .ref (Q 28), .ref (Q 29)])),
  (Q 27, .inl (eI E, 4, .inl shw)),
  (Q 28, .inl (eI E, 4, .inl shz)),
  (Q 29, .inl (eJ E, 160, .inr (.inl shn))),
  (Q 30, .inr (1, [.ref (Q 31), .ref (Q 32), .int cch, .int cmo])),
  (Q 31, .inl (eI E, 12, .inl cst)),
  (Q 32, .inl (eI E, 12, .inl cwo)),
  (Q 33, .inl (eI E, 7, .inl fo)),
  (Q 34, .inr (8, [.ref (Q 35), .ref (Q 36), .ref (Q 37), .int mik, .ref (Q 38), .ref (Q 39), .int mmo, .ref (Q 40), .ref (Q 41), .ref (Q 42), .int mtd, .int mhe, .int mfa, .int mva, .ref (Q 43), .ref (Q 44), .ref (Q 45), .ref (Q 46)])),
  (Q 35, .inl (eI E, 65, .inl ms)),
  (Q 36, .inl (eI E, 65, .inl mke)),
  (Q 37, .inl (eI E, 65, .inl mbe)),
  (Q 38, .inl (eI E, 7, .inl mfi)),
  (Q 39, .inl (eI E, 12, .inl msh)),
  (Q 40, .inl (eI E, 12, .inl mwo)),
  (Q 41, .inl (eI E, 12, .inl mst)),
  (Q 42, .inl (eI E, 120, .inl mta)),
  (Q 43, .inl (eI E, 4, .inl mbi)),
  (Q 44, .inl (eI E, 4, .inl mlo)),
  (Q 45, .inl (eJ E, 160, .inr (.inl mce))),
  (Q 46, .inl (eJ E, 40, .inr (.inl mbt)))]
/-- class and reference alike -/
def RelS (ik : Int32) (mik : Int32) (pn : Int32) (ph : Int32) (ps : Int32) (pb : Nat → Int32) (pk : Nat → Int32) (pf : Nat → Int32) (pd : Nat → Int32) (en : Int32) (eh : Int32) (es : Int32) (eb : Nat → Int32) (ek : Nat → Int32) (ef : Nat → Int32) (ed : Nat → Int32) (ms : Nat → Int32) (mke : Nat → Int32) (tpl : Int32) (tpb : Nat → Int32) (mtd : Int32) (mta : Nat → Int32) (shw : Nat → Int32) (shz : Nat → Int32) (shn : Nat → Int64) (mbi : Nat → Int32) (mlo : Nat → Int32) (mce : Nat → Int64) (fo : Nat → Int32) (mfi : Nat → Int32) : Prop := rF fo mfi ∧ (∃ B K F D N H S, rPl B K F D N H S pb pk pf pd pn ph ps ms) ∧ rKp ik mik eb ek ef ed en eh es mke ∧ (∃ T, tpl = nI T ∧ mtd = nI T ∧ rTp T tpb mta) ∧ ∃ Z, rSh Z shw shz shn mbi mlo mce
/-- the law's invariant -/
def Inv (E : kE) (Q : Nat → Nat) (A : Nat → Prop) (H : Heap) : Prop := ∃ (ik : Int32) (pn : Int32) (ph : Int32) (ps : Int32) (en : Int32) (eh : Int32) (es : Int32) (tn : Int32) (th : Int32) (ts : Int32) (tpl : Int32) (tat : Int32) (ksz : Int32) (kln : Int32) (cch : Int32) (cmo : Int32) (mik : Int32) (mmo : Int32) (mtd : Int32) (mhe : Int32) (mfa : Int32) (mva : Int32) (pb : Nat → Int32) (pk : Nat → Int32) (pf : Nat → Int32) (pd : Nat → Int32) (eb : Nat → Int32) (ek : Nat → Int32) (ef : Nat → Int32) (ed : Nat → Int32) (tb : Nat → Int32) (tk : Nat → Int32) (tf : Nat → Int32) (td : Nat → Int32) (tpb : Nat → Int32) (kty : Nat → Int32) (kst : Nat → Int32) (kvl : Nat → Int32) (shw : Nat → Int32) (shz : Nat → Int32) (cst : Nat → Int32) (cwo : Nat → Int32) (fo : Nat → Int32) (ms : Nat → Int32) (mke : Nat → Int32) (mbe : Nat → Int32) (mfi : Nat → Int32) (msh : Nat → Int32) (mwo : Nat → Int32) (mst : Nat → Int32) (mta : Nat → Int32) (mbi : Nat → Int32) (mlo : Nat → Int32) (shn : Nat → Int64) (mce : Nat → Int64) (mbt : Nat → Int64), RelS ik mik pn ph ps pb pk pf pd en eh es eb ek ef ed ms mke tpl tpb mtd mta shw shz shn mbi mlo mce fo mfi ∧ va_P (eD E) vwCl (WX E Q ik pn ph ps en eh es tn th ts tpl tat ksz kln cch cmo mik mmo mtd mhe mfa mva pb pk pf pd eb ek ef ed tb tk tf td tpb kty kst kvl shw shz cst cwo fo ms mke mbe mfi msh mwo mst mta mbi mlo shn mce mbt) H ∧ va_D A (WX E Q ik pn ph ps en eh es tn th ts tpl tat ksz kln cch cmo mik mmo mtd mhe mfa mva pb pk pf pd eb ek ef ed tb tk tf td tpb kty kst kvl shw shz cst cwo fo ms mke mbe mfi msh mwo mst mta mbi mlo shn mce mbt)
