-- ===== ONE LIST OF WORDS FOR ALL CONTRACTS =====
def wG : List Cond := lw_tbl.filter goodWord
theorem wG_mem {w : Cond} (h : w ∈ lw_tbl) (g : goodWord w = true) : w ∈ wG := List.mem_filter.mpr ⟨h, g⟩
theorem wG_ok {w : Cond} (h : w ∈ wG) : w ∈ lw_tbl ∧ goodWord w = true := List.mem_filter.mp h
theorem wG_in {y : Cond} (hy : y ∈ wG) : GoodIn wG (y :: wG) := fun w hw => by
  rcases List.mem_cons.mp hw with e | h
  · subst e
    exact ⟨hy, good_of_word (wG_ok hy).2⟩
  · exact ⟨h, good_of_word (wG_ok h).2⟩
-- ===== THE SURROUNDINGS: class numbers, array classes, places of the texts =====
abbrev kE : Type := va_G × (ClassId × ClassId × ClassId) × ((Nat → Nat) × (Nat → Nat))
abbrev eD (E : kE) : va_G := E.1
abbrev eI (E : kE) : ClassId := E.2.1.1
abbrev eB (E : kE) : ClassId := E.2.1.2.1
abbrev eJ (E : kE) : ClassId := E.2.1.2.2
abbrev eK (E : kE) : Nat → Nat := E.2.2.1
abbrev eV (E : kE) : Nat → Nat := E.2.2.2
abbrev eT (E : kE) : List (ClassId × FieldType) := [(eI E, .int), (eB E, .byte), (eJ E, .long)]
-- the static rows of Forms
def tENDS : Nat → Int32 := fun j => ([3, 6, 24, 48, 192, 384, 9, 18, 36, 72, 144, 288] : List Int32).getD j 0
def tONE : Nat → Int32 := fun j => ([0, 1, 3, 4, 6, 7, 0, 1, 2, 3, 4, 5] : List Int32).getD j 0
def tOTHER : Nat → Int32 := fun j => ([1, 2, 4, 5, 7, 8, 3, 4, 5, 6, 7, 8] : List Int32).getD j 0
def tQUARTER : Nat → Int32 := fun j => ([8, 11, 7, 10, 6, 9, 1, 3, 5, 0, 2, 4] : List Int32).getD j 0
-- the texts: letter capital soft crossed underlined icy sign sun form as deep and the empty one
def sLen : List Nat := [6, 7, 4, 7, 10, 3, 4, 3, 4, 2, 4, 0]
def sByt : List (List Int32) := [[108, 101, 116, 116, 101, 114], [99, 97, 112, 105, 116, 97, 108], [115, 111, 102, 116], [99, 114, 111, 115, 115, 101, 100], [117, 110, 100, 101, 114, 108, 105, 110, 101, 100], [105, 99, 121], [115, 105, 103, 110], [115, 117, 110], [102, 111, 114, 109], [97, 115], [100, 101, 101, 112], []]
def sRow : List (String × Nat × String × Nat) := [
  ("SnowLetters$Tokens", 63, "letter", 0), ("SnowLetters$Tokens", 65, "capital", 1), ("SnowLetters$Tokens", 67, "soft", 2), ("SnowLetters$Tokens", 69, "crossed", 3), ("SnowLetters$Tokens", 71, "underlined", 4), ("SnowLetters$Tokens", 73, "icy", 5), ("SnowLetters$Tokens", 75, "sign", 6), ("SnowLetters$Tokens", 77, "sun", 7), ("SnowLetters$Tokens", 79, "form", 8), ("SnowLetters$Tokens", 81, "as", 9), ("SnowLetters$Tokens", 83, "deep", 10), ("SnowLetters$Tokens", 85, "", 11),
  ("SnowLettersModel", 233, "letter", 0), ("SnowLettersModel", 235, "capital", 1), ("SnowLettersModel", 237, "soft", 2), ("SnowLettersModel", 239, "crossed", 3), ("SnowLettersModel", 241, "underlined", 4), ("SnowLettersModel", 243, "icy", 5), ("SnowLettersModel", 245, "form", 8), ("SnowLettersModel", 247, "as", 9), ("SnowLettersModel", 255, "deep", 10), ("SnowLettersModel", 264, "sign", 6), ("SnowLettersModel", 269, "sun", 7)]
-- the links to private fields and constructors of nest mates
def sNF : List (String × Nat × String × String × String) := [
  ("SnowLetters$FieldText", 73, "SnowLetters$Plain", "book", "LSnowLetters$Book;"), ("SnowLetters", 112, "SnowLetters$Plain", "book", "LSnowLetters$Book;"), ("SnowLetters", 161, "SnowLetters$Plain", "kinds", "[I"), ("SnowLetters", 164, "SnowLetters$Plain", "forms", "[I"), ("SnowLetters", 167, "SnowLetters$Plain", "deeps", "[I"), ("SnowLetters$Choice", 18, "SnowLetters$Plain", "size", "I"), ("SnowLetters", 279, "SnowLetters$Plain", "size", "I"), ("SnowLetters", 173, "SnowLetters$Plain", "hour", "I"), ("SnowLetters$FieldText", 81, "SnowLetters$Plain", "sunny", "I"), ("SnowLetters", 134, "SnowLetters$Plain", "sunny", "I"), ("SnowLetters$Tokens", 25, "SnowLetters$Tape", "length", "I"), ("SnowLetters", 226, "SnowLetters$Tape", "length", "I"), ("SnowLetters", 208, "SnowLetters$Choice", "chosen", "I"), ("SnowLetters", 211, "SnowLetters$Choice", "mostWorth", "I")]
def sNM : List (String × Nat × MethodName) := [
  ("SnowLetters", 9, ⟨"SnowLetters$Plain", "<init>", "()V"⟩), ("SnowLetters$Plain", 9, ⟨"SnowLetters$Book", "<init>", "()V"⟩), ("SnowLetters", 24, ⟨"SnowLetters$Tape", "<init>", "()V"⟩), ("SnowLetters", 31, ⟨"SnowLetters$FieldText", "<init>", "()V"⟩), ("SnowLetters$FieldText", 9, ⟨"SnowLetters$Tokens", "<init>", "()V"⟩), ("SnowLetters", 38, ⟨"SnowLetters$Sheets", "<init>", "()V"⟩), ("SnowLetters", 45, ⟨"SnowLetters$Choice", "<init>", "()V"⟩)]
abbrev sArr (nm : String) (f : Nat → Int32) (A : Nat → Prop) (U : State) (H : Heap) : Prop := ∃ t : Nat, va_Z "SnowLetters$Forms" nm "[I" (.ref t) A U H ∧ va_T .int t 12 (fun j => .int (f j)) A U H
/-- what stands from the start and nobody writes -/
def sT (E : kE) (A : Nat → Prop) (U : State) (H : Heap) : Prop :=
  (sArr "ENDS" tENDS A U H ∧ sArr "ONE_END" tONE A U H ∧ sArr "OTHER_END" tOTHER A U H ∧ sArr "QUARTER" tQUARTER A U H)
  ∧ (va_Z "java/lang/String" "COMPACT_STRINGS" "Z" (.int 1) A U H ∧ vk_S 12 sLen sByt (eK E) (eV E) A U H ∧ va_Zq "jdk/internal/util/Preconditions" "SIOOBE_FORMATTER" "Ljava/util/function/BiFunction;" A U H)
  ∧ (∀ r ∈ sRow, vk_R r.1 r.2.1 r.2.2.1 (eK E r.2.2.2) U)
  ∧ (∀ r ∈ sNF, va_Nw (.fieldLinkNest r.1 r.2.1 r.2.2.1 r.2.2.2.1 r.2.2.2.2 "SnowLetters") U)
  ∧ (∀ r ∈ sNM, va_Nw (.methodLinkNest r.1 r.2.1 r.2.2 "SnowLetters") U)
theorem sArr.moved {nm : String} {f : Nat → Int32} {A : Nat → Prop} {u U : State} {H : Heap} (hvm : u.vm.Alike U.vm) (h : sArr nm f A u H) : sArr nm f A U H := by
  obtain ⟨t, h1, h2⟩ := h
  exact ⟨t, h1.moved hvm, h2.moved hvm⟩
theorem sArr.goes {nm : String} {f : Nat → Int32} {A B : Nat → Prop} {U : State} {H H1 : Heap} (hq : ∀ a : Nat, a < H.size → ¬ A a → H1[a]? = H[a]?) (hB : ∀ q, B q → A q) (h : sArr nm f A U H) : sArr nm f B U H1 := by
  obtain ⟨t, h1, h2⟩ := h
  exact ⟨t, (h1.kept hq).narrow hB, (h2.kept hq).narrow hB⟩
theorem sT.blind {E : kE} {A : Nat → Prop} {U : State} {H : Heap} {g : JFrame} {mk : MethodId} {a : Array Value} (h : sT E A U H) : sT E A (U.calling g mk a) H := by
  obtain ⟨⟨h1, h2, h3, h4⟩, ⟨h5, h6, h6b⟩, h7, h8, h9⟩ := h
  have hv : U.vm.Alike (U.calling g mk a).vm := Vm.Alike.refl U.vm
  exact ⟨⟨h1.moved hv, h2.moved hv, h3.moved hv, h4.moved hv⟩, ⟨h5.moved hv, h6.moved hv, h6b.moved hv⟩, fun r hr => vk_R.same (u := U) rfl (h7 r hr), fun r hr => va_Nw.same (u := U) rfl rfl (h8 r hr), fun r hr => va_Nw.same (u := U) rfl rfl (h9 r hr)⟩
theorem sT.call {E : kE} {A B : Nat → Prop} {s U : State} {H : Heap} {locs : List Loc} (h : sT E A s s.heap) (hS : va_S A s.heap H locs) (hB : ∀ q, B q → A q) (hW : s.WarmedH U.vm) (hU : U.heap = H) : sT E B U U.heap := by
  obtain ⟨⟨h1, h2, h3, h4⟩, ⟨h5, h6, h6b⟩, h7, h8, h9⟩ := h
  have hv : s.vm.Alike U.vm := hW.alike
  subst hU
  have hq := hS.2.1
  exact ⟨⟨(h1.moved hv).goes hq hB, (h2.moved hv).goes hq hB, (h3.moved hv).goes hq hB, (h4.moved hv).goes hq hB⟩, ⟨((h5.moved hv).kept hq).narrow hB, ((h6.moved hv).kept hq).narrow hB, ((h6b.moved hv).kept hq).narrow hB⟩, fun r hr => (h7 r hr).warm hW, fun r hr => (h8 r hr).warmF hW, fun r hr => (h9 r hr).warmM hW⟩
-- ===== CONTRACTS =====
/-- a method that writes nothing: its start -/
def pR (E : kE) (ws : va_W) (av : List Value) : Array Value → State → Prop := va_Pc av (fun U => va_P (eD E) vwCl ws U.heap ∧ va_K (eD E) vwCl (eT E) U ∧ sT E (fun _ => False) U U.heap)
/-- its end where it answers nothing: the heap as it was -/
def qV : Array Value → State → Outcome → State → Prop := fun _ st o t => o = .returned none ∧ t.heap = st.heap
/-- its end: the answer, and the heap as it was -/
def qR (v : Value) : Array Value → State → Outcome → State → Prop := fun _ st o t => o = .returned (some v) ∧ t.heap = st.heap
/-- a method that writes: its start -/
def pW (E : kE) (ws : va_W) (sz : Nat) (av : List Value) : Array Value → State → Prop := va_Pc av (fun U => U.heap.size = sz ∧ va_P (eD E) vwCl ws U.heap ∧ va_K (eD E) vwCl (eT E) U ∧ va_D (fun _ => True) ws ∧ sT E (va_A ws sz) U U.heap)
/-- its end: the answer, its cells as they are then, all else as it was -/
def qW (v : Option Value) (E : kE) (ws : va_W) (A : Nat → Prop) : Array Value → State → Outcome → State → Prop := fun _ st o t => (o = .returned v ∧ va_P (eD E) vwCl ws t.heap ∧ va_D A ws) ∧ va_F A st t
theorem pR_blind {E : kE} {ws : va_W} {av : List Value} : FrameBlind (pR E ws av) := fun a U g mk h => by
  obtain ⟨h0, h1, h2, h3⟩ := h
  exact ⟨h0, h1, va_K.moved (u := U) (U := U.calling g mk a) (Vm.Alike.refl U.vm) h2, h3.blind⟩
theorem pW_blind {E : kE} {ws : va_W} {sz : Nat} {av : List Value} : FrameBlind (pW E ws sz av) := fun a U g mk h => by
  obtain ⟨h0, hz, h1, h2, hd, h3⟩ := h
  exact ⟨h0, hz, h1, va_K.moved (u := U) (U := U.calling g mk a) (Vm.Alike.refl U.vm) h2, hd, h3.blind⟩
/-- what a walk knows of its method -/
def kC (own : String) (cc : ByteArray) (nL : Nat) (rt : Option FieldType) (p : Program) (s : State) (m : MethodId) (args : Array Value) (meth : Method) (c : Code) : Prop :=
  p.tables.exec = Jvm.exec ∧ c.code = cc ∧ meth.sig.returnType = rt ∧ c.maxLocals = nL ∧ s.vm.findClass own = some m.cls ∧ (∀ w ∈ wG, w.before args s = true) ∧ meth.locks = false
theorem met_R {l : Launch} {y : MethodName} {cc : ByteArray} {nL : Nat} {rt : Option FieldType} {r : Room} {E : kE} {ws : va_W} {av : List Value} {v : Value} (hy : plainName y.cls = true) (hn : (lg_sl av).length ≤ nL)
    (body : ∀ (p : Program) (e : Env) (s : State) (m : MethodId) (args : Array Value) (below : List Frame) (meth : Method) (c : Code) (ls : Array Slot), kC y.cls cc nL rt p s m args meth c → va_P (eD E) vwCl ws s.heap → va_K (eD E) vwCl (eT E) s → sT E (fun _ => False) s s.heap → lv_has ls nL (lv_args 0 av) →
      W p l e r s m args below meth c s.heap [] 0 0 (MQ below (qR v) args s 0 0 (fun _ => False)) (F0 m 0 ls [])) : Met l y (Cond.code y cc nL rt :: wG) r (pR E ws av) (qR v) 0 0 (fun _ => False) := by
  refine Met.ofW (cc := cc) (maxL := nL) (ret := rt) hy rfl ?_
  intro p e s m args below meth c s₁ B hml hv
  obtain ⟨rfl, hP, hK, hT⟩ := hv
  have hts := atoms_spec (ws := Cond.code y cc nL rt :: wG) B.pre
  have hl := lv_entry av (n := nL) hn
  rw [lg_entry_eq]
  exact body p e s m _ below meth c _ ⟨B.exec, B.bytes, B.returns, hml, findClass_of_methodNamed B.named, fun w h => hts w (List.mem_cons_of_mem _ h), B.notSynchronized⟩ hP hK hT hl
theorem met_V {l : Launch} {y : MethodName} {cc : ByteArray} {nL : Nat} {rt : Option FieldType} {r : Room} {E : kE} {ws : va_W} {av : List Value} (hy : plainName y.cls = true) (hn : (lg_sl av).length ≤ nL)
    (body : ∀ (p : Program) (e : Env) (s : State) (m : MethodId) (args : Array Value) (below : List Frame) (meth : Method) (c : Code) (ls : Array Slot), kC y.cls cc nL rt p s m args meth c → va_P (eD E) vwCl ws s.heap → va_K (eD E) vwCl (eT E) s → sT E (fun _ => False) s s.heap → lv_has ls nL (lv_args 0 av) →
      W p l e r s m args below meth c s.heap [] 0 0 (MQ below qV args s 0 0 (fun _ => False)) (F0 m 0 ls [])) : Met l y (Cond.code y cc nL rt :: wG) r (pR E ws av) qV 0 0 (fun _ => False) := by
  refine Met.ofW (cc := cc) (maxL := nL) (ret := rt) hy rfl ?_
  intro p e s m args below meth c s₁ B hml hv
  obtain ⟨rfl, hP, hK, hT⟩ := hv
  have hts := atoms_spec (ws := Cond.code y cc nL rt :: wG) B.pre
  have hl := lv_entry av (n := nL) hn
  rw [lg_entry_eq]
  exact body p e s m _ below meth c _ ⟨B.exec, B.bytes, B.returns, hml, findClass_of_methodNamed B.named, fun w h => hts w (List.mem_cons_of_mem _ h), B.notSynchronized⟩ hP hK hT hl
theorem met_W {l : Launch} {y : MethodName} {cc : ByteArray} {nL : Nat} {rt : Option FieldType} {r : Room} {E : kE} {ws w1 : va_W} {sz : Nat} {av : List Value} {v : Option Value} (hy : plainName y.cls = true) (hn : (lg_sl av).length ≤ nL)
    (body : ∀ (p : Program) (e : Env) (s : State) (m : MethodId) (args : Array Value) (below : List Frame) (meth : Method) (c : Code) (A : Nat → Prop) (ls : Array Slot), kC y.cls cc nL rt p s m args meth c → va_P (eD E) vwCl ws s.heap → va_D A ws → va_S A s.heap s.heap [] → (∀ q : Nat, s.heap.size ≤ q → A q) → va_K (eD E) vwCl (eT E) s → sT E A s s.heap → lv_has ls nL (lv_args 0 av) →
      W p l e r s m args below meth c s.heap [] 0 0 (MQ below (qW v E w1 A) args s 0 0 A) (F0 m 0 ls [])) : Met l y (Cond.code y cc nL rt :: wG) r (pW E ws sz av) (qW v E w1 (va_A ws sz)) 0 0 (va_A ws sz) := by
  refine Met.ofW (cc := cc) (maxL := nL) (ret := rt) hy rfl ?_
  intro p e s m args below meth c s₁ B hml hv
  obtain ⟨rfl, rfl, hP, hK, hD, hT⟩ := hv
  have hts := atoms_spec (ws := Cond.code y cc nL rt :: wG) B.pre
  have hl := lv_entry av (n := nL) hn
  rw [lg_entry_eq]
  exact body p e s m _ below meth c (va_A ws s.heap.size) _ ⟨B.exec, B.bytes, B.returns, hml, findClass_of_methodNamed B.named, fun w h => hts w (List.mem_cons_of_mem _ h), B.notSynchronized⟩ hP hD.self va_S.rf (fun q h => Or.inr h) hK hT hl
/-- a static method, an instance method: its words -/
def fS (y : MethodName) (cc : ByteArray) (nL : Nat) (rt : Option FieldType) (k : Nat) : Prop := Cond.code y cc nL rt ∈ wG ∧ Cond.static y ∈ wG ∧ Cond.initialized y.cls ∈ wG ∧ (y.cls ≠ "java/lang/invoke/MethodHandle" ∧ y.cls ≠ "java/lang/invoke/VarHandle" ∧ (parseMethodDescriptor y.desc).map (fun d => d.parameters.length) = some k)
def fV (y : MethodName) (cc : ByteArray) (nL : Nat) (rt : Option FieldType) (k : Nat) : Prop := Cond.code y cc nL rt ∈ wG ∧ Cond.instanceMethod y ∈ wG ∧ Cond.selects y.cls y y ∈ wG ∧ Cond.initialized y.cls ∈ wG ∧ (y.cls ≠ "java/lang/invoke/MethodHandle" ∧ y.cls ≠ "java/lang/invoke/VarHandle" ∧ (parseMethodDescriptor y.desc).map (fun d => d.parameters.length) = some k)
/-- rows by places: the picked ones hold -/
theorem pickP {D : va_G} {cl : List vw_C} {ws ws' : va_W} {H : Heap} (h : va_P D cl ws H) (is : List Nat) (hs : is.map (fun i => ws[i]?) = ws'.map some) : va_P D cl ws' H := by
  intro k q hk
  have h1 : (is.map (fun i => ws[i]?))[k]? = some (some q) := by rw [hs, List.getElem?_map, hk]; rfl
  rw [List.getElem?_map] at h1
  cases hi : is[k]? with
  | none => rw [hi] at h1; cases h1
  | some i => rw [hi] at h1; exact h i q (Option.some.inj h1)
abbrev rm (h : Nat) : Room := { frames := h, cells := 0, slots := 0, locals := 64 * h }
section CALLS
variable {p : Program} {l : Launch} {e : Env} {R : Room} {s : State} {m : MethodId} {args : Array Value} {below : List Frame} {meth : Method} {c : Code} {H : Heap} {locs : List Loc} {Q : State → Prop}
variable {E : kE} {A : Nat → Prop} {own : String} {cc b : ByteArray} {nL n k idx h pc : Nat} {rt0 rt : Option FieldType} {y : MethodName} {Wb W0 W1 Wr Wn : va_W} {av rest st0 : List Value} {ls : Array Slot} {lvs : List (Nat × Value)}
/-- a call of a static method that writes nothing -/
theorem kRS (C : kC own cc nL rt0 p s m args meth c) {v : Value} (hM : Met l y (Cond.code y b n rt :: wG) (rm h) (pR E W0 av) (qR v) 0 0 (fun _ => False)) (hf : fS y b n rt k) (hl : Cond.methodLink own idx y ∈ wG) (hR : (rm h).frames + 1 ≤ R.frames ∧ 8 + (n + 11) + (rm h).locals ≤ R.locals)
    (hK : va_K (eD E) vwCl (eT E) s) (hT : sT E A s s.heap) (hS : va_S A s.heap H locs) (hP : va_P (eD E) vwCl Wb H) (is : List Nat) (hi : is.map (fun i => Wb[i]?) = W0.map some) (hst : st0 = av.reverse ++ rest) (hlen : av.length = k) (hsz : lv_has ls nL lvs) (hroom : (rest.map fun v => v.category).sum ≤ 8) (hdg : decode cc pc = .ok (.invokestatic idx, 3))
    (kk : W p l e R s m args below meth c H locs 0 0 Q (F0 m (pc + 3) ls (v :: rest))) : W p l e R s m args below meth c H locs 0 0 Q (F0 m pc ls st0) := by
  obtain ⟨hx, hb, hr, hml, hown, hw, hlk⟩ := C
  obtain ⟨f1, f2, f3, f4⟩ := hf
  have hrun := va_runS (meth := meth) (p := p) (e := e) (below := below) (locs := locs) (cells := 0) (slots := 0) (g := F0 m pc ls st0) (H := H) (R := R) (As := av) (rest := rest) (Ts := wG) ⟨hx, hb, hml, hown, hw⟩ hM ⟨callB_of k hw (wG_in f1) rfl rfl rfl (hw _ f3) (hw _ hl) f4 hR, hw _ f2⟩
    ⟨pR_blind, fun U hU hW => ⟨rfl, by rw [hU]; exact pickP hP is hi, va_K.moved hW.alike hK, hT.call hS (fun _ h => h.elim) hW hU⟩⟩ rfl hlen hsz.1 hst (lv_room hroom) hdg ⟨Nat.zero_le _, Nat.zero_le _⟩
  intro T hT X
  obtain ⟨v', st₀, t, T', L, h0, X', hL, e1, e2, ⟨hv, hh⟩, st⟩ := hrun T hT X
  cases hv
  obtain ⟨t2, a1, b1⟩ := kk T' (by rw [e1, hh, h0]) (Stand.forget X' (fun q h => (hL q h).elim))
  exact ⟨t2, st t2 a1, b1⟩
/-- a call of a static method that writes and answers nothing -/
theorem kVS (C : kC own cc nL rt0 p s m args meth c) (hM : Met l y (Cond.code y b n rt :: wG) (rm h) (pR E W0 av) qV 0 0 (fun _ => False)) (hf : fS y b n rt k) (hl : Cond.methodLink own idx y ∈ wG) (hR : (rm h).frames + 1 ≤ R.frames ∧ 8 + (n + 11) + (rm h).locals ≤ R.locals)
    (hK : va_K (eD E) vwCl (eT E) s) (hT : sT E A s s.heap) (hS : va_S A s.heap H locs) (hP : va_P (eD E) vwCl Wb H) (is : List Nat) (hi : is.map (fun i => Wb[i]?) = W0.map some) (hst : st0 = av.reverse ++ rest) (hlen : av.length = k) (hsz : lv_has ls nL lvs) (hroom : (rest.map fun v => v.category).sum ≤ 8) (hdg : decode cc pc = .ok (.invokestatic idx, 3))
    (kk : W p l e R s m args below meth c H locs 0 0 Q (F0 m (pc + 3) ls rest)) : W p l e R s m args below meth c H locs 0 0 Q (F0 m pc ls st0) := by
  obtain ⟨hx, hb, hr, hml, hown, hw, hlk⟩ := C
  obtain ⟨f1, f2, f3, f4⟩ := hf
  have hrun := va_runS (meth := meth) (p := p) (e := e) (below := below) (locs := locs) (cells := 0) (slots := 0) (g := F0 m pc ls st0) (H := H) (R := R) (As := av) (rest := rest) (Ts := wG) ⟨hx, hb, hml, hown, hw⟩ hM ⟨callB_of k hw (wG_in f1) rfl rfl rfl (hw _ f3) (hw _ hl) f4 hR, hw _ f2⟩
    ⟨pR_blind, fun U hU hW => ⟨rfl, by rw [hU]; exact pickP hP is hi, va_K.moved hW.alike hK, hT.call hS (fun _ h => h.elim) hW hU⟩⟩ rfl hlen hsz.1 hst (lv_room hroom) hdg ⟨Nat.zero_le _, Nat.zero_le _⟩
  intro T hT X
  obtain ⟨v', st₀, t, T', L, h0, X', hL, e1, e2, ⟨hv, hh⟩, st⟩ := hrun T hT X
  cases hv
  obtain ⟨t2, a1, b1⟩ := kk T' (by rw [e1, hh, h0]) (Stand.forget X' (fun q h => (hL q h).elim))
  exact ⟨t2, st t2 a1, b1⟩
/-- a call of an instance method that writes nothing -/
theorem kRV (C : kC own cc nL rt0 p s m args meth c) {v : Value} {a : Nat} (hM : Met l y (Cond.code y b n rt :: wG) (rm h) (pR E W0 (.ref a :: av)) (qR v) 0 0 (fun _ => False)) (hf : fV y b n rt k) (hl : Cond.methodLink own idx y ∈ wG) (hR : (rm h).frames + 1 ≤ R.frames ∧ 8 + (n + 11) + (rm h).locals ≤ R.locals)
    (hK : va_K (eD E) vwCl (eT E) s) (hT : sT E A s s.heap) (hS : va_S A s.heap H locs) (hrv : ∃ cell : Cell, H[a]? = some cell ∧ cell.vm.isStatics = false ∧ s.vm.findClass y.cls = some cell.cls) (hP : va_P (eD E) vwCl Wb H) (is : List Nat) (hi : is.map (fun i => Wb[i]?) = W0.map some) (hst : st0 = av.reverse ++ .ref a :: rest) (hlen : av.length = k) (hsz : lv_has ls nL lvs) (hroom : (rest.map fun v => v.category).sum ≤ 8) (hdg : decode cc pc = .ok (.invokevirtual idx, 3))
    (kk : W p l e R s m args below meth c H locs 0 0 Q (F0 m (pc + 3) ls (v :: rest))) : W p l e R s m args below meth c H locs 0 0 Q (F0 m pc ls st0) := by
  obtain ⟨hx, hb, hr, hml, hown, hw, hlk⟩ := C
  obtain ⟨f1, f2, f3, f4, f5⟩ := hf
  have hrun := va_runV (meth := meth) (p := p) (e := e) (below := below) (locs := locs) (cells := 0) (slots := 0) (g := F0 m pc ls st0) (H := H) (R := R) (As := av) (rest := rest) (Ts := wG) (C := y.cls) ⟨hx, hb, hml, hown, hw⟩ hM ⟨callB_of k hw (wG_in f1) rfl rfl rfl (hw _ f4) (hw _ hl) f5 hR, hw _ f2, hw _ f3⟩
    ⟨pR_blind, hrv, fun U hU hW => ⟨rfl, by rw [hU]; exact pickP hP is hi, va_K.moved hW.alike hK, hT.call hS (fun _ h => h.elim) hW hU⟩⟩ rfl hlen hsz.1 hst (lv_room hroom) hdg ⟨Nat.zero_le _, Nat.zero_le _⟩
  intro T hT X
  obtain ⟨v', st₀, t, T', L, h0, X', hL, e1, e2, ⟨hv, hh⟩, st⟩ := hrun T hT X
  cases hv
  obtain ⟨t2, a1, b1⟩ := kk T' (by rw [e1, hh, h0]) (Stand.forget X' (fun q h => (hL q h).elim))
  exact ⟨t2, st t2 a1, b1⟩
/-- what stands behind a call that writes -/
theorem kW_run {v : Option Value} {A1 : Nat → Prop} {a : Array Value} (hr : va_Run p l e R s m args below meth c H locs 0 0 0 0 (F0 m pc ls st0) rest (qW v E W1 A1 a) A1) (hS : va_S A s.heap H locs) (hA : ∀ q, A1 q → A q)
    (kk : ∀ (H1 : Heap) (locs1 : List Loc), va_P (eD E) vwCl W1 H1 → va_D A1 W1 → H.size ≤ H1.size → (∀ q : Nat, q < H.size → ¬ A1 q → H1[q]? = H[q]?) → va_S A s.heap H1 locs1 → W p l e R s m args below meth c H1 locs1 0 0 Q (F0 m (pc + 3) ls (v.toList ++ rest))) : W p l e R s m args below meth c H locs 0 0 Q (F0 m pc ls st0) := by
  intro T hT X
  obtain ⟨v', st₀, t, T', L, h0, X', hL, e1, e2, ⟨⟨hv, hp, hd⟩, hz, hk⟩, st⟩ := hr T hT X
  cases hv
  rw [h0] at hz hk
  obtain ⟨t2, a1, b1⟩ := kk T'.heap (locs ++ L) (by rw [e1]; exact hp) hd (by rw [e1]; exact hz) (fun q h1 h2 => by rw [e1]; exact hk q h1 h2)
    ⟨Nat.le_trans hS.1 (by rw [e1]; exact hz), fun q h1 h2 => by rw [e1, hk q (Nat.lt_of_lt_of_le h1 hS.1) (fun z => h2 (hA q z))]; exact hS.2.1 q h1 h2, fun q hq => by
      rcases List.mem_append.mp hq with h | h
      · exact hS.2.2 q h
      · exact hA _ (hL q h)⟩ T' rfl X'
  exact ⟨t2, st t2 a1, b1⟩
/-- a call of a static method that writes: its cells by their places, the others behind it as they were -/
theorem kWS (C : kC own cc nL rt0 p s m args meth c) {v : Option Value} (hM : Met l y (Cond.code y b n rt :: wG) (rm h) (pW E W0 H.size av) (qW v E W1 (va_A W0 H.size)) 0 0 (va_A W0 H.size)) (hf : fS y b n rt k) (hl : Cond.methodLink own idx y ∈ wG) (hR : (rm h).frames + 1 ≤ R.frames ∧ 8 + (n + 11) + (rm h).locals ≤ R.locals)
    (hK : va_K (eD E) vwCl (eT E) s) (hT : sT E A s s.heap) (hS : va_S A s.heap H locs) (hA : ∀ q : Nat, s.heap.size ≤ q → A q) (hP : va_P (eD E) vwCl Wb H) (hD : va_D A Wb) (isC : List Nat) (hC : isC.map (fun i => Wb[i]?) = W0.map some) (hCn : va_nd isC = true) (isR : List Nat) (hRr : isR.map (fun i => Wb[i]?) = Wr.map some) (hn : va_nd isR = true) (hdis : ∀ i ∈ isR, i ∉ isC) (pm : List Nat) (hpm : pm.map (fun i => (Wr ++ W1)[i]?) = Wn.map some) (hpn : va_nd pm = true)
    (hst : st0 = av.reverse ++ rest) (hlen : av.length = k) (hsz : lv_has ls nL lvs) (hroom : (rest.map fun v => v.category).sum ≤ 8) (hdg : decode cc pc = .ok (.invokestatic idx, 3))
    (kk : ∀ (H1 : Heap) (locs1 : List Loc), va_P (eD E) vwCl Wn H1 → va_D A Wn → va_S A s.heap H1 locs1 → W p l e R s m args below meth c H1 locs1 0 0 Q (F0 m (pc + 3) ls (v.toList ++ rest))) : W p l e R s m args below meth c H locs 0 0 Q (F0 m pc ls st0) := by
  obtain ⟨hx, hb, hr, hml, hown, hw, hlk⟩ := C
  obtain ⟨f1, f2, f3, f4⟩ := hf
  have hFc := va_free hD hS hA isC hC
  have hrun := va_runS (meth := meth) (p := p) (e := e) (below := below) (locs := locs) (cells := 0) (slots := 0) (g := F0 m pc ls st0) (H := H) (R := R) (As := av) (rest := rest) (Ts := wG) ⟨hx, hb, hml, hown, hw⟩ hM ⟨callB_of k hw (wG_in f1) rfl rfl rfl (hw _ f3) (hw _ hl) f4 hR, hw _ f2⟩
    ⟨pW_blind, fun U hU hW => ⟨rfl, by rw [hU], by rw [hU]; exact pickP hP isC hC, va_K.moved hW.alike hK, (hD.sub isC hCn hC).weaken (fun _ _ _ _ => trivial), hT.call hS hFc hW hU⟩⟩ rfl hlen hsz.1 hst (lv_room hroom) hdg ⟨Nat.zero_le _, Nat.zero_le _⟩
  refine kW_run hrun hS hFc (fun H1 locs1 hP1 hD1 hz1 hk1 hS1 => ?_)
  obtain ⟨hP2, hD2⟩ := va_join hP hD isC isR hC hRr hn hdis hk1 hFc hP1 hD1
  exact kk H1 locs1 (pickP hP2 pm hpm) (hD2.sub pm hpn hpm) hS1
/-- a call of an instance method that writes -/
theorem kWV (C : kC own cc nL rt0 p s m args meth c) {v : Option Value} {a : Nat} (hM : Met l y (Cond.code y b n rt :: wG) (rm h) (pW E W0 H.size (.ref a :: av)) (qW v E W1 (va_A W0 H.size)) 0 0 (va_A W0 H.size)) (hf : fV y b n rt k) (hl : Cond.methodLink own idx y ∈ wG) (hR : (rm h).frames + 1 ≤ R.frames ∧ 8 + (n + 11) + (rm h).locals ≤ R.locals)
    (hK : va_K (eD E) vwCl (eT E) s) (hT : sT E A s s.heap) (hS : va_S A s.heap H locs) (hA : ∀ q : Nat, s.heap.size ≤ q → A q) (hrv : ∃ cell : Cell, H[a]? = some cell ∧ cell.vm.isStatics = false ∧ s.vm.findClass y.cls = some cell.cls) (hP : va_P (eD E) vwCl Wb H) (hD : va_D A Wb) (isC : List Nat) (hC : isC.map (fun i => Wb[i]?) = W0.map some) (hCn : va_nd isC = true) (isR : List Nat) (hRr : isR.map (fun i => Wb[i]?) = Wr.map some) (hn : va_nd isR = true) (hdis : ∀ i ∈ isR, i ∉ isC) (pm : List Nat) (hpm : pm.map (fun i => (Wr ++ W1)[i]?) = Wn.map some) (hpn : va_nd pm = true)
    (hst : st0 = av.reverse ++ .ref a :: rest) (hlen : av.length = k) (hsz : lv_has ls nL lvs) (hroom : (rest.map fun v => v.category).sum ≤ 8) (hdg : decode cc pc = .ok (.invokevirtual idx, 3))
    (kk : ∀ (H1 : Heap) (locs1 : List Loc), va_P (eD E) vwCl Wn H1 → va_D A Wn → va_S A s.heap H1 locs1 → W p l e R s m args below meth c H1 locs1 0 0 Q (F0 m (pc + 3) ls (v.toList ++ rest))) : W p l e R s m args below meth c H locs 0 0 Q (F0 m pc ls st0) := by
  obtain ⟨hx, hb, hr, hml, hown, hw, hlk⟩ := C
  obtain ⟨f1, f2, f3, f4, f5⟩ := hf
  have hFc := va_free hD hS hA isC hC
  have hrun := va_runV (meth := meth) (p := p) (e := e) (below := below) (locs := locs) (cells := 0) (slots := 0) (g := F0 m pc ls st0) (H := H) (R := R) (As := av) (rest := rest) (Ts := wG) (C := y.cls) ⟨hx, hb, hml, hown, hw⟩ hM ⟨callB_of k hw (wG_in f1) rfl rfl rfl (hw _ f4) (hw _ hl) f5 hR, hw _ f2, hw _ f3⟩
    ⟨pW_blind, hrv, fun U hU hW => ⟨rfl, by rw [hU], by rw [hU]; exact pickP hP isC hC, va_K.moved hW.alike hK, (hD.sub isC hCn hC).weaken (fun _ _ _ _ => trivial), hT.call hS hFc hW hU⟩⟩ rfl hlen hsz.1 hst (lv_room hroom) hdg ⟨Nat.zero_le _, Nat.zero_le _⟩
  refine kW_run hrun hS hFc (fun H1 locs1 hP1 hD1 hz1 hk1 hS1 => ?_)
  obtain ⟨hP2, hD2⟩ := va_join hP hD isC isR hC hRr hn hdis hk1 hFc hP1 hD1
  exact kk H1 locs1 (pickP hP2 pm hpm) (hD2.sub pm hpn hpm) hS1
end CALLS
