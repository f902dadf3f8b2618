-- ===== FORMS: trodden by one walker =====
def conT : Nat := 1044388568944993102546454167921110531482746427986112361835875700851629447125912980575805776941653770795276823509730083919731820652218856012694073954836827896647629123559391416367149833191007734732078030383171842606686719104457369980114314426378938163695505290103462424499762145773719069175596161868001750278297722296855271152741106279360231759855044903065818050829395115603478409924554333162142890228728863356669071790299806769505956943416700636767715906232779166410553447711294905032919739003836248103672763173750800562725414824905705153423531757848462151636410676856848353404794219581774100154496007421902553793347154635830356578787360642698983563906504983700624705835504964428215618286743950389277619946063563162249144614022161699650647146885673984902852308381532368170673484320299640516634596951183422839621679911801803777455147536840463753516185582903155957291118450635422807902214622704865452045254287367578282564267826633459931466659134321832859982596807480243203935387471958104784741276793704391604153751235895441522150782581164289425304295558135601951746187553081371538709908321483153362411144539108622006071078728979129920641332337607253154983303616218996304397490376418934855072320731078193597411107036361979382881291669790
def conB (f : Nat) : Bool := Nat.testBit conT f
set_option maxRecDepth 100000 in
theorem con_chk : (List.range 4096).all (fun f => decide (conB f = Nat.beq (pcX 12 f).length 1)) = true := by decide +kernel
theorem con_ok {f : Nat} (hf : f < 4096) : conB f = Nat.beq (pcX 12 f).length 1 := of_decide_eq_true (List.all_eq_true.mp con_chk f (List.mem_range.mpr hf))
/-- odd points, unrolled -/
def oddU (f : Nat) : Nat := Nat.xor (Nat.xor (Nat.xor (Nat.xor (Nat.xor (Nat.xor (Nat.xor (Nat.xor (Nat.xor (Nat.xor (Nat.xor (Nat.mul (Nat.land (Nat.shiftRight f 0) 1) 3) (Nat.mul (Nat.land (Nat.shiftRight f 1) 1) 6)) (Nat.mul (Nat.land (Nat.shiftRight f 2) 1) 24)) (Nat.mul (Nat.land (Nat.shiftRight f 3) 1) 48)) (Nat.mul (Nat.land (Nat.shiftRight f 4) 1) 192)) (Nat.mul (Nat.land (Nat.shiftRight f 5) 1) 384)) (Nat.mul (Nat.land (Nat.shiftRight f 6) 1) 9)) (Nat.mul (Nat.land (Nat.shiftRight f 7) 1) 18)) (Nat.mul (Nat.land (Nat.shiftRight f 8) 1) 36)) (Nat.mul (Nat.land (Nat.shiftRight f 9) 1) 72)) (Nat.mul (Nat.land (Nat.shiftRight f 10) 1) 144)) (Nat.mul (Nat.land (Nat.shiftRight f 11) 1) 288)
theorem shr1 (f k e : Nat) : Nat.mul (Nat.land (Nat.shiftRight f k) 1) e = if f.testBit k then e else 0 := by
  have h := bitc f k
  show ((f >>> k) &&& 1) * e = _
  rw [h]
  cases f.testBit k <;> simp
theorem oddU_eq (f : Nat) : oddU f = oddN f := by
  have hx : ∀ (a b : Nat) (c : Bool), (if c = true then a ^^^ b else a) = a ^^^ (if c = true then b else 0) := by
    intro a b c
    cases c <;> simp
  unfold oddU oddN
  simp only [shr1, oddF, hx, eN]
  simp only [List.getD_cons_zero, List.getD_cons_succ, Nat.zero_xor]
  rfl
def inN (p : Nat) : Nat := [65, 131, 258, 580, 1164, 2312, 528, 1072, 2080].getD p 0
def tsN (p : Nat) : List Nat := [[0, 6], [0, 1, 7], [1, 8], [2, 6, 9], [2, 3, 7, 10], [3, 8, 11], [4, 9], [4, 5, 10], [5, 11]].getD p []
theorem ts_ok : ∀ p, p < 9 → ∀ t, t < 12 → (decide (t ∈ tsN p) = eB_ t p) := by decide +kernel
theorem ts_lt : ∀ p, p < 9 → ∀ t ∈ tsN p, t < 12 := by decide +kernel
theorem in_bit : ∀ p, p < 9 → ∀ t, t < 12 → (inN p).testBit t = eB_ t p := by decide +kernel
/-- can be trodden, quick -/
def cbT (f p : Nat) : Bool := Nat.beq f 0 || (Nat.ble 1 (Nat.land f (inN p)) && (conB f && (Nat.beq (oddU f) 0 || (Nat.beq (popN (oddU f)) 2 && Nat.testBit (oddU f) p))))
def cb_row (f p : Nat) : Bool := Nat.beq f 0 || decide (cbT f p = (tsN p).any (fun t => Nat.testBit f t && cbT (Nat.xor f (Nat.land f (2 ^ t))) (acN t p)))
set_option maxRecDepth 100000 in
theorem cb_chk : (List.range 4096).all (fun f => (List.range 9).all (fun p => cb_row f p)) = true := by decide +kernel
theorem cb_step {f p : Nat} (hf : f < 4096) (hp : p < 9) (h0 : f ≠ 0) : cbT f p = (tsN p).any (fun t => f.testBit t && cbT (f ^^^ (f &&& 2 ^ t)) (acN t p)) := by
  have h := List.all_eq_true.mp (List.all_eq_true.mp cb_chk f (List.mem_range.mpr hf)) p (List.mem_range.mpr hp)
  unfold cb_row at h
  have e0 : Nat.beq f 0 = false := by cases f with
    | zero => exact absurd rfl h0
    | succ r => rfl
  rw [e0, Bool.false_or] at h
  exact of_decide_eq_true h
