-- ===== THE TAPE =====
theorem nI_self (x : Int32) : nI x.toBitVec.toNat = x := by
  apply Int32.toBitVec_inj.mp
  show BitVec.ofNat 32 x.toBitVec.toNat = x.toBitVec
  simp
theorem low_byte (x : Int32) : ∃ b, b < 256 ∧ x &&& 255 = nI b := by
  refine ⟨x.toBitVec.toNat &&& 255, Nat.and_lt_two_pow (n := 8) _ (by decide), ?_⟩
  rw [← fa_and, nI_self]
  rfl
theorem byte_back : ∀ b, b < 256 → (nI b).toInt8.toInt32 &&& (255 : Int32) = nI b := by decide +kernel
theorem byte_and (x : Int32) : x.toInt8.toInt32 &&& 255 = x &&& 255 := by
  obtain ⟨b, hb, e⟩ := low_byte x
  rw [← fa_byte_low x, e, byte_back b hb]
/-- the tape on both sides -/
def rTp (T : Nat) (bs tp : Nat → Int32) : Prop := T ≤ 120 ∧ ∀ i, i < T → bs i &&& 255 = tp i ∧ ∃ b, b < 256 ∧ tp i = nI b
theorem case_wipe (x : Int32) : f_S_wipe x = some (x, 0) ∧ f_M_wipe x = some (x, 0) := ⟨rfl, rfl⟩
