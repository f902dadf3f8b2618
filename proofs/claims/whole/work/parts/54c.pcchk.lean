-- ===== FORMS: pieces, lines, strays: both sides =====
def pc_same (f : Nat) : Bool := match pcM f 13 f with
  | none => false
  | some L => decide (L = pcX 12 f)
set_option maxRecDepth 100000 in
theorem pc_chk : (List.range 4096).all pc_same = true := by decide +kernel
theorem pc_eq {f : Nat} (hf : f < 4096) : pcM f 13 f = some (pcX 12 f) := by
  have h := List.all_eq_true.mp pc_chk f (List.mem_range.mpr hf)
  unfold pc_same at h
  cases hm : pcM f 13 f with
  | none => rw [hm] at h; cases h
  | some L => rw [hm] at h; rw [of_decide_eq_true h]
