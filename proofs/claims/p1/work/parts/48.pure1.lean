/-! ===== the fresh object ===== -/
def m1 : Mem := (t_WF_init Mz).getD Mz
theorem m1_some : (t_WF_init Mz).isSome = true := by decide +kernel
theorem hm1 : t_WF_init Mz = some m1 := by
  have h := m1_some
  unfold m1
  cases e : t_WF_init Mz with
  | none => rw [e] at h; cases h
  | some v => rfl
def m2 : Mem := (t_MO_init m1).getD Mz
theorem m2_some : (t_MO_init m1).isSome = true := by decide +kernel
theorem hm2 : t_MO_init m1 = some m2 := by
  have h := m2_some
  unfold m2
  cases e : t_MO_init m1 with
  | none => rw [e] at h; cases h
  | some v => rfl
def fu1 : Nat := FU - 1
def fu2 : Nat := FU - 2
theorem fu_s1 : FU = fu1 + 1 := by decide +kernel
theorem fu_s2 : fu1 = fu2 + 1 := by decide +kernel
theorem law_end (xs : Nat → Int32) (M : Mem) : t_Law_law_L1571 xs 6 (fun a0_ a1_ => t_Law_law_L23 xs 6 fu1 a0_ a1_) M 0 = some 1 := by
  unfold t_Law_law_L1571
  rw [fu_s2]
  show t_Law_law_L23 xs 6 (fu2 + 1) M (w32 (0 + 6)) = some 1
  rw [t_Law_law_L23, if_pos (by decide)]
theorem pure_short (xs : Nat → Int32) (L : Nat) (hL : L < 6) (M : Mem) : t_Law_law_L23 xs L FU M 0 = some 1 := by
  rw [fu_s1, t_Law_law_L23]
  have h : w32 ((L : Int) - 6) < 0 := by
    rw [w32_id (by unfold InR; omega)]
    omega
  rw [if_pos h]
theorem m2_a : m2.1 0 4 = 2 ∧ m2.1 0 5 = 22 ∧ m2.1 46 0 = -1 := by decide +kernel
