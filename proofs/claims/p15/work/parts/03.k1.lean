/-! ===== numbers: ints as Int in range, longs as Int64 ===== -/
abbrev vI (a : Int) : Value := .int (Int32.ofInt a)
def InR (x : Int) : Prop := -2147483648 ≤ x ∧ x ≤ 2147483647
def w32 (x : Int) : Int := (x + 2147483648) % 4294967296 - 2147483648
theorem inr_w32 (x : Int) : InR (w32 x) := by unfold InR w32; omega
theorem w32_id {x : Int} (h : InR x) : w32 x = x := by unfold InR at h; unfold w32; omega
theorem inr_c {x : Int} (h : (decide (-2147483648 ≤ x) && decide (x ≤ 2147483647)) = true) : InR x := by
  simp only [Bool.and_eq_true, decide_eq_true_eq] at h
  exact h
theorem q_bmod_w32 (x : Int) : (w32 x).bmod 4294967296 = x.bmod 4294967296 := by
  unfold w32 Int.bmod
  have h1 : ((x + 2147483648) % 4294967296 - 2147483648) % ((4294967296 : Nat) : Int) = x % ((4294967296 : Nat) : Int) := by
    show ((x + 2147483648) % 4294967296 - 2147483648) % 4294967296 = x % 4294967296
    omega
  simp only [h1]
theorem q_toInt_of {x : Int} (h : InR x) : (Int32.ofInt x).toInt = x := by
  rw [Int32.toInt_ofInt]
  unfold InR at h
  have e : x.bmod (2 ^ 32) = w32 x := by
    show x.bmod 4294967296 = _
    unfold w32 Int.bmod
    show (if x % ((4294967296 : Nat) : Int) < (((4294967296 : Nat) : Int) + 1) / 2 then x % ((4294967296 : Nat) : Int) else x % ((4294967296 : Nat) : Int) - ((4294967296 : Nat) : Int)) = _
    have e1 : ((4294967296 : Nat) : Int) = 4294967296 := rfl
    rw [e1]
    split <;> omega
  rw [e]
  exact w32_id h
theorem q_of_toInt (x : Int32) : Int32.ofInt x.toInt = x := Int32.ofInt_toInt x
theorem q_inr_toInt (x : Int32) : InR x.toInt := ⟨by have := Int32.le_toInt x; simpa using this, by have := Int32.toInt_lt x; simp at this; omega⟩
theorem q_of_w32 (x : Int) : Int32.ofInt (w32 x) = Int32.ofInt x := by
  apply Int32.toInt_inj.mp
  rw [Int32.toInt_ofInt, Int32.toInt_ofInt]
  exact q_bmod_w32 x
theorem q_of_lt {x y : Int} (hx : InR x) (hy : InR y) : Int32.ofInt x < Int32.ofInt y ↔ x < y := by rw [Int32.lt_iff_toInt_lt, q_toInt_of hx, q_toInt_of hy]
theorem q_of_le {x y : Int} (hx : InR x) (hy : InR y) : Int32.ofInt x ≤ Int32.ofInt y ↔ x ≤ y := by rw [Int32.le_iff_toInt_le, q_toInt_of hx, q_toInt_of hy]
theorem q_of_eq {x y : Int} (hx : InR x) (hy : InR y) : Int32.ofInt x = Int32.ofInt y ↔ x = y := by
  rw [← Int32.toInt_inj, q_toInt_of hx, q_toInt_of hy]
theorem q_of_add (x y : Int) : Int32.ofInt x + Int32.ofInt y = Int32.ofInt (w32 (x + y)) := by rw [q_of_w32, Int32.ofInt_add]
theorem q_of_sub (x y : Int) : Int32.ofInt x - Int32.ofInt y = Int32.ofInt (w32 (x - y)) := by rw [q_of_w32, Int32.ofInt_sub]
theorem q_of_mul (x y : Int) : Int32.ofInt x * Int32.ofInt y = Int32.ofInt (w32 (x * y)) := by rw [q_of_w32, Int32.ofInt_mul]
def q_and (x y : Int) : Int := (Int32.ofInt x &&& Int32.ofInt y).toInt
def q_or (x y : Int) : Int := (Int32.ofInt x ||| Int32.ofInt y).toInt
def q_xor (x y : Int) : Int := (Int32.ofInt x ^^^ Int32.ofInt y).toInt
def q_div (x y : Int) : Int := (Int32.ofInt x / Int32.ofInt y).toInt
def q_rem (x y : Int) : Int := (Int32.ofInt x - Int32.ofInt x / Int32.ofInt y * Int32.ofInt y).toInt
def q_shl (x y : Int) : Int := (Int32.ofInt x <<< (Int32.ofInt y &&& 31)).toInt
def q_shr (x y : Int) : Int := (Int32.ofInt x >>> (Int32.ofInt y &&& 31)).toInt
def q_ushr (x y : Int) : Int := ((Int32.ofInt x).toUInt32 >>> ((Int32.ofInt y).toUInt32 &&& Int32.toUInt32 31)).toInt32.toInt
def q_l2i (x : Int64) : Int := x.toInt32.toInt
def q_i2l (x : Int) : Int64 := (Int32.ofInt x).toInt64
def q_lshl (x : Int64) (y : Int) : Int64 := x <<< ((Int32.ofInt y).toInt64 &&& 63)
def q_lshr (x : Int64) (y : Int) : Int64 := x >>> ((Int32.ofInt y).toInt64 &&& 63)
def q_lushr (x : Int64) (y : Int) : Int64 := (x.toUInt64 >>> ((Int32.ofInt y).toInt64.toUInt64 &&& Int64.toUInt64 63)).toInt64
theorem q_nn_of {x : Int} (h : InR x) : (Int32.ofInt x).toNatClampNeg = x.toNat := by
  show (Int32.ofInt x).toInt.toNat = _
  rw [q_toInt_of h]
theorem q_vp_in_of {x : Int} {n : Nat} (h : InR x) (h1 : 0 ≤ x) (h2 : x < (n : Int)) : vp_in (Int32.ofInt x) n := by
  unfold vp_in
  rw [q_nn_of h]
  have h3 : ¬ Int32.ofInt x < 0 := by
    rw [show (0 : Int32) = Int32.ofInt 0 from rfl, q_of_lt h (inr_c rfl)]
    omega
  rintro (q | q)
  · exact h3 q
  · omega
/-! ===== the memory: ints and longs by cell and place ===== -/
abbrev Mem : Type := (Nat → Int → Int) × (Nat → Int → Int64)
def uI (f : Nat → Int → Int) (k : Nat) (j v : Int) : Nat → Int → Int := fun k' j' => if k' = k then (if j' = j then v else f k' j') else f k' j'
def uL (f : Nat → Int → Int64) (k : Nat) (j : Int) (v : Int64) : Nat → Int → Int64 := fun k' j' => if k' = k then (if j' = j then v else f k' j') else f k' j'
abbrev setI (M : Mem) (k : Nat) (j v : Int) : Mem := (uI M.1 k j v, M.2)
abbrev setL (M : Mem) (k : Nat) (j : Int) (v : Int64) : Mem := (M.1, uL M.2 k j v)
theorem uI_self (f : Nat → Int → Int) (k : Nat) (j v : Int) : uI f k j v k j = v := by simp [uI]
theorem uI_ne (f : Nat → Int → Int) {k k' : Nat} {j j' : Int} (v : Int) (h : ¬ (k' = k ∧ j' = j)) : uI f k j v k' j' = f k' j' := by
  unfold uI
  split
  · split
    · exact absurd ⟨by assumption, by assumption⟩ h
    · rfl
  · rfl
theorem uL_self (f : Nat → Int → Int64) (k : Nat) (j : Int) (v : Int64) : uL f k j v k j = v := by simp [uL]
theorem uL_ne (f : Nat → Int → Int64) {k k' : Nat} {j j' : Int} (v : Int64) (h : ¬ (k' = k ∧ j' = j)) : uL f k j v k' j' = f k' j' := by
  unfold uL
  split
  · split
    · exact absurd ⟨by assumption, by assumption⟩ h
    · rfl
  · rfl
theorem inr_uI {f : Nat → Int → Int} (h : ∀ k j, InR (f k j)) {k : Nat} {j v : Int} (hv : InR v) : ∀ k' j', InR (uI f k j v k' j') := by
  intro k' j'
  unfold uI
  split
  · split
    · exact hv
    · exact h _ _
  · exact h _ _
