/-! ===== lines: what is to come out ===== -/
def setV (V : TV) (r : Nat) (j v : Int) : TV := fun r' j' => if r' = r ∧ j' = j then v else V r' j'
theorem setV_self (V : TV) (r : Nat) (j v : Int) : setV V r j v r j = v := if_pos ⟨rfl, rfl⟩
theorem setV_ne (V : TV) {r r' : Nat} {j j' : Int} (v : Int) (h : ¬ (r' = r ∧ j' = j)) : setV V r j v r' j' = V r' j' := if_neg h
abbrev LR : Type := Int × Int × Nat × TV
section LN
variable (B : Int → Int) (n : Int)
/-- the fault of a number -/
def nuS (i : Nat) (lo hi : Int) : Int := if tK B n i = 31 then (if tW B n i < lo then 2 else if hi < tW B n i then 2 else 0) else 1
/-- the fault of a new name -/
def nmS (V : TV) (row : Nat) (len : Int) (i : Nat) : Int := if tK B n i = 30 then (if fnd (fun a => V row (a : Int)) (tW B n i) len.toNat = none then 0 else 3) else 1
def thAt (V : TV) (c : Int) : Prop := fnd (fun a => V 6 (a : Int)) c (V 0 3).toNat ≠ none
def lnTown (V : TV) (i : Nat) : LR :=
  if ¬ nuS B n (i + 1) 1 8 = 0 then (nuS B n (i + 1) 1 8, tP B n (i + 1), 0, V)
  else if ¬ nuS B n (i + 2) 1 6 = 0 then (nuS B n (i + 2) 1 6, tP B n (i + 2), 0, V)
  else (0, 0, i + 3, setV (setV (setV V 0 0 (tW B n (i + 1))) 0 1 (tW B n (i + 2))) 0 13 1)
def lnWard (V : TV) (i : Nat) : LR :=
  if ¬ nmS B n V 1 (V 0 2) (i + 1) = 0 then (nmS B n V 1 (V 0 2) (i + 1), tP B n (i + 1), 0, V)
  else if ¬ (8 ≤ tK B n (i + 2) ∧ tK B n (i + 2) ≤ 12) then (1, tP B n (i + 2), 0, V)
  else if ¬ nuS B n (i + 3) 0 99 = 0 then (nuS B n (i + 3) 0 99, tP B n (i + 3), 0, V)
  else (0, 0, i + 4, setV (setV (setV (setV V 1 (V 0 2) (tW B n (i + 1))) 2 (V 0 2) (tK B n (i + 2) - 8)) 3 (V 0 2) (tW B n (i + 3))) 0 2 (V 0 2 + 1))
def ptV (V : TV) (x y x2 y2 w : Int) : TV := fun r c => if r = 7 ∧ x ≤ c % V 0 0 ∧ c % V 0 0 ≤ x2 ∧ y ≤ c / V 0 0 ∧ c / V 0 0 ≤ y2 then w else V r c
def lnPart (V : TV) (i : Nat) : LR :=
  if ¬ tK B n (i + 1) = 30 then (1, tP B n (i + 1), 0, V)
  else match fnd (fun a => V 1 (a : Int)) (tW B n (i + 1)) (V 0 2).toNat with
  | none => (4, tP B n (i + 1), 0, V)
  | some w =>
    if ¬ nuS B n (i + 2) 0 (V 0 0 - 1) = 0 then (nuS B n (i + 2) 0 (V 0 0 - 1), tP B n (i + 2), 0, V)
    else if ¬ nuS B n (i + 3) 0 (V 0 1 - 1) = 0 then (nuS B n (i + 3) 0 (V 0 1 - 1), tP B n (i + 3), 0, V)
    else if ¬ nuS B n (i + 4) (tW B n (i + 2)) (V 0 0 - 1) = 0 then (nuS B n (i + 4) (tW B n (i + 2)) (V 0 0 - 1), tP B n (i + 4), 0, V)
    else if ¬ nuS B n (i + 5) (tW B n (i + 3)) (V 0 1 - 1) = 0 then (nuS B n (i + 5) (tW B n (i + 3)) (V 0 1 - 1), tP B n (i + 5), 0, V)
    else (0, 0, i + 6, setV (ptV V (tW B n (i + 2)) (tW B n (i + 3)) (tW B n (i + 4)) (tW B n (i + 5)) (w : Int)) 0 6 (V 0 6 + 1))
/-- a cell's two numbers from token i on; then what is wrong there -/
def clS (V : TV) (i : Nat) (k : Int → LR) : LR :=
  if ¬ nuS B n i 0 (V 0 0 - 1) = 0 then (nuS B n i 0 (V 0 0 - 1), tP B n i, 0, V)
  else if ¬ nuS B n (i + 1) 0 (V 0 1 - 1) = 0 then (nuS B n (i + 1) 0 (V 0 1 - 1), tP B n (i + 1), 0, V)
  else k (tW B n (i + 1) * V 0 0 + tW B n i)
noncomputable def lnWall (V : TV) (i : Nat) : LR := clS B n V (i + 1) fun c =>
  if ¬ V 8 c = 0 then (3, tP B n (i + 2), 0, V) else if ¬ V 9 c = 0 ∨ fnd (fun a => V 6 (a : Int)) c (V 0 3).toNat ≠ none then (5, tP B n (i + 2), 0, V) else (0, 0, i + 3, setV (setV V 8 c 1) 0 7 (V 0 7 + 1))
def lnStair (V : TV) (i : Nat) : LR := clS B n V (i + 1) fun c =>
  if ¬ V 9 c = 0 then (3, tP B n (i + 2), 0, V) else if ¬ V 8 c = 0 then (5, tP B n (i + 2), 0, V) else (0, 0, i + 3, setV (setV V 9 c 1) 0 8 (V 0 8 + 1))
noncomputable def lnThing (V : TV) (i : Nat) : LR :=
  if ¬ nmS B n V 4 (V 0 3) (i + 1) = 0 then (nmS B n V 4 (V 0 3) (i + 1), tP B n (i + 1), 0, V)
  else if ¬ nuS B n (i + 2) 0 99 = 0 then (nuS B n (i + 2) 0 99, tP B n (i + 2), 0, V)
  else clS B n V (i + 3) fun c =>
    if ¬ V 8 c = 0 ∨ fnd (fun a => V 6 (a : Int)) c (V 0 3).toNat ≠ none then (5, tP B n (i + 4), 0, V) else (0, 0, i + 5, setV (setV (setV (setV V 4 (V 0 3) (tW B n (i + 1))) 5 (V 0 3) (tW B n (i + 2))) 6 (V 0 3) c) 0 3 (V 0 3 + 1))
def lnSeed (V : TV) (i : Nat) : LR :=
  if ¬ nuS B n (i + 1) 0 99999 = 0 then (nuS B n (i + 1) 0 99999, tP B n (i + 1), 0, V) else (0, 0, i + 2, setV (setV V 0 5 (tW B n (i + 1))) 0 14 1)
/-- rows of knots: s = 0 push, 1 joy -/
def knV (V : TV) (s : Nat) (out : List (Int × Int)) (kn : Int) : TV := fun r j =>
  if r = 10 + 2 * s then (out.getD j.toNat (0, 0)).1 else if r = 11 + 2 * s then (out.getD j.toNat (0, 0)).2
  else if r = 0 ∧ j = 9 + (s : Int) then 1 else if r = 0 ∧ j = 11 + (s : Int) then (out.length : Int) else if r = 0 ∧ j = 4 then kn else V r j
def lnLaw (V : TV) (i : Nat) : LR :=
  if ¬ (tK B n (i + 1) = 13 ∨ tK B n (i + 1) = 14) then (1, tP B n (i + 1), 0, V)
  else if V 0 (tK B n (i + 1) - 4) = 1 then (3, tP B n (i + 1), 0, V)
  else if ¬ (frS B n (i + 2) (V 0 4)).1 = 0 then ((frS B n (i + 2) (V 0 4)).1, tP B n (frS B n (i + 2) (V 0 4)).2.1, 0, V)
  else (0, 0, (frS B n (i + 2) (V 0 4)).2.1, knV V (tK B n (i + 1) - 13).toNat (frS B n (i + 2) (V 0 4)).2.2.2 (frS B n (i + 2) (V 0 4)).2.2.1)
noncomputable def lnS (V : TV) (i : Nat) : LR :=
  if tK B n i = 0 then (if V 0 13 = 1 then (3, tP B n i, 0, V) else if 0 < V 0 6 ∨ 0 < V 0 7 ∨ 0 < V 0 8 ∨ 0 < V 0 3 then (4, tP B n i, 0, V) else lnTown B n V i)
  else if tK B n i = 1 then (if V 0 2 = 4 then (2, tP B n i, 0, V) else lnWard B n V i)
  else if tK B n i = 2 then (if V 0 6 = 12 then (2, tP B n i, 0, V) else lnPart B n V i)
  else if tK B n i = 3 then (if V 0 7 = 12 then (2, tP B n i, 0, V) else lnWall B n V i)
  else if tK B n i = 4 then (if V 0 8 = 8 then (2, tP B n i, 0, V) else lnStair B n V i)
  else if tK B n i = 5 then (if V 0 3 = 8 then (2, tP B n i, 0, V) else lnThing B n V i)
  else if tK B n i = 6 then (if V 0 14 = 1 then (3, tP B n i, 0, V) else lnSeed B n V i)
  else if tK B n i = 7 then lnLaw B n V i
  else (1, tP B n i, 0, V)
/-- a line and its end -/
noncomputable def leS (V : TV) (i : Nat) : LR := if ¬ (lnS B n V i).1 = 0 then lnS B n V i else if tK B n (lnS B n V i).2.2.1 = 40 then (0, 0, (lnS B n V i).2.2.1 + 1, (lnS B n V i).2.2.2) else (1, tP B n (lnS B n V i).2.2.1, 0, V)
end LN
/-! bits of ints -/
def tbI (x i : Int) : Bool := (Int32.ofInt x).toBitVec.getLsbD i.toNat
theorem shr_bv {x i : Int} (h0 : 0 ≤ i) (h1 : i < 32) : (Int32.ofInt (q_shr x i)).toBitVec = (Int32.ofInt x).toBitVec.sshiftRight i.toNat := by
  obtain ⟨a, b, c⟩ := sh_am32 i.toNat (by omega)
  rw [Int.toNat_of_nonneg h0] at a
  unfold q_shr
  rw [q_of_toInt, Int32.toBitVec_shiftRight, a, b]
  show (Int32.ofInt x).toBitVec.sshiftRight (BitVec.ofNat 32 i.toNat).toNat = _
  rw [c]
theorem shl_bv {x i : Int} (h0 : 0 ≤ i) (h1 : i < 32) : (Int32.ofInt (q_shl x i)).toBitVec = (Int32.ofInt x).toBitVec <<< i.toNat := by
  obtain ⟨a, b, c⟩ := sh_am32 i.toNat (by omega)
  rw [Int.toNat_of_nonneg h0] at a
  unfold q_shl
  rw [q_of_toInt, Int32.toBitVec_shiftLeft, a, b]
  show (Int32.ofInt x).toBitVec <<< (BitVec.ofNat 32 i.toNat).toNat = _
  rw [c]
theorem and1_I (y : Int) : q_and y 1 = if tbI y 0 = true then 1 else 0 := by
  unfold q_and tbI
  have e : (Int32.ofInt y &&& Int32.ofInt 1).toBitVec = (BitVec.ofBool ((Int32.ofInt y).toBitVec.getLsbD 0)).setWidth 32 := by
    rw [Int32.toBitVec_and]
    show (Int32.ofInt y).toBitVec &&& 1#32 = _
    rw [BitVec.and_one_eq_setWidth_ofBool_getLsbD]
  rw [← Int32.toInt_toBitVec, e]
  show _ = if (Int32.ofInt y).toBitVec.getLsbD 0 = true then (1 : Int) else 0
  cases (Int32.ofInt y).toBitVec.getLsbD 0 <;> rfl
theorem told_tb {x i : Int} (h0 : 0 ≤ i) (h1 : i < 32) : q_and (q_shr x i) 1 = if tbI x i = true then 1 else 0 := by
  rw [and1_I]
  have e : tbI (q_shr x i) 0 = tbI x i := by
    unfold tbI
    rw [shr_bv h0 h1, BitVec.getLsbD_sshiftRight]
    have h2 : i.toNat < 32 := by omega
    simp [h2]
  rw [e]
theorem told_or {x i j : Int} (h0 : 0 ≤ i) (h1 : i < 32) (g0 : 0 ≤ j) (g1 : j < 32) : tbI (q_or x (q_shl 1 i)) j = (tbI x j || decide (j = i)) := by
  unfold tbI
  have e : (Int32.ofInt (q_or x (q_shl 1 i))).toBitVec = (Int32.ofInt x).toBitVec ||| ((Int32.ofInt 1).toBitVec <<< i.toNat) := by
    unfold q_or
    rw [q_of_toInt, Int32.toBitVec_or, shl_bv h0 h1]
  rw [e, BitVec.getLsbD_or, BitVec.getLsbD_shiftLeft]
  congr 1
  show (decide (j.toNat < 32) && !decide (j.toNat < i.toNat) && (1#32).getLsbD (j.toNat - i.toNat)) = _
  rw [BitVec.getLsbD_one]
  by_cases e : j = i
  · subst e
    have : j.toNat < 32 := by omega
    simp [this]
  · have h2 : ¬ j.toNat = i.toNat := by omega
    by_cases h3 : j.toNat < i.toNat
    · simp [h3, e]
    · have h4 : ¬ (j.toNat - i.toNat = 0) := by omega
      simp [h4, e]
theorem m_isTold (M : Mem) {w : Int} (h0 : 0 ≤ w) (h1 : w < 32) : t_MO_isTold M w = if tbI (M.1 191 17) w = true then 1 else 0 := by
  unfold t_MO_isTold
  rw [told_tb h0 h1]
  cases tbI (M.1 191 17) w with
  | true => rfl
  | false => rfl
