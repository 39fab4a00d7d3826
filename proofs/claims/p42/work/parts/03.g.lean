section
/-! ===== numbers: ints as Int in range, longs as Int64 ===== -/
abbrev vI (a : Int) : Value := .int (Int32.ofInt a)
def InR (x : Int) : Prop := -2147483648 ≤ x ∧ x ≤ 2147483647
def w32 (x : Int) : Int := (x + 2147483648) % 4294967296 - 2147483648
theorem inr_w32 (x : Int) : InR (w32 x) := by unfold InR w32; omega
theorem w32_id {x : Int} (h : InR x) : w32 x = x := by unfold InR at h; unfold w32; omega
theorem inr_c {x : Int} (h : (decide (-2147483648 ≤ x) && decide (x ≤ 2147483647)) = true) : InR x := by
  simp only [Bool.and_eq_true, decide_eq_true_eq] at h
  exact h
theorem q_bmod_w32 (x : Int) : (w32 x).bmod 4294967296 = x.bmod 4294967296 := by
  unfold w32 Int.bmod
  have h1 : ((x + 2147483648) % 4294967296 - 2147483648) % ((4294967296 : Nat) : Int) = x % ((4294967296 : Nat) : Int) := by
    show ((x + 2147483648) % 4294967296 - 2147483648) % 4294967296 = x % 4294967296
    omega
  simp only [h1]
theorem q_toInt_of {x : Int} (h : InR x) : (Int32.ofInt x).toInt = x := by
  rw [Int32.toInt_ofInt]
  unfold InR at h
  have e : x.bmod (2 ^ 32) = w32 x := by
    show x.bmod 4294967296 = _
    unfold w32 Int.bmod
    show (if x % ((4294967296 : Nat) : Int) < (((4294967296 : Nat) : Int) + 1) / 2 then x % ((4294967296 : Nat) : Int) else x % ((4294967296 : Nat) : Int) - ((4294967296 : Nat) : Int)) = _
    have e1 : ((4294967296 : Nat) : Int) = 4294967296 := rfl
    rw [e1]
    split <;> omega
  rw [e]
  exact w32_id h
theorem q_of_toInt (x : Int32) : Int32.ofInt x.toInt = x := Int32.ofInt_toInt x
theorem q_inr_toInt (x : Int32) : InR x.toInt := ⟨by have := Int32.le_toInt x; simpa using this, by have := Int32.toInt_lt x; simp at this; omega⟩
theorem q_of_w32 (x : Int) : Int32.ofInt (w32 x) = Int32.ofInt x := by
  apply Int32.toInt_inj.mp
  rw [Int32.toInt_ofInt, Int32.toInt_ofInt]
  exact q_bmod_w32 x
theorem q_of_lt {x y : Int} (hx : InR x) (hy : InR y) : Int32.ofInt x < Int32.ofInt y ↔ x < y := by rw [Int32.lt_iff_toInt_lt, q_toInt_of hx, q_toInt_of hy]
theorem q_of_le {x y : Int} (hx : InR x) (hy : InR y) : Int32.ofInt x ≤ Int32.ofInt y ↔ x ≤ y := by rw [Int32.le_iff_toInt_le, q_toInt_of hx, q_toInt_of hy]
theorem q_of_eq {x y : Int} (hx : InR x) (hy : InR y) : Int32.ofInt x = Int32.ofInt y ↔ x = y := by
  rw [← Int32.toInt_inj, q_toInt_of hx, q_toInt_of hy]
theorem q_of_add (x y : Int) : Int32.ofInt x + Int32.ofInt y = Int32.ofInt (w32 (x + y)) := by rw [q_of_w32, Int32.ofInt_add]
theorem q_of_sub (x y : Int) : Int32.ofInt x - Int32.ofInt y = Int32.ofInt (w32 (x - y)) := by rw [q_of_w32, Int32.ofInt_sub]
theorem q_of_mul (x y : Int) : Int32.ofInt x * Int32.ofInt y = Int32.ofInt (w32 (x * y)) := by rw [q_of_w32, Int32.ofInt_mul]
def q_and (x y : Int) : Int := (Int32.ofInt x &&& Int32.ofInt y).toInt
def q_or (x y : Int) : Int := (Int32.ofInt x ||| Int32.ofInt y).toInt
def q_xor (x y : Int) : Int := (Int32.ofInt x ^^^ Int32.ofInt y).toInt
def q_div (x y : Int) : Int := (Int32.ofInt x / Int32.ofInt y).toInt
def q_rem (x y : Int) : Int := (Int32.ofInt x - Int32.ofInt x / Int32.ofInt y * Int32.ofInt y).toInt
def q_shl (x y : Int) : Int := (Int32.ofInt x <<< (Int32.ofInt y &&& 31)).toInt
def q_shr (x y : Int) : Int := (Int32.ofInt x >>> (Int32.ofInt y &&& 31)).toInt
def q_ushr (x y : Int) : Int := ((Int32.ofInt x).toUInt32 >>> ((Int32.ofInt y).toUInt32 &&& Int32.toUInt32 31)).toInt32.toInt
def q_l2i (x : Int64) : Int := x.toInt32.toInt
def q_i2l (x : Int) : Int64 := (Int32.ofInt x).toInt64
def q_lshl (x : Int64) (y : Int) : Int64 := x <<< ((Int32.ofInt y).toInt64 &&& 63)
def q_lshr (x : Int64) (y : Int) : Int64 := x >>> ((Int32.ofInt y).toInt64 &&& 63)
def q_lushr (x : Int64) (y : Int) : Int64 := (x.toUInt64 >>> ((Int32.ofInt y).toInt64.toUInt64 &&& Int64.toUInt64 63)).toInt64
theorem q_nn_of {x : Int} (h : InR x) : (Int32.ofInt x).toNatClampNeg = x.toNat := by
  show (Int32.ofInt x).toInt.toNat = _
  rw [q_toInt_of h]
theorem q_vp_in_of {x : Int} {n : Nat} (h : InR x) (h1 : 0 ≤ x) (h2 : x < (n : Int)) : vp_in (Int32.ofInt x) n := by
  unfold vp_in
  rw [q_nn_of h]
  have h3 : ¬ Int32.ofInt x < 0 := by
    rw [show (0 : Int32) = Int32.ofInt 0 from rfl, q_of_lt h (inr_c rfl)]
    omega
  rintro (q | q)
  · exact h3 q
  · omega
/-! ===== the memory: ints and longs by cell and place ===== -/
abbrev Mem : Type := (Nat → Int → Int) × (Nat → Int → Int64)
def uI (f : Nat → Int → Int) (k : Nat) (j v : Int) : Nat → Int → Int := fun k' j' => if k' = k then (if j' = j then v else f k' j') else f k' j'
def uL (f : Nat → Int → Int64) (k : Nat) (j : Int) (v : Int64) : Nat → Int → Int64 := fun k' j' => if k' = k then (if j' = j then v else f k' j') else f k' j'
abbrev setI (M : Mem) (k : Nat) (j v : Int) : Mem := (uI M.1 k j v, M.2)
abbrev setL (M : Mem) (k : Nat) (j : Int) (v : Int64) : Mem := (M.1, uL M.2 k j v)
theorem uI_self (f : Nat → Int → Int) (k : Nat) (j v : Int) : uI f k j v k j = v := by simp [uI]
theorem uI_ne (f : Nat → Int → Int) {k k' : Nat} {j j' : Int} (v : Int) (h : ¬ (k' = k ∧ j' = j)) : uI f k j v k' j' = f k' j' := by
  unfold uI
  split
  · split
    · exact absurd ⟨by assumption, by assumption⟩ h
    · rfl
  · rfl
theorem uL_self (f : Nat → Int → Int64) (k : Nat) (j : Int) (v : Int64) : uL f k j v k j = v := by simp [uL]
theorem uL_ne (f : Nat → Int → Int64) {k k' : Nat} {j j' : Int} (v : Int64) (h : ¬ (k' = k ∧ j' = j)) : uL f k j v k' j' = f k' j' := by
  unfold uL
  split
  · split
    · exact absurd ⟨by assumption, by assumption⟩ h
    · rfl
  · rfl
theorem inr_uI {f : Nat → Int → Int} (h : ∀ k j, InR (f k j)) {k : Nat} {j v : Int} (hv : InR v) : ∀ k' j', InR (uI f k j v k' j') := by
  intro k' j'
  unfold uI
  split
  · split
    · exact hv
    · exact h _ _
  · exact h _ _
end
section
/-! ===== the picture: the cells b + k, k < n, hold what the memory says ===== -/
abbrev CT : Type := (Nat → ClassId) × (Nat → Nat → Nat) × (Nat → ClassId) × Heap
def rv (b : Nat) (g : Int) : Value := if g < 0 then .null else .ref (b + g.toNat)
theorem rv_pos {b : Nat} {g : Int} (t : Nat) (h : g = (t : Int)) : rv b g = .ref (b + t) := by
  subst h
  unfold rv
  rw [if_neg (by omega)]
  rfl
theorem rv_neg {b : Nat} {g : Int} (h : g < 0) : rv b g = .null := if_pos h
def fv (b : Nat) (G : Nat → Int → Int) (M : Mem) (ci k j : Nat) : Value := if fk ci j = 0 then vI (M.1 k j) else if fk ci j = 1 then .long (M.2 k j) else rv b (G k j)
def cellOK (b : Nat) (C : CT) (G : Nat → Int → Int) (M : Mem) (H : Heap) (k : Nat) : Prop :=
  (shK k = 0 → H[b + k]? = some (arrV (C.2.2.1 0) (shN k) (fun j => vI (M.1 k j)))) ∧
  (shK k = 1 → H[b + k]? = some (arrV (C.2.2.1 1) (shN k) (fun j => vI (M.1 k j)))) ∧
  (shK k = 2 → H[b + k]? = some (arrV (C.2.2.1 2) (shN k) (fun j => .long (M.2 k j)))) ∧
  (shK k = 3 → H[b + k]? = some (arrV (C.2.2.1 3) (shN k) (fun j => rv b (G k j)))) ∧
  (∀ ci : Nat, shK k = ci + 4 → t_OB (b + k) (C.1 ci) (shN k) (C.2.1 ci) H (fv b G M ci k))
def HP (b : Nat) (C : CT) (n : Nat) (G : Nat → Int → Int) (M : Mem) (H : Heap) : Prop := ∀ k, k < n → cellOK b C G M H k
def dyn (k : Nat) (j : Int) : Bool := (k == 0 && (j == 4 || j == 5)) || (k == 46 && j == 0)
def GM (M : Mem) (k : Nat) (j : Int) : Int := if dyn k j = true then M.1 k j else GF k j
/-- the three moving references -/
def DynOK (M : Mem) : Prop := (M.1 0 4 = 2 ∨ M.1 0 4 = 22) ∧ (M.1 0 5 = 2 ∨ M.1 0 5 = 22) ∧ (M.1 46 0 = -1 ∨ M.1 46 0 = 42)
/-- the cells of boolean arrays hold 0 or 1 -/
def BoolOK (M : Mem) : Prop := ∀ k j, shK k = 1 → M.1 k j = 0 ∨ M.1 k j = 1
/-- what isn't made yet is 0 -/
def Zm (n : Nat) (M : Mem) : Prop := ∀ (k : Nat) (j : Int), n ≤ k → dyn k j = false → M.1 k j = 0 ∧ M.2 k j = 0
def RngOK (n : Nat) (M : Mem) : Prop := (∀ k j, InR (M.1 k j)) ∧ DynOK M ∧ BoolOK M ∧ Zm n M
theorem Zm_uI {n : Nat} {M : Mem} {k : Nat} {j v : Int} (h : Zm n M) (hk : k < n) : Zm n (setI M k j v) := fun k' j' h1 h2 => ⟨(uI_ne _ _ (fun q => by omega)).trans (h k' j' h1 h2).1, (h k' j' h1 h2).2⟩
theorem Zm_uL {n : Nat} {M : Mem} {k : Nat} {j : Int} {v : Int64} (h : Zm n M) (hk : k < n) : Zm n (setL M k j v) := fun k' j' h1 h2 => ⟨(h k' j' h1 h2).1, (uL_ne _ _ (fun q => by omega)).trans (h k' j' h1 h2).2⟩
abbrev tysC (C : CT) : List (ClassId × FieldType) := [(C.2.2.1 0, .int), (C.2.2.1 1, .boolean), (C.2.2.1 2, .long), (C.2.2.1 3, .object "WardFalls$Scene")]
abbrev KK (C : CT) (U : State) : Prop := va_K (C.1, C.2.1) classes (tysC C) U
abbrev frb (b : Nat) : Nat → Prop := fun q => b ≤ q
/-! the text of the words: a literal of the class and one of the reference, in the old heap -/
def TXS : String := "town ward part wall stair thing seed law up right down left still push joy or and not rich size here worth cross against year "
def TXB : List Int32 := [116, 111, 119, 110, 32, 119, 97, 114, 100, 32, 112, 97, 114, 116, 32, 119, 97, 108, 108, 32, 115, 116, 97, 105, 114, 32, 116, 104, 105, 110, 103, 32, 115, 101, 101, 100, 32, 108, 97, 119, 32, 117, 112, 32, 114, 105, 103, 104, 116, 32, 100, 111, 119, 110, 32, 108, 101, 102, 116, 32, 115, 116, 105, 108, 108, 32, 112, 117, 115, 104, 32, 106, 111, 121, 32, 111, 114, 32, 97, 110, 100, 32, 110, 111, 116, 32, 114, 105, 99, 104, 32, 115, 105, 122, 101, 32, 104, 101, 114, 101, 32, 119, 111, 114, 116, 104, 32, 99, 114, 111, 115, 115, 32, 97, 103, 97, 105, 110, 115, 116, 32, 121, 101, 97, 114, 32]
def STR (b : Nat) (S V : Nat) (U : State) (H : Heap) : Prop := va_O "java/lang/String" S (frb b) U H ∧ va_OF "java/lang/String" "coder" "B" (vI 0) S (frb b) U H ∧ va_OF "java/lang/String" "value" "[B" (.ref V) S (frb b) U H ∧ va_T .byte V 126 (fun j => .int (TXB.getD j 0)) (frb b) U H
theorem STR.moved {b S V : Nat} {u U : State} {H : Heap} (hvm : u.vm.Alike U.vm) (h : STR b S V u H) : STR b S V U H := ⟨h.1.moved hvm, h.2.1.moved hvm, h.2.2.1.moved hvm, h.2.2.2.moved hvm⟩
theorem STR.kept {b S V : Nat} {U : State} {H H1 : Heap} (h : STR b S V U H) (hq : ∀ a : Nat, a < H.size → ¬ frb b a → H1[a]? = H[a]?) : STR b S V U H1 := ⟨h.1.kept hq, h.2.1.kept hq, h.2.2.1.kept hq, h.2.2.2.kept hq⟩
abbrev sioob : String := "Ljava/util/function/BiFunction;"
def SX (b : Nat) (C : CT) (U : State) : Prop := (vk_R "WardFalls$Tokens" 69 TXS (C.2.2.1 10) U ∧ STR b (C.2.2.1 10) (C.2.2.1 11) U C.2.2.2) ∧ (vk_R "WardFallsModel" 188 TXS (C.2.2.1 12) U ∧ STR b (C.2.2.1 12) (C.2.2.1 13) U C.2.2.2) ∧ va_Z "java/lang/String" "COMPACT_STRINGS" "Z" (vI 1) (frb b) U C.2.2.2 ∧ va_Zq "jdk/internal/util/Preconditions" "SIOOBE_FORMATTER" sioob (frb b) U C.2.2.2
theorem SX.warm {b : Nat} {C : CT} {s U : State} (h : SX b C s) (hW : s.WarmedH U.vm) : SX b C U := by
  obtain ⟨⟨a1, a2⟩, ⟨b1, b2⟩, c1, c2⟩ := h
  exact ⟨⟨a1.warm hW, a2.moved hW.alike⟩, ⟨b1.warm hW, b2.moved hW.alike⟩, c1.moved hW.alike, c2.moved hW.alike⟩
theorem SX.calling {b : Nat} {C : CT} {U : State} (h : SX b C U) (g : JFrame) (mk : MethodId) (a : Array Value) : SX b C (U.calling g mk a) := by
  obtain ⟨⟨a1, a2⟩, ⟨b1, b2⟩, c1, c2⟩ := h
  exact ⟨⟨vk_R.same (u := U) rfl a1, STR.moved (u := U) (U := U.calling g mk a) (Vm.Alike.refl U.vm) a2⟩, ⟨vk_R.same (u := U) rfl b1, STR.moved (u := U) (U := U.calling g mk a) (Vm.Alike.refl U.vm) b2⟩, va_Z.moved (u := U) (U := U.calling g mk a) (Vm.Alike.refl U.vm) c1, va_Zq.moved (u := U) (U := U.calling g mk a) (Vm.Alike.refl U.vm) c2⟩
/-- the links to private members of nest mates, and the words' text -/
def NN (b : Nat) (C : CT) (U : State) : Prop := (∀ q ∈ nests, va_Nw (.methodLinkNest q.1 q.2.1 q.2.2.1 q.2.2.2) U) ∧ SX b C U
theorem NN.warm {b : Nat} {C : CT} {s U : State} (h : NN b C s) (hW : s.WarmedH U.vm) : NN b C U := ⟨fun q hq => va_Nw.warmM hW (h.1 q hq), h.2.warm hW⟩
theorem NN.calling {b : Nat} {C : CT} {U : State} (h : NN b C U) (g : JFrame) (mk : MethodId) (a : Array Value) : NN b C (U.calling g mk a) := ⟨fun q hq => va_tabs rfl (rfl : U.vm = (U.calling g mk a).vm) (h.1 q hq), h.2.calling g mk a⟩
/-- a state between calls -/
def HS (b : Nat) (C : CT) (n : Nat) (M : Mem) (U : State) : Prop :=
  b + n ≤ U.heap.size ∧ HP b C n (GM M) M U.heap ∧ (∀ q : Nat, q < b → U.heap[q]? = C.2.2.2[q]?) ∧ RngOK n M ∧ KK C U ∧ NN b C U
/-- a heap within a method that began in s -/
def St (b : Nat) (C : CT) (n : Nat) (M : Mem) (s : State) (H : Heap) (locs : List Loc) : Prop :=
  b + n ≤ H.size ∧ HP b C n (GM M) M H ∧ (∀ q : Nat, q < b → H[q]? = C.2.2.2[q]?) ∧ RngOK n M ∧ va_S (frb b) s.heap H locs
theorem St.rng {b : Nat} {C : CT} {n : Nat} {M : Mem} {s : State} {H : Heap} {locs : List Loc} (h : St b C n M s H locs) (k : Nat) (j : Int) : InR (M.1 k j) := h.2.2.2.1.1 k j
theorem St.bool {b : Nat} {C : CT} {n : Nat} {M : Mem} {s : State} {H : Heap} {locs : List Loc} (h : St b C n M s H locs) {k : Nat} (hk : shK k = 1) (j : Int) : M.1 k j = 0 ∨ M.1 k j = 1 := h.2.2.2.1.2.2.1 k j hk
theorem HS.st {b : Nat} {C : CT} {n : Nat} {M : Mem} {s : State} (h : HS b C n M s) : St b C n M s s.heap [] := ⟨h.1, h.2.1, h.2.2.1, h.2.2.2.1, va_S.rf⟩
theorem St.hs {b : Nat} {C : CT} {n : Nat} {M : Mem} {s U : State} {H : Heap} {locs : List Loc} (h : St b C n M s H locs) (hK : KK C s) (hN : NN b C s) (hU : U.heap = H) (hW : s.WarmedH U.vm) : HS b C n M U := by
  subst hU
  exact ⟨h.1, h.2.1, h.2.2.1, h.2.2.2.1, va_K.moved hW.alike hK, hN.warm hW⟩
theorem HS_blind {b : Nat} {C : CT} {n : Nat} {M : Mem} {As : List Value} : FrameBlind (va_Pc As (HS b C n M)) := by
  intro a U g mk h
  exact ⟨h.1, h.2.1, h.2.2.1, h.2.2.2.1, h.2.2.2.2.1, va_K.moved (u := U) (U := U.calling g mk a) (Vm.Alike.refl U.vm) h.2.2.2.2.2.1, h.2.2.2.2.2.2.calling g mk a⟩
theorem GM_uI {M : Mem} {k : Nat} {j v : Int} (h : dyn k j = false) : GM (setI M k j v) = GM M := by
  funext k' j'
  unfold GM
  by_cases hd : dyn k' j' = true
  · rw [if_pos hd, if_pos hd]
    exact uI_ne _ _ (fun q => by rw [q.1, q.2, h] at hd; cases hd)
  · rw [if_neg hd, if_neg hd]
theorem GM_uL {M : Mem} {k : Nat} {j : Int} {v : Int64} : GM (setL M k j v) = GM M := rfl
theorem DynOK_uI {M : Mem} {k : Nat} {j v : Int} (hD : DynOK M) (h : dyn k j = false) : DynOK (setI M k j v) := by
  have e : ∀ k' j', dyn k' j' = true → (setI M k j v).1 k' j' = M.1 k' j' := fun k' j' hd => uI_ne _ _ (fun q => by rw [q.1, q.2, h] at hd; cases hd)
  unfold DynOK
  rw [e 0 4 rfl, e 0 5 rfl, e 46 0 rfl]
  exact hD
theorem BoolOK_uI {M : Mem} {k : Nat} {j v : Int} (hB : BoolOK M) (h : shK k = 1 → v = 0 ∨ v = 1) : BoolOK (setI M k j v) := by
  intro k' j' hk'
  show uI M.1 k j v k' j' = 0 ∨ uI M.1 k j v k' j' = 1
  unfold uI
  split
  · split
    · rename_i e _
      subst e
      exact h hk'
    · exact hB _ _ hk'
  · exact hB _ _ hk'
theorem dyn_lo {k : Nat} {j : Int} (h : shK k < 4) : dyn k j = false := by
  unfold dyn
  have h0 : (k == 0) = false := by
    cases e : (k == 0) with
    | false => rfl
    | true =>
      rw [beq_iff_eq] at e
      subst e
      exact absurd h (by decide)
  have h1 : (k == 46) = false := by
    cases e : (k == 46) with
    | false => rfl
    | true =>
      rw [beq_iff_eq] at e
      subst e
      exact absurd h (by decide)
  rw [h0, h1]
  rfl
theorem cellOK_congr {b : Nat} {C : CT} {k : Nat} {G G' : Nat → Int → Int} {M M' : Mem} {H H1 : Heap} (h : cellOK b C G M H k) (hq : H1[b + k]? = H[b + k]?) (e1 : ∀ j, M'.1 k j = M.1 k j) (e2 : ∀ j, M'.2 k j = M.2 k j) (e3 : ∀ j, G' k j = G k j) : cellOK b C G' M' H1 k := by
  obtain ⟨c0, c1, c2, c3, c4⟩ := h
  refine ⟨fun z => ?_, fun z => ?_, fun z => ?_, fun z => ?_, fun ci z => ?_⟩
  · rw [hq, c0 z]; simp only [e1]
  · rw [hq, c1 z]; simp only [e1]
  · rw [hq, c2 z]; simp only [e2]
  · rw [hq, c3 z]; simp only [e3]
  · obtain ⟨cell, q1, q2, q3, q4⟩ := c4 ci z
    refine ⟨cell, by rw [hq]; exact q1, q2, q3, fun j hj => ?_⟩
    rw [q4 j hj]
    unfold fv
    rw [e1, e2, e3]
/-- one cell written: the others stay, this one as said -/
theorem HP_put {b : Nat} {C : CT} {n k : Nat} {G G' : Nat → Int → Int} {M M' : Mem} {H H1 : Heap} (h : HP b C n G M H) (hM : ∀ k' j, k' ≠ k → M'.1 k' j = M.1 k' j ∧ M'.2 k' j = M.2 k' j) (hG : ∀ k' j, k' ≠ k → G' k' j = G k' j) (oq : ∀ q : Nat, q ≠ b + k → H1[q]? = H[q]?) (hc : k < n → cellOK b C G' M' H1 k) : HP b C n G' M' H1 := by
  intro k' hk'
  by_cases e : k' = k
  · subst e
    exact hc hk'
  · exact cellOK_congr (h k' hk') (oq _ (by omega)) (fun j => (hM k' j e).1) (fun j => (hM k' j e).2) (fun j => hG k' j e)
theorem HP_lt {b : Nat} {C : CT} {n k : Nat} {G : Nat → Int → Int} {M : Mem} {H : Heap} (h : b + n ≤ H.size) (hk : k < n) : b + k < H.size := by omega
section RW
variable {p : Program} {l : Launch} {e : Env} {R : Room} {s : State} {m : MethodId} {args : Array Value} {below : List Frame} {meth : Method} {c : Code} {H : Heap} {locs : List Loc} {cells slots : Nat} {Q : State → Prop}
variable {cc : ByteArray} {pc nL : Nat} {ls : Array Slot} {rest : List Value} {own : String} {b n : Nat} {C : CT} {M : Mem}
/-- what a walk stands on -/
def Cx (b : Nat) (p : Program) (m : MethodId) (c : Code) (cc : ByteArray) (nL : Nat) (s : State) (args : Array Value) (own : String) (C : CT) (n lo : Nat) : Prop := CallFix p m c cc nL s args lw_good own ∧ KK C s ∧ lo ≤ n ∧ NN b C s
variable {lo : Nat}
theorem Cx.hx (F : Cx b p m c cc nL s args own C n lo) : p.tables.exec = Jvm.exec := F.1.1
theorem Cx.hb (F : Cx b p m c cc nL s args own C n lo) : c.code = cc := F.1.2.1
theorem Cx.hml (F : Cx b p m c cc nL s args own C n lo) : c.maxLocals = nL := F.1.2.2.1
theorem Cx.hown (F : Cx b p m c cc nL s args own C n lo) : s.vm.findClass own = some m.cls := F.1.2.2.2.1
theorem Cx.hts (F : Cx b p m c cc nL s args own C n lo) {w : Cond} (h : w ∈ lw_good) : w.before args s = true := F.1.2.2.2.2 w h
theorem Cx.lt (F : Cx b p m c cc nL s args own C n lo) {k : Nat} (h : k < lo) : k < n := Nat.lt_of_lt_of_le h F.2.2.1
/-- reading a field -/
theorem r_get {k ci j N index : Nat} {Cn : String} {T : u_T} {v : Value} (F : Cx b p m c cc nL s args own C n lo) (hS : St b C n M s H locs) (hk : k < lo) (hsh : shK k = ci + 4) (hN : shN k = N) (hc : classes[ci]? = some (Cn, T, N)) (hj : j < N) (hin : ∀ w ∈ u_ws Cn T N, w ∈ lw_good)
    (hlink : Cond.fieldLink own index (T j).1 (T j).2.1 (T j).2.2.1 ∈ lw_good) (hv : fv b (GM M) M ci k j = v) (hdg : decode cc pc = .ok (.getfield index, 3))
    (kk : W p l e R s m args below meth c H locs cells slots Q (F0 m (pc + 3) ls (v :: rest))) : W p l e R s m args below meth c H locs cells slots Q (F0 m pc ls (.ref (b + k) :: rest)) := by
  obtain ⟨cell, q1, q2, q3, q4⟩ := (hS.2.1 k (F.lt hk)).2.2.2.2 ci hsh
  obtain ⟨hSl, hfc, kC, hkC, hkind⟩ := F.2.1.1 ci _ hc
  obtain ⟨cf, kf, fi, f, hi, hsl⟩ := hSl j hj
  refine W.getf F.hx F.hb F.hown (F.hts hlink) hi (u_facts hfc hkC (u_lays F.1.2.2.2.2 hin hj) hi).1 q1 (by rw [q3]; exact fun h => by cases h) (v := v) ?_ rfl rfl hdg kk
  rw [hsl, q4 j (by omega), hv]
/-- writing a field (not a final one): the cell as it is then -/
theorem r_put {k ci j N index : Nat} {Cn : String} {T : u_T} {v : Value} {ty : FieldType} {ty0 : Nat → FieldType} (M' : Mem) (F : Cx b p m c cc nL s args own C n lo) (hS : St b C n M s H locs) (hk : k < lo) (hsh : shK k = ci + 4) (hN : shN k = N) (hc : classes[ci]? = some (Cn, T, N)) (hj : j < N) (hin : ∀ w ∈ u_ws Cn T N, w ∈ lw_good)
    (hty : ∀ k, k < N → parseFieldDescriptor (T k).2.2.1 = some (ty0 k)) (hnm : ∀ a, a < N → ∀ b, b < N → a ≠ b → (T a).2.1 ≠ (T b).2.1) (hfin : (T j).2.2.2 = false) (hd : parseFieldDescriptor (T j).2.2.1 = some ty) (hn : narrow ty v = v) (hfit : fits ty v = true)
    (hlink : Cond.fieldLink own index (T j).1 (T j).2.1 (T j).2.2.1 ∈ lw_good)
    (hM : ∀ k' j, k' ≠ k → M'.1 k' j = M.1 k' j ∧ M'.2 k' j = M.2 k' j) (hG : ∀ k' j, k' ≠ k → GM M' k' j = GM M k' j) (hR : RngOK n M') (hv : fv b (GM M') M' ci k j = v) (ho : ∀ i, i < N → i ≠ j → fv b (GM M') M' ci k i = fv b (GM M) M ci k i) (hdg : decode cc pc = .ok (.putfield index, 3))
    (kk : ∀ (H1 : Heap) (locs1 : List Loc), St b C n M' s H1 locs1 → W p l e R s m args below meth c H1 locs1 cells slots Q (F0 m (pc + 3) ls rest)) : W p l e R s m args below meth c H locs cells slots Q (F0 m pc ls (v :: .ref (b + k) :: rest)) := by
  obtain ⟨h1, h2, h3, h4, h5⟩ := hS
  obtain ⟨cell, q1, q2, q3, q4⟩ := (h2 k (F.lt hk)).2.2.2.2 ci hsh
  have hap := va_apart (own := own) F.1.2.2.2.2 hin ty0 hty hnm F.2.1 hc
  obtain ⟨hSl, hfc, kC, hkC, hkind⟩ := F.2.1.1 ci _ hc
  obtain ⟨cf, kf, fi, f, hi, hsl⟩ := hSl j hj
  have hlay := F.hts (hin _ (u_in_lay hj))
  unfold u_lay at hlay
  rw [if_neg (by rw [hfin]; decide)] at hlay
  have hst := (u_facts hfc hkC (u_lays F.1.2.2.2.2 hin hj) hi).1
  have h6 := u_store hfc hkC hkind hlay hi hd hn hfit
  refine W.putK F.hx F.hb (f := f) ⟨F.hown, F.hts hlink, ⟨_, _, _, hi⟩, hst⟩ (by rw [q2]; exact h6) q1 q3 (by rw [hsl]; exact k2_hasslot (q4 j (by omega))) rfl rfl hdg fun H' e1 e2 e3 => ?_
  rw [hsl] at e1 ⊢
  refine kk H' _ ⟨by rw [e2]; exact h1, HP_put h2 hM hG e3 (fun _ => ?_), fun q hq => (e3 q (Nat.ne_of_lt (Nat.lt_of_lt_of_le hq (Nat.le_add_right b k)))).trans (h3 q hq), hR, h5.put e2 e3 (by show b ≤ b + k; omega)⟩
  refine ⟨fun z => absurd z (by omega), fun z => absurd z (by omega), fun z => absurd z (by omega), fun z => absurd z (by omega), fun ci' z => ?_⟩
  have ez : ci' = ci := by omega
  subst ez
  refine t_OB.to (V := updV (fv b (GM M) M ci' k) j v) ⟨_, e1, q2, q3, t_set q4 (by rw [hN]; exact hap) (by omega) v⟩ (fun i hi2 => ?_)
  by_cases ei : i = j
  · subst ei
    rw [hv]
    simp [updV]
  · rw [ho i (by omega) ei]
    simp [updV, ei]
theorem fv_int {b : Nat} {G : Nat → Int → Int} {M : Mem} {ci k j : Nat} (h : fk ci j = 0) : fv b G M ci k j = vI (M.1 k j) := if_pos h
theorem fv_long {b : Nat} {G : Nat → Int → Int} {M : Mem} {ci k j : Nat} (h : fk ci j = 1) : fv b G M ci k j = .long (M.2 k j) := by
  unfold fv
  rw [if_neg (by rw [h]; decide), if_pos h]
theorem fv_ref {b : Nat} {G : Nat → Int → Int} {M : Mem} {ci k j : Nat} (h : fk ci j = 2) : fv b G M ci k j = rv b (G k j) := by
  unfold fv
  rw [if_neg (by rw [h]; decide), if_neg (by rw [h]; decide)]
/-- an int field, not one of the moving references -/
theorem r_putI {k ci j N index : Nat} {Cn : String} {T : u_T} {v : Int} {ty : FieldType} {ty0 : Nat → FieldType} (F : Cx b p m c cc nL s args own C n lo) (hS : St b C n M s H locs) (hk : k < lo) (hsh : shK k = ci + 4) (hN : shN k = N) (hc : classes[ci]? = some (Cn, T, N)) (hj : j < N) (hin : ∀ w ∈ u_ws Cn T N, w ∈ lw_good)
    (hty : ∀ k, k < N → parseFieldDescriptor (T k).2.2.1 = some (ty0 k)) (hnm : ∀ a, a < N → ∀ b, b < N → a ≠ b → (T a).2.1 ≠ (T b).2.1) (hfin : (T j).2.2.2 = false) (hd : parseFieldDescriptor (T j).2.2.1 = some ty) (hn : narrow ty (vI v) = vI v) (hfit : fits ty (vI v) = true) (hfk : fk ci j = 0) (hdy : dyn k j = false)
    (hlink : Cond.fieldLink own index (T j).1 (T j).2.1 (T j).2.2.1 ∈ lw_good) (hr : InR v) (hdg : decode cc pc = .ok (.putfield index, 3))
    (kk : ∀ (H1 : Heap) (locs1 : List Loc), St b C n (setI M k j v) s H1 locs1 → W p l e R s m args below meth c H1 locs1 cells slots Q (F0 m (pc + 3) ls rest)) : W p l e R s m args below meth c H locs cells slots Q (F0 m pc ls (vI v :: .ref (b + k) :: rest)) := by
  have hR0 := hS.2.2.2.1
  refine r_put (setI M k j v) F hS hk hsh hN hc hj hin hty hnm hfin hd hn hfit hlink (fun k' j' h => ⟨uI_ne _ _ (fun q => h q.1), rfl⟩) (fun k' j' _ => by rw [GM_uI hdy]) ⟨inr_uI hR0.1 hr, DynOK_uI hR0.2.1 hdy, BoolOK_uI hR0.2.2.1 (fun z => absurd z (by omega)), Zm_uI hR0.2.2.2 (F.lt hk)⟩ ?_ (fun i hi hij => ?_) hdg kk
  · rw [fv_int hfk]
    show vI (uI M.1 k j v k j) = _
    rw [uI_self]
  · unfold fv
    rw [GM_uI hdy]
    show (if fk ci i = 0 then vI (uI M.1 k j v k i) else _) = _
    rw [uI_ne _ _ (fun q => hij (by have := q.2; omega))]
theorem r_putL {k ci j N index : Nat} {Cn : String} {T : u_T} {v : Int64} {ty0 : Nat → FieldType} (F : Cx b p m c cc nL s args own C n lo) (hS : St b C n M s H locs) (hk : k < lo) (hsh : shK k = ci + 4) (hN : shN k = N) (hc : classes[ci]? = some (Cn, T, N)) (hj : j < N) (hin : ∀ w ∈ u_ws Cn T N, w ∈ lw_good)
    (hty : ∀ k, k < N → parseFieldDescriptor (T k).2.2.1 = some (ty0 k)) (hnm : ∀ a, a < N → ∀ b, b < N → a ≠ b → (T a).2.1 ≠ (T b).2.1) (hfin : (T j).2.2.2 = false) (hd : parseFieldDescriptor (T j).2.2.1 = some .long) (hfk : fk ci j = 1)
    (hlink : Cond.fieldLink own index (T j).1 (T j).2.1 (T j).2.2.1 ∈ lw_good) (hdg : decode cc pc = .ok (.putfield index, 3))
    (kk : ∀ (H1 : Heap) (locs1 : List Loc), St b C n (setL M k j v) s H1 locs1 → W p l e R s m args below meth c H1 locs1 cells slots Q (F0 m (pc + 3) ls rest)) : W p l e R s m args below meth c H locs cells slots Q (F0 m pc ls (.long v :: .ref (b + k) :: rest)) := by
  have hR0 := hS.2.2.2.1
  refine r_put (setL M k j v) F hS hk hsh hN hc hj hin hty hnm hfin hd rfl rfl hlink (fun k' j' h => ⟨rfl, uL_ne _ _ (fun q => h q.1)⟩) (fun k' j' _ => rfl) ⟨hR0.1, hR0.2.1, hR0.2.2.1, Zm_uL hR0.2.2.2 (F.lt hk)⟩ ?_ (fun i hi hij => ?_) hdg kk
  · rw [fv_long hfk]
    show Value.long (uL M.2 k j v k j) = _
    rw [uL_self]
  · unfold fv
    show (if fk ci i = 0 then vI (M.1 k i) else if fk ci i = 1 then Value.long (uL M.2 k j v k i) else _) = _
    rw [uL_ne _ _ (fun q => hij (by have := q.2; omega))]
    rfl
end RW
end
section
section RA
variable {p : Program} {l : Launch} {e : Env} {R : Room} {s : State} {m : MethodId} {args : Array Value} {below : List Frame} {meth : Method} {c : Code} {H : Heap} {locs : List Loc} {cells slots : Nat} {Q : State → Prop}
variable {cc : ByteArray} {pc nL lo : Nat} {ls : Array Slot} {rest : List Value} {own : String} {b n : Nat} {C : CT} {M : Mem}
theorem uf_arr (f : Nat → Value) (i : Int) (h0 : 0 ≤ i) (g : Int → Value) (hf : ∀ j : Nat, f j = g (j : Int)) (v : Value) : updV f i.toNat v = fun j : Nat => if (j : Int) = i then v else g (j : Int) := by
  funext j
  unfold updV
  by_cases e : j = i.toNat
  · subst e
    rw [if_pos rfl, if_pos (by omega)]
  · rw [if_neg e, if_neg (by omega), hf]
theorem r_alen {k N : Nat} (F : Cx b p m c cc nL s args own C n lo) (hS : St b C n M s H locs) (hk : k < lo) (hsh : shK k < 3) (hN : shN k = N) (hdg : decode cc pc = .ok (.arraylength, 1))
    {v : Int} (hv : (N : Int) = v) (kk : W p l e R s m args below meth c H locs cells slots Q (F0 m (pc + 1) ls (vI v :: rest))) : W p l e R s m args below meth c H locs cells slots Q (F0 m pc ls (.ref (b + k) :: rest)) := by
  subst hv
  obtain ⟨c0, c1, c2, -, -⟩ := hS.2.1 k (F.lt hk)
  rw [hN] at c0 c1 c2
  rcases (show shK k = 0 ∨ shK k = 1 ∨ shK k = 2 by omega) with z | z | z
  · exact W.alen (n := Int32.ofInt (N : Int)) F.hx F.hb (c0 z) ((F.2.1.2 0 _ rfl).1 N _) (by rw [arrV_size]; rfl) rfl rfl hdg kk
  · exact W.alen (n := Int32.ofInt (N : Int)) F.hx F.hb (c1 z) ((F.2.1.2 1 _ rfl).1 N _) (by rw [arrV_size]; rfl) rfl rfl hdg kk
  · exact W.alen (n := Int32.ofInt (N : Int)) F.hx F.hb (c2 z) ((F.2.1.2 2 _ rfl).1 N _) (by rw [arrV_size]; rfl) rfl rfl hdg kk
theorem r_alen3 {k N : Nat} (F : Cx b p m c cc nL s args own C n lo) (hS : St b C n M s H locs) (hk : k < lo) (hsh : shK k = 3) (hN : shN k = N) (hdg : decode cc pc = .ok (.arraylength, 1))
    {v : Int} (hv : (N : Int) = v) (kk : W p l e R s m args below meth c H locs cells slots Q (F0 m (pc + 1) ls (vI v :: rest))) : W p l e R s m args below meth c H locs cells slots Q (F0 m pc ls (.ref (b + k) :: rest)) := by
  subst hv
  have c0 := (hS.2.1 k (F.lt hk)).2.2.2.1
  rw [hN] at c0
  exact W.alen (n := Int32.ofInt (N : Int)) F.hx F.hb (c0 hsh) ((F.2.1.2 3 _ rfl).1 N _) (by rw [arrV_size]; rfl) rfl rfl hdg kk
theorem r_iald {k N : Nat} {i : Int} (F : Cx b p m c cc nL s args own C n lo) (hS : St b C n M s H locs) (hk : k < lo) (hsh : shK k = 0) (hN : shN k = N) (hr : InR i) (h0 : 0 ≤ i) (h1 : i < (N : Int)) (hdg : decode cc pc = .ok (.iaload, 1))
    (kk : W p l e R s m args below meth c H locs cells slots Q (F0 m (pc + 1) ls (vI (M.1 k i) :: rest))) : W p l e R s m args below meth c H locs cells slots Q (F0 m pc ls (vI i :: .ref (b + k) :: rest)) := by
  have c0 := (hS.2.1 k (F.lt hk)).1 hsh
  rw [hN] at c0
  have hin := q_vp_in_of hr h0 h1
  have en : (Int32.ofInt i).toNatClampNeg = i.toNat := q_nn_of hr
  have hlt : (Int32.ofInt i).toNatClampNeg < N := by rw [en]; omega
  exact W.iald (v := vI (M.1 k i)) F.hx F.hb c0 ((F.2.1.2 0 _ rfl).1 N _) (fun q => by cases q) (by rw [arrV_size]; exact hin) (by rw [arrV_read _ _ hlt, en]; simp only [Int.toNat_of_nonneg h0]) rfl rfl hdg kk
theorem r_zald {k N : Nat} {i : Int} (F : Cx b p m c cc nL s args own C n lo) (hS : St b C n M s H locs) (hk : k < lo) (hsh : shK k = 1) (hN : shN k = N) (hr : InR i) (h0 : 0 ≤ i) (h1 : i < (N : Int)) (hdg : decode cc pc = .ok (.baload, 1))
    (kk : W p l e R s m args below meth c H locs cells slots Q (F0 m (pc + 1) ls (vI (M.1 k i) :: rest))) : W p l e R s m args below meth c H locs cells slots Q (F0 m pc ls (vI i :: .ref (b + k) :: rest)) := by
  have c0 := (hS.2.1 k (F.lt hk)).2.1 hsh
  rw [hN] at c0
  have hin := q_vp_in_of hr h0 h1
  have en : (Int32.ofInt i).toNatClampNeg = i.toNat := q_nn_of hr
  have hlt : (Int32.ofInt i).toNatClampNeg < N := by rw [en]; omega
  exact W.zald (v := vI (M.1 k i)) F.hx F.hb c0 ((F.2.1.2 1 _ rfl).1 N _) (fun q => by cases q) (by rw [arrV_size]; exact hin) (by rw [arrV_read _ _ hlt, en]; simp only [Int.toNat_of_nonneg h0]) rfl rfl hdg kk
theorem r_lald {k N : Nat} {i : Int} (F : Cx b p m c cc nL s args own C n lo) (hS : St b C n M s H locs) (hk : k < lo) (hsh : shK k = 2) (hN : shN k = N) (hr : InR i) (h0 : 0 ≤ i) (h1 : i < (N : Int)) (hdg : decode cc pc = .ok (.laload, 1))
    (kk : W p l e R s m args below meth c H locs cells slots Q (F0 m (pc + 1) ls (.long (M.2 k i) :: rest))) : W p l e R s m args below meth c H locs cells slots Q (F0 m pc ls (vI i :: .ref (b + k) :: rest)) := by
  have c0 := (hS.2.1 k (F.lt hk)).2.2.1 hsh
  rw [hN] at c0
  have hin := q_vp_in_of hr h0 h1
  have en : (Int32.ofInt i).toNatClampNeg = i.toNat := q_nn_of hr
  have hlt : (Int32.ofInt i).toNatClampNeg < N := by rw [en]; omega
  exact W.lald (v := .long (M.2 k i)) F.hx F.hb c0 ((F.2.1.2 2 _ rfl).1 N _) (fun q => by cases q) (by rw [arrV_size]; exact hin) (by rw [arrV_read _ _ hlt, en]; simp only [Int.toNat_of_nonneg h0]) rfl rfl hdg kk
theorem cell_lo {b : Nat} {C : CT} {G : Nat → Int → Int} {M : Mem} {H : Heap} {k a : Nat} (ha : a < 3) (hsh : shK k = a) (h : H[b + k]? = some (arrV (C.2.2.1 a) (shN k) (fun j => if a = 2 then .long (M.2 k j) else vI (M.1 k j)))) : cellOK b C G M H k := by
  refine ⟨fun z => ?_, fun z => ?_, fun z => ?_, fun z => ?_, fun ci z => ?_⟩
  · have : a = 0 := by omega
    subst this; exact h
  · have : a = 1 := by omega
    subst this; exact h
  · have : a = 2 := by omega
    subst this; exact h
  · omega
  · omega
theorem St_putI {k N : Nat} {i v : Int} {H1 : Heap} (hS : St b C n M s H locs) (hkn : k < n) (hsh : shK k < 2) (hv : InR v) (hz01 : shK k = 1 → v = 0 ∨ v = 1) (h0 : 0 ≤ i) (z : H1.size = H.size) (oq : ∀ q : Nat, q ≠ b + k → H1[q]? = H[q]?)
    (hc : H1[b + k]? = some (arrV (C.2.2.1 (shK k)) (shN k) (fun j => vI (uI M.1 k i v k (j : Int))))) {idx : Nat} : St b C n (setI M k i v) s H1 (locs ++ [⟨b + k, idx⟩]) := by
  obtain ⟨h1, h2, h3, h4, h5⟩ := hS
  have hd : dyn k i = false := dyn_lo (by omega)
  refine ⟨by rw [z]; exact h1, ?_, fun q hq => (oq q (Nat.ne_of_lt (Nat.lt_of_lt_of_le hq (Nat.le_add_right b k)))).trans (h3 q hq), ⟨inr_uI h4.1 hv, DynOK_uI h4.2.1 hd, BoolOK_uI h4.2.2.1 hz01, Zm_uI h4.2.2.2 hkn⟩, h5.put z oq (by show b ≤ b + k; omega)⟩
  refine HP_put h2 (fun k' j' h => ⟨uI_ne _ _ (fun q => h q.1), rfl⟩) (fun k' j' _ => by rw [GM_uI hd]) oq (fun _ => ?_)
  refine cell_lo (a := shK k) (by omega) rfl ?_
  rw [hc]
  congr 2
  funext j
  rw [if_neg (by omega)]
theorem r_iast {k N : Nat} {i v : Int} (F : Cx b p m c cc nL s args own C n lo) (hS : St b C n M s H locs) (hk : k < lo) (hsh : shK k = 0) (hN : shN k = N) (hr : InR i) (hv : InR v) (h0 : 0 ≤ i) (h1 : i < (N : Int)) (hdg : decode cc pc = .ok (.iastore, 1))
    (kk : ∀ (H1 : Heap) (locs1 : List Loc), St b C n (setI M k i v) s H1 locs1 → W p l e R s m args below meth c H1 locs1 cells slots Q (F0 m (pc + 1) ls rest)) : W p l e R s m args below meth c H locs cells slots Q (F0 m pc ls (vI v :: vI i :: .ref (b + k) :: rest)) := by
  have c0 := (hS.2.1 k (F.lt hk)).1 hsh
  have hin := q_vp_in_of (n := shN k) hr h0 (by rw [hN]; exact h1)
  have en : (Int32.ofInt i).toNatClampNeg = i.toNat := q_nn_of hr
  refine W.iast F.hx F.hb c0 ((F.2.1.2 0 _ rfl).1 (shN k) _) (fun q => by cases q) (by rw [arrV_size]; exact hin) rfl rfl hdg fun H1 e1 z oq => ?_
  refine kk H1 _ (St_putI (N := N) hS (F.lt hk) (by omega) hv (fun z1 => absurd z1 (by omega)) h0 z oq ?_)
  rw [e1, arrV_store, en, uf_arr (fun j => vI (M.1 k j)) i h0 (fun j => vI (M.1 k j)) (fun _ => rfl), hsh]
  congr 2
  funext j
  simp only [uI, if_true]
  split <;> rfl
theorem inr_z {v : Int} (h : v = 0 ∨ v = 1) : InR v := by rcases h with rfl | rfl <;> exact inr_c rfl
theorem nar_z {v : Int} (h : v = 0 ∨ v = 1) : narrow .boolean (vI v) = vI v := by rcases h with rfl | rfl <;> rfl
theorem r_zast {k N : Nat} {i v : Int} (F : Cx b p m c cc nL s args own C n lo) (hS : St b C n M s H locs) (hk : k < lo) (hsh : shK k = 1) (hN : shN k = N) (hr : InR i) (hv : v = 0 ∨ v = 1) (h0 : 0 ≤ i) (h1 : i < (N : Int)) (hdg : decode cc pc = .ok (.bastore, 1))
    (kk : ∀ (H1 : Heap) (locs1 : List Loc), St b C n (setI M k i v) s H1 locs1 → W p l e R s m args below meth c H1 locs1 cells slots Q (F0 m (pc + 1) ls rest)) : W p l e R s m args below meth c H locs cells slots Q (F0 m pc ls (vI v :: vI i :: .ref (b + k) :: rest)) := by
  have c0 := (hS.2.1 k (F.lt hk)).2.1 hsh
  have hin := q_vp_in_of (n := shN k) hr h0 (by rw [hN]; exact h1)
  have en : (Int32.ofInt i).toNatClampNeg = i.toNat := q_nn_of hr
  refine W.zast F.hx F.hb c0 ((F.2.1.2 1 _ rfl).1 (shN k) _) (fun q => by cases q) (by rw [arrV_size]; exact hin) rfl rfl hdg fun H1 e1 z oq => ?_
  refine kk H1 _ (St_putI (N := N) hS (F.lt hk) (by omega) (inr_z hv) (fun _ => hv) h0 z oq ?_)
  rw [e1, arrV_store, en, uf_arr (fun j => vI (M.1 k j)) i h0 (fun j => vI (M.1 k j)) (fun _ => rfl), hsh]
  congr 2
  funext j
  simp only [uI, if_true]
  split
  · exact nar_z hv
  · rfl
theorem r_last {k N : Nat} {i : Int} {v : Int64} (F : Cx b p m c cc nL s args own C n lo) (hS : St b C n M s H locs) (hk : k < lo) (hsh : shK k = 2) (hN : shN k = N) (hr : InR i) (h0 : 0 ≤ i) (h1 : i < (N : Int)) (hdg : decode cc pc = .ok (.lastore, 1))
    (kk : ∀ (H1 : Heap) (locs1 : List Loc), St b C n (setL M k i v) s H1 locs1 → W p l e R s m args below meth c H1 locs1 cells slots Q (F0 m (pc + 1) ls rest)) : W p l e R s m args below meth c H locs cells slots Q (F0 m pc ls (.long v :: vI i :: .ref (b + k) :: rest)) := by
  have c0 := (hS.2.1 k (F.lt hk)).2.2.1 hsh
  have hin := q_vp_in_of (n := shN k) hr h0 (by rw [hN]; exact h1)
  have en : (Int32.ofInt i).toNatClampNeg = i.toNat := q_nn_of hr
  refine W.last F.hx F.hb c0 ((F.2.1.2 2 _ rfl).1 (shN k) _) (fun q => by cases q) (by rw [arrV_size]; exact hin) rfl rfl hdg fun H1 e1 z oq => ?_
  obtain ⟨g1, g2, g3, g4, g5⟩ := hS
  refine kk H1 _ ⟨by rw [z]; exact g1, ?_, fun q hq => (oq q (Nat.ne_of_lt (Nat.lt_of_lt_of_le hq (Nat.le_add_right b k)))).trans (g3 q hq), ⟨g4.1, g4.2.1, g4.2.2.1, Zm_uL g4.2.2.2 (F.lt hk)⟩, g5.put z oq (by show b ≤ b + k; omega)⟩
  refine HP_put g2 (fun k' j' h => ⟨rfl, uL_ne _ _ (fun q => h q.1)⟩) (fun k' j' _ => rfl) oq (fun _ => ?_)
  refine cell_lo (a := 2) (by omega) hsh ?_
  rw [e1, arrV_store, en, uf_arr (fun j => .long (M.2 k j)) i h0 (fun j => .long (M.2 k j)) (fun _ => rfl)]
  congr 2
  funext j
  simp only [uL, if_true]
  split <;> rfl
end RA
end
section
section RI
variable {p : Program} {l : Launch} {e : Env} {R : Room} {s : State} {m : MethodId} {args : Array Value} {below : List Frame} {meth : Method} {c : Code} {H : Heap} {locs : List Loc} {cells slots : Nat} {Q : State → Prop}
variable {cc : ByteArray} {pc nL lo : Nat} {ls : Array Slot} {rest : List Value} {own : String} {b n : Nat} {C : CT} {M : Mem}
theorem q_of_and (x y : Int) : Int32.ofInt (q_and x y) = Int32.ofInt x &&& Int32.ofInt y := q_of_toInt _
theorem q_of_or (x y : Int) : Int32.ofInt (q_or x y) = Int32.ofInt x ||| Int32.ofInt y := q_of_toInt _
theorem q_of_xor (x y : Int) : Int32.ofInt (q_xor x y) = Int32.ofInt x ^^^ Int32.ofInt y := q_of_toInt _
theorem q_of_div (x y : Int) : Int32.ofInt (q_div x y) = Int32.ofInt x / Int32.ofInt y := q_of_toInt _
theorem q_of_rem (x y : Int) : Int32.ofInt (q_rem x y) = Int32.ofInt x - Int32.ofInt x / Int32.ofInt y * Int32.ofInt y := q_of_toInt _

theorem r_iconst (hx : p.tables.exec = Jvm.exec) (hb : c.code = cc) {n : Int} (hdg : decode cc pc = .ok (.iconst n, 1)) (kk : W p l e R s m args below meth c H locs cells slots Q (F0 m (pc + 1) ls (vI n :: rest))) : W p l e R s m args below meth c H locs cells slots Q (F0 m pc ls rest) := lv_iconst hx hb hdg rfl kk
theorem r_bipush (hx : p.tables.exec = Jvm.exec) (hb : c.code = cc) {n : Int} (hdg : decode cc pc = .ok (.bipush n, 2)) (hv : (Int8.ofInt n).toInt32 = Int32.ofInt n) (kk : W p l e R s m args below meth c H locs cells slots Q (F0 m (pc + 2) ls (vI n :: rest))) : W p l e R s m args below meth c H locs cells slots Q (F0 m pc ls rest) := lv_bipush hx hb hdg hv kk
theorem r_sipush (hx : p.tables.exec = Jvm.exec) (hb : c.code = cc) {n : Int} (hdg : decode cc pc = .ok (.sipush n, 3)) (hv : (Int16.ofInt n).toInt32 = Int32.ofInt n) (kk : W p l e R s m args below meth c H locs cells slots Q (F0 m (pc + 3) ls (vI n :: rest))) : W p l e R s m args below meth c H locs cells slots Q (F0 m pc ls rest) := lv_sipush hx hb hdg hv kk
theorem r_iadd (hx : p.tables.exec = Jvm.exec) (hb : c.code = cc) {x y : Int} (hdg : decode cc pc = .ok (.iadd, 1)) (kk : W p l e R s m args below meth c H locs cells slots Q (F0 m (pc + 1) ls (vI (w32 (x + y)) :: rest))) : W p l e R s m args below meth c H locs cells slots Q (F0 m pc ls (vI y :: vI x :: rest)) := lv_iadd hx hb hdg (by rw [q_of_add]; exact kk)
theorem r_isub (hx : p.tables.exec = Jvm.exec) (hb : c.code = cc) {x y : Int} (hdg : decode cc pc = .ok (.isub, 1)) (kk : W p l e R s m args below meth c H locs cells slots Q (F0 m (pc + 1) ls (vI (w32 (x - y)) :: rest))) : W p l e R s m args below meth c H locs cells slots Q (F0 m pc ls (vI y :: vI x :: rest)) := lv_isub hx hb hdg (by rw [q_of_sub]; exact kk)
theorem r_imul (hx : p.tables.exec = Jvm.exec) (hb : c.code = cc) {x y : Int} (hdg : decode cc pc = .ok (.imul, 1)) (kk : W p l e R s m args below meth c H locs cells slots Q (F0 m (pc + 1) ls (vI (w32 (x * y)) :: rest))) : W p l e R s m args below meth c H locs cells slots Q (F0 m pc ls (vI y :: vI x :: rest)) := lv_imul hx hb hdg (by rw [q_of_mul]; exact kk)
theorem r_iand (hx : p.tables.exec = Jvm.exec) (hb : c.code = cc) {x y : Int} (hdg : decode cc pc = .ok (.iand, 1)) (kk : W p l e R s m args below meth c H locs cells slots Q (F0 m (pc + 1) ls (vI (q_and x y) :: rest))) : W p l e R s m args below meth c H locs cells slots Q (F0 m pc ls (vI y :: vI x :: rest)) := lv_iand hx hb hdg (by rw [← q_of_and]; exact kk)
theorem r_ior (hx : p.tables.exec = Jvm.exec) (hb : c.code = cc) {x y : Int} (hdg : decode cc pc = .ok (.ior, 1)) (kk : W p l e R s m args below meth c H locs cells slots Q (F0 m (pc + 1) ls (vI (q_or x y) :: rest))) : W p l e R s m args below meth c H locs cells slots Q (F0 m pc ls (vI y :: vI x :: rest)) := lv_ior hx hb hdg (by rw [← q_of_or]; exact kk)
theorem r_ixor (hx : p.tables.exec = Jvm.exec) (hb : c.code = cc) {x y : Int} (hdg : decode cc pc = .ok (.ixor, 1)) (kk : W p l e R s m args below meth c H locs cells slots Q (F0 m (pc + 1) ls (vI (q_xor x y) :: rest))) : W p l e R s m args below meth c H locs cells slots Q (F0 m pc ls (vI y :: vI x :: rest)) := lv_ixor hx hb hdg (by rw [← q_of_xor]; exact kk)
theorem r_idiv (hx : p.tables.exec = Jvm.exec) (hb : c.code = cc) {x y : Int} (hy : InR y) (hne : ¬ y = 0) (hdg : decode cc pc = .ok (.idiv, 1)) (kk : W p l e R s m args below meth c H locs cells slots Q (F0 m (pc + 1) ls (vI (q_div x y) :: rest))) : W p l e R s m args below meth c H locs cells slots Q (F0 m pc ls (vI y :: vI x :: rest)) := lv_idiv hx hb hdg (fun h => hne ((q_of_eq hy (inr_c rfl)).mp h)) (by rw [← q_of_div]; exact kk)
theorem r_irem (hx : p.tables.exec = Jvm.exec) (hb : c.code = cc) {x y : Int} (hy : InR y) (hne : ¬ y = 0) (hdg : decode cc pc = .ok (.irem, 1)) (kk : W p l e R s m args below meth c H locs cells slots Q (F0 m (pc + 1) ls (vI (q_rem x y) :: rest))) : W p l e R s m args below meth c H locs cells slots Q (F0 m pc ls (vI y :: vI x :: rest)) := lv_irem hx hb hdg (fun h => hne ((q_of_eq hy (inr_c rfl)).mp h)) (by rw [← q_of_rem]; exact kk)
theorem r_ishl (hx : p.tables.exec = Jvm.exec) (hb : c.code = cc) {x y : Int} (hdg : decode cc pc = .ok (.ishl, 1)) (kk : W p l e R s m args below meth c H locs cells slots Q (F0 m (pc + 1) ls (vI (q_shl x y) :: rest))) : W p l e R s m args below meth c H locs cells slots Q (F0 m pc ls (vI y :: vI x :: rest)) := lv_ishl hx hb hdg (by have e : Int32.ofInt (q_shl x y) = Int32.ofInt x <<< (Int32.ofInt y &&& 31) := q_of_toInt _; rw [← e]; exact kk)
theorem r_ishr (hx : p.tables.exec = Jvm.exec) (hb : c.code = cc) {x y : Int} (hdg : decode cc pc = .ok (.ishr, 1)) (kk : W p l e R s m args below meth c H locs cells slots Q (F0 m (pc + 1) ls (vI (q_shr x y) :: rest))) : W p l e R s m args below meth c H locs cells slots Q (F0 m pc ls (vI y :: vI x :: rest)) := lv_ishr hx hb hdg (by have e : Int32.ofInt (q_shr x y) = Int32.ofInt x >>> (Int32.ofInt y &&& 31) := q_of_toInt _; rw [← e]; exact kk)
theorem r_iushr (hx : p.tables.exec = Jvm.exec) (hb : c.code = cc) {x y : Int} (hdg : decode cc pc = .ok (.iushr, 1)) (kk : W p l e R s m args below meth c H locs cells slots Q (F0 m (pc + 1) ls (vI (q_ushr x y) :: rest))) : W p l e R s m args below meth c H locs cells slots Q (F0 m pc ls (vI y :: vI x :: rest)) := lv_iushr hx hb hdg (q_of_toInt _).symm kk
theorem r_i2l (hx : p.tables.exec = Jvm.exec) (hb : c.code = cc) {x : Int} (hdg : decode cc pc = .ok (.i2l, 1)) (kk : W p l e R s m args below meth c H locs cells slots Q (F0 m (pc + 1) ls (.long (q_i2l x) :: rest))) : W p l e R s m args below meth c H locs cells slots Q (F0 m pc ls (vI x :: rest)) := lv_i2l hx hb hdg rfl kk
theorem r_l2i (hx : p.tables.exec = Jvm.exec) (hb : c.code = cc) {x : Int64} (hdg : decode cc pc = .ok (.l2i, 1)) (kk : W p l e R s m args below meth c H locs cells slots Q (F0 m (pc + 1) ls (vI (q_l2i x) :: rest))) : W p l e R s m args below meth c H locs cells slots Q (F0 m pc ls (.long x :: rest)) := lv_l2i hx hb hdg (q_of_toInt _).symm kk
theorem r_lshl (hx : p.tables.exec = Jvm.exec) (hb : c.code = cc) {x : Int64} {y : Int} (hdg : decode cc pc = .ok (.lshl, 1)) (kk : W p l e R s m args below meth c H locs cells slots Q (F0 m (pc + 1) ls (.long (q_lshl x y) :: rest))) : W p l e R s m args below meth c H locs cells slots Q (F0 m pc ls (vI y :: .long x :: rest)) := lv_lshl hx hb hdg rfl kk
theorem r_lshr (hx : p.tables.exec = Jvm.exec) (hb : c.code = cc) {x : Int64} {y : Int} (hdg : decode cc pc = .ok (.lshr, 1)) (kk : W p l e R s m args below meth c H locs cells slots Q (F0 m (pc + 1) ls (.long (q_lshr x y) :: rest))) : W p l e R s m args below meth c H locs cells slots Q (F0 m pc ls (vI y :: .long x :: rest)) := lv_lshr hx hb hdg rfl kk
theorem r_lushr (hx : p.tables.exec = Jvm.exec) (hb : c.code = cc) {x : Int64} {y : Int} (hdg : decode cc pc = .ok (.lushr, 1)) (kk : W p l e R s m args below meth c H locs cells slots Q (F0 m (pc + 1) ls (.long (q_lushr x y) :: rest))) : W p l e R s m args below meth c H locs cells slots Q (F0 m pc ls (vI y :: .long x :: rest)) := lv_lushr hx hb hdg rfl kk
theorem r_icmp_eq (hx : p.tables.exec = Jvm.exec) (hb : c.code = cc) {x y : Int} {off : Int} {tgt : Nat} (hx1 : InR x) (hy : InR y) (hdg : decode cc pc = .ok (.if_icmp .eq off, 3)) (ht : (pc : Int) + off = (tgt : Int)) (kt : x = y → W p l e R s m args below meth c H locs cells slots Q (F0 m tgt ls rest)) (kf : ¬ (x = y) → W p l e R s m args below meth c H locs cells slots Q (F0 m (pc + 3) ls rest)) : W p l e R s m args below meth c H locs cells slots Q (F0 m pc ls (vI y :: vI x :: rest)) := lv_icmp_eq hx hb hdg ht (fun h => kt ((q_of_eq hx1 hy).mp h)) (fun h => kf (fun q => h ((q_of_eq hx1 hy).mpr q)))
theorem r_if_eq (hx : p.tables.exec = Jvm.exec) (hb : c.code = cc) {x : Int} {off : Int} {tgt : Nat} (hx1 : InR x) (hdg : decode cc pc = .ok (.ifCond .eq off, 3)) (ht : (pc : Int) + off = (tgt : Int)) (kt : x = 0 → W p l e R s m args below meth c H locs cells slots Q (F0 m tgt ls rest)) (kf : ¬ (x = 0) → W p l e R s m args below meth c H locs cells slots Q (F0 m (pc + 3) ls rest)) : W p l e R s m args below meth c H locs cells slots Q (F0 m pc ls (vI x :: rest)) := lv_if_eq hx hb hdg ht (fun h => kt ((q_of_eq hx1 (inr_c rfl)).mp h)) (fun h => kf (fun q => h ((q_of_eq hx1 (inr_c rfl)).mpr q)))
theorem r_icmp_ne (hx : p.tables.exec = Jvm.exec) (hb : c.code = cc) {x y : Int} {off : Int} {tgt : Nat} (hx1 : InR x) (hy : InR y) (hdg : decode cc pc = .ok (.if_icmp .ne off, 3)) (ht : (pc : Int) + off = (tgt : Int)) (kt : ¬ x = y → W p l e R s m args below meth c H locs cells slots Q (F0 m tgt ls rest)) (kf : x = y → W p l e R s m args below meth c H locs cells slots Q (F0 m (pc + 3) ls rest)) : W p l e R s m args below meth c H locs cells slots Q (F0 m pc ls (vI y :: vI x :: rest)) := lv_icmp_ne hx hb hdg ht (fun h => kt (fun q => h ((q_of_eq hx1 hy).mpr q))) (fun h => kf ((q_of_eq hx1 hy).mp h))
theorem r_if_ne (hx : p.tables.exec = Jvm.exec) (hb : c.code = cc) {x : Int} {off : Int} {tgt : Nat} (hx1 : InR x) (hdg : decode cc pc = .ok (.ifCond .ne off, 3)) (ht : (pc : Int) + off = (tgt : Int)) (kt : ¬ x = 0 → W p l e R s m args below meth c H locs cells slots Q (F0 m tgt ls rest)) (kf : x = 0 → W p l e R s m args below meth c H locs cells slots Q (F0 m (pc + 3) ls rest)) : W p l e R s m args below meth c H locs cells slots Q (F0 m pc ls (vI x :: rest)) := lv_if_ne hx hb hdg ht (fun h => kt (fun q => h ((q_of_eq hx1 (inr_c rfl)).mpr q))) (fun h => kf ((q_of_eq hx1 (inr_c rfl)).mp h))
theorem r_icmp_lt (hx : p.tables.exec = Jvm.exec) (hb : c.code = cc) {x y : Int} {off : Int} {tgt : Nat} (hx1 : InR x) (hy : InR y) (hdg : decode cc pc = .ok (.if_icmp .lt off, 3)) (ht : (pc : Int) + off = (tgt : Int)) (kt : x < y → W p l e R s m args below meth c H locs cells slots Q (F0 m tgt ls rest)) (kf : ¬ (x < y) → W p l e R s m args below meth c H locs cells slots Q (F0 m (pc + 3) ls rest)) : W p l e R s m args below meth c H locs cells slots Q (F0 m pc ls (vI y :: vI x :: rest)) := lv_icmp_lt hx hb hdg ht (fun h => kt ((q_of_lt hx1 hy).mp h)) (fun h => kf (fun q => h ((q_of_lt hx1 hy).mpr q)))
theorem r_if_lt (hx : p.tables.exec = Jvm.exec) (hb : c.code = cc) {x : Int} {off : Int} {tgt : Nat} (hx1 : InR x) (hdg : decode cc pc = .ok (.ifCond .lt off, 3)) (ht : (pc : Int) + off = (tgt : Int)) (kt : x < 0 → W p l e R s m args below meth c H locs cells slots Q (F0 m tgt ls rest)) (kf : ¬ (x < 0) → W p l e R s m args below meth c H locs cells slots Q (F0 m (pc + 3) ls rest)) : W p l e R s m args below meth c H locs cells slots Q (F0 m pc ls (vI x :: rest)) := lv_if_lt hx hb hdg ht (fun h => kt ((q_of_lt hx1 (inr_c rfl)).mp h)) (fun h => kf (fun q => h ((q_of_lt hx1 (inr_c rfl)).mpr q)))
theorem r_icmp_ge (hx : p.tables.exec = Jvm.exec) (hb : c.code = cc) {x y : Int} {off : Int} {tgt : Nat} (hx1 : InR x) (hy : InR y) (hdg : decode cc pc = .ok (.if_icmp .ge off, 3)) (ht : (pc : Int) + off = (tgt : Int)) (kt : y ≤ x → W p l e R s m args below meth c H locs cells slots Q (F0 m tgt ls rest)) (kf : ¬ (y ≤ x) → W p l e R s m args below meth c H locs cells slots Q (F0 m (pc + 3) ls rest)) : W p l e R s m args below meth c H locs cells slots Q (F0 m pc ls (vI y :: vI x :: rest)) := lv_icmp_ge hx hb hdg ht (fun h => kt ((q_of_le hy hx1).mp h)) (fun h => kf (fun q => h ((q_of_le hy hx1).mpr q)))
theorem r_if_ge (hx : p.tables.exec = Jvm.exec) (hb : c.code = cc) {x : Int} {off : Int} {tgt : Nat} (hx1 : InR x) (hdg : decode cc pc = .ok (.ifCond .ge off, 3)) (ht : (pc : Int) + off = (tgt : Int)) (kt : 0 ≤ x → W p l e R s m args below meth c H locs cells slots Q (F0 m tgt ls rest)) (kf : ¬ (0 ≤ x) → W p l e R s m args below meth c H locs cells slots Q (F0 m (pc + 3) ls rest)) : W p l e R s m args below meth c H locs cells slots Q (F0 m pc ls (vI x :: rest)) := lv_if_ge hx hb hdg ht (fun h => kt ((q_of_le (inr_c rfl) hx1).mp h)) (fun h => kf (fun q => h ((q_of_le (inr_c rfl) hx1).mpr q)))
theorem r_icmp_gt (hx : p.tables.exec = Jvm.exec) (hb : c.code = cc) {x y : Int} {off : Int} {tgt : Nat} (hx1 : InR x) (hy : InR y) (hdg : decode cc pc = .ok (.if_icmp .gt off, 3)) (ht : (pc : Int) + off = (tgt : Int)) (kt : y < x → W p l e R s m args below meth c H locs cells slots Q (F0 m tgt ls rest)) (kf : ¬ (y < x) → W p l e R s m args below meth c H locs cells slots Q (F0 m (pc + 3) ls rest)) : W p l e R s m args below meth c H locs cells slots Q (F0 m pc ls (vI y :: vI x :: rest)) := lv_icmp_gt hx hb hdg ht (fun h => kt ((q_of_lt hy hx1).mp h)) (fun h => kf (fun q => h ((q_of_lt hy hx1).mpr q)))
theorem r_if_gt (hx : p.tables.exec = Jvm.exec) (hb : c.code = cc) {x : Int} {off : Int} {tgt : Nat} (hx1 : InR x) (hdg : decode cc pc = .ok (.ifCond .gt off, 3)) (ht : (pc : Int) + off = (tgt : Int)) (kt : 0 < x → W p l e R s m args below meth c H locs cells slots Q (F0 m tgt ls rest)) (kf : ¬ (0 < x) → W p l e R s m args below meth c H locs cells slots Q (F0 m (pc + 3) ls rest)) : W p l e R s m args below meth c H locs cells slots Q (F0 m pc ls (vI x :: rest)) := lv_if_gt hx hb hdg ht (fun h => kt ((q_of_lt (inr_c rfl) hx1).mp h)) (fun h => kf (fun q => h ((q_of_lt (inr_c rfl) hx1).mpr q)))
theorem r_icmp_le (hx : p.tables.exec = Jvm.exec) (hb : c.code = cc) {x y : Int} {off : Int} {tgt : Nat} (hx1 : InR x) (hy : InR y) (hdg : decode cc pc = .ok (.if_icmp .le off, 3)) (ht : (pc : Int) + off = (tgt : Int)) (kt : x ≤ y → W p l e R s m args below meth c H locs cells slots Q (F0 m tgt ls rest)) (kf : ¬ (x ≤ y) → W p l e R s m args below meth c H locs cells slots Q (F0 m (pc + 3) ls rest)) : W p l e R s m args below meth c H locs cells slots Q (F0 m pc ls (vI y :: vI x :: rest)) := lv_icmp_le hx hb hdg ht (fun h => kt ((q_of_le hx1 hy).mp h)) (fun h => kf (fun q => h ((q_of_le hx1 hy).mpr q)))
theorem r_if_le (hx : p.tables.exec = Jvm.exec) (hb : c.code = cc) {x : Int} {off : Int} {tgt : Nat} (hx1 : InR x) (hdg : decode cc pc = .ok (.ifCond .le off, 3)) (ht : (pc : Int) + off = (tgt : Int)) (kt : x ≤ 0 → W p l e R s m args below meth c H locs cells slots Q (F0 m tgt ls rest)) (kf : ¬ (x ≤ 0) → W p l e R s m args below meth c H locs cells slots Q (F0 m (pc + 3) ls rest)) : W p l e R s m args below meth c H locs cells slots Q (F0 m pc ls (vI x :: rest)) := lv_if_le hx hb hdg ht (fun h => kt ((q_of_le hx1 (inr_c rfl)).mp h)) (fun h => kf (fun q => h ((q_of_le hx1 (inr_c rfl)).mpr q)))
end RI
end
section
section RC
variable {p : Program} {l : Launch} {e : Env} {R : Room} {s : State} {m : MethodId} {args : Array Value} {below : List Frame} {meth : Method} {c : Code} {H : Heap} {locs : List Loc} {cells slots : Nat} {Q : State → Prop}
variable {cc : ByteArray} {pc nL lo : Nat} {ls : Array Slot} {rest : List Value} {own : String} {b n : Nat} {C : CT} {M : Mem}
theorem r_lcmp_if (hx : p.tables.exec = Jvm.exec) (hb : c.code = cc) {x y : Int64} {g : JFrame} (hdg : decode cc pc = .ok (.lcmp, 1)) (k : W p l e R s m args below meth c H locs cells slots Q (F0 m (pc + 1) ls (.int (lg_cmp x y) :: rest))) : W p l e R s m args below meth c H locs cells slots Q (F0 m pc ls (.long y :: .long x :: rest)) := W.lcmp hx hb hdg k
/-- a contract of a method that makes nothing: the memory M before, M' behind -/
abbrev rmD (d : Nat) : Room := { frames := d, cells := 0, slots := 0, locals := 48 * d }
abbrev wsM (y : MethodName) (by_ : ByteArray) (mL : Nat) (ret : Option FieldType) : List Cond := Cond.code y by_ mL ret :: lw_good
def QI (b : Nat) (C : CT) (n : Nat) (M' : Mem) (r : Int) : Array Value → State → Outcome → State → Prop := va_Qi (fun x (_ : Unit) => x = Int32.ofInt r ∧ InR r) (fun _ t => HS b C n M' t) (frb b)
def QZ (b : Nat) (C : CT) (n : Nat) (M' : Mem) (r : Int) : Array Value → State → Outcome → State → Prop := va_Qi (fun x (_ : Unit) => x = Int32.ofInt r ∧ (r = 0 ∨ r = 1)) (fun _ t => HS b C n M' t) (frb b)
def QL (b : Nat) (C : CT) (n : Nat) (M' : Mem) (r : Int64) : Array Value → State → Outcome → State → Prop := va_Ql (fun x (_ : Unit) => x = r) (fun _ t => HS b C n M' t) (frb b)
def QV (b : Nat) (C : CT) (n : Nat) (M' : Mem) : Array Value → State → Outcome → State → Prop := va_Qv (fun (_ : Unit) => True) (fun _ t => HS b C n M' t) (frb b)
def QR (b : Nat) (C : CT) (n : Nat) (M' : Mem) (k : Nat) : Array Value → State → Outcome → State → Prop := va_Qr (fun (_ : Unit) => True) (fun _ a t => a = b + k ∧ HS b C n M' t) (frb b)
abbrev CM (l : Launch) (b : Nat) (C : CT) (n d : Nat) (y : MethodName) (by_ : ByteArray) (mL : Nat) (ret : Option FieldType) (As : List Value) (M : Mem) (Qc : Array Value → State → Outcome → State → Prop) : Prop := Met l y (wsM y by_ mL ret) (rmD d) (va_Pc As (HS b C n M)) Qc 0 0 (frb b)
theorem good_M {y : MethodName} {by_ : ByteArray} {mL : Nat} {ret : Option FieldType} (h : Cond.code y by_ mL ret ∈ lw_good) : GoodIn lw_good (wsM y by_ mL ret) := by
  have hg : ∀ w ∈ lw_good, w ∈ lw_good ∧ ((w.onTables && w.keeps) = true ∨ ∃ ty, w = .arrayClass ty) := fun w hw => ⟨hw, good_of_word (List.mem_filter.mp hw).2⟩
  intro w hw
  rcases List.mem_cons.mp hw with rfl | hw
  · exact hg _ h
  · exact hg _ hw
theorem good_w {w : Cond} (h : w ∈ lw_good) : w ∈ lw_good ∧ ((w.onTables && w.keeps) = true ∨ ∃ ty, w = .arrayClass ty) := ⟨h, good_of_word (List.mem_filter.mp h).2⟩
theorem good_V {o2 : String} {ix : Nat} {Cn : String} {y : MethodName} {by_ : ByteArray} {mL : Nat} {ret : Option FieldType} (h0 : Cond.code y by_ mL ret ∈ lw_good) (h1 : Cond.methodLink o2 ix y ∈ lw_good) (h2 : Cond.instanceMethod y ∈ lw_good) (h3 : Cond.selects Cn y y ∈ lw_good) (h4 : Cond.initialized Cn ∈ lw_good) : GoodIn lw_good (wsV o2 ix Cn y (wsM y by_ mL ret)) := by
  intro w hw
  unfold wsV at hw
  rcases List.mem_append.mp hw with h | h
  · simp only [List.mem_cons, List.not_mem_nil, or_false] at h
    rcases h with rfl | rfl | rfl | rfl
    · exact good_w h1
    · exact good_w h2
    · exact good_w h3
    · exact good_w h4
  · exact good_M h0 w h
theorem good_S {o2 : String} {ix : Nat} {y : MethodName} {by_ : ByteArray} {mL : Nat} {ret : Option FieldType} (h0 : Cond.code y by_ mL ret ∈ lw_good) (h1 : Cond.methodLink o2 ix y ∈ lw_good) (h2 : Cond.static y ∈ lw_good) (h4 : Cond.initialized y.cls ∈ lw_good) : GoodIn lw_good (va_wsS o2 ix y (wsM y by_ mL ret)) := by
  intro w hw
  unfold va_wsS at hw
  rcases List.mem_append.mp hw with h | h
  · simp only [List.mem_cons, List.not_mem_nil, or_false] at h
    rcases h with rfl | rfl | rfl
    · exact good_w h1
    · exact good_w h2
    · exact good_w h4
  · exact good_M h0 w h
/-- the beginning of a walk of such a method -/
theorem CM.of {y : MethodName} {by_ : ByteArray} {mL d : Nat} {ret : Option FieldType} {As : List Value} {Qc : Array Value → State → Outcome → State → Prop} {ow : String} (hy : plainName y.cls = true) (ho : y.cls = ow) (hlen : (lg_sl As).length ≤ mL) (hlo : lo ≤ n)
    (body : ∀ (p : Program) (e : Env) (s : State) (m : MethodId) (below : List Frame) (meth : Method) (c : Code), Cx b p m c by_ mL s As.toArray ow C n lo → meth.locks = false → meth.sig.returnType = ret → St b C n M s s.heap [] →
      ∀ ls : Array Slot, lv_has ls mL (lv_args 0 As) → W p l e (headSpec (wsM y by_ mL ret) (rmD d)).room s m As.toArray below meth c s.heap [] 0 0 (MQ below Qc As.toArray s 0 0 (frb b)) (F0 m 0 ls [])) : CM l b C n d y by_ mL ret As M Qc := by
  refine Met.ofW (cc := by_) (maxL := mL) (ret := ret) hy rfl ?_
  intro p e s m args below meth c s₁ B hml hv
  obtain ⟨rfl, hHS⟩ := hv
  have hts := atoms_spec (ws := wsM y by_ mL ret) B.pre
  have hown : s.vm.findClass ow = some m.cls := ho ▸ findClass_of_methodNamed B.named
  have hl := lv_entry As (n := mL) hlen
  rw [lg_entry_eq]
  exact body p e s m below meth c ⟨⟨B.exec, B.bytes, hml, hown, fun w hw => hts w (List.mem_cons_of_mem _ hw)⟩, hHS.2.2.2.2.1, hlo, hHS.2.2.2.2.2⟩ B.notSynchronized B.returns hHS.st _ hl
/-- the ends -/
theorem r_iret {ty : FieldType} {v : Int} (F : Cx b p m c cc nL s args own C n lo) (hlk : meth.locks = false) (hr : meth.sig.returnType = some ty) (hn : narrow ty (vI v) = vI v) (hS : St b C n M s H locs) (hv : InR v) (hdg : decode cc pc = .ok (.ireturn, 1)) : W p l e R s m args below meth c H locs cells slots (MQ below (QI b C n M v) args s cells slots (frb b)) (F0 m pc ls [vI v]) :=
  W.zret F.hx F.hb hr hn (fun t ht hW => ⟨⟨Int32.ofInt v, (), rfl, ⟨rfl, hv⟩, hS.hs F.2.1 F.2.2.2 ht hW⟩, hS.2.2.2.2.F ht⟩) hS.2.2.2.2.2.2 hdg hlk
theorem r_zret {v : Int} (F : Cx b p m c cc nL s args own C n lo) (hlk : meth.locks = false) (hr : meth.sig.returnType = some .boolean) (hS : St b C n M s H locs) (hv : v = 0 ∨ v = 1) (hdg : decode cc pc = .ok (.ireturn, 1)) : W p l e R s m args below meth c H locs cells slots (MQ below (QZ b C n M v) args s cells slots (frb b)) (F0 m pc ls [vI v]) :=
  W.zret F.hx F.hb hr (nar_z hv) (fun t ht hW => ⟨⟨Int32.ofInt v, (), rfl, ⟨rfl, hv⟩, hS.hs F.2.1 F.2.2.2 ht hW⟩, hS.2.2.2.2.F ht⟩) hS.2.2.2.2.2.2 hdg hlk
theorem r_lret {v : Int64} (F : Cx b p m c cc nL s args own C n lo) (hlk : meth.locks = false) (hr : meth.sig.returnType = some .long) (hS : St b C n M s H locs) (hdg : decode cc pc = .ok (.lreturn, 1)) : W p l e R s m args below meth c H locs cells slots (MQ below (QL b C n M v) args s cells slots (frb b)) (F0 m pc ls [.long v]) :=
  W.lret F.hx F.hb hr (fun t ht hW => ⟨⟨v, (), rfl, rfl, hS.hs F.2.1 F.2.2.2 ht hW⟩, hS.2.2.2.2.F ht⟩) hS.2.2.2.2.2.2 hdg hlk
theorem r_vret (F : Cx b p m c cc nL s args own C n lo) (hlk : meth.locks = false) (hr : meth.sig.returnType = none) (hS : St b C n M s H locs) (hdg : decode cc pc = .ok (.return_, 1)) : W p l e R s m args below meth c H locs cells slots (MQ below (QV b C n M) args s cells slots (frb b)) (F0 m pc ls []) :=
  W.vret F.hx F.hb hr (fun t ht hW => ⟨⟨(), rfl, trivial, hS.hs F.2.1 F.2.2.2 ht hW⟩, hS.2.2.2.2.F ht⟩) hS.2.2.2.2.2.2 hdg hlk
/-- what came back of a call -/
theorem r_backI {M' : Mem} {r : Int} {st0 : List Value} {a : Array Value} (F : Cx b p m c cc nL s args own C n lo) (hS : St b C n M s H locs) (hr : va_Run p l e R s m args below meth c H locs cells slots 0 0 (F0 m pc ls st0) rest (QI b C n M' r a) (frb b))
    (kk : ∀ (H1 : Heap) (locs1 : List Loc), St b C n M' s H1 locs1 → InR r → W p l e R s m args below meth c H1 locs1 cells slots Q (F0 m (pc + 3) ls (vI r :: rest))) : W p l e R s m args below meth c H locs cells slots Q (F0 m pc ls st0) := by
  refine va_calli hr hS.2.2.2.2 (fun q _ h => h) (fun q h => h) (fun x u t H1 locs1 ht hvm hp hB hz ho hS1 => ?_)
  obtain ⟨rfl, hR⟩ := hp
  subst ht
  exact kk _ _ ⟨hB.1, hB.2.1, hB.2.2.1, hB.2.2.2.1, hS1⟩ hR
theorem r_backZ {M' : Mem} {r : Int} {st0 : List Value} {a : Array Value} (F : Cx b p m c cc nL s args own C n lo) (hS : St b C n M s H locs) (hr : va_Run p l e R s m args below meth c H locs cells slots 0 0 (F0 m pc ls st0) rest (QZ b C n M' r a) (frb b))
    (kk : ∀ (H1 : Heap) (locs1 : List Loc), St b C n M' s H1 locs1 → (r = 0 ∨ r = 1) → W p l e R s m args below meth c H1 locs1 cells slots Q (F0 m (pc + 3) ls (vI r :: rest))) : W p l e R s m args below meth c H locs cells slots Q (F0 m pc ls st0) := by
  refine va_calli hr hS.2.2.2.2 (fun q _ h => h) (fun q h => h) (fun x u t H1 locs1 ht hvm hp hB hz ho hS1 => ?_)
  obtain ⟨rfl, hR⟩ := hp
  subst ht
  exact kk _ _ ⟨hB.1, hB.2.1, hB.2.2.1, hB.2.2.2.1, hS1⟩ hR
theorem r_backL {M' : Mem} {r : Int64} {st0 : List Value} {a : Array Value} (F : Cx b p m c cc nL s args own C n lo) (hS : St b C n M s H locs) (hr : va_Run p l e R s m args below meth c H locs cells slots 0 0 (F0 m pc ls st0) rest (QL b C n M' r a) (frb b))
    (kk : ∀ (H1 : Heap) (locs1 : List Loc), St b C n M' s H1 locs1 → W p l e R s m args below meth c H1 locs1 cells slots Q (F0 m (pc + 3) ls (.long r :: rest))) : W p l e R s m args below meth c H locs cells slots Q (F0 m pc ls st0) := by
  refine va_calll hr hS.2.2.2.2 (fun q _ h => h) (fun q h => h) (fun x u t H1 locs1 ht hvm hp hB hz ho hS1 => ?_)
  subst hp
  subst ht
  exact kk _ _ ⟨hB.1, hB.2.1, hB.2.2.1, hB.2.2.2.1, hS1⟩
theorem r_backV {M' : Mem} {st0 : List Value} {a : Array Value} (F : Cx b p m c cc nL s args own C n lo) (hS : St b C n M s H locs) (hr : va_Run p l e R s m args below meth c H locs cells slots 0 0 (F0 m pc ls st0) rest (QV b C n M' a) (frb b))
    (kk : ∀ (H1 : Heap) (locs1 : List Loc), St b C n M' s H1 locs1 → W p l e R s m args below meth c H1 locs1 cells slots Q (F0 m (pc + 3) ls rest)) : W p l e R s m args below meth c H locs cells slots Q (F0 m pc ls st0) := by
  refine va_callv hr hS.2.2.2.2 (fun q _ h => h) (fun q h => h) (fun u t H1 locs1 ht hvm hp hB hz ho hS1 => ?_)
  subst ht
  exact kk _ _ ⟨hB.1, hB.2.1, hB.2.2.1, hB.2.2.2.1, hS1⟩
/-- the start of a call, virtual: the receiver is an object of its class -/
theorem r_preV {k ci N : Nat} {q : vw_C} {As : List Value} (F : Cx b p m c cc nL s args own C n lo) (hS : St b C n M s H locs) (hk : k < lo) (hsh : shK k = ci + 4) (hc : classes[ci]? = some q) : PreV s H q.1 (b + k) (va_Pc (.ref (b + k) :: As) (HS b C n M)) As := by
  refine ⟨HS_blind, ?_, fun U hU hW => ⟨rfl, hS.hs F.2.1 F.2.2.2 hU hW⟩⟩
  obtain ⟨cell, q1, q2, q3, -⟩ := (hS.2.1 k (F.lt hk)).2.2.2.2 ci hsh
  refine ⟨cell, q1, by rw [q3]; rfl, ?_⟩
  rw [q2]
  exact (F.2.1.1 ci _ hc).2.1
theorem r_preS {As : List Value} (F : Cx b p m c cc nL s args own C n lo) (hS : St b C n M s H locs) : PreS s H (va_Pc As (HS b C n M)) As := ⟨HS_blind, fun U hU hW => ⟨rfl, hS.hs F.2.1 F.2.2.2 hU hW⟩⟩
theorem r_runV {k ci d mL index na : Nat} {T : u_T} {N : Nat} {y : MethodName} {by_ : ByteArray} {ret : Option FieldType} {As : List Value} {Qc : Array Value → State → Outcome → State → Prop} (F : Cx b p m c cc nL s args own C n lo) (hS : St b C n M s H locs) (hk : k < lo) (hsh : shK k = ci + 4) (hc : classes[ci]? = some (y.cls, T, N))
    (hM : CM l b C n d y by_ mL ret (.ref (b + k) :: As) M Qc) (hG : GoodIn lw_good (wsV own index y.cls y (wsM y by_ mL ret))) (hd : y.cls ≠ "java/lang/invoke/MethodHandle" ∧ y.cls ≠ "java/lang/invoke/VarHandle" ∧ (parseMethodDescriptor y.desc).map (fun d => d.parameters.length) = some na) (hR : d + 1 ≤ R.frames ∧ 8 + (mL + 11) + 48 * d ≤ R.locals)
    (hn : As.length = na) (hsz : ls.size = nL) (hrest : (rest.map fun v => v.category).sum ≤ 8) (hcs : cells ≤ R.cells ∧ slots ≤ R.slots) {st0 : List Value} (hst : st0 = As.reverse ++ .ref (b + k) :: rest) (hdg : decode cc pc = .ok (.invokevirtual index, 3)) :
    va_Run p l e R s m args below meth c H locs cells slots 0 0 (F0 m pc ls st0) rest (Qc (Value.ref (b + k) :: As).toArray) (frb b) :=
  va_runV F.1 hM (cwV na F.1.2.2.2.2 hG rfl rfl rfl ⟨rfl, hd⟩ hR) (r_preV (N := N) F hS hk hsh hc) rfl hn hsz hst (lv_room hrest) hdg hcs
theorem r_runS {d mL index na : Nat} {y : MethodName} {by_ : ByteArray} {ret : Option FieldType} {As : List Value} {Qc : Array Value → State → Outcome → State → Prop} (F : Cx b p m c cc nL s args own C n lo) (hS : St b C n M s H locs)
    (hM : CM l b C n d y by_ mL ret As M Qc) (hG : GoodIn lw_good (va_wsS own index y (wsM y by_ mL ret))) (hd : y.cls ≠ "java/lang/invoke/MethodHandle" ∧ y.cls ≠ "java/lang/invoke/VarHandle" ∧ (parseMethodDescriptor y.desc).map (fun d => d.parameters.length) = some na) (hR : d + 1 ≤ R.frames ∧ 8 + (mL + 11) + 48 * d ≤ R.locals)
    (hn : As.length = na) (hsz : ls.size = nL) (hrest : (rest.map fun v => v.category).sum ≤ 8) (hcs : cells ≤ R.cells ∧ slots ≤ R.slots) {st0 : List Value} (hst : st0 = As.reverse ++ rest) (hdg : decode cc pc = .ok (.invokestatic index, 3)) :
    va_Run p l e R s m args below meth c H locs cells slots 0 0 (F0 m pc ls st0) rest (Qc As.toArray) (frb b) :=
  va_runS F.1 hM (va_cwS na F.1.2.2.2.2 hG rfl rfl rfl hd hR) (r_preS F hS) rfl hn hsz hst (lv_room hrest) hdg hcs
theorem r_runSN {d mL index na : Nat} {y : MethodName} {by_ : ByteArray} {ret : Option FieldType} {As : List Value} {Qc : Array Value → State → Outcome → State → Prop} {host : String} (F : Cx b p m c cc nL s args own C n lo) (hS : St b C n M s H locs)
    (hM : CM l b C n d y by_ mL ret As M Qc) (h0 : Cond.code y by_ mL ret ∈ lw_good) (h2 : Cond.static y ∈ lw_good) (h4 : Cond.initialized y.cls ∈ lw_good) (hl : (own, index, y, host) ∈ nests) (hd : y.cls ≠ "java/lang/invoke/MethodHandle" ∧ y.cls ≠ "java/lang/invoke/VarHandle" ∧ (parseMethodDescriptor y.desc).map (fun d => d.parameters.length) = some na) (hR : d + 1 ≤ R.frames ∧ 8 + (mL + 11) + 48 * d ≤ R.locals)
    (hn : As.length = na) (hsz : ls.size = nL) (hrest : (rest.map fun v => v.category).sum ≤ 8) (hcs : cells ≤ R.cells ∧ slots ≤ R.slots) {st0 : List Value} (hst : st0 = As.reverse ++ rest) (hdg : decode cc pc = .ok (.invokestatic index, 3)) :
    va_Run p l e R s m args below meth c H locs cells slots 0 0 (F0 m pc ls st0) rest (Qc As.toArray) (frb b) :=
  va_runSN F.1 hM ⟨va_cnB na F.1.2.2.2.2 (good_M h0) rfl rfl rfl (F.2.2.2.1 _ hl) (F.hts h4) hd hR, F.hts h2, trivial⟩ (r_preS F hS) rfl hn hsz hst (lv_room hrest) hdg hcs
end RC
end
section
def arrP (a r N lo : Nat) : Prop := shK r = a ∧ shN r = N ∧ r < lo
abbrev qlet {α β : Type} (x : α) (f : α → β) : β := f x
def obind {α β : Type} (x : Option α) (f : α → Option β) : Option β := match x with | none => none | some v => f v
def qguard {β : Type} (c : Prop) [Decidable c] (x : Option β) : Option β := if c then x else none
def FU : Nat := 2 ^ 60
theorem qlet_eq {α β : Type} {x y : α} {f : α → β} {r : β} (h : qlet x f = r) (e : y = x) : f y = r := by subst e; exact h
theorem q_obind {α β : Type} {x : Option α} {f : α → Option β} {r : β} (h : obind x f = some r) : ∃ q, x = some q ∧ f q = some r := by
  cases x with
  | none => cases h
  | some v => exact ⟨v, rfl, h⟩
theorem q_guard {β : Type} {c : Prop} [Decidable c] {x : Option β} {r : β} (h : qguard c x = some r) : c ∧ x = some r := by
  unfold qguard at h
  split at h
  · exact ⟨by assumption, h⟩
  · cases h
theorem q_guardn {β : Type} {c : Prop} [Decidable c] {x : Option β} {r : β} (h : (if c then none else x) = some r) : ¬ c ∧ x = some r := by
  split at h
  · cases h
  · exact ⟨by assumption, h⟩
theorem q_ite {β : Type} {c : Prop} [Decidable c] {x y r : β} (h : (if c then x else y) = r) : (c ∧ x = r) ∨ (¬ c ∧ y = r) := by
  split at h
  · exact Or.inl ⟨by assumption, h⟩
  · exact Or.inr ⟨by assumption, h⟩
def q_min (x y : Int) : Int := if y < x then y else x
def q_minl (x y : Int64) : Int64 := if y < x then y else x
def q_maxl (x y : Int64) : Int64 := if y < x then x else y
def q_absl (x : Int64) : Int64 := if 0 < x then x else -x
theorem q_min_of {x y : Int} (hx1 : InR x) (hy1 : InR y) : (if Int32.ofInt y < Int32.ofInt x then Int32.ofInt y else Int32.ofInt x) = Int32.ofInt (q_min x y) := by
  unfold q_min
  by_cases h : y < x
  · rw [if_pos ((q_of_lt hy1 hx1).mpr h), if_pos h]
  · rw [if_neg (fun q => h ((q_of_lt hy1 hx1).mp q)), if_neg h]
theorem inr_min {x y : Int} (hx : InR x) (hy : InR y) : InR (q_min x y) := by unfold q_min; split <;> assumption
theorem z_and {x y : Int} (hx : x = 0 ∨ x = 1) (hy : y = 0 ∨ y = 1) : q_and x y = 0 ∨ q_and x y = 1 := by rcases hx with rfl | rfl <;> rcases hy with rfl | rfl <;> decide
theorem shN_small (r : Nat) : shN r ≤ 1024 := by
  by_cases h : r < 232
  · exact (by decide +kernel : ∀ r, r < 232 → shN r ≤ 1024) r h
  · unfold shN
    have e : shT[r]? = none := List.getElem?_eq_none (by rw [show shT.length = 232 from rfl]; omega)
    rw [List.getD_eq_getElem?_getD, e]
    decide
theorem inr_len {a r N lo : Nat} (h : arrP a r N lo) : InR (N : Int) := by
  have := shN_small r
  rw [h.2.1] at this
  unfold InR
  omega
theorem q_beq_ne {x y : Int} (h : ¬ x = y) : (y == x) = false := by
  rw [beq_eq_false_iff_ne]
  exact fun q => h q.symm
section RX
variable {p : Program} {l : Launch} {e : Env} {R : Room} {s : State} {m : MethodId} {args : Array Value} {below : List Frame} {meth : Method} {c : Code} {H : Heap} {locs : List Loc} {cells slots : Nat} {Q : State → Prop}
variable {cc : ByteArray} {pc nL lo : Nat} {ls : Array Slot} {rest : List Value} {own : String} {b n : Nat} {C : CT} {M : Mem}
theorem q_cmp_eq (x y : Int64) : lg_cmp x y = 0 ↔ x = y := lg_cmp_eq x y
theorem r_lif_eq (hx : p.tables.exec = Jvm.exec) (hb : c.code = cc) {x y : Int64} {off : Int} {tgt : Nat} (hdg : decode cc pc = .ok (.ifCond .eq off, 3)) (ht : (pc : Int) + off = (tgt : Int)) (kt : x = y → W p l e R s m args below meth c H locs cells slots Q (F0 m tgt ls rest)) (kf : ¬ x = y → W p l e R s m args below meth c H locs cells slots Q (F0 m (pc + 3) ls rest)) : W p l e R s m args below meth c H locs cells slots Q (F0 m pc ls (.int (lg_cmp x y) :: rest)) := lv_if_eq hx hb hdg ht (fun h => kt ((lg_cmp_eq x y).mp h)) (fun h => kf (fun q => h ((lg_cmp_eq x y).mpr q)))
theorem r_lif_ne (hx : p.tables.exec = Jvm.exec) (hb : c.code = cc) {x y : Int64} {off : Int} {tgt : Nat} (hdg : decode cc pc = .ok (.ifCond .ne off, 3)) (ht : (pc : Int) + off = (tgt : Int)) (kt : ¬ x = y → W p l e R s m args below meth c H locs cells slots Q (F0 m tgt ls rest)) (kf : x = y → W p l e R s m args below meth c H locs cells slots Q (F0 m (pc + 3) ls rest)) : W p l e R s m args below meth c H locs cells slots Q (F0 m pc ls (.int (lg_cmp x y) :: rest)) := lv_if_ne hx hb hdg ht (fun h => kt (fun q => h ((lg_cmp_eq x y).mpr q))) (fun h => kf ((lg_cmp_eq x y).mp h))
theorem r_lif_lt (hx : p.tables.exec = Jvm.exec) (hb : c.code = cc) {x y : Int64} {off : Int} {tgt : Nat} (hdg : decode cc pc = .ok (.ifCond .lt off, 3)) (ht : (pc : Int) + off = (tgt : Int)) (kt : x < y → W p l e R s m args below meth c H locs cells slots Q (F0 m tgt ls rest)) (kf : ¬ x < y → W p l e R s m args below meth c H locs cells slots Q (F0 m (pc + 3) ls rest)) : W p l e R s m args below meth c H locs cells slots Q (F0 m pc ls (.int (lg_cmp x y) :: rest)) := lv_if_lt hx hb hdg ht (fun h => kt ((lg_cmp_lt x y).mp h)) (fun h => kf (fun q => h ((lg_cmp_lt x y).mpr q)))
theorem r_lif_ge (hx : p.tables.exec = Jvm.exec) (hb : c.code = cc) {x y : Int64} {off : Int} {tgt : Nat} (hdg : decode cc pc = .ok (.ifCond .ge off, 3)) (ht : (pc : Int) + off = (tgt : Int)) (kt : y ≤ x → W p l e R s m args below meth c H locs cells slots Q (F0 m tgt ls rest)) (kf : ¬ y ≤ x → W p l e R s m args below meth c H locs cells slots Q (F0 m (pc + 3) ls rest)) : W p l e R s m args below meth c H locs cells slots Q (F0 m pc ls (.int (lg_cmp x y) :: rest)) := lv_if_ge hx hb hdg ht (fun h => kt ((lg_cmp_ge x y).mp h)) (fun h => kf (fun q => h ((lg_cmp_ge x y).mpr q)))
theorem r_lif_gt (hx : p.tables.exec = Jvm.exec) (hb : c.code = cc) {x y : Int64} {off : Int} {tgt : Nat} (hdg : decode cc pc = .ok (.ifCond .gt off, 3)) (ht : (pc : Int) + off = (tgt : Int)) (kt : y < x → W p l e R s m args below meth c H locs cells slots Q (F0 m tgt ls rest)) (kf : ¬ y < x → W p l e R s m args below meth c H locs cells slots Q (F0 m (pc + 3) ls rest)) : W p l e R s m args below meth c H locs cells slots Q (F0 m pc ls (.int (lg_cmp x y) :: rest)) := lv_if_gt hx hb hdg ht (fun h => kt ((lg_cmp_gt x y).mp h)) (fun h => kf (fun q => h ((lg_cmp_gt x y).mpr q)))
theorem r_lif_le (hx : p.tables.exec = Jvm.exec) (hb : c.code = cc) {x y : Int64} {off : Int} {tgt : Nat} (hdg : decode cc pc = .ok (.ifCond .le off, 3)) (ht : (pc : Int) + off = (tgt : Int)) (kt : x ≤ y → W p l e R s m args below meth c H locs cells slots Q (F0 m tgt ls rest)) (kf : ¬ x ≤ y → W p l e R s m args below meth c H locs cells slots Q (F0 m (pc + 3) ls rest)) : W p l e R s m args below meth c H locs cells slots Q (F0 m pc ls (.int (lg_cmp x y) :: rest)) := lv_if_le hx hb hdg ht (fun h => kt ((lg_cmp_le x y).mp h)) (fun h => kf (fun q => h ((lg_cmp_le x y).mpr q)))
theorem r_tableIn (hx : p.tables.exec = Jvm.exec) (hb : c.code = cc) {dflt lo9 hi i : Int} {offs : Array Int} {len : Nat} {x off : Int} {tgt : Nat} (hr : InR x) (hc : x = i) (hdg : decode cc pc = .ok (.tableswitch dflt lo9 hi offs, len)) (h1 : ¬ i < lo9) (h2 : ¬ hi < i) (ho : offs[(i - lo9).toNat]? = some off) (ht : (pc : Int) + off = (tgt : Int)) (k : W p l e R s m args below meth c H locs cells slots Q (F0 m tgt ls rest)) : W p l e R s m args below meth c H locs cells slots Q (F0 m pc ls (vI x :: rest)) := by
  subst hc
  have e9 := q_toInt_of hr
  exact lv_tableIn hx hb hdg (by rw [e9]; exact h1) (by rw [e9]; exact h2) (by rw [e9]; exact ho) ht k
theorem r_tableOut (hx : p.tables.exec = Jvm.exec) (hb : c.code = cc) {dflt lo9 hi : Int} {offs : Array Int} {len : Nat} {x : Int} {tgt : Nat} (hr : InR x) (h : x < lo9 ∨ hi < x) (hdg : decode cc pc = .ok (.tableswitch dflt lo9 hi offs, len)) (ht : (pc : Int) + dflt = (tgt : Int)) (k : W p l e R s m args below meth c H locs cells slots Q (F0 m tgt ls rest)) : W p l e R s m args below meth c H locs cells slots Q (F0 m pc ls (vI x :: rest)) := by
  have e9 := q_toInt_of hr
  exact lv_tableOut hx hb hdg (by rw [e9]; exact h) ht k
theorem r_lookup (hx : p.tables.exec = Jvm.exec) (hb : c.code = cc) {dflt : Int} {ps : Array (Int × Int)} {len : Nat} {x off : Int} {tgt : Nat} (hr : InR x) (hdg : decode cc pc = .ok (.lookupswitch dflt ps, len)) (hp : (ps.toList.zip (ps.toList.drop 1)).all (fun (a, next) => a.1 < next.1) = true) (ho : Op.lookupswitch.offset ps.toList dflt x = off) (ht : (pc : Int) + off = (tgt : Int)) (k : W p l e R s m args below meth c H locs cells slots Q (F0 m tgt ls rest)) : W p l e R s m args below meth c H locs cells slots Q (F0 m pc ls (vI x :: rest)) := by
  have e9 := q_toInt_of hr
  exact lv_lookup hx hb hdg hp (by rw [e9]; exact ho) ht k
theorem r_mmin {index : Nat} {x y : Int} (F : Cx b p m c cc nL s args own C n lo) (hsz : ls.size = nL) (h1 : Cond.methodLink own index Lib.Math.min.name ∈ lw_good) (h2 : Cond.static Lib.Math.min.name ∈ lw_good) (h3 : Cond.initialized "java/lang/Math" ∈ lw_good) (h4 : Cond.code Lib.Math.min.name Lib.Math.min.code 2 (some .int) ∈ lw_good) (hR : 1 ≤ R.frames ∧ 23 ≤ R.locals) (hrest : (rest.map fun v => v.category).sum ≤ 8) (hcs : cells ≤ R.cells ∧ slots ≤ R.slots) (hx1 : InR x) (hy1 : InR y) (hdg : decode cc pc = .ok (.invokestatic index, 3)) (kk : W p l e R s m args below meth c H locs cells slots Q (F0 m (pc + 3) ls (vI (q_min x y) :: rest))) : W p l e R s m args below meth c H locs cells slots Q (F0 m pc ls (vI y :: vI x :: rest)) :=
  va_mmin F.hx F.hb (F.hml.trans hsz.symm) F.hown (F.hts h1) (F.hts h2) (F.hts h3) (F.hts h4) hR.1 (by omega) hcs.1 hcs.2 hdg (by rw [q_min_of hx1 hy1]; exact kk)
theorem r_mminl {index : Nat} {x y : Int64} (F : Cx b p m c cc nL s args own C n lo) (hsz : ls.size = nL) (h1 : Cond.methodLink own index Lib.MathLoose.min_long.x ∈ lw_good) (h2 : Cond.static Lib.MathLoose.min_long.x ∈ lw_good) (h3 : Cond.initialized "java/lang/Math" ∈ lw_good) (h4 : Cond.code Lib.MathLoose.min_long.x Lib.MathLoose.min_long.code 4 (some .long) ∈ lw_good) (hR : 1 ≤ R.frames ∧ 23 ≤ R.locals) (hrest : (rest.map fun v => v.category).sum ≤ 8) (hcs : cells ≤ R.cells ∧ slots ≤ R.slots) (hdg : decode cc pc = .ok (.invokestatic index, 3)) (kk : W p l e R s m args below meth c H locs cells slots Q (F0 m (pc + 3) ls (.long (q_minl x y) :: rest))) : W p l e R s m args below meth c H locs cells slots Q (F0 m pc ls (.long y :: .long x :: rest)) :=
  va_mmin_long F.hx F.hb (F.hml.trans hsz.symm) F.hown (F.hts h1) (F.hts h2) (F.hts h3) (F.hts h4) hR.1 (by omega) hcs.1 hcs.2 hdg kk
theorem r_mmaxl {index : Nat} {x y : Int64} (F : Cx b p m c cc nL s args own C n lo) (hsz : ls.size = nL) (h1 : Cond.methodLink own index Lib.MathLoose.max_long.x ∈ lw_good) (h2 : Cond.static Lib.MathLoose.max_long.x ∈ lw_good) (h3 : Cond.initialized "java/lang/Math" ∈ lw_good) (h4 : Cond.code Lib.MathLoose.max_long.x Lib.MathLoose.max_long.code 4 (some .long) ∈ lw_good) (hR : 1 ≤ R.frames ∧ 23 ≤ R.locals) (hrest : (rest.map fun v => v.category).sum ≤ 8) (hcs : cells ≤ R.cells ∧ slots ≤ R.slots) (hdg : decode cc pc = .ok (.invokestatic index, 3)) (kk : W p l e R s m args below meth c H locs cells slots Q (F0 m (pc + 3) ls (.long (q_maxl x y) :: rest))) : W p l e R s m args below meth c H locs cells slots Q (F0 m pc ls (.long y :: .long x :: rest)) :=
  va_mmax_long F.hx F.hb (F.hml.trans hsz.symm) F.hown (F.hts h1) (F.hts h2) (F.hts h3) (F.hts h4) hR.1 (by omega) hcs.1 hcs.2 hdg kk
theorem r_mabsl {index : Nat} {x : Int64} (F : Cx b p m c cc nL s args own C n lo) (hsz : ls.size = nL) (h1 : Cond.methodLink own index Lib.MathLoose.abs_long.x ∈ lw_good) (h2 : Cond.static Lib.MathLoose.abs_long.x ∈ lw_good) (h3 : Cond.initialized "java/lang/Math" ∈ lw_good) (h4 : Cond.code Lib.MathLoose.abs_long.x Lib.MathLoose.abs_long.code 2 (some .long) ∈ lw_good) (hR : 1 ≤ R.frames ∧ 23 ≤ R.locals) (hrest : (rest.map fun v => v.category).sum ≤ 8) (hcs : cells ≤ R.cells ∧ slots ≤ R.slots) (hdg : decode cc pc = .ok (.invokestatic index, 3)) (kk : W p l e R s m args below meth c H locs cells slots Q (F0 m (pc + 3) ls (.long (q_absl x) :: rest))) : W p l e R s m args below meth c H locs cells slots Q (F0 m pc ls (.long x :: rest)) :=
  va_mabs_long F.hx F.hb (F.hml.trans hsz.symm) F.hown (F.hts h1) (F.hts h2) (F.hts h3) (F.hts h4) hR.1 (by omega) hcs.1 hcs.2 hdg kk
end RX
end
section
theorem gm_st {M : Mem} {k : Nat} {j : Int} (hd : dyn k j = false) : GM M k j = GF k j := by unfold GM; rw [if_neg (by rw [hd]; decide)]
theorem fv_sg {b : Nat} {M : Mem} {ci k j t : Nat} (h1 : fk ci j = 2) (h2 : dyn k j = false) (h3 : GF k j = (t : Nat)) : fv b (GM M) M ci k j = .ref (b + t) := (fv_ref h1).trans (rv_pos t ((gm_st h2).trans h3))
theorem Chronicle_lt {k : Nat} (h : isChronicle k) : k < 191 := (by decide +kernel : ∀ k, k ∈ [62, 66] → k < 191) k h
theorem Chronicle_sh {k : Nat} (h : isChronicle k) : shK k = 6 := (by decide +kernel : ∀ k, k ∈ [62, 66] → shK k = 6) k h
theorem Chronicle_N {k : Nat} (h : isChronicle k) : shN k = 6 := (by decide +kernel : ∀ k, k ∈ [62, 66] → shN k = 6) k h
theorem Chronicle_dyn {k : Nat} (h : isChronicle k) (j : Int) : dyn k j = false := by
  have q := (by decide +kernel : ∀ k, k ∈ [62, 66] → (k == 0) = false ∧ (k == 46) = false) k h
  unfold dyn
  rw [q.1, q.2]
  rfl
theorem Chronicle_f0 {k : Nat} (h : isChronicle k) : arrP 0 (k + 1) 99 191 := (by decide +kernel : ∀ k, k ∈ [62, 66] → shK (k + 1) = 0 ∧ shN (k + 1) = 99 ∧ k + 1 < 191) k h
theorem Chronicle_g0 {b k : Nat} (h : isChronicle k) (M : Mem) : fv b (GM M) M 2 k 0 = .ref (b + (k + 1)) := fv_sg rfl (Chronicle_dyn h _) ((by decide +kernel : ∀ k, k ∈ [62, 66] → GF k ((0 : Nat) : Int) = ((k + 1 : Nat) : Int)) k h)
theorem Chronicle_f1 {k : Nat} (h : isChronicle k) : arrP 0 (k + 2) 99 191 := (by decide +kernel : ∀ k, k ∈ [62, 66] → shK (k + 2) = 0 ∧ shN (k + 2) = 99 ∧ k + 2 < 191) k h
theorem Chronicle_g1 {b k : Nat} (h : isChronicle k) (M : Mem) : fv b (GM M) M 2 k 1 = .ref (b + (k + 2)) := fv_sg rfl (Chronicle_dyn h _) ((by decide +kernel : ∀ k, k ∈ [62, 66] → GF k ((1 : Nat) : Int) = ((k + 2 : Nat) : Int)) k h)
theorem Chronicle_f2 {k : Nat} (h : isChronicle k) : arrP 0 (k + 3) 99 191 := (by decide +kernel : ∀ k, k ∈ [62, 66] → shK (k + 3) = 0 ∧ shN (k + 3) = 99 ∧ k + 3 < 191) k h
theorem Chronicle_g2 {b k : Nat} (h : isChronicle k) (M : Mem) : fv b (GM M) M 2 k 2 = .ref (b + (k + 3)) := fv_sg rfl (Chronicle_dyn h _) ((by decide +kernel : ∀ k, k ∈ [62, 66] → GF k ((2 : Nat) : Int) = ((k + 3 : Nat) : Int)) k h)
theorem Formula_lt {k : Nat} (h : isFormula k) : k < 191 := (by decide +kernel : ∀ k, k ∈ [12, 17, 32, 37] → k < 191) k h
theorem Formula_sh {k : Nat} (h : isFormula k) : shK k = 7 := (by decide +kernel : ∀ k, k ∈ [12, 17, 32, 37] → shK k = 7) k h
theorem Formula_N {k : Nat} (h : isFormula k) : shN k = 12 := (by decide +kernel : ∀ k, k ∈ [12, 17, 32, 37] → shN k = 12) k h
theorem Formula_dyn {k : Nat} (h : isFormula k) (j : Int) : dyn k j = false := by
  have q := (by decide +kernel : ∀ k, k ∈ [12, 17, 32, 37] → (k == 0) = false ∧ (k == 46) = false) k h
  unfold dyn
  rw [q.1, q.2]
  rfl
theorem Formula_f0 {k : Nat} (h : isFormula k) : arrP 0 (k + 1) 64 191 := (by decide +kernel : ∀ k, k ∈ [12, 17, 32, 37] → shK (k + 1) = 0 ∧ shN (k + 1) = 64 ∧ k + 1 < 191) k h
theorem Formula_g0 {b k : Nat} (h : isFormula k) (M : Mem) : fv b (GM M) M 3 k 0 = .ref (b + (k + 1)) := fv_sg rfl (Formula_dyn h _) ((by decide +kernel : ∀ k, k ∈ [12, 17, 32, 37] → GF k ((0 : Nat) : Int) = ((k + 1 : Nat) : Int)) k h)
theorem Formula_f1 {k : Nat} (h : isFormula k) : arrP 0 (k + 2) 64 191 := (by decide +kernel : ∀ k, k ∈ [12, 17, 32, 37] → shK (k + 2) = 0 ∧ shN (k + 2) = 64 ∧ k + 2 < 191) k h
theorem Formula_g1 {b k : Nat} (h : isFormula k) (M : Mem) : fv b (GM M) M 3 k 1 = .ref (b + (k + 2)) := fv_sg rfl (Formula_dyn h _) ((by decide +kernel : ∀ k, k ∈ [12, 17, 32, 37] → GF k ((1 : Nat) : Int) = ((k + 2 : Nat) : Int)) k h)
theorem Formula_f2 {k : Nat} (h : isFormula k) : arrP 2 (k + 3) 64 191 := (by decide +kernel : ∀ k, k ∈ [12, 17, 32, 37] → shK (k + 3) = 2 ∧ shN (k + 3) = 64 ∧ k + 3 < 191) k h
theorem Formula_g2 {b k : Nat} (h : isFormula k) (M : Mem) : fv b (GM M) M 3 k 2 = .ref (b + (k + 3)) := fv_sg rfl (Formula_dyn h _) ((by decide +kernel : ∀ k, k ∈ [12, 17, 32, 37] → GF k ((2 : Nat) : Int) = ((k + 3 : Nat) : Int)) k h)
theorem Formula_f5 {k : Nat} (h : isFormula k) : arrP 0 (k + 4) 72 191 := (by decide +kernel : ∀ k, k ∈ [12, 17, 32, 37] → shK (k + 4) = 0 ∧ shN (k + 4) = 72 ∧ k + 4 < 191) k h
theorem Formula_g5 {b k : Nat} (h : isFormula k) (M : Mem) : fv b (GM M) M 3 k 5 = .ref (b + (k + 4)) := fv_sg rfl (Formula_dyn h _) ((by decide +kernel : ∀ k, k ∈ [12, 17, 32, 37] → GF k ((5 : Nat) : Int) = ((k + 4 : Nat) : Int)) k h)
theorem Scene_lt {k : Nat} (h : isScene k) : k < 191 := (by decide +kernel : ∀ k, k ∈ [47, 52, 57, 72, 77, 82, 87, 92, 97, 102, 107, 112, 117, 122, 127, 132, 137, 142, 147, 152, 157, 162, 167] → k < 191) k h
theorem Scene_sh {k : Nat} (h : isScene k) : shK k = 13 := (by decide +kernel : ∀ k, k ∈ [47, 52, 57, 72, 77, 82, 87, 92, 97, 102, 107, 112, 117, 122, 127, 132, 137, 142, 147, 152, 157, 162, 167] → shK k = 13) k h
theorem Scene_N {k : Nat} (h : isScene k) : shN k = 7 := (by decide +kernel : ∀ k, k ∈ [47, 52, 57, 72, 77, 82, 87, 92, 97, 102, 107, 112, 117, 122, 127, 132, 137, 142, 147, 152, 157, 162, 167] → shN k = 7) k h
theorem Scene_dyn {k : Nat} (h : isScene k) (j : Int) : dyn k j = false := by
  have q := (by decide +kernel : ∀ k, k ∈ [47, 52, 57, 72, 77, 82, 87, 92, 97, 102, 107, 112, 117, 122, 127, 132, 137, 142, 147, 152, 157, 162, 167] → (k == 0) = false ∧ (k == 46) = false) k h
  unfold dyn
  rw [q.1, q.2]
  rfl
theorem Scene_f0 {k : Nat} (h : isScene k) : arrP 0 (k + 1) 4 191 := (by decide +kernel : ∀ k, k ∈ [47, 52, 57, 72, 77, 82, 87, 92, 97, 102, 107, 112, 117, 122, 127, 132, 137, 142, 147, 152, 157, 162, 167] → shK (k + 1) = 0 ∧ shN (k + 1) = 4 ∧ k + 1 < 191) k h
theorem Scene_g0 {b k : Nat} (h : isScene k) (M : Mem) : fv b (GM M) M 9 k 0 = .ref (b + (k + 1)) := fv_sg rfl (Scene_dyn h _) ((by decide +kernel : ∀ k, k ∈ [47, 52, 57, 72, 77, 82, 87, 92, 97, 102, 107, 112, 117, 122, 127, 132, 137, 142, 147, 152, 157, 162, 167] → GF k ((0 : Nat) : Int) = ((k + 1 : Nat) : Int)) k h)
theorem Scene_f1 {k : Nat} (h : isScene k) : arrP 0 (k + 2) 8 191 := (by decide +kernel : ∀ k, k ∈ [47, 52, 57, 72, 77, 82, 87, 92, 97, 102, 107, 112, 117, 122, 127, 132, 137, 142, 147, 152, 157, 162, 167] → shK (k + 2) = 0 ∧ shN (k + 2) = 8 ∧ k + 2 < 191) k h
theorem Scene_g1 {b k : Nat} (h : isScene k) (M : Mem) : fv b (GM M) M 9 k 1 = .ref (b + (k + 2)) := fv_sg rfl (Scene_dyn h _) ((by decide +kernel : ∀ k, k ∈ [47, 52, 57, 72, 77, 82, 87, 92, 97, 102, 107, 112, 117, 122, 127, 132, 137, 142, 147, 152, 157, 162, 167] → GF k ((1 : Nat) : Int) = ((k + 2 : Nat) : Int)) k h)
theorem Scene_f2 {k : Nat} (h : isScene k) : arrP 0 (k + 3) 8 191 := (by decide +kernel : ∀ k, k ∈ [47, 52, 57, 72, 77, 82, 87, 92, 97, 102, 107, 112, 117, 122, 127, 132, 137, 142, 147, 152, 157, 162, 167] → shK (k + 3) = 0 ∧ shN (k + 3) = 8 ∧ k + 3 < 191) k h
theorem Scene_g2 {b k : Nat} (h : isScene k) (M : Mem) : fv b (GM M) M 9 k 2 = .ref (b + (k + 3)) := fv_sg rfl (Scene_dyn h _) ((by decide +kernel : ∀ k, k ∈ [47, 52, 57, 72, 77, 82, 87, 92, 97, 102, 107, 112, 117, 122, 127, 132, 137, 142, 147, 152, 157, 162, 167] → GF k ((2 : Nat) : Int) = ((k + 3 : Nat) : Int)) k h)
theorem Scene_f3 {k : Nat} (h : isScene k) : arrP 0 (k + 4) 8 191 := (by decide +kernel : ∀ k, k ∈ [47, 52, 57, 72, 77, 82, 87, 92, 97, 102, 107, 112, 117, 122, 127, 132, 137, 142, 147, 152, 157, 162, 167] → shK (k + 4) = 0 ∧ shN (k + 4) = 8 ∧ k + 4 < 191) k h
theorem Scene_g3 {b k : Nat} (h : isScene k) (M : Mem) : fv b (GM M) M 9 k 3 = .ref (b + (k + 4)) := fv_sg rfl (Scene_dyn h _) ((by decide +kernel : ∀ k, k ∈ [47, 52, 57, 72, 77, 82, 87, 92, 97, 102, 107, 112, 117, 122, 127, 132, 137, 142, 147, 152, 157, 162, 167] → GF k ((3 : Nat) : Int) = ((k + 4 : Nat) : Int)) k h)
theorem Town_lt {k : Nat} (h : isTown k) : k < 191 := (by decide +kernel : ∀ k, k ∈ [2, 22] → k < 191) k h
theorem Town_sh {k : Nat} (h : isTown k) : shK k = 15 := (by decide +kernel : ∀ k, k ∈ [2, 22] → shK k = 15) k h
theorem Town_N {k : Nat} (h : isTown k) : shN k = 20 := (by decide +kernel : ∀ k, k ∈ [2, 22] → shN k = 20) k h
theorem Town_dyn {k : Nat} (h : isTown k) (j : Int) : dyn k j = false := by
  have q := (by decide +kernel : ∀ k, k ∈ [2, 22] → (k == 0) = false ∧ (k == 46) = false) k h
  unfold dyn
  rw [q.1, q.2]
  rfl
theorem Town_f0 {k : Nat} (h : isTown k) : arrP 0 (k + 1) 4 191 := (by decide +kernel : ∀ k, k ∈ [2, 22] → shK (k + 1) = 0 ∧ shN (k + 1) = 4 ∧ k + 1 < 191) k h
theorem Town_g0 {b k : Nat} (h : isTown k) (M : Mem) : fv b (GM M) M 11 k 0 = .ref (b + (k + 1)) := fv_sg rfl (Town_dyn h _) ((by decide +kernel : ∀ k, k ∈ [2, 22] → GF k ((0 : Nat) : Int) = ((k + 1 : Nat) : Int)) k h)
theorem Town_f1 {k : Nat} (h : isTown k) : arrP 0 (k + 2) 4 191 := (by decide +kernel : ∀ k, k ∈ [2, 22] → shK (k + 2) = 0 ∧ shN (k + 2) = 4 ∧ k + 2 < 191) k h
theorem Town_g1 {b k : Nat} (h : isTown k) (M : Mem) : fv b (GM M) M 11 k 1 = .ref (b + (k + 2)) := fv_sg rfl (Town_dyn h _) ((by decide +kernel : ∀ k, k ∈ [2, 22] → GF k ((1 : Nat) : Int) = ((k + 2 : Nat) : Int)) k h)
theorem Town_f2 {k : Nat} (h : isTown k) : arrP 0 (k + 3) 4 191 := (by decide +kernel : ∀ k, k ∈ [2, 22] → shK (k + 3) = 0 ∧ shN (k + 3) = 4 ∧ k + 3 < 191) k h
theorem Town_g2 {b k : Nat} (h : isTown k) (M : Mem) : fv b (GM M) M 11 k 2 = .ref (b + (k + 3)) := fv_sg rfl (Town_dyn h _) ((by decide +kernel : ∀ k, k ∈ [2, 22] → GF k ((2 : Nat) : Int) = ((k + 3 : Nat) : Int)) k h)
theorem Town_f3 {k : Nat} (h : isTown k) : arrP 0 (k + 4) 4 191 := (by decide +kernel : ∀ k, k ∈ [2, 22] → shK (k + 4) = 0 ∧ shN (k + 4) = 4 ∧ k + 4 < 191) k h
theorem Town_g3 {b k : Nat} (h : isTown k) (M : Mem) : fv b (GM M) M 11 k 3 = .ref (b + (k + 4)) := fv_sg rfl (Town_dyn h _) ((by decide +kernel : ∀ k, k ∈ [2, 22] → GF k ((3 : Nat) : Int) = ((k + 4 : Nat) : Int)) k h)
theorem Town_f4 {k : Nat} (h : isTown k) : arrP 0 (k + 5) 8 191 := (by decide +kernel : ∀ k, k ∈ [2, 22] → shK (k + 5) = 0 ∧ shN (k + 5) = 8 ∧ k + 5 < 191) k h
theorem Town_g4 {b k : Nat} (h : isTown k) (M : Mem) : fv b (GM M) M 11 k 4 = .ref (b + (k + 5)) := fv_sg rfl (Town_dyn h _) ((by decide +kernel : ∀ k, k ∈ [2, 22] → GF k ((4 : Nat) : Int) = ((k + 5 : Nat) : Int)) k h)
theorem Town_f5 {k : Nat} (h : isTown k) : arrP 0 (k + 6) 8 191 := (by decide +kernel : ∀ k, k ∈ [2, 22] → shK (k + 6) = 0 ∧ shN (k + 6) = 8 ∧ k + 6 < 191) k h
theorem Town_g5 {b k : Nat} (h : isTown k) (M : Mem) : fv b (GM M) M 11 k 5 = .ref (b + (k + 6)) := fv_sg rfl (Town_dyn h _) ((by decide +kernel : ∀ k, k ∈ [2, 22] → GF k ((5 : Nat) : Int) = ((k + 6 : Nat) : Int)) k h)
theorem Town_f6 {k : Nat} (h : isTown k) : arrP 0 (k + 7) 8 191 := (by decide +kernel : ∀ k, k ∈ [2, 22] → shK (k + 7) = 0 ∧ shN (k + 7) = 8 ∧ k + 7 < 191) k h
theorem Town_g6 {b k : Nat} (h : isTown k) (M : Mem) : fv b (GM M) M 11 k 6 = .ref (b + (k + 7)) := fv_sg rfl (Town_dyn h _) ((by decide +kernel : ∀ k, k ∈ [2, 22] → GF k ((6 : Nat) : Int) = ((k + 7 : Nat) : Int)) k h)
theorem Town_f7 {k : Nat} (h : isTown k) : arrP 0 (k + 8) 48 191 := (by decide +kernel : ∀ k, k ∈ [2, 22] → shK (k + 8) = 0 ∧ shN (k + 8) = 48 ∧ k + 8 < 191) k h
theorem Town_g7 {b k : Nat} (h : isTown k) (M : Mem) : fv b (GM M) M 11 k 7 = .ref (b + (k + 8)) := fv_sg rfl (Town_dyn h _) ((by decide +kernel : ∀ k, k ∈ [2, 22] → GF k ((7 : Nat) : Int) = ((k + 8 : Nat) : Int)) k h)
theorem Town_f8 {k : Nat} (h : isTown k) : arrP 0 (k + 9) 192 191 := (by decide +kernel : ∀ k, k ∈ [2, 22] → shK (k + 9) = 0 ∧ shN (k + 9) = 192 ∧ k + 9 < 191) k h
theorem Town_g8 {b k : Nat} (h : isTown k) (M : Mem) : fv b (GM M) M 11 k 8 = .ref (b + (k + 9)) := fv_sg rfl (Town_dyn h _) ((by decide +kernel : ∀ k, k ∈ [2, 22] → GF k ((8 : Nat) : Int) = ((k + 9 : Nat) : Int)) k h)
theorem Town_f9 {k : Nat} (h : isTown k) : isFormula (k + 10) := (by decide +kernel : ∀ k, k ∈ [2, 22] → k + 10 ∈ [12, 17, 32, 37]) k h
theorem Town_g9 {b k : Nat} (h : isTown k) (M : Mem) : fv b (GM M) M 11 k 9 = .ref (b + (k + 10)) := fv_sg rfl (Town_dyn h _) ((by decide +kernel : ∀ k, k ∈ [2, 22] → GF k ((9 : Nat) : Int) = ((k + 10 : Nat) : Int)) k h)
theorem Town_f10 {k : Nat} (h : isTown k) : isFormula (k + 15) := (by decide +kernel : ∀ k, k ∈ [2, 22] → k + 15 ∈ [12, 17, 32, 37]) k h
theorem Town_g10 {b k : Nat} (h : isTown k) (M : Mem) : fv b (GM M) M 11 k 10 = .ref (b + (k + 15)) := fv_sg rfl (Town_dyn h _) ((by decide +kernel : ∀ k, k ∈ [2, 22] → GF k ((10 : Nat) : Int) = ((k + 15 : Nat) : Int)) k h)
theorem Trail_lt {k : Nat} (h : isTrail k) : k < 191 := (by decide +kernel : ∀ k, k ∈ [182, 189] → k < 191) k h
theorem Trail_sh {k : Nat} (h : isTrail k) : shK k = 16 := (by decide +kernel : ∀ k, k ∈ [182, 189] → shK k = 16) k h
theorem Trail_N {k : Nat} (h : isTrail k) : shN k = 9 := (by decide +kernel : ∀ k, k ∈ [182, 189] → shN k = 9) k h
theorem Trail_dyn {k : Nat} (h : isTrail k) (j : Int) : dyn k j = false := by
  have q := (by decide +kernel : ∀ k, k ∈ [182, 189] → (k == 0) = false ∧ (k == 46) = false) k h
  unfold dyn
  rw [q.1, q.2]
  rfl
theorem Trail_f0 {k : Nat} (h : isTrail k) : arrP 0 (k + 1) 48 191 := (by decide +kernel : ∀ k, k ∈ [182, 189] → shK (k + 1) = 0 ∧ shN (k + 1) = 48 ∧ k + 1 < 191) k h
theorem Trail_g0 {b k : Nat} (h : isTrail k) (M : Mem) : fv b (GM M) M 12 k 0 = .ref (b + (k + 1)) := fv_sg rfl (Trail_dyn h _) ((by decide +kernel : ∀ k, k ∈ [182, 189] → GF k ((0 : Nat) : Int) = ((k + 1 : Nat) : Int)) k h)
end
section
section RD
variable {p : Program} {l : Launch} {e : Env} {R : Room} {s : State} {m : MethodId} {args : Array Value} {below : List Frame} {meth : Method} {c : Code} {H : Heap} {locs : List Loc} {cells slots : Nat} {Q : State → Prop}
variable {cc : ByteArray} {pc nL lo : Nat} {ls : Array Slot} {rest : List Value} {own : String} {b n : Nat} {C : CT} {M : Mem}
theorem St_town (h : St b C n M s H locs) : isTown (M.1 0 4).toNat := by
  rcases h.2.2.2.1.2.1.1 with e | e <;> rw [e] <;> decide
theorem St_spare (h : St b C n M s H locs) : isTown (M.1 0 5).toNat := by
  rcases h.2.2.2.1.2.1.2.1 with e | e <;> rw [e] <;> decide
theorem fv_town (h : St b C n M s H locs) : fv b (GM M) M 0 0 4 = .ref (b + (M.1 0 4).toNat) := by
  refine (fv_ref rfl).trans (rv_pos _ ?_)
  show M.1 0 4 = _
  rcases h.2.2.2.1.2.1.1 with e | e <;> rw [e] <;> rfl
theorem fv_spare (h : St b C n M s H locs) : fv b (GM M) M 0 0 5 = .ref (b + (M.1 0 5).toNat) := by
  refine (fv_ref rfl).trans (rv_pos _ ?_)
  show M.1 0 5 = _
  rcases h.2.2.2.1.2.1.2.1 with e | e <;> rw [e] <;> rfl
theorem tok_null (h : St b C n M s H locs) (c1 : M.1 46 0 < 0) : fv b (GM M) M 8 46 0 = .null := (fv_ref rfl).trans (rv_neg c1)
theorem tok_some (h : St b C n M s H locs) (c1 : ¬ M.1 46 0 < 0) : fv b (GM M) M 8 46 0 = .ref (b + 42) := by
  refine (fv_ref rfl).trans (rv_pos 42 ?_)
  show M.1 46 0 = _
  rcases h.2.2.2.1.2.1.2.2 with e | e
  · omega
  · exact e
theorem scenes_at {i : Int} (h0 : 0 ≤ i) (h1 : i < ((20 : Nat) : Int)) : isScene (72 + 5 * i.toNat) := by
  have h : i.toNat < 20 := by omega
  generalize i.toNat = j at h
  exact (by decide +kernel : ∀ j, j < 20 → 72 + 5 * j ∈ [47, 52, 57, 72, 77, 82, 87, 92, 97, 102, 107, 112, 117, 122, 127, 132, 137, 142, 147, 152, 157, 162, 167]) j h
theorem gf71 {j : Nat} (hj : j < 20) : GM M 71 (j : Int) = ((72 + 5 * j : Nat) : Int) := by
  have q := (by decide +kernel : ∀ j : Nat, j < 20 → GF 71 (j : Int) = ((72 + 5 * j : Nat) : Int) ∧ dyn 71 (j : Int) = false) j hj
  rw [gm_st q.2]
  exact q.1
theorem r_scn {i : Int} (F : Cx b p m c cc nL s args own C n 191) (hS : St b C n M s H locs) (hr : InR i) (h0 : 0 ≤ i) (h1 : i < ((20 : Nat) : Int)) (hdg : decode cc pc = .ok (.aaload, 1))
    (kk : W p l e R s m args below meth c H locs cells slots Q (F0 m (pc + 1) ls (.ref (b + (72 + 5 * i.toNat)) :: rest))) : W p l e R s m args below meth c H locs cells slots Q (F0 m pc ls (vI i :: .ref (b + 71) :: rest)) := by
  have c0 := (hS.2.1 71 (F.lt (by decide))).2.2.2.1 rfl
  have hin := q_vp_in_of (n := shN 71) hr h0 (by rw [show shN 71 = 20 from rfl]; exact h1)
  have en : (Int32.ofInt i).toNatClampNeg = i.toNat := q_nn_of hr
  have hlt : (Int32.ofInt i).toNatClampNeg < shN 71 := by rw [en, show shN 71 = 20 from rfl]; omega
  refine W.aald (v := .ref (b + (72 + 5 * i.toNat))) (ty := .object "WardFalls$Scene") F.hx F.hb c0 ((F.2.1.2 3 _ rfl).1 (shN 71) _) rfl (fun q => by cases q) (by rw [arrV_size]; exact hin) ?_ rfl rfl hdg kk
  rw [arrV_read _ _ hlt, en]
  congr 1
  have hj : i.toNat < 20 := by omega
  generalize i.toNat = j at hj
  exact rv_pos _ (gf71 hj)
/-- the moving references are written -/
theorem r_putDyn {k ci j N index : Nat} {Cn : String} {T : u_T} {t : Nat} {ty : FieldType} {ty0 : Nat → FieldType} (F : Cx b p m c cc nL s args own C n lo) (hS : St b C n M s H locs) (hk : k < lo) (hsh : shK k = ci + 4) (hN : shN k = N) (hc : classes[ci]? = some (Cn, T, N)) (hj : j < N) (hin : ∀ w ∈ u_ws Cn T N, w ∈ lw_good)
    (hty : ∀ k, k < N → parseFieldDescriptor (T k).2.2.1 = some (ty0 k)) (hnm : ∀ a, a < N → ∀ b, b < N → a ≠ b → (T a).2.1 ≠ (T b).2.1) (hfin : (T j).2.2.2 = false) (hd : parseFieldDescriptor (T j).2.2.1 = some ty) (hn : narrow ty (.ref (b + t)) = .ref (b + t)) (hfit : fits ty (.ref (b + t)) = true) (hfk : fk ci j = 2) (hdy : dyn k j = true)
    (hlink : Cond.fieldLink own index (T j).1 (T j).2.1 (T j).2.2.1 ∈ lw_good) (ht : InR (t : Int)) (hD : DynOK (setI M k j (t : Nat))) (hdg : decode cc pc = .ok (.putfield index, 3))
    (kk : ∀ (H1 : Heap) (locs1 : List Loc), St b C n (setI M k j (t : Nat)) s H1 locs1 → W p l e R s m args below meth c H1 locs1 cells slots Q (F0 m (pc + 3) ls rest)) : W p l e R s m args below meth c H locs cells slots Q (F0 m pc ls (.ref (b + t) :: .ref (b + k) :: rest)) := by
  have hR0 := hS.2.2.2.1
  have hGe : ∀ k' j', ¬ (k' = k ∧ j' = (j : Int)) → GM (setI M k j (t : Nat)) k' j' = GM M k' j' := fun k' j' h => by
    unfold GM
    rw [show (setI M k j (t : Nat)).1 k' j' = M.1 k' j' from uI_ne _ _ h]
  refine r_put (setI M k j (t : Nat)) F hS hk hsh hN hc hj hin hty hnm hfin hd hn hfit hlink (fun k' j' h => ⟨uI_ne _ _ (fun q => h q.1), rfl⟩) (fun k' j' h => hGe _ _ (fun q => h q.1)) ⟨inr_uI hR0.1 ht, hD, BoolOK_uI hR0.2.2.1 (fun z => absurd z (by omega)), Zm_uI hR0.2.2.2 (F.lt hk)⟩ ?_ (fun i hi hij => ?_) hdg kk
  · refine (fv_ref hfk).trans (rv_pos t ?_)
    unfold GM
    rw [if_pos hdy]
    exact uI_self _ _ _ _
  · unfold fv
    rw [hGe _ _ (fun q => hij (by have := q.2; omega))]
    show (if fk ci i = 0 then vI (uI M.1 k j _ k i) else _) = _
    rw [uI_ne _ _ (fun q => hij (by have := q.2; omega))]
theorem isTown_cases {t : Nat} (h : isTown t) : t = 2 ∨ t = 22 := by
  unfold isTown at h
  simp only [List.mem_cons, List.not_mem_nil, or_false] at h
  exact h
theorem r_putTown {index t : Nat} (F : Cx b p m c cc nL s args own C n 191) (hS : St b C n M s H locs) (h : isTown t) (hlink : Cond.fieldLink own index "WardFalls" "town" "LWardFalls$Town;" ∈ lw_good) (hdg : decode cc pc = .ok (.putfield index, 3))
    (kk : ∀ (H1 : Heap) (locs1 : List Loc), St b C n (setI M 0 4 (t : Nat)) s H1 locs1 → W p l e R s m args below meth c H1 locs1 cells slots Q (F0 m (pc + 3) ls rest)) : W p l e R s m args below meth c H locs cells slots Q (F0 m pc ls (.ref (b + t) :: .ref (b + 0) :: rest)) := by
  have hD := hS.2.2.2.1.2.1
  have h2 := isTown_cases h
  refine r_putDyn (N := 19) (T := T0) (j := 4) F hS (by decide) rfl rfl rfl (by decide) ing0 tyok0 nm0 rfl rfl rfl rfl rfl rfl hlink (by rcases h2 with rfl | rfl <;> exact inr_c rfl) ⟨?_, ?_, ?_⟩ hdg kk
  · show uI M.1 0 4 (t : Nat) 0 4 = 2 ∨ uI M.1 0 4 (t : Nat) 0 4 = 22
    rw [uI_self]
    omega
  · show uI M.1 0 4 (t : Nat) 0 5 = 2 ∨ uI M.1 0 4 (t : Nat) 0 5 = 22
    rw [uI_ne _ _ (by omega)]
    exact hD.2.1
  · show uI M.1 0 4 (t : Nat) 46 0 = -1 ∨ uI M.1 0 4 (t : Nat) 46 0 = 42
    rw [uI_ne _ _ (by omega)]
    exact hD.2.2
theorem r_putSpare {index t : Nat} (F : Cx b p m c cc nL s args own C n 191) (hS : St b C n M s H locs) (h : isTown t) (hlink : Cond.fieldLink own index "WardFalls" "spare" "LWardFalls$Town;" ∈ lw_good) (hdg : decode cc pc = .ok (.putfield index, 3))
    (kk : ∀ (H1 : Heap) (locs1 : List Loc), St b C n (setI M 0 5 (t : Nat)) s H1 locs1 → W p l e R s m args below meth c H1 locs1 cells slots Q (F0 m (pc + 3) ls rest)) : W p l e R s m args below meth c H locs cells slots Q (F0 m pc ls (.ref (b + t) :: .ref (b + 0) :: rest)) := by
  have hD := hS.2.2.2.1.2.1
  have h2 := isTown_cases h
  refine r_putDyn (N := 19) (T := T0) (j := 5) F hS (by decide) rfl rfl rfl (by decide) ing0 tyok0 nm0 rfl rfl rfl rfl rfl rfl hlink (by rcases h2 with rfl | rfl <;> exact inr_c rfl) ⟨?_, ?_, ?_⟩ hdg kk
  · show uI M.1 0 5 (t : Nat) 0 4 = 2 ∨ uI M.1 0 5 (t : Nat) 0 4 = 22
    rw [uI_ne _ _ (by omega)]
    exact hD.1
  · show uI M.1 0 5 (t : Nat) 0 5 = 2 ∨ uI M.1 0 5 (t : Nat) 0 5 = 22
    rw [uI_self]
    omega
  · show uI M.1 0 5 (t : Nat) 46 0 = -1 ∨ uI M.1 0 5 (t : Nat) 46 0 = 42
    rw [uI_ne _ _ (by omega)]
    exact hD.2.2
theorem r_putTok {index : Nat} (F : Cx b p m c cc nL s args own C n 191) (hS : St b C n M s H locs) (hlink : Cond.fieldLink own index "WardFalls$Reader" "tokens" "LWardFalls$Tokens;" ∈ lw_good) (hdg : decode cc pc = .ok (.putfield index, 3))
    (kk : ∀ (H1 : Heap) (locs1 : List Loc), St b C n (setI M 46 0 (42 : Nat)) s H1 locs1 → W p l e R s m args below meth c H1 locs1 cells slots Q (F0 m (pc + 3) ls rest)) : W p l e R s m args below meth c H locs cells slots Q (F0 m pc ls (.ref (b + 42) :: .ref (b + 46) :: rest)) := by
  have hD := hS.2.2.2.1.2.1
  refine r_putDyn (N := 11) (T := T8) (j := 0) F hS (by decide) rfl rfl rfl (by decide) ing8 tyok8 nm8 rfl rfl rfl rfl rfl rfl hlink (inr_c rfl) ⟨?_, ?_, ?_⟩ hdg kk
  · show uI M.1 46 0 (42 : Nat) 0 4 = 2 ∨ uI M.1 46 0 (42 : Nat) 0 4 = 22
    rw [uI_ne _ _ (by omega)]
    exact hD.1
  · show uI M.1 46 0 (42 : Nat) 0 5 = 2 ∨ uI M.1 46 0 (42 : Nat) 0 5 = 22
    rw [uI_ne _ _ (by omega)]
    exact hD.2.1
  · show uI M.1 46 0 (42 : Nat) 46 0 = -1 ∨ uI M.1 46 0 (42 : Nat) 46 0 = 42
    rw [uI_self]
    exact Or.inr rfl
end RD
end
