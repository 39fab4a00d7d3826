section
/-! ===== bits of longs ===== -/
theorem rngI (P : Int → Prop) (n : Nat) (h : ∀ k : Nat, k < n → P (k : Int)) {a : Int} (h0 : 0 ≤ a) (h1 : a < (n : Int)) : P a := by
  have h2 := h a.toNat (by omega)
  rwa [Int.toNat_of_nonneg h0] at h2
theorem obind_some {α β : Type} (v : α) (f : α → Option β) : obind (some v) f = f v := rfl
theorem qguard_pos {β : Type} {c : Prop} [Decidable c] {x : Option β} (h : c) : qguard c x = x := if_pos h
theorem sI_self (M : Mem) (k : Nat) (j v : Int) : (setI M k j v).1 k j = v := uI_self M.1 k j v
theorem sI_ne {M : Mem} {k k' : Nat} {j j' v : Int} (h : ¬ (k' = k ∧ j' = j)) : (setI M k j v).1 k' j' = M.1 k' j' := uI_ne M.1 v h
theorem sL_self (M : Mem) (k : Nat) (j : Int) (v : Int64) : (setL M k j v).2 k j = v := uL_self M.2 k j v
theorem sL_ne {M : Mem} {k k' : Nat} {j j' : Int} {v : Int64} (h : ¬ (k' = k ∧ j' = j)) : (setL M k j v).2 k' j' = M.2 k' j' := uL_ne M.2 v h
theorem fu_big {n : Nat} (h : n < 1000000) : n < FU := Nat.lt_trans h (by unfold FU; decide)
def tb (x : Int64) (i : Int) : Bool := x.toBitVec.getLsbD i.toNat
theorem sh_amt : ∀ k : Nat, k < 64 → ((Int32.ofInt (k : Int)).toInt64 &&& 63).toBitVec = BitVec.ofNat 64 k ∧ (BitVec.ofNat 64 k).smod 64 = BitVec.ofNat 64 k ∧ (BitVec.ofNat 64 k).toNat = k := by decide +kernel
theorem lshl_bv {x : Int64} {i : Int} (h0 : 0 ≤ i) (h1 : i < 64) : (q_lshl x i).toBitVec = x.toBitVec <<< i.toNat := by
  obtain ⟨a, b, c⟩ := sh_amt i.toNat (by omega)
  rw [Int.toNat_of_nonneg h0] at a
  unfold q_lshl
  rw [Int64.toBitVec_shiftLeft, a, b]
  show x.toBitVec <<< (BitVec.ofNat 64 i.toNat).toNat = _
  rw [c]
theorem lshr_bv {x : Int64} {i : Int} (h0 : 0 ≤ i) (h1 : i < 64) : (q_lshr x i).toBitVec = x.toBitVec.sshiftRight i.toNat := by
  obtain ⟨a, b, c⟩ := sh_amt i.toNat (by omega)
  rw [Int.toNat_of_nonneg h0] at a
  unfold q_lshr
  rw [Int64.toBitVec_shiftRight, a, b]
  show x.toBitVec.sshiftRight (BitVec.ofNat 64 i.toNat).toNat = _
  rw [c]
theorem sh_amu : ∀ k : Nat, k < 64 → (((Int32.ofInt (k : Int)).toInt64.toUInt64 &&& Int64.toUInt64 63).toBitVec % 64).toNat = k := by decide +kernel
theorem lushr_bv {x : Int64} {i : Int} (h0 : 0 ≤ i) (h1 : i < 64) : (q_lushr x i).toBitVec = x.toBitVec >>> i.toNat := by
  have a := sh_amu i.toNat (by omega)
  rw [Int.toNat_of_nonneg h0] at a
  unfold q_lushr
  show (x.toUInt64 >>> ((Int32.ofInt i).toInt64.toUInt64 &&& Int64.toUInt64 63)).toBitVec = _
  rw [UInt64.toBitVec_shiftRight]
  show x.toBitVec >>> (((Int32.ofInt i).toInt64.toUInt64 &&& Int64.toUInt64 63).toBitVec % 64).toNat = _
  rw [a]
theorem and1_bv (y : Int64) : (y &&& 1) = if tb y 0 = true then 1 else 0 := by
  apply Int64.toBitVec_inj.mp
  rw [Int64.toBitVec_and]
  show y.toBitVec &&& 1#64 = _
  rw [BitVec.and_one_eq_setWidth_ofBool_getLsbD]
  unfold tb
  show (BitVec.ofBool (y.toBitVec.getLsbD 0)).setWidth 64 = (if y.toBitVec.getLsbD 0 = true then (1 : Int64) else 0).toBitVec
  cases y.toBitVec.getLsbD 0 <;> rfl
/-- what bitOf answers -/
theorem bitOf_tb (M : Mem) (x : Int64) {i : Int} (h0 : 0 ≤ i) (h1 : i < 64) : t_WF_bitOf M x i = if tb x i = true then 1 else 0 := by
  unfold t_WF_bitOf
  rw [and1_bv]
  have e : tb (q_lushr x i) 0 = tb x i := by
    unfold tb
    rw [lushr_bv h0 h1, BitVec.getLsbD_ushiftRight]
    rfl
  rw [e]
  cases tb x i <;> rfl
theorem lshr_tb (x : Int64) {i : Int} (h0 : 0 ≤ i) (h1 : i < 64) : ((q_lshr x i) &&& 1) = if tb x i = true then 1 else 0 := by
  rw [and1_bv]
  have e : tb (q_lshr x i) 0 = tb x i := by
    unfold tb
    rw [lshr_bv h0 h1, BitVec.getLsbD_sshiftRight]
    have h2 : i.toNat < 64 := by omega
    simp [h2]
  rw [e]
theorem lshr_1 (x : Int64) {i : Int} (h0 : 0 ≤ i) (h1 : i < 64) : ((q_lshr x i) &&& 1) = 1 ↔ tb x i = true := by
  rw [lshr_tb x h0 h1]
  cases tb x i
  · exact ⟨fun h => absurd h (by decide), fun h => by cases h⟩
  · exact ⟨fun _ => rfl, fun _ => rfl⟩
theorem tb_or (x : Int64) {i j : Int} (h0 : 0 ≤ i) (h1 : i < 64) (g0 : 0 ≤ j) (g1 : j < 64) : tb (x ||| q_lshl 1 i) j = (tb x j || decide (j = i)) := by
  unfold tb
  rw [Int64.toBitVec_or, BitVec.getLsbD_or, lshl_bv h0 h1, BitVec.getLsbD_shiftLeft]
  congr 1
  show (decide (j.toNat < 64) && !decide (j.toNat < i.toNat) && (1#64).getLsbD (j.toNat - i.toNat)) = _
  rw [BitVec.getLsbD_one]
  by_cases e : j = i
  · subst e
    have : j.toNat < 64 := by omega
    simp [this]
  · have h2 : ¬ j.toNat = i.toNat := by omega
    by_cases h3 : j.toNat < i.toNat
    · simp [h3, e]
    · have h4 : ¬ (j.toNat - i.toNat = 0) := by omega
      simp [h4, e]
theorem tb_xor (x : Int64) {i j : Int} (h0 : 0 ≤ i) (h1 : i < 64) (g0 : 0 ≤ j) (g1 : j < 64) : tb (x ^^^ q_lshl 1 i) j = (tb x j).xor (decide (j = i)) := by
  unfold tb
  rw [Int64.toBitVec_xor, BitVec.getLsbD_xor, lshl_bv h0 h1, BitVec.getLsbD_shiftLeft]
  congr 1
  show (decide (j.toNat < 64) && !decide (j.toNat < i.toNat) && (1#64).getLsbD (j.toNat - i.toNat)) = _
  rw [BitVec.getLsbD_one]
  by_cases e : j = i
  · subst e
    have : j.toNat < 64 := by omega
    simp [this]
  · have h2 : ¬ j.toNat = i.toNat := by omega
    by_cases h3 : j.toNat < i.toNat
    · simp [h3, e]
    · have h4 : ¬ (j.toNat - i.toNat = 0) := by omega
      simp [h4, e]
theorem tb_zero (j : Int) : tb 0 j = false := by
  unfold tb
  show (0#64).getLsbD j.toNat = false
  exact BitVec.getLsbD_zero
end
section
/-! ===== frame rows, printed by wip/gen/frames2.py ===== -/
def Post {α : Type} (P : α → Prop) (x : Option α) : Prop := ∀ r, x = some r → P r
def Pl {α : Type} (P : α → Prop) (x : α) : Prop := P x
def Fr (W : Nat → Int → Prop) (M N : Mem) : Prop := ∀ (k : Nat) (j : Int), ¬ W k j → N.1 k j = M.1 k j ∧ N.2 k j = M.2 k j
theorem Fr.rf {W : Nat → Int → Prop} {M : Mem} : Fr W M M := fun _ _ _ => ⟨rfl, rfl⟩
theorem Fr.setI {W : Nat → Int → Prop} {M N : Mem} {k : Nat} {j v : Int} (h : Fr W M N) (hk : W k j) : Fr W M (setI N k j v) := fun k' j' h' => ⟨(uI_ne _ _ (fun q => h' (by rw [q.1, q.2]; exact hk))).trans (h k' j' h').1, (h k' j' h').2⟩
theorem Fr.setL {W : Nat → Int → Prop} {M N : Mem} {k : Nat} {j : Int} {v : Int64} (h : Fr W M N) (hk : W k j) : Fr W M (setL N k j v) := fun k' j' h' => ⟨(h k' j' h').1, (uL_ne _ _ (fun q => h' (by rw [q.1, q.2]; exact hk))).trans (h k' j' h').2⟩
theorem Fr.mono {W V : Nat → Int → Prop} {M N : Mem} (h : Fr W M N) (hV : ∀ k j, W k j → V k j) : Fr V M N := fun k j hk => h k j (fun q => hk (hV k j q))
theorem Fr.trans {W : Nat → Int → Prop} {M N O : Mem} (h : Fr W M N) (g : Fr W N O) : Fr W M O := fun k j hk => ⟨(g k j hk).1.trans (h k j hk).1, (g k j hk).2.trans (h k j hk).2⟩
theorem post_none {α : Type} {P : α → Prop} : Post P (none : Option α) := fun _ h => by cases h
theorem post_some {α : Type} {P : α → Prop} {v : α} (h : P v) : Post P (some v) := fun r e => by cases e; exact h
theorem post_bind {α β : Type} {P : β → Prop} {Q : α → Prop} {x : Option α} {f : α → Option β} (h : Post Q x) (k : ∀ v, Q v → Post P (f v)) : Post P (obind x f) := by
  cases x with
  | none => exact fun _ h => by cases h
  | some v => exact k v (h v rfl)
theorem post_bindv {α β : Type} {P : β → Prop} {x : Option α} {f : α → Option β} (k : ∀ v, Post P (f v)) : Post P (obind x f) := by
  cases x with
  | none => exact fun _ h => by cases h
  | some v => exact k v
theorem post_ite {α : Type} {P : α → Prop} {c : Prop} [Decidable c] {x y : Option α} (a : c → Post P x) (b : ¬ c → Post P y) : Post P (if c then x else y) := by
  by_cases h : c
  · rw [if_pos h]; exact a h
  · rw [if_neg h]; exact b h
theorem post_guard {α : Type} {P : α → Prop} {c : Prop} [Decidable c] {x : Option α} (a : c → Post P x) : Post P (qguard c x) := by
  unfold qguard
  by_cases h : c
  · rw [if_pos h]; exact a h
  · rw [if_neg h]; exact post_none
theorem post_let {α β : Type} {P : β → Prop} {x : α} {f : α → Option β} (h : ∀ v, v = x → Post P (f v)) : Post P (qlet x f) := h x rfl
theorem pl_let {α β : Type} {P : β → Prop} {x : α} {f : α → β} (h : ∀ v, v = x → Pl P (f v)) : Pl P (qlet x f) := h x rfl
theorem pl_ite {α : Type} {P : α → Prop} {c : Prop} [Decidable c] {x y : α} (a : c → Pl P x) (b : ¬ c → Pl P y) : Pl P (if c then x else y) := by
  by_cases h : c
  · rw [if_pos h]; exact a h
  · rw [if_neg h]; exact b h
theorem Fr.cpy {W : Nat → Int → Prop} {M N : Mem} {r1 r2 : Nat} {n : Int} (h : Fr W M N) (hk : ∀ j, W r2 j) : Fr W M (cpyM N r1 r2 n) := by
  intro k j hkj
  refine ⟨?_, (h k j hkj).2⟩
  refine Eq.trans ?_ (h k j hkj).1
  unfold cpyM
  by_cases e : k = r2
  · subst e; exact absurd (hk j) hkj
  · simp [e]
end
