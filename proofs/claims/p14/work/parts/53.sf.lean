/-! ===== the class never fails: heads ===== -/
def IM (M : Mem) : Prop := ∀ (k : Nat) (j : Int), InR (M.1 k j)
theorem IM.setI {M : Mem} {k : Nat} {j v : Int} (h : IM M) (hv : InR v) : IM (setI M k j v) := inr_uI h hv
theorem IM.setL {M : Mem} {k : Nat} {j : Int} {v : Int64} (h : IM M) : IM (setL M k j v) := h
theorem IM.cpy {M : Mem} {r1 r2 : Nat} {n : Int} (h : IM M) : IM (cpyM M r1 r2 n) := by
  intro k j
  unfold cpyM
  simp only []
  split
  · exact h _ _
  · exact h _ _
def Ok {α : Type} (P : α → Prop) (x : Option α) : Prop := ∃ r, x = some r ∧ P r
theorem ok_some {α : Type} {P : α → Prop} {v : α} (h : P v) : Ok P (some v) := ⟨v, rfl, h⟩
theorem ok_bind {α β : Type} {P : β → Prop} {Q : α → Prop} {x : Option α} {f : α → Option β} (h : Ok Q x) (k : ∀ v, Q v → Ok P (f v)) : Ok P (obind x f) := by
  obtain ⟨v, rfl, hv⟩ := h
  exact k v hv
theorem ok_ite {α : Type} {P : α → Prop} {c : Prop} [Decidable c] {x y : Option α} (a : c → Ok P x) (b : ¬ c → Ok P y) : Ok P (if c then x else y) := by
  by_cases h : c
  · rw [if_pos h]; exact a h
  · rw [if_neg h]; exact b h
theorem ok_guard {α : Type} {P : α → Prop} {c : Prop} [Decidable c] {x : Option α} (hc : c) (a : Ok P x) : Ok P (qguard c x) := by
  rw [qguard_pos hc]; exact a
theorem ok_let {α β : Type} {P : β → Prop} {x : α} {f : α → Option β} (h : ∀ v, v = x → Ok P (f v)) : Ok P (qlet x f) := h x rfl
theorem inrq_div {x y : Int} : InR (q_div x y) := q_inr_toInt _
theorem inrq_rem {x y : Int} : InR (q_rem x y) := q_inr_toInt _
theorem inrq_and {x y : Int} : InR (q_and x y) := q_inr_toInt _
theorem inrq_or {x y : Int} : InR (q_or x y) := q_inr_toInt _
theorem inrq_xor {x y : Int} : InR (q_xor x y) := q_inr_toInt _
theorem inrq_shl {x y : Int} : InR (q_shl x y) := q_inr_toInt _
theorem inrq_shr {x y : Int} : InR (q_shr x y) := q_inr_toInt _
theorem inrq_ushr {x y : Int} : InR (q_ushr x y) := q_inr_toInt _
theorem inrq_l2i {x : Int64} : InR (q_l2i x) := q_inr_toInt _
theorem inr_toNat {x : Int} (h : InR x) : InR ((x.toNat : Nat) : Int) := by unfold InR at *; omega
theorem inr_ite {x y : Int} {c : Prop} [Decidable c] (hx : InR x) (hy : InR y) : InR (if c then x else y) := by split <;> assumption
theorem fu_up {v : Int} (h : InR v) : 2147483648 - v < (FU : Int) := by unfold InR at h; unfold FU; omega
theorem fu_dn {v : Int} (h : InR v) : v + 2147483649 < (FU : Int) := by unfold InR at h; unfold FU; omega
theorem absl_zero {x : Int64} (h : q_absl x = 0) : x = 0 := by
  unfold q_absl at h
  split at h
  · exact h
  · have h2 : -(-x) = -(0 : Int64) := congrArg (fun y => -y) h
    rw [Int64.neg_neg] at h2
    rw [h2]; rfl
