/-! ===== the laws' values: what is to come out, and the reference's side ===== -/
def chkS (v : Int64) : Option Int64 := if 1000000000000 < v then none else if v < -1000000000000 then none else some v
def joinS (c : Int) (x y : Int64) : Option Int64 :=
  if c = 45 then (if x = 0 then chkS (x * y) else if q_absl y ≤ 1000000000000 / q_absl x then chkS (x * y) else none)
  else if c = 43 then chkS (x + y) else if c = 44 then chkS (x - y)
  else if c = 46 then (if y = 0 then none else chkS (x / y))
  else if c = 47 then chkS (if y ≤ x then 0 else 1)
  else if c = 49 then chkS (if x = y then 1 else 0)
  else if c = 52 then chkS (if x ≤ y then 0 else 1)
  else if c = 48 then chkS (if y < x then 0 else 1)
  else if c = 50 then chkS (if x = y then 0 else 1)
  else if c = 51 then chkS (if x < y then 0 else 1)
  else if c = 16 then chkS (if x = 0 then 0 else if y = 0 then 0 else 1)
  else chkS (if x = 0 then (if y = 0 then 0 else 1) else 1)
/-- the outcome of one sign on the reference's stack of height h -/
def WkR (M : Mem) (h : Int) (o : Option Int64) (x : Option (Mem × Int)) : Prop := ∃ N r, x = some (N, r) ∧ Fr (fun k j => (k = 191 ∧ j = 54) ∨ k = 221) M N ∧ match o with
  | none => r = 0
  | some v => r = 1 ∧ N.1 191 54 = h - 1 ∧ N.2 221 (h - 2) = v ∧ ∀ j, j < h - 2 → N.2 221 j = M.2 221 j
theorem m_works_L407 {M : Mem} {h x1 : Int} {v : Int64} (h2 : 2 ≤ h ∧ h ≤ 64) : WkR M h (chkS v) (t_MO_works_L407 x1 (setI M 191 54 (h - 1)) v) := by
  unfold t_MO_works_L407 chkS
  rw [sI_self, w32_id (x := h - 1 - 1) (by unfold InR; omega), show h - 1 - 1 = h - 2 by omega, qguard_pos ⟨by omega, by omega⟩]
  simp only [qlet]
  have hF : Fr (fun k j => (k = 191 ∧ j = 54) ∨ k = 221) M (setL (setI M 191 54 (h - 1)) 221 (h - 2) v) := (Fr.rf.setI (Or.inl ⟨rfl, rfl⟩)).setL (Or.inr rfl)
  by_cases c1 : 1000000000000 < v
  · rw [if_pos c1, if_pos c1]; exact ⟨_, _, rfl, hF, rfl⟩
  · rw [if_neg c1, if_neg c1]
    by_cases c2 : v < -1000000000000
    · rw [if_pos c2, if_pos c2]; exact ⟨_, _, rfl, hF, rfl⟩
    · rw [if_neg c2, if_neg c2]
      refine ⟨_, _, rfl, hF, rfl, ?_, sL_self _ _ _ _, fun j hj => ?_⟩
      · rw [sL_fst, sI_self]
      · rw [sL_ne (by omega), sI_snd]
