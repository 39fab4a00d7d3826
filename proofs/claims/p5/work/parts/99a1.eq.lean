/-! ===== answers alike: faults, names ===== -/
theorem fnd_congr {p q : Nat → Int} {v : Int} : ∀ {n : Nat}, (∀ a, a < n → p a = q a) → fnd p v n = fnd q v n := by
  intro n
  induction n with
  | zero => intro _; rfl
  | succ n ih => intro h; rw [fnd, fnd, ih (fun a ha => h a (by omega)), h n (by omega)]
theorem eq_fault {M : Mem} (h : LI M) (x1 : Int) : t_WF_fault M x1 = (t_MO_fault M x1).2 := by
  obtain ⟨f1, f2⟩ := h.2.2.2.2.2.2
  have e26 : (setI M 191 0 0).1 191 26 = M.1 191 26 := sI_ne (by omega)
  have e27 : (setI M 191 0 0).1 191 27 = M.1 191 27 := sI_ne (by omega)
  unfold t_WF_fault t_MO_fault
  simp (config := { proj := false }) only [qlet]
  rw [f1, f2, e26, e27]
  by_cases a : x1 = 0
  · rw [if_pos a, if_pos a]
  · rw [if_neg a, if_neg a]
    by_cases b : x1 = 1
    · rw [if_pos b, if_pos b]
    · rw [if_neg b, if_neg b]
theorem eq_named {M : Mem} (h : LI M) (x1 x2 : Int) : ∃ v N, t_WF_named M x1 x2 = some v ∧ t_MO_named M x1 x2 = some (N, v) := by
  obtain ⟨-, ⟨V, hR, hX⟩, -⟩ := h
  have hV := hR.1.1
  have hM := hR.1.2.1
  have hv := hV.1
  obtain ⟨T, hT⟩ : ∃ T, T = (M.1 0 4).toNat := ⟨_, rfl⟩
  rw [← hT] at hX
  have hC := hX.1
  have fS : Fr (fun k j => k = 191 ∧ j = 0) M (setI M 191 0 0) := Fr.rf.setI ⟨rfl, rfl⟩
  unfold t_WF_named t_MO_named
  simp (config := { proj := false }) only [qlet]
  rw [← hT]
  by_cases a : x1 = 0
  · rw [if_pos a, if_pos a, hC.1.2.2.1]
    have ix := indexOf_eq (M := M) (r := T + 1) (N := 4) (p := fun b => V 1 (b : Int)) (v := x2) (len := (V 0 2).toNat) (by omega) (by omega) (fun b hb => (hC.2.1 b (by omega) (by omega)).1)
    have mf := m_found0 (M := setI M 191 0 0) (r := 194) (N := 8) (x2 := 0) (x4 := x2) (len := (V 0 2).toNat) (by omega) (by omega) (by omega)
    rw [Int.toNat_of_nonneg (by omega)] at ix mf
    have e2 : (setI M 191 0 0).1 193 2 = V 0 2 := ((fS 193 2 (by omega)).1).trans hM.1.2.2.1
    rw [ix, obind_some, e2, mf, obind_some]
    have ef : fnd (fun b => (setI M 191 0 0).1 194 (0 + (b : Int))) x2 (V 0 2).toNat = fnd (fun b => V 1 (b : Int)) x2 (V 0 2).toNat := fnd_congr (fun b hb => by
      show (setI M 191 0 0).1 194 (0 + (b : Int)) = _
      rw [(fS 194 _ (by omega)).1, show (0 : Int) + (b : Int) = (b : Int) by omega]
      exact (hM.2.1 b (by omega) (by omega)).1)
    rw [ef]
    exact ⟨_, _, rfl, rfl⟩
  · rw [if_neg a, if_neg a]
    by_cases c : x1 = 1
    · rw [if_pos c, if_pos c, hC.1.2.2.2.1]
      have ix := indexOf_eq (M := M) (r := T + 5) (N := 8) (p := fun b => V 4 (b : Int)) (v := x2) (len := (V 0 3).toNat) (by omega) (by omega) (fun b hb => (hC.2.2.1 b (by omega) (by omega)).1)
      have mf := m_found0 (M := setI M 191 0 0) (r := 200) (N := 16) (x2 := 0) (x4 := x2) (len := (V 0 3).toNat) (by omega) (by omega) (by omega)
      rw [Int.toNat_of_nonneg (by omega)] at ix mf
      have e2 : (setI M 191 0 0).1 193 6 = V 0 3 := ((fS 193 6 (by omega)).1).trans hM.1.2.2.2.1
      rw [ix, obind_some, e2, mf, obind_some]
      have ef : fnd (fun b => (setI M 191 0 0).1 200 (0 + (b : Int))) x2 (V 0 3).toNat = fnd (fun b => V 4 (b : Int)) x2 (V 0 3).toNat := fnd_congr (fun b hb => by
        show (setI M 191 0 0).1 200 (0 + (b : Int)) = _
        rw [(fS 200 _ (by omega)).1, show (0 : Int) + (b : Int) = (b : Int) by omega]
        exact (hM.2.2.1 b (by omega) (by omega)).1)
      rw [ef]
      exact ⟨_, _, rfl, rfl⟩
    · rw [if_neg c, if_neg c]
      exact ⟨_, _, rfl, rfl⟩
