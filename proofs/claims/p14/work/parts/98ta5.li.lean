/-- the reference's scratch -/
def QmW : Nat → Int → Prop := fun q j => (q = 191 ∧ j ≠ 2 ∧ j ≠ 26 ∧ j ≠ 27 ∧ j ≠ 42 ∧ j ≠ 43 ∧ j ≠ 44 ∧ j ≠ 60 ∧ j ≠ 61) ∨ CW 1 q j ∨ (219 ≤ q ∧ q ≤ 225) ∨ q = 229 ∨ q = 230
theorem LI.qm {M N : Mem} (h : LI M) (hI : IM N) (hF : Fr QmW M N) : LI N := by
  have h' := h
  obtain ⟨h1, ⟨V, h2, hX, hL⟩, -⟩ := h
  exact h'.two hX hI (h2.fr hF (fun k j a z => by unfold RIc at a; unfold QmW CW at z; omega)) (hL.frf h2.1.1 h2.yr hF (fun k j a z => by unfold RLf at a; unfold QmW CW at z; omega)) (hF.mono (fun k j z => by unfold QmW CW at z; unfold KpA; omega))
theorem LI.at0 {M : Mem} (h : LI M) : LI (setI M 191 0 0) := h.qm (h.1.setI (inr_c rfl)) (Fr.rf.setI (by unfold QmW; omega))
/-! congruence of steps -/
