/-- class's scratch -/
def QkW : Nat → Int → Prop := fun q j => (52 ≤ q ∧ q ≤ 56) ∨ (q = 172 ∧ j = 4) ∨ q = 176 ∨ (q = 177 ∧ ¬ (6 ≤ j ∧ j ≤ 8)) ∨ (178 ≤ q ∧ q ≤ 183) ∨ (185 ≤ q ∧ q ≤ 190) ∨ q = 231 ∨ q = 15 ∨ q = 20 ∨ q = 35 ∨ q = 40
theorem LI.q {M N : Mem} (h : LI M) (hI : IM N) (hF : Fr QkW M N) : LI N := by
  have h' := h
  obtain ⟨h1, ⟨V, h2, hX, hL⟩, -⟩ := h
  exact h'.two hX hI (h2.fr hF (fun k j a z => by unfold RIc at a; unfold QkW at z; omega)) (hL.frf h2.1.1 h2.yr hF (fun k j a z => by unfold RLf at a; unfold QkW at z; omega)) (hF.mono (fun k j z => by unfold QkW at z; unfold KpA; omega))
/-- class's scratch, with its table of votes -/
def QcW : Nat → Int → Prop := fun q j => QkW q j ∨ q = 177 ∨ q = 184
theorem LI.qc {M N : Mem} (h : LI M) (hI : IM N) (hF : Fr QcW M N) (hc : ∀ V, RI M V → CTx M (M.1 0 4).toNat V → RL M V → CaR N V) : LI N := by
  have h' := h
  obtain ⟨h1, ⟨V, h2, hX, hL⟩, -⟩ := h
  exact h'.two hX hI (h2.fr hF (fun k j a z => by unfold RIc at a; unfold QcW QkW at z; omega)) (hL.fr0 h2.1.1 h2.yr hF (fun k j a z => by have a := rld_flat a; unfold RLf at a; unfold QcW QkW at z; omega) (hc V h2 hX hL)) (hF.mono (fun k j z => by unfold QcW QkW at z; unfold KpA; omega))
