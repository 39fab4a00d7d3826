/-! ===== what both sides keep between calls ===== -/
def TPt (M : Mem) : Prop := (M.1 0 4 = 2 ∧ M.1 0 5 = 22) ∨ (M.1 0 4 = 22 ∧ M.1 0 5 = 2)
def TpE (M : Mem) : Prop := ∀ j, 0 ≤ j → j < M.1 0 1 → M.1 1 j = M.1 192 j
def FE (M : Mem) : Prop := M.1 0 2 = M.1 191 26 ∧ M.1 0 3 = M.1 191 27
def LI (M : Mem) : Prop := IM M ∧ (∃ V, RI M V ∧ CTx M (M.1 0 4).toNat V ∧ RL M V) ∧ TInv M ∧ TPt M ∧ M.1 0 1 = M.1 191 2 ∧ TpE M ∧ FE M
theorem ok_mono {α : Type} {P Q : α → Prop} {x : Option α} (h : Ok P x) (g : ∀ r, P r → Q r) : Ok Q x := by
  obtain ⟨r, e, hr⟩ := h
  exact ⟨r, e, g r hr⟩
theorem TpE.fr {W : Nat → Int → Prop} {M N : Mem} (h : TpE M) (hF : Fr W M N) (hd : ∀ k j, (k = 1 ∨ k = 192 ∨ (k = 0 ∧ j = 1)) → ¬ W k j) : TpE N := by
  unfold TpE
  rw [(hF 0 1 (hd _ _ (by omega))).1]
  intro j a b
  rw [(hF 1 j (hd _ _ (by omega))).1, (hF 192 j (hd _ _ (by omega))).1]
  exact h j a b
theorem FE.fr {W : Nat → Int → Prop} {M N : Mem} (h : FE M) (hF : Fr W M N) (hd : ∀ k j, ((k = 0 ∧ (j = 2 ∨ j = 3)) ∨ (k = 191 ∧ (j = 26 ∨ j = 27))) → ¬ W k j) : FE N := by
  unfold FE
  rw [(hF 0 2 (hd _ _ (by omega))).1, (hF 0 3 (hd _ _ (by omega))).1, (hF 191 26 (hd _ _ (by omega))).1, (hF 191 27 (hd _ _ (by omega))).1]
  exact h
theorem LI.T {M : Mem} (h : LI M) : M.1 0 4 = (((M.1 0 4).toNat : Nat) : Int) ∧ ((M.1 0 4).toNat = 2 ∨ (M.1 0 4).toNat = 22) := by
  have := h.2.2.2.1
  unfold TPt at this
  omega
/-- what no call but feed and text writes -/
def KpA : Nat → Int → Prop := fun k j => k ≠ 1 ∧ ¬ (k = 0 ∧ 1 ≤ j ∧ j ≤ 5) ∧ k ≠ 192 ∧ ¬ (k = 191 ∧ (j = 2 ∨ j = 26 ∨ j = 27)) ∧ (k ≤ 1 ∨ 42 ≤ k ∨ k = 15 ∨ k = 20 ∨ k = 35 ∨ k = 40)
theorem LI.two {M P : Mem} {V : TV} (h : LI M) (hX : CTx M (M.1 0 4).toNat V) (hI : IM P) (hR : RI P V) (hRL : RL P V) (hF : Fr KpA M P) : LI P := by
  have hT := h.T
  obtain ⟨-, -, h3, h4, h5, h6, h7⟩ := h
  have e : ∀ k j, ¬ KpA k j → P.1 k j = M.1 k j := fun k j z => (hF k j z).1
  have e1 := e 0 1 (by unfold KpA; omega)
  have e4 := e 0 4 (by unfold KpA; omega)
  have e5 := e 0 5 (by unfold KpA; omega)
  have e2 := e 191 2 (by unfold KpA; omega)
  refine ⟨hI, ⟨V, hR, ?_, hRL⟩, h3.fr hF (fun k j a z => by unfold KpA at z; omega), ?_, by omega, h6.fr hF (fun k j a z => by unfold KpA at z; omega), h7.fr hF (fun k j a z => by unfold KpA at z; omega)⟩
  · rw [e4]
    exact hX.fr hF (fun k j a z => by unfold CxW at a; unfold KpA at z; omega)
  · unfold TPt
    rw [e4, e5]
    exact h4
