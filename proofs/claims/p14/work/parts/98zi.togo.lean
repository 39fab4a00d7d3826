theorem togo_loop {x1 : Int} {M N : Mem} {V : TV} {f A : Int → Int} (hV : VOK V) (hX : CT0 M (M.1 0 4).toNat V) (hA : ∀ t, 0 ≤ t → t < V 0 3 → M.1 (47 + 2) t = A t ∧ N.1 213 t = A t ∧ 0 ≤ A t ∧ A t < cellsV V) (hf : stepOK f (cellsV V)) (hC : ∀ c, 0 ≤ c → c < cellsV V → t_Scene_nextOf M 47 (M.1 0 4).toNat c = f c) (hN : MT0 N V) (hM : ∀ c, 0 ≤ c → c < cellsV V → t_MO_nextOf N 0 c = some (f c)) : ∀ (n i fu fu' : Nat) (v : Int), (i : Int) + (n : Int) = V 0 3 → n < fu → n < fu' → 0 ≤ v → v ≤ (i : Int) → ∃ r, t_Scene_thingsToGo_L4 47 (M.1 0 4).toNat fu M v (i : Int) = some r ∧ t_MO_count_L164 x1 fu' N v (i : Int) = some (N, r) := by
  have hv := hV.1
  intro n
  induction n with
  | zero =>
    intro i fu fu' v g0 g1 g2 v0 v1
    obtain ⟨g, rfl⟩ : ∃ g, fu = g + 1 := ⟨fu - 1, by omega⟩
    obtain ⟨g', rfl⟩ : ∃ g, fu' = g + 1 := ⟨fu' - 1, by omega⟩
    refine ⟨v, ?_, ?_⟩
    · rw [t_Scene_thingsToGo_L4, hX.1.2.2.2.1, if_pos (by omega)]
    · rw [t_MO_count_L164, hN.1.2.2.2.1, if_pos (by omega)]
  | succ n ih =>
    intro i fu fu' v g0 g1 g2 v0 v1
    obtain ⟨g, rfl⟩ : ∃ g, fu = g + 1 := ⟨fu - 1, by omega⟩
    obtain ⟨g', rfl⟩ : ∃ g, fu' = g + 1 := ⟨fu' - 1, by omega⟩
    obtain ⟨a1, a2, a3, a4⟩ := hA (i : Int) (by omega) (by omega)
    have hs := hf (A (i : Int)) a3 a4
    rw [t_Scene_thingsToGo_L4, t_MO_count_L164, hX.1.2.2.2.1, hN.1.2.2.2.1, if_neg (by omega), if_neg (by omega), qguard_pos ⟨by omega, by omega⟩, a2, hM _ a3 a4, obind_some]
    unfold t_Scene_thingsToGo_L31 t_MO_count_L196
    simp (config := { proj := false }) only [qlet]
    rw [look_in (by omega) (by omega), a1, hC _ a3 a4, w32_succ (by omega)]
    by_cases c : f (A (i : Int)) < 0
    · rw [if_pos c, if_pos (show f (A (i : Int)) = -1 by omega)]
      rw [show v + 0 = v by omega, w32_id (x := v) (by unfold InR; omega)]
      exact ih (i + 1) g g' v (by omega) (by omega) (by omega) v0 (by omega)
    · rw [if_neg c, if_neg (show ¬ f (A (i : Int)) = -1 by omega), w32_id (x := v + 1) (by unfold InR; omega)]
      exact ih (i + 1) g g' (v + 1) (by omega) (by omega) (by omega) (by omega) (by omega)
