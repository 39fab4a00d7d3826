/-! ===== the reference's rows that can be brought back ===== -/
theorem RowEq.other {M N : Mem} {a b : Int} (hF : Fr (CW b) M N) (h : a ≠ b) : RowEq N a M a := RowEq.fr hF (fun k j h1 h2 => by unfold CW at h1 h2; omega)
/-- what keepNow writes -/
def KW : Nat → Int → Prop := fun k j => (k = 191 ∧ j = 43) ∨ ((207 ≤ k ∧ k ≤ 211) ∧ 3 ≤ j) ∨ (k = 212 ∧ 12 ≤ j) ∨ ((213 ≤ k ∧ k ≤ 215) ∧ 24 ≤ j)
theorem CW_KW {a : Int} (h : 3 ≤ a) : ∀ k j, CW a k j → KW k j := by
  intro k j hk; unfold CW at hk; unfold KW; omega
theorem m_keepNow_L45 {M0 M : Mem} {u : Int} (hu : 0 ≤ u ∧ u < 20) (hF : Fr KW M0 M) (e : M.1 191 43 = u) : ∃ N, t_MO_keepNow_L45 M = some N ∧ Fr KW M0 N ∧ Fr (fun k j => CW (3 + u) k j ∨ (k = 191 ∧ j = 43)) M N ∧ RowEq N (3 + u) M 0 ∧ N.1 191 43 = u + 1 := by
  unfold t_MO_keepNow_L45
  rw [e, w32_id (by unfold InR; omega)]
  obtain ⟨N, e1, e2, e3⟩ := m_copies (M := M) (x1 := 3 + u) (x2 := 0) (by omega) (by omega) (by omega)
  rw [e1, obind_some]
  simp only [qlet]
  have e4 : N.1 191 43 = u := by rw [(e2 191 43 (by unfold CW; omega)).1]; exact e
  rw [e4, w32_id (by unfold InR; omega)]
  refine ⟨_, rfl, (hF.trans (e2.mono (CW_KW (by omega)))).setI (Or.inl ⟨rfl, rfl⟩), (e2.mono (fun k j h => Or.inl h)).setI (Or.inr ⟨rfl, rfl⟩), ?_, sI_self _ _ _ _⟩
  exact (RowEq.fr (W := fun k j => k = 191 ∧ j = 43) (M := N) (Fr.rf.setI ⟨rfl, rfl⟩) (fun k j h q => by unfold CW at h; omega)).trans e3
theorem m_keepNow_L11 {M0 : Mem} (h20 : M0.1 191 43 = 20) : ∀ (n fu : Nat) (M : Mem) (v : Int), v + (n : Int) = 20 → 1 ≤ v → n < fu → Fr (fun k j => KW k j ∧ ¬ (k = 191 ∧ j = 43)) M0 M → (∀ k, 0 ≤ k → k < v - 1 → RowEq M (3 + k) M0 (4 + k)) → (∀ k, v - 1 ≤ k → k < 20 → RowEq M (3 + k) M0 (3 + k)) →
    ∃ N, t_MO_keepNow_L11 fu M v = some N ∧ Fr KW M0 N ∧ (∀ k, 0 ≤ k → k < 19 → RowEq N (3 + k) M0 (4 + k)) ∧ RowEq N 22 M0 0 ∧ N.1 191 43 = 20 := by
  intro n
  induction n with
  | zero =>
    intro fu M v g0 g1 g2 hF ha hb
    obtain ⟨g, rfl⟩ : ∃ g, fu = g + 1 := ⟨fu - 1, by omega⟩
    have hv : v = 20 := by omega
    have e43 : M.1 191 43 = 20 := by rw [(hF 191 43 (by omega)).1]; exact h20
    rw [t_MO_keepNow_L11, if_pos (by omega), e43, w32_id (by unfold InR; omega)]
    simp only [qlet]
    have hF1 : Fr KW M0 (setI M 191 43 (20 - 1)) := (hF.mono (fun k j h => h.1)).setI (Or.inl ⟨rfl, rfl⟩)
    have hs : ∀ a : Int, RowEq (setI M 191 43 (20 - 1)) a M a := fun a => RowEq.fr (W := fun k j => k = 191 ∧ j = 43) (Fr.rf.setI ⟨rfl, rfl⟩) (fun k j h q => by unfold CW at h; omega)
    obtain ⟨N, e1, e2, e3, e4, e5⟩ := m_keepNow_L45 (u := 19) (by omega) hF1 (by rw [sI_self]; rfl)
    have hr : ∀ a : Int, a ≠ 22 → RowEq N a (setI M 191 43 (20 - 1)) a := fun a h => RowEq.fr e3 (fun k j h1 h2 => by unfold CW at h1 h2; omega)
    refine ⟨N, e1, e2, fun k a b => ((hr _ (by omega)).trans (hs _)).trans (ha k a (by omega)), ?_, by rw [e5]; rfl⟩
    refine (e4.trans (hs 0)).trans ?_
    exact RowEq.fr hF (fun k j h1 h2 => by unfold CW at h1; unfold KW at h2; omega)
  | succ n ih =>
    intro fu M v g0 g1 g2 hF ha hb
    obtain ⟨g, rfl⟩ : ∃ g, fu = g + 1 := ⟨fu - 1, by omega⟩
    rw [t_MO_keepNow_L11, if_neg (by omega), w32_id (x := 3 + v) (by unfold InR; omega), w32_id (x := 3 + v - 1) (by unfold InR; omega), w32_id (x := v + 1) (by unfold InR; omega)]
    obtain ⟨N, e1, e2, e3⟩ := m_copies (M := M) (x1 := 3 + v - 1) (x2 := 3 + v) (by omega) (by omega) (by omega)
    rw [e1, obind_some]
    refine ih g N (v + 1) (by omega) (by omega) (by omega) (hF.trans (e2.mono (fun k j h => ⟨CW_KW (by omega) k j h, fun q => by unfold CW at h; omega⟩))) (fun k a b => ?_) (fun k a b => ?_)
    · by_cases e : k = v - 1
      · subst e
        have r := hb v (by omega) (by omega)
        rw [show 3 + (v - 1) = 3 + v - 1 by omega, show 4 + (v - 1) = 3 + v by omega]
        exact e3.trans r
      · exact (RowEq.other e2 (by omega)).trans (ha k a (by omega))
    · exact (RowEq.other e2 (by omega)).trans (hb k (by omega) b)
theorem m_keepNow_less {M : Mem} {u : Int} (hu : 0 ≤ u ∧ u < 20) (e : M.1 191 43 = u) : ∃ N, t_MO_keepNow M = some N ∧ Fr KW M N ∧ Fr (fun k j => CW (3 + u) k j ∨ (k = 191 ∧ j = 43)) M N ∧ RowEq N (3 + u) M 0 ∧ N.1 191 43 = u + 1 := by
  unfold t_MO_keepNow
  rw [if_neg (by omega)]
  exact m_keepNow_L45 hu Fr.rf e
theorem m_keepNow_full {M : Mem} (e : M.1 191 43 = 20) : ∃ N, t_MO_keepNow M = some N ∧ Fr KW M N ∧ (∀ k, 0 ≤ k → k < 19 → RowEq N (3 + k) M (4 + k)) ∧ RowEq N 22 M 0 ∧ N.1 191 43 = 20 := by
  unfold t_MO_keepNow
  rw [if_pos e]
  exact m_keepNow_L11 e 19 FU M 1 (by omega) (by omega) (fu_big (by omega)) Fr.rf (fun k a b => by omega) (fun k a b => RowEq.rf)
/-- RI through writes to the rows that can be brought back -/
theorem RI.keep {M N : Mem} {V : TV} (h : RI M V) (hF : Fr KW M N) (h0 : 0 ≤ N.1 191 43 ∧ N.1 191 43 ≤ 20) (hr : ∀ k, 0 ≤ k → k < N.1 191 43 → ∃ b, RowEq N (3 + k) M b ∧ (b = 0 ∨ ∃ i, b = 3 + i ∧ 0 ≤ i ∧ i < M.1 191 43)) : RI N V := by
  obtain ⟨⟨a1, a2, a3, a4⟩, b, ⟨c1, c2⟩, ⟨d1, d2⟩, ⟨e1, e2, e3⟩, f⟩ := h
  have row : ∀ a : Int, 0 ≤ a → a < 3 → RowEq N a M a := fun a x y => RowEq.fr hF (fun k j hk q => by unfold CW at hk; unfold KW at q; omega)
  have q : ∀ j : Int, (j = 42 ∨ j = 44) → N.1 191 j = M.1 191 j := fun j hj => (hF 191 j (by unfold KW; omega)).1
  have q0 := row 0 (by omega) (by omega)
  refine ⟨⟨a1, MT0.fr hF (fun k j x y => by unfold KW; omega) a2, a3, MF1.fr hF (fun k j x y => by unfold KW; omega) a4.1, MF1.fr hF (fun k j x y => by unfold KW; omega) a4.2⟩, by rw [q 44 (by omega)]; exact b, ⟨c1.of a1 q0, by rw [q0.1.1, q0.1.2.2.1]; exact c2⟩, ⟨by rw [q 42 (by omega)]; exact d1, fun h => ?_⟩, ⟨h0.1, h0.2, fun k x y => ?_⟩, f.fr hF (fun k j x => by unfold KW; omega)⟩
  · have q2 := row 2 (by omega) (by omega)
    obtain ⟨r1, r2⟩ := d2 (by rw [← q 42 (by omega)]; exact h)
    exact ⟨r1.of a1 q2, by rw [q2.1.1, q2.1.2.2.1]; exact r2⟩
  · obtain ⟨bb, r, hb⟩ := hr k x y
    have hq : RowOK M bb V ∧ M.1 207 bb = M.1 207 0 ∧ M.1 208 bb = M.1 208 0 ∧ M.1 209 bb = M.1 209 0 := by
      rcases hb with rfl | ⟨i, rfl, i0, i1⟩
      · exact ⟨c1, rfl, rfl, rfl⟩
      · exact e3 i i0 i1
    exact ⟨hq.1.of a1 r, by rw [r.1.1, q0.1.1]; exact hq.2.1, by rw [r.1.2.1, q0.1.2.1]; exact hq.2.2.1, by rw [r.1.2.2.1, q0.1.2.2.1]; exact hq.2.2.2⟩
theorem ri_keepNow {M : Mem} {V : TV} (h : RI M V) : Ok (fun N => RI N V ∧ Fr KW M N) (t_MO_keepNow M) := by
  have hu := h.2.2.2.2.1
  by_cases c : M.1 191 43 = 20
  · obtain ⟨N, e1, e2, e3, e4, e5⟩ := m_keepNow_full c
    refine ⟨N, e1, h.keep e2 (by omega) (fun k a b => ?_), e2⟩
    by_cases q : k = 19
    · subst q; exact ⟨0, e4, Or.inl rfl⟩
    · exact ⟨4 + k, e3 k a (by omega), Or.inr ⟨1 + k, by omega, by omega, by omega⟩⟩
  · obtain ⟨N, e1, e2, e3, e4, e5⟩ := m_keepNow_less (M := M) (u := M.1 191 43) (by omega) rfl
    refine ⟨N, e1, h.keep e2 (by omega) (fun k a b => ?_), e2⟩
    by_cases q : k = M.1 191 43
    · rw [q]; exact ⟨0, e4, Or.inl rfl⟩
    · exact ⟨3 + k, RowEq.fr e3 (fun k' j h1 h2 => by unfold CW at h1 h2; omega), Or.inr ⟨k, by omega, by omega, by omega⟩⟩
