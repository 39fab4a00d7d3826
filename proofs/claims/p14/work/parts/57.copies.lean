/-! ===== the reference's rows of scenes: copies ===== -/
theorem sL_fst (M : Mem) (k : Nat) (j : Int) (v : Int64) : (setL M k j v).1 = M.1 := rfl
theorem sI_snd (M : Mem) (k : Nat) (j v : Int) : (setI M k j v).2 = M.2 := rfl
def CW (to : Int) : Nat → Int → Prop := fun k j => ((k = 207 ∨ k = 208 ∨ k = 209 ∨ k = 210 ∨ k = 211) ∧ j = to) ∨ (k = 212 ∧ 4 * to ≤ j ∧ j < 4 * to + 4) ∨ ((k = 213 ∨ k = 214 ∨ k = 215) ∧ 8 * to ≤ j ∧ j < 8 * to + 8)
/-- row `a` of N is as row `b` of M -/
def RowEq (N : Mem) (a : Int) (M : Mem) (b : Int) : Prop := (N.1 207 a = M.1 207 b ∧ N.1 208 a = M.1 208 b ∧ N.1 209 a = M.1 209 b ∧ N.2 210 a = M.2 210 b ∧ N.2 211 a = M.2 211 b) ∧ (∀ w, 0 ≤ w → w < 4 → N.1 212 (4 * a + w) = M.1 212 (4 * b + w)) ∧ ∀ t, 0 ≤ t → t < 8 → N.1 213 (8 * a + t) = M.1 213 (8 * b + t) ∧ N.1 214 (8 * a + t) = M.1 214 (8 * b + t) ∧ N.1 215 (8 * a + t) = M.1 215 (8 * b + t)
theorem RowEq.rf {M : Mem} {a : Int} : RowEq M a M a := ⟨⟨rfl, rfl, rfl, rfl, rfl⟩, fun _ _ _ => rfl, fun _ _ _ => ⟨rfl, rfl, rfl⟩⟩
theorem RowEq.trans {M N O : Mem} {a b c : Int} (h : RowEq M a N b) (g : RowEq N b O c) : RowEq M a O c := by
  obtain ⟨⟨h1, h2, h3, h4, h5⟩, h6, h7⟩ := h
  obtain ⟨⟨g1, g2, g3, g4, g5⟩, g6, g7⟩ := g
  exact ⟨⟨h1.trans g1, h2.trans g2, h3.trans g3, h4.trans g4, h5.trans g5⟩, fun w a b => (h6 w a b).trans (g6 w a b), fun t a b => ⟨(h7 t a b).1.trans (g7 t a b).1, (h7 t a b).2.1.trans (g7 t a b).2.1, (h7 t a b).2.2.trans (g7 t a b).2.2⟩⟩
theorem RowEq.fr {W : Nat → Int → Prop} {M N : Mem} {a : Int} (hF : Fr W M N) (h : ∀ k j, CW a k j → ¬ W k j) : RowEq N a M a := by
  refine ⟨⟨(hF _ _ (h _ _ ?_)).1, (hF _ _ (h _ _ ?_)).1, (hF _ _ (h _ _ ?_)).1, (hF _ _ (h _ _ ?_)).2, (hF _ _ (h _ _ ?_)).2⟩, fun w a b => (hF _ _ (h _ _ ?_)).1, fun t a b => ⟨(hF _ _ (h _ _ ?_)).1, (hF _ _ (h _ _ ?_)).1, (hF _ _ (h _ _ ?_)).1⟩⟩ <;> unfold CW <;> omega
theorem m_copies_L95 {M0 : Mem} {x1 x2 : Int} (h1 : 0 ≤ x1 ∧ x1 < 23) (h2 : 0 ≤ x2 ∧ x2 < 23) (hne : x1 ≠ x2) : ∀ (n fu : Nat) (M : Mem) (v : Int), v + (n : Int) = 8 → 0 ≤ v → n < fu → Fr (CW x1) M0 M → (∀ t, 0 ≤ t → t < v → M.1 213 (8 * x1 + t) = M0.1 213 (8 * x2 + t) ∧ M.1 214 (8 * x1 + t) = M0.1 214 (8 * x2 + t) ∧ M.1 215 (8 * x1 + t) = M0.1 215 (8 * x2 + t)) →
    ∃ N, t_MO_copies_L95 x1 x2 fu M v = some N ∧ Fr (CW x1) M0 N ∧ (∀ k j, k ≠ 213 → k ≠ 214 → k ≠ 215 → N.1 k j = M.1 k j ∧ N.2 k j = M.2 k j) ∧ (∀ t, 0 ≤ t → t < 8 → N.1 213 (8 * x1 + t) = M0.1 213 (8 * x2 + t) ∧ N.1 214 (8 * x1 + t) = M0.1 214 (8 * x2 + t) ∧ N.1 215 (8 * x1 + t) = M0.1 215 (8 * x2 + t)) := by
  intro n
  induction n with
  | zero =>
    intro fu M v g0 g1 g2 hF hc
    obtain ⟨g, rfl⟩ : ∃ g, fu = g + 1 := ⟨fu - 1, by omega⟩
    rw [t_MO_copies_L95, if_pos (by omega)]
    exact ⟨M, rfl, hF, fun _ _ _ _ _ => ⟨rfl, rfl⟩, fun t a b => hc t a (by omega)⟩
  | succ n ih =>
    intro fu M v g0 g1 g2 hF hc
    obtain ⟨g, rfl⟩ : ∃ g, fu = g + 1 := ⟨fu - 1, by omega⟩
    rw [t_MO_copies_L95, if_neg (by omega), w32_id (x := 8 * x2) (by unfold InR; omega), w32_id (x := 8 * x1) (by unfold InR; omega), w32_id (x := 8 * x2 + v) (by unfold InR; omega), w32_id (x := 8 * x1 + v) (by unfold InR; omega), w32_id (x := v + 1) (by unfold InR; omega)]
    simp only [qlet]
    rw [qguard_pos ⟨by omega, by omega⟩, qguard_pos ⟨by omega, by omega⟩, qguard_pos ⟨by omega, by omega⟩, qguard_pos ⟨by omega, by omega⟩, qguard_pos ⟨by omega, by omega⟩, qguard_pos ⟨by omega, by omega⟩]
    have s1 : ∀ k, (k = 213 ∨ k = 214 ∨ k = 215) → M.1 k (8 * x2 + v) = M0.1 k (8 * x2 + v) := fun k hk => (hF k _ (by unfold CW; omega)).1
    have hF3 := ((hF.setI (k := 213) (j := 8 * x1 + v) (v := M.1 213 (8 * x2 + v)) (by unfold CW; omega)).setI (k := 214) (j := 8 * x1 + v) (v := uI M.1 213 (8 * x1 + v) (M.1 213 (8 * x2 + v)) 214 (8 * x2 + v)) (by unfold CW; omega)).setI (k := 215) (j := 8 * x1 + v) (v := (setI (setI M 213 (8 * x1 + v) (M.1 213 (8 * x2 + v))) 214 (8 * x1 + v) (uI M.1 213 (8 * x1 + v) (M.1 213 (8 * x2 + v)) 214 (8 * x2 + v))).1 215 (8 * x2 + v)) (by unfold CW; omega)
    obtain ⟨N, e1, e2, e3, e4⟩ := ih g _ (v + 1) (by omega) (by omega) (by omega) hF3 (fun t a b => by
      by_cases e : t = v
      · subst e
        refine ⟨?_, ?_, ?_⟩
        · rw [sI_ne (by omega), sI_ne (by omega), sI_self]; exact s1 213 (by omega)
        · rw [sI_ne (by omega), sI_self, uI_ne _ _ (by omega)]; exact s1 214 (by omega)
        · rw [sI_self, sI_ne (by omega), sI_ne (by omega)]; exact s1 215 (by omega)
      · have := hc t a (by omega)
        refine ⟨?_, ?_, ?_⟩
        · rw [sI_ne (by omega), sI_ne (by omega), sI_ne (by omega)]; exact this.1
        · rw [sI_ne (by omega), sI_ne (by omega), sI_ne (by omega)]; exact this.2.1
        · rw [sI_ne (by omega), sI_ne (by omega), sI_ne (by omega)]; exact this.2.2)
    refine ⟨N, e1, e2, fun k j a b c => ?_, e4⟩
    refine ⟨(e3 k j a b c).1.trans ?_, (e3 k j a b c).2⟩
    rw [sI_ne (by omega), sI_ne (by omega), sI_ne (by omega)]
theorem m_copies_L62 {M0 : Mem} {x1 x2 : Int} (h1 : 0 ≤ x1 ∧ x1 < 23) (h2 : 0 ≤ x2 ∧ x2 < 23) (hne : x1 ≠ x2) : ∀ (n fu : Nat) (M : Mem) (v : Int), v + (n : Int) = 4 → 0 ≤ v → n < fu → Fr (CW x1) M0 M → (∀ t, 0 ≤ t → t < v → M.1 212 (4 * x1 + t) = M0.1 212 (4 * x2 + t)) →
    ∃ N, t_MO_copies_L62 x1 x2 fu M v = some N ∧ Fr (CW x1) M0 N ∧ (∀ k j, k ≠ 212 → k ≠ 213 → k ≠ 214 → k ≠ 215 → N.1 k j = M.1 k j ∧ N.2 k j = M.2 k j) ∧ (∀ t, 0 ≤ t → t < 4 → N.1 212 (4 * x1 + t) = M0.1 212 (4 * x2 + t)) ∧ (∀ t, 0 ≤ t → t < 8 → N.1 213 (8 * x1 + t) = M0.1 213 (8 * x2 + t) ∧ N.1 214 (8 * x1 + t) = M0.1 214 (8 * x2 + t) ∧ N.1 215 (8 * x1 + t) = M0.1 215 (8 * x2 + t)) := by
  intro n
  induction n with
  | zero =>
    intro fu M v g0 g1 g2 hF hc
    obtain ⟨g, rfl⟩ : ∃ g, fu = g + 1 := ⟨fu - 1, by omega⟩
    rw [t_MO_copies_L62, if_pos (by omega)]
    obtain ⟨N, e1, e2, e3, e4⟩ := m_copies_L95 h1 h2 hne 8 FU M 0 (by omega) (by omega) (fu_big (by omega)) hF (fun t a b => by omega)
    exact ⟨N, e1, e2, fun k j _ b c d => e3 k j b c d, fun t a b => (e3 212 _ (by omega) (by omega) (by omega)).1.trans (hc t a (by omega)), e4⟩
  | succ n ih =>
    intro fu M v g0 g1 g2 hF hc
    obtain ⟨g, rfl⟩ : ∃ g, fu = g + 1 := ⟨fu - 1, by omega⟩
    rw [t_MO_copies_L62, if_neg (by omega), w32_id (x := 4 * x2) (by unfold InR; omega), w32_id (x := 4 * x1) (by unfold InR; omega), w32_id (x := 4 * x2 + v) (by unfold InR; omega), w32_id (x := 4 * x1 + v) (by unfold InR; omega), w32_id (x := v + 1) (by unfold InR; omega)]
    simp only [qlet]
    rw [qguard_pos ⟨by omega, by omega⟩, qguard_pos ⟨by omega, by omega⟩]
    have s1 : M.1 212 (4 * x2 + v) = M0.1 212 (4 * x2 + v) := (hF 212 _ (by unfold CW; omega)).1
    obtain ⟨N, e1, e2, e3, e4⟩ := ih g _ (v + 1) (by omega) (by omega) (by omega) (hF.setI (k := 212) (j := 4 * x1 + v) (v := M.1 212 (4 * x2 + v)) (by unfold CW; omega)) (fun t a b => by
      by_cases e : t = v
      · subst e; rw [sI_self]; exact s1
      · rw [sI_ne (by omega)]; exact hc t a (by omega))
    refine ⟨N, e1, e2, fun k j a b c d => ?_, e4⟩
    refine ⟨(e3 k j a b c d).1.trans ?_, (e3 k j a b c d).2⟩
    rw [sI_ne (by omega)]
theorem m_copies {M : Mem} {x1 x2 : Int} (h1 : 0 ≤ x1 ∧ x1 < 23) (h2 : 0 ≤ x2 ∧ x2 < 23) (hne : x1 ≠ x2) : ∃ N, t_MO_copies M x1 x2 = some N ∧ Fr (CW x1) M N ∧ RowEq N x1 M x2 := by
  unfold t_MO_copies
  simp only [qlet]
  simp only [qguard_pos h1, qguard_pos h2]
  have hF : Fr (CW x1) M (setL (setL (setI (setI (setI M 207 x1 (M.1 207 x2)) 208 x1 ((setI M 207 x1 (M.1 207 x2)).1 208 x2)) 209 x1 ((setI (setI M 207 x1 (M.1 207 x2)) 208 x1 ((setI M 207 x1 (M.1 207 x2)).1 208 x2)).1 209 x2)) 210 x1 (M.2 210 x2)) 211 x1 (M.2 211 x2)) := ((((Fr.rf.setI (by unfold CW; omega)).setI (by unfold CW; omega)).setI (by unfold CW; omega)).setL (by unfold CW; omega)).setL (by unfold CW; omega)
  obtain ⟨N, e1, e2, e3, e4, e5⟩ := m_copies_L62 h1 h2 hne 4 FU _ 0 (by omega) (by omega) (fu_big (by omega)) hF (fun t a b => by omega)
  refine ⟨N, ?_, e2, ⟨?_, ?_, ?_, ?_, ?_⟩, e4, e5⟩
  · rw [← e1]; rfl
  · rw [(e3 207 x1 (by omega) (by omega) (by omega) (by omega)).1]
    rw [sL_fst, sL_fst, sI_ne (by omega), sI_ne (by omega), sI_self]
  · rw [(e3 208 x1 (by omega) (by omega) (by omega) (by omega)).1]
    rw [sL_fst, sL_fst, sI_ne (by omega), sI_self, sI_ne (by omega)]
  · rw [(e3 209 x1 (by omega) (by omega) (by omega) (by omega)).1]
    rw [sL_fst, sL_fst, sI_self, sI_ne (by omega), sI_ne (by omega)]
  · rw [(e3 210 x1 (by omega) (by omega) (by omega) (by omega)).2, sL_ne (by omega), sL_self]
  · rw [(e3 211 x1 (by omega) (by omega) (by omega) (by omega)).2, sL_self]
