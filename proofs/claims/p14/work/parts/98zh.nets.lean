/-! ===== nets, counts ===== -/
theorem nets_loop {M N : Mem} {V : TV} {f : Int → Int} (hV : VOK V) (hw : ∀ c, 0 ≤ c → c < cellsV V → tb (M.2 47 4) c = wlV V c) (h13 : M.1 (M.1 0 4).toNat 13 = cellsV V) (hX : CT0 M (M.1 0 4).toNat V) (hf : stepOK f (cellsV V)) (hC : ∀ c, 0 ≤ c → c < cellsV V → t_Scene_nextOf M 47 (M.1 0 4).toNat c = f c) (hN : MT0 N V) (hM : ∀ c, 0 ≤ c → c < cellsV V → t_MO_nextOf N 0 c = some (f c)) : ∀ (n i fu fu' : Nat) (v : Int64), (i : Int) + (n : Int) = cellsV V → n < fu → n < fu' → ∃ r, t_WF_nets_L4 fu M v (i : Int) = some r ∧ t_MO_nets_L9 fu' N v (i : Int) = some (N, r) := by
  have hc := hV.cells
  intro n
  induction n with
  | zero =>
    intro i fu fu' v g0 g1 g2
    obtain ⟨g, rfl⟩ : ∃ g, fu = g + 1 := ⟨fu - 1, by omega⟩
    obtain ⟨g', rfl⟩ : ∃ g, fu' = g + 1 := ⟨fu' - 1, by omega⟩
    refine ⟨v, ?_, ?_⟩
    · rw [t_WF_nets_L4, h13, if_pos (by omega)]
    · rw [t_MO_nets_L9]
      simp (config := { proj := false }) only [qlet]
      rw [m_cells hN hV, if_pos (by omega)]
  | succ n ih =>
    intro i fu fu' v g0 g1 g2
    obtain ⟨g, rfl⟩ : ∃ g, fu = g + 1 := ⟨fu - 1, by omega⟩
    obtain ⟨g', rfl⟩ : ∃ g, fu' = g + 1 := ⟨fu' - 1, by omega⟩
    have hs := hf (i : Int) (by omega) (by omega)
    have ho := hV.2.2.2 (i : Int) (by omega) (by omega)
    have o8 := (hN.2.2.2 (i : Int) (by omega) (by omega)).2.1
    have ec : t_WF_nets_L4 (g + 1) M v (i : Int) = if V 8 (i : Int) = 1 then t_WF_nets_L4 g M v ((i + 1 : Nat) : Int) else if f (i : Int) < 0 then t_WF_nets_L4 g M v ((i + 1 : Nat) : Int) else if lnV V (i : Int) (f (i : Int)) = 0 then t_WF_nets_L4 g M v ((i + 1 : Nat) : Int) else t_WF_nets_L4 g M (v ||| q_lshl 1 (i : Int)) ((i + 1 : Nat) : Int) := by
      rw [t_WF_nets_L4, h13, if_neg (by omega)]
      unfold t_WF_nets_L46 t_WF_nets_L72
      simp (config := { proj := false }) only [qlet]
      rw [bitOf_tb M _ (by omega) (by omega), hw _ (by omega) (by omega), hC _ (by omega) (by omega), w32_succ (by omega), show wlV V (i : Int) = decide (V 8 (i : Int) = 1) from rfl]
      by_cases c8 : V 8 (i : Int) = 1
      · rw [decide_eq_true c8, if_pos (show (if true = true then (1 : Int) else 0) = 1 from rfl), if_pos (show (-1 : Int) < 0 by decide), if_pos c8]
      · rw [decide_eq_false c8, if_neg (show ¬ (if false = true then (1 : Int) else 0) = 1 by decide), if_neg c8]
        by_cases c9 : f (i : Int) < 0
        · rw [if_pos c9, if_pos c9]
        · rw [if_neg c9, if_neg c9, c_line hX (by omega) (by omega) (by omega) (by omega)]
    have em : t_MO_nets_L9 (g' + 1) N v (i : Int) = if V 8 (i : Int) = 1 then t_MO_nets_L9 g' N v ((i + 1 : Nat) : Int) else if f (i : Int) < 0 then t_MO_nets_L9 g' N v ((i + 1 : Nat) : Int) else if lnV V (i : Int) (f (i : Int)) = 0 then t_MO_nets_L9 g' N v ((i + 1 : Nat) : Int) else t_MO_nets_L9 g' N (v ||| q_lshl 1 (i : Int)) ((i + 1 : Nat) : Int) := by
      rw [t_MO_nets_L9]
      unfold t_MO_nets_L59
      simp (config := { proj := false }) only [qlet]
      rw [m_cells hN hV, if_neg (by omega), qguard_pos ⟨by omega, by omega⟩, o8, w32_succ (by omega)]
      by_cases c8 : V 8 (i : Int) = 1
      · rw [if_neg (show ¬ V 8 (i : Int) = 0 by omega), if_pos c8]
      · have w8 := ho.2.2.1
        rw [if_pos (show V 8 (i : Int) = 0 by omega), if_neg c8, hM _ (by omega) (by omega), obind_some]
        by_cases c9 : f (i : Int) < 0
        · rw [if_pos (show f (i : Int) = -1 by omega), if_pos c9]
        · rw [if_neg (show ¬ f (i : Int) = -1 by omega), if_neg c9, m_line hN (by omega) (by omega) (by omega) (by omega), obind_some]
    rw [ec, em]
    by_cases c8 : V 8 (i : Int) = 1
    · rw [if_pos c8, if_pos c8]; exact ih (i + 1) g g' v (by omega) (by omega) (by omega)
    rw [if_neg c8, if_neg c8]
    by_cases c9 : f (i : Int) < 0
    · rw [if_pos c9, if_pos c9]; exact ih (i + 1) g g' v (by omega) (by omega) (by omega)
    rw [if_neg c9, if_neg c9]
    by_cases cl : lnV V (i : Int) (f (i : Int)) = 0
    · rw [if_pos cl, if_pos cl]; exact ih (i + 1) g g' v (by omega) (by omega) (by omega)
    rw [if_neg cl, if_neg cl]
    exact ih (i + 1) g g' _ (by omega) (by omega) (by omega)
theorem eq_nets {M : Mem} (h : LI M) : ∃ v N, t_WF_nets M = some v ∧ t_MO_nets M = some (N, v) := by
  obtain ⟨-, ⟨V, hR, hX, hRL⟩, -⟩ := h
  have hV := hR.1.1
  have hC := hV.cells
  have hS : CScF M 47 V (DN M 0) (AT M 0) (ST M 0) (LN M 0) (M.2 210 0) (M.2 211 0) (wlV V) := hRL.1
  have f0 : Fr (fun k j => k = 191 ∧ j = 0) M (setI M 191 0 0) := Fr.rf.setI ⟨rfl, rfl⟩
  have er : nxR (setI M 191 0 0) 0 V = nxR M 0 V := nxR_fr f0 (fun k j x q => by omega)
  have h0 := hR.set0 0
  obtain ⟨r, r1, r2⟩ := nets_loop (N := setI M 191 0 0) (f := nxR M 0 V) hV (fun c a b => hS.2.2.2.2 c a (by omega)) hX.2.1.1 hX.1 (nx_ok hV _ _ _) (fun c a b => hS.next hV ⟨hX.1, hX.2.1⟩ a b) h0.1.2.1 (fun c a b => by rw [← er]; exact h0.next (by omega) h0.row0 a b) (cellsV V).toNat 0 FU FU 0 (by omega) (fu_big (by omega)) (fu_big (by omega))
  exact ⟨r, setI M 191 0 0, r1, r2⟩
