section
theorem eq_count {M : Mem} (h : LI M) (x1 : Int) : ∃ v N, t_WF_count M x1 = some v ∧ t_MO_count M x1 = some (N, v) := by
  obtain ⟨-, ⟨V, hR, hX, hRL⟩, -⟩ := h
  have hV := hR.1.1
  have hv := hV.1
  have hC := hV.cells
  have hS : CScF M 47 V (DN M 0) (AT M 0) (ST M 0) (LN M 0) (M.2 210 0) (M.2 211 0) (wlV V) := hRL.1
  have e : ∀ q j, ¬ (q = 191 ∧ j = 0) → (setI M 191 0 0).1 q j = M.1 q j := fun q j z => sI_ne z
  have eL : ∀ q j, (setI M 191 0 0).2 q j = M.2 q j := fun q j => rfl
  have h0 := hR.set0 0
  obtain ⟨t0, t1, t2, t3, t4, t5⟩ := hX.1.1
  obtain ⟨s0, s1, s2, s3, s4, s5⟩ := h0.1.2.1.1
  obtain ⟨k1, k2, k3, k4⟩ := hRL.2.1
  obtain ⟨n1, n2, n3⟩ := hRL.2.2.2.2.1
  have hNo := hR.2.2.2.2.2
  have rw0 := hR.row0.2.2
  have c10 : cntT (M.2 211 0) 64 = cntT (M.2 211 0) 48 := cnt_48 hC.2 (fun c a b => (rw0 c a b).2)
  have c11 : cntT (M.2 210 0) 64 = cntT (M.2 210 0) 48 := cnt_48 hC.2 (fun c a b => (rw0 c a b).1)
  have f0 : Fr (fun k j => k = 191 ∧ j = 0) M (setI M 191 0 0) := Fr.rf.setI ⟨rfl, rfl⟩
  have er : nxR (setI M 191 0 0) 0 V = nxR M 0 V := nxR_fr f0 (fun k j x q => by omega)
  have big : 0 < FU := fu_big (by omega)
  unfold t_WF_count t_MO_count
  simp (config := { proj := false }) only [qlet]
  by_cases z0 : x1 = 0
  · rw [if_pos z0, if_pos z0]
    exact ⟨V 0 0, setI M 191 0 0, by rw [t0], by rw [s0]⟩
  rw [if_neg z0, if_neg z0]
  by_cases z1 : x1 = 1
  · rw [if_pos z1, if_pos z1]
    exact ⟨V 0 1, setI M 191 0 0, by rw [t1], by rw [s1]⟩
  rw [if_neg z1, if_neg z1]
  by_cases z2 : x1 = 2
  · rw [if_pos z2, if_pos z2]
    exact ⟨V 0 2, setI M 191 0 0, by rw [t2], by rw [s2]⟩
  rw [if_neg z2, if_neg z2]
  by_cases z3 : x1 = 3
  · rw [if_pos z3, if_pos z3]
    exact ⟨V 0 3, setI M 191 0 0, by rw [t3], by rw [s3]⟩
  rw [if_neg z3, if_neg z3]
  by_cases z4 : x1 = 4
  · rw [if_pos z4, if_pos z4]
    exact ⟨V 0 4, setI M 191 0 0, by rw [t4], by rw [s4]⟩
  rw [if_neg z4, if_neg z4]
  by_cases z5 : x1 = 5
  · rw [if_pos z5, if_pos z5]
    exact ⟨M.1 207 0, setI M 191 0 0, by rw [k1], by rw [e 207 0 (by omega)]⟩
  rw [if_neg z5, if_neg z5]
  by_cases z6 : x1 = 6
  · rw [if_pos z6, if_pos z6]
    exact ⟨M.1 208 0, setI M 191 0 0, by rw [k2], by rw [e 208 0 (by omega)]⟩
  rw [if_neg z6, if_neg z6]
  by_cases z7 : x1 = 7
  · rw [if_pos z7, if_pos z7]
    exact ⟨M.1 191 60, setI M 191 0 0, by rw [n1], by rw [e 191 60 (by omega)]⟩
  rw [if_neg z7, if_neg z7]
  by_cases z8 : x1 = 8
  · rw [if_pos z8, if_pos z8]
    refine ⟨if 0 ≤ M.1 191 61 then M.1 191 61 else M.1 191 60, setI M 191 0 0, ?_, ?_⟩
    · unfold t_Notes_knownBy
      rw [n1, n2]
    · unfold t_MO_knownMany
      rw [e 191 61 (by omega), e 191 60 (by omega)]
      unfold NotesOK at hNo
      by_cases y : 0 ≤ M.1 191 61
      · rw [if_pos y, if_neg (show ¬ M.1 191 61 = -1 by omega)]
      · rw [if_neg y, if_pos (show M.1 191 61 = -1 by omega)]
  rw [if_neg z8, if_neg z8]
  by_cases z9 : x1 = 9
  · rw [if_pos z9, if_pos z9]
    exact ⟨M.1 191 43, setI M 191 0 0, by rw [hRL.2.2.1.1], by rw [e 191 43 (by omega)]⟩
  rw [if_neg z9, if_neg z9]
  by_cases z10 : x1 = 10
  · rw [if_pos z10, if_pos z10]
    exact ⟨cntT (M.2 211 0) 48, setI M 191 0 0, by rw [bitCount_eq, hS.2.2.2.1, c10], by rw [eL, m_bitsOf, obind_some]⟩
  rw [if_neg z10, if_neg z10]
  by_cases z11 : x1 = 11
  · rw [if_pos z11, if_pos z11]
    exact ⟨cntT (M.2 210 0) 48, setI M 191 0 0, by rw [bitCount_eq, hS.2.2.1, c11], by rw [eL, m_bitsOf, obind_some]⟩
  rw [if_neg z11, if_neg z11]
  by_cases z12 : x1 = 12
  · rw [if_pos z12, if_pos z12]
    obtain ⟨r, r1, r2⟩ := togo_loop (x1 := x1) (N := setI M 191 0 0) (f := nxR M 0 V) (A := AT M 0) hV hX.1 (fun t a b => ⟨(hS.2.1 t a b).1, by rw [e 213 t (by omega)]; exact (at_row M).1, by have := hR.row0.2.1 t a b; exact this⟩) (nx_ok hV _ _ _) (fun c a b => hS.next hV ⟨hX.1, hX.2.1⟩ a b) h0.1.2.1 (fun c a b => by rw [← er]; exact h0.next (by omega) h0.row0 a b) (V 0 3).toNat 0 FU FU 0 (by omega) (fu_big (by omega)) (fu_big (by omega)) (by omega) (by omega)
    refine ⟨r, setI M 191 0 0, ?_, r2⟩
    unfold t_Scene_thingsToGo
    have r1' : t_Scene_thingsToGo_L4 47 (M.1 0 4).toNat FU M 0 0 = some r := r1
    rw [r1', obind_some]
  rw [if_neg z12, if_neg z12]
  exact ⟨-1, setI M 191 0 0, rfl, rfl⟩
end
