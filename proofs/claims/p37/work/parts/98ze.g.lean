section
/-! ===== questions, both sides ===== -/
theorem eq_thing {M : Mem} (h : LI M) (x1 x2 : Int) : ∃ N, t_MO_thing M x1 x2 = some (N, t_WF_thing M x1 x2) := by
  obtain ⟨-, ⟨V, hR, hX, hRL⟩, -⟩ := h
  have hV := hR.1.1
  have hv := hV.1
  have hS : CScF M 47 V (DN M 0) (AT M 0) (ST M 0) (LN M 0) (M.2 210 0) (M.2 211 0) (wlV V) := hRL.1
  have e : ∀ q j, ¬ (q = 191 ∧ j = 0) → (setI M 191 0 0).1 q j = M.1 q j := fun q j z => sI_ne z
  refine ⟨setI M 191 0 0, ?_⟩
  unfold t_WF_thing t_MO_thing
  simp (config := { proj := false }) only [qlet]
  rw [c_hasThing hX.1, m_isThing (hR.set0 0).1.2.1]
  by_cases c1 : 0 ≤ x1 ∧ x1 < V 0 3
  rotate_left
  · rw [if_neg c1, if_pos rfl, if_pos rfl]
  have h3 := hS.2.1 x1 c1.1 c1.2
  have g3 := at_row M (t := x1)
  rw [if_pos c1, if_neg (show ¬ (1 : Int) = 0 by decide), if_neg (show ¬ (1 : Int) = 0 by decide)]
  by_cases z0 : x2 = 0
  · rw [if_pos z0, if_pos z0, qguard_pos ⟨c1.1, by omega⟩, look_in c1.1 (by omega), e 213 x1 (by omega), g3.1]
    exact congrArg (fun y => some (setI M 191 0 0, y)) h3.1.symm
  rw [if_neg z0, if_neg z0]
  by_cases z1 : x2 = 1
  · rw [if_pos z1, if_pos z1, qguard_pos ⟨c1.1, by omega⟩, look_in c1.1 (by omega), e 201 x1 (by omega), (hR.1.2.1.2.2.1 x1 c1.1 c1.2).2.1, (hX.1.2.2.1 x1 c1.1 c1.2).2.1]
  rw [if_neg z1, if_neg z1]
  by_cases z2 : x2 = 2
  · rw [if_pos z2, if_pos z2, qguard_pos ⟨c1.1, by omega⟩, look_in c1.1 (by omega), e 214 x1 (by omega), g3.2.1]
    exact congrArg (fun y => some (setI M 191 0 0, y)) h3.2.1.symm
  rw [if_neg z2, if_neg z2]
  by_cases z3 : x2 = 3
  · rw [if_pos z3, if_pos z3, qguard_pos ⟨c1.1, by omega⟩, look_in c1.1 (by omega), e 215 x1 (by omega), g3.2.2]
    exact congrArg (fun y => some (setI M 191 0 0, y)) h3.2.2.symm
  rw [if_neg z3, if_neg z3]
theorem eq_voted {M : Mem} (h : LI M) (x1 x2 : Int) : ∃ N, t_MO_voted M x1 x2 = some (N, t_WF_voted M x1 x2) := by
  obtain ⟨-, ⟨V, hR, hX, hRL⟩, -⟩ := h
  obtain ⟨k1, -, -, k4⟩ := hRL.2.1
  have hy := hR.2.2.1.2
  have e : ∀ q j, ¬ (q = 191 ∧ j = 0) → (setI M 191 0 0).1 q j = M.1 q j := fun q j z => sI_ne z
  refine ⟨setI M 191 0 0, ?_⟩
  unfold t_WF_voted t_MO_voted
  simp (config := { proj := false }) only [qlet]
  rw [k1, e 207 0 (by omega)]
  by_cases c0 : x1 < 0
  · rw [if_pos c0, if_pos c0]
  rw [if_neg c0, if_neg c0]
  by_cases c1 : x1 < M.1 207 0
  rotate_left
  · rw [if_neg c1, if_neg c1]
  rw [if_pos c1, if_pos c1]
  have k := k4 x1 (by omega) c1
  rw [show (100 : Int) * 0 + x1 = x1 by omega] at k
  by_cases z0 : x2 = 0
  · rw [if_pos z0, if_pos z0, qguard_pos ⟨by omega, by omega⟩, look_in (by omega) (by omega), e 216 x1 (by omega)]
    exact congrArg (fun y => some (setI M 191 0 0, y)) k.1.symm
  rw [if_neg z0, if_neg z0]
  by_cases z1 : x2 = 1
  · rw [if_pos z1, if_pos z1, qguard_pos ⟨by omega, by omega⟩, look_in (by omega) (by omega), e 217 x1 (by omega)]
    exact congrArg (fun y => some (setI M 191 0 0, y)) k.2.1.symm
  rw [if_neg z1, if_neg z1]
  by_cases z2 : x2 = 2
  · rw [if_pos z2, if_pos z2, qguard_pos ⟨by omega, by omega⟩, look_in (by omega) (by omega), e 218 x1 (by omega)]
    exact congrArg (fun y => some (setI M 191 0 0, y)) k.2.2.symm
  rw [if_neg z2, if_neg z2]
/-! ways -/
theorem goes_at {W : Nat → Int → Prop} {M N : Mem} {V : TV} {x : Int} (hRN : RI N V) (fN : Fr W M N) (hd : ∀ k j, (k = 210 ∨ k = 212) → ¬ W k j) (o : opV V x) : ∃ P, t_MO_goesFrom (setI N 191 0 0) 0 x = some P ∧ Fr W_MO_goesFrom (setI N 191 0 0) P ∧ GoR P V (nxR M 0 V) x (wayS (nxR M 0 V) x) := by
  have h0 : RI (setI N 191 0 0) V := hRN.set0 0
  have f0 : Fr (fun k j => W k j ∨ (k = 191 ∧ j = 0)) M (setI N 191 0 0) := (fN.mono (fun k j z => Or.inl z)).setI (Or.inr ⟨rfl, rfl⟩)
  have e : nxR (setI N 191 0 0) 0 V = nxR M 0 V := nxR_fr f0 (fun k j x q => by
    rcases q with q | q
    · exact hd k j (by omega) q
    · omega)
  obtain ⟨P, p1, p2, p3⟩ := h0.goes (a := 0) (by omega) h0.row0 o.1 o.2.1
  rw [e] at p3
  exact ⟨P, p1, p2, p3⟩
theorem wr_le {r : Nat × Option Nat} (h : wRound r = 0 ∨ 0 < wRound r) : (wRound r ≤ 0 ↔ wRound r = 0) := by omega
theorem bs_rest {M : Mem} (h : LI M) {x1 : Int} (h1 : InR x1) : Ok (fun q => Ok (fun r => q.2 = r.2 ∧ LI r.1) (t_MO_rest q.1 x1)) (t_WF_rest M x1) := by
  have h' := h
  have hTT := h.T
  obtain ⟨hI, ⟨V, hR, hX, hRL⟩, -⟩ := h
  have hV := hR.1.1
  have hv := hV.1
  have hC := hV.cells
  have hS : CScF M 47 V (DN M 0) (AT M 0) (ST M 0) (LN M 0) (M.2 210 0) (M.2 211 0) (wlV V) := hRL.1
  by_cases c1 : opV V x1
  rotate_left
  · refine ⟨(M, -1), ?_, (setI M 191 0 0, -1), ?_, rfl, h'.at0⟩
    · unfold t_WF_rest; simp (config := { proj := false }) only [qlet]; rw [c_isFree hV hX hS, if_neg c1, if_pos rfl]
    · unfold t_MO_rest; simp (config := { proj := false }) only [qlet]; rw [m_open01 (hR.set0 0).1.2.1 hV, if_neg c1, obind_some, if_pos rfl]
  have wf := way_facts (c := x1) hC.2 (nx_ok hV (DN M 0) (M.2 210 0) (wlV V)) c1.1 c1.2.1
  obtain ⟨N, n1, n2, n3⟩ := c_follow (k := 189) (k2 := 47) hTT.2 (Or.inr rfl) (by omega) hV hX.1 hX.2.1 hS.sc c1.1 c1.2.1
  have hfr : nxR M 0 V = nxV V (DN M 0) (M.2 210 0) (wlV V) := rfl
  rw [← hfr] at n3 wf
  have hw : t_WF_rest M x1 = some (N, if wRound (wayS (nxR M 0 V) x1) ≤ 0 then wEnd (nxR M 0 V) x1 (wayS (nxR M 0 V) x1) else -2) := by
    unfold t_WF_rest
    simp (config := { proj := false }) only [qlet]
    rw [c_isFree hV hX hS, if_pos c1, if_neg (show ¬ (1 : Int) = 0 by decide), n1, obind_some]
    unfold t_Trail_end
    simp (config := { proj := false }) only [qlet]
    obtain ⟨f1, f2, f3, f4, f5⟩ := n3
    generalize wayS (nxR M 0 V) x1 = r at *
    rw [f3, f1, w32_id (by unfold InR; omega), show (r.1 : Int) + 1 - 1 = (r.1 : Int) by omega]
    by_cases z : wRound r ≤ 0
    · rw [if_pos z, if_pos z, look_in (by omega) (by omega), f5 r.1 (Nat.le_refl _)]
      obtain ⟨i, o⟩ := r
      cases o with
      | none => rfl
      | some a =>
        have wf3 := wf.2.2.1
        unfold wRound at z
        unfold wAhead at wf3
        dsimp only at z wf3
        omega
    · rw [if_neg z, if_neg z]
  obtain ⟨u, e, hu⟩ := sf_WF_rest hI h1
  have : u = _ := Option.some.inj (e.symm.trans hw)
  subst this
  have hLN : LI N := h'.q hu.1 (n2.mono (fun q j z => by unfold W_Trail_follow at z; unfold QkW; omega))
  have hRN : RI N V := hR.fr n2 (fun q j a z => by unfold RIc at a; unfold W_Trail_follow at z; omega)
  obtain ⟨P, p1, p2, p3⟩ := goes_at hRN n2 (fun k j a z => by unfold W_Trail_follow at z; omega) c1
  have q0 : t_MO_rest N x1 = some (P, if wRound (wayS (nxR M 0 V) x1) ≤ 0 then wEnd (nxR M 0 V) x1 (wayS (nxR M 0 V) x1) else -2) := by
    unfold t_MO_rest
    simp (config := { proj := false }) only [qlet]
    rw [m_open01 (hRN.set0 0).1.2.1 hV, if_pos c1, obind_some, if_neg (show ¬ (1 : Int) = 0 by decide), p1, obind_some, p3.2.1, p3.2.2.1]
    by_cases z : wRound (wayS (nxR M 0 V) x1) ≤ 0
    · rw [if_pos z, if_pos z]
    · rw [if_neg z, if_neg z]
  have hIP := im_MO_rest hu.1 h1 _ q0
  refine ⟨_, hw, _, q0, rfl, hLN.qm hIP.1 ?_⟩
  have f0 : Fr QmW N (setI N 191 0 0) := Fr.rf.setI (by unfold QmW; omega)
  exact f0.trans (p2.mono (fun k j z => by unfold W_MO_goesFrom at z; unfold QmW; omega))
theorem bs_falls {M : Mem} (h : LI M) {x1 x2 : Int} (h1 : InR x1) (h2 : InR x2) : Ok (fun q => Ok (fun r => q.2 = r.2 ∧ LI r.1) (t_MO_falls q.1 x1 x2)) (t_WF_falls M x1 x2) := by
  have h' := h
  have hTT := h.T
  obtain ⟨hI, ⟨V, hR, hX, hRL⟩, -⟩ := h
  have hV := hR.1.1
  have hv := hV.1
  have hC := hV.cells
  have hS : CScF M 47 V (DN M 0) (AT M 0) (ST M 0) (LN M 0) (M.2 210 0) (M.2 211 0) (wlV V) := hRL.1
  by_cases c1 : opV V x1
  rotate_left
  · refine ⟨(M, -1), ?_, (setI M 191 0 0, -1), ?_, rfl, h'.at0⟩
    · unfold t_WF_falls; simp (config := { proj := false }) only [qlet]; rw [c_isFree hV hX hS, if_neg c1, if_pos rfl]
    · unfold t_MO_falls; simp (config := { proj := false }) only [qlet]; rw [m_open01 (hR.set0 0).1.2.1 hV, if_neg c1, obind_some, if_pos rfl]
  obtain ⟨N, n1, n2, n3⟩ := c_follow (k := 189) (k2 := 47) hTT.2 (Or.inr rfl) (by omega) hV hX.1 hX.2.1 hS.sc c1.1 c1.2.1
  have hfr : nxR M 0 V = nxV V (DN M 0) (M.2 210 0) (wlV V) := rfl
  rw [← hfr] at n3
  generalize hr : wayS (nxR M 0 V) x1 = r at *
  obtain ⟨val, hval⟩ : ∃ val : Int, val = if x2 = 0 then wAhead r else if x2 = 1 then wRound r else if x2 = 2 then (if wRound r ≤ 0 then wLines V (nxR M 0 V) x1 r else -2) else -1 := ⟨_, rfl⟩
  have hw : t_WF_falls M x1 x2 = some (N, val) := by
    unfold t_WF_falls
    simp (config := { proj := false }) only [qlet]
    obtain ⟨f1, f2, f3, f4, f5⟩ := n3
    rw [c_isFree hV hX hS, if_pos c1, if_neg (show ¬ (1 : Int) = 0 by decide), n1, obind_some, f2, f3, f4, hval]
    by_cases z0 : x2 = 0
    · rw [if_pos z0, if_pos z0]
    rw [if_neg z0, if_neg z0]
    by_cases z1 : x2 = 1
    · rw [if_pos z1, if_pos z1]
    rw [if_neg z1, if_neg z1]
    by_cases z2 : x2 = 2
    · rw [if_pos z2, if_pos z2]
      by_cases z : wRound r ≤ 0
      · rw [if_pos z, if_pos z]
      · rw [if_neg z, if_neg z]
    · rw [if_neg z2, if_neg z2]
  obtain ⟨u, e, hu⟩ := sf_WF_falls hI h1 h2
  have : u = _ := Option.some.inj (e.symm.trans hw)
  subst this
  have hLN : LI N := h'.q hu.1 (n2.mono (fun q j z => by unfold W_Trail_follow at z; unfold QkW; omega))
  have hRN : RI N V := hR.fr n2 (fun q j a z => by unfold RIc at a; unfold W_Trail_follow at z; omega)
  obtain ⟨P, p1, p2, p3⟩ := goes_at hRN n2 (fun k j a z => by unfold W_Trail_follow at z; omega) c1
  rw [hr] at p3
  have f0 : Fr QmW N (setI N 191 0 0) := Fr.rf.setI (by unfold QmW; omega)
  have fP : Fr QmW N P := f0.trans (p2.mono (fun k j z => by unfold W_MO_goesFrom at z; unfold QmW; omega))
  have q0 : ∃ Q, t_MO_falls N x1 x2 = some (Q, val) ∧ Fr QmW N Q := by
    unfold t_MO_falls
    simp (config := { proj := false }) only [qlet]
    rw [m_open01 (hRN.set0 0).1.2.1 hV, if_pos c1, obind_some, if_neg (show ¬ (1 : Int) = 0 by decide), hval]
    by_cases y0 : x2 < 0
    · rw [if_pos y0, if_neg (show ¬ x2 = 0 by omega), if_neg (show ¬ x2 = 1 by omega), if_neg (show ¬ x2 = 2 by omega)]
      exact ⟨_, rfl, f0⟩
    rw [if_neg y0]
    by_cases y2 : x2 ≤ 2
    rotate_left
    · rw [if_neg y2, if_neg (show ¬ x2 = 0 by omega), if_neg (show ¬ x2 = 1 by omega), if_neg (show ¬ x2 = 2 by omega)]
      exact ⟨_, rfl, f0⟩
    rw [if_pos y2, p1, obind_some, p3.1, p3.2.1, p3.2.2.2.1]
    refine ⟨P, ?_, fP⟩
    by_cases z0 : x2 = 0
    · rw [if_pos z0, if_pos z0]
    rw [if_neg z0, if_neg z0]
    by_cases z1 : x2 = 1
    · rw [if_pos z1, if_pos z1]
    rw [if_neg z1, if_neg z1, if_pos (show x2 = 2 by omega)]
    by_cases z : wRound r ≤ 0
    · rw [if_pos z, if_pos z]
    · rw [if_neg z, if_neg z]
  obtain ⟨Q, q1, q2⟩ := q0
  have hIP := im_MO_falls hu.1 h1 h2 _ q1
  exact ⟨_, hw, _, q1, rfl, hLN.qm hIP.1 q2⟩
theorem bs_way {M : Mem} (h : LI M) {x1 x2 : Int} (h1 : InR x1) (h2 : InR x2) : Ok (fun q => Ok (fun r => q.2 = r.2 ∧ LI r.1) (t_MO_way q.1 x1 x2)) (t_WF_way M x1 x2) := by
  have h' := h
  have hTT := h.T
  obtain ⟨hI, ⟨V, hR, hX, hRL⟩, -⟩ := h
  have hV := hR.1.1
  have hv := hV.1
  have hC := hV.cells
  have hS : CScF M 47 V (DN M 0) (AT M 0) (ST M 0) (LN M 0) (M.2 210 0) (M.2 211 0) (wlV V) := hRL.1
  have hcl : ∃ N, t_WF_way M x1 x2 = some (N, if opV V x1 ∧ 0 ≤ x2 then wayAt (nxR M 0 V) x1 x2 else -1) ∧ Fr QkW M N := by
    unfold t_WF_way
    simp (config := { proj := false }) only [qlet]
    rw [c_isFree hV hX hS]
    by_cases c1 : opV V x1
    rotate_left
    · rw [if_neg c1, if_pos rfl, if_neg (show ¬ (opV V x1 ∧ 0 ≤ x2) from fun z => c1 z.1)]
      exact ⟨_, rfl, Fr.rf⟩
    rw [if_pos c1, if_neg (show ¬ (1 : Int) = 0 by decide)]
    by_cases c2 : 0 ≤ x2
    rotate_left
    · rw [if_neg c2, if_neg (show ¬ (opV V x1 ∧ 0 ≤ x2) from fun z => c2 z.2)]
      exact ⟨_, rfl, Fr.rf⟩
    rw [if_pos c2, if_pos (show opV V x1 ∧ 0 ≤ x2 from ⟨c1, c2⟩)]
    have wf := way_facts (c := x1) hC.2 (nx_ok hV (DN M 0) (M.2 210 0) (wlV V)) c1.1 c1.2.1
    obtain ⟨N, n1, n2, n3⟩ := c_follow (k := 189) (k2 := 47) hTT.2 (Or.inr rfl) (by omega) hV hX.1 hX.2.1 hS.sc c1.1 c1.2.1
    have hfr : nxR M 0 V = nxV V (DN M 0) (M.2 210 0) (wlV V) := rfl
    rw [← hfr] at n3 wf
    rw [n1, obind_some]
    have hval : t_Trail_cellAt N 189 x2 = some (wayAt (nxR M 0 V) x1 x2) := by
      obtain ⟨f1, f2, f3, f4, f5⟩ := n3
      unfold wayAt
      unfold t_Trail_cellAt
      simp (config := { proj := false }) only [qlet]
      generalize wayS (nxR M 0 V) x1 = r at *
      obtain ⟨w1, w2, w3, w4, w5, w6⟩ := wf
      have hn : r.2 = none → wAhead r = (r.1 : Int) := fun z => by unfold wAhead; rw [z]
      have hs : r.2 ≠ none → wAhead r + wRound r = (r.1 : Int) + 1 := fun z => by
        obtain ⟨i, o⟩ := r
        cases o with
        | none => exact absurd rfl z
        | some a => show (a : Int) + ((i : Int) + 1 - a) = (i : Int) + 1; omega
      have look : ∀ y : Int, 0 ≤ y → y ≤ (r.1 : Int) → t_WF_look N (189 + 1) 48 y = itr (nxR M 0 V) x1 y.toNat := fun y a b => by
        rw [look_in a (by omega)]
        have := f5 y.toNat (by omega)
        rw [Int.toNat_of_nonneg a] at this
        exact this
      have h2' : InR x2 := h2
      unfold InR at h2'
      rw [f1, f2, f3]
      by_cases a1 : (r.1 : Int) + 1 ≤ x2
      · rw [if_pos a1, if_neg (show ¬ x2 ≤ wAhead r by omega)]
        by_cases a2 : wRound r = 0
        · rw [if_pos (show wRound r ≤ 0 by omega), if_pos a2]
        · have m1 := Int.emod_nonneg (x2 - wAhead r) a2
          have m2 := Int.emod_lt_of_pos (x2 - wAhead r) (show 0 < wRound r by omega)
          rw [if_neg (show ¬ wRound r ≤ 0 by omega), if_neg a2, if_neg a2, w32_id (x := x2 - wAhead r) (by unfold InR; omega), q_rem_nn (by unfold InR; omega) (by unfold InR; omega) (by omega) (by omega), w32_id (by unfold InR; omega), look _ (by omega) (by omega)]
      · rw [if_neg a1, look x2 c2 (by omega)]
        by_cases a3 : x2 ≤ wAhead r
        · rw [if_pos a3]
        · have hsm : r.2 ≠ none := fun z => by have := hn z; omega
          have := hs hsm
          rw [if_neg a3, if_neg (show ¬ wRound r = 0 by omega), Int.emod_eq_of_lt (by omega) (by omega), show wAhead r + (x2 - wAhead r) = x2 by omega]
    rw [hval, obind_some]
    exact ⟨N, rfl, n2.mono (fun q j z => by unfold W_Trail_follow at z; unfold QkW; omega)⟩
  obtain ⟨N, n1, n2⟩ := hcl
  obtain ⟨u, e, hu⟩ := sf_WF_way hI h1 h2
  have : u = _ := Option.some.inj (e.symm.trans n1)
  subst this
  have hLN : LI N := h'.q hu.1 n2
  have hRN : RI N V := hR.fr n2 (fun q j a z => by unfold RIc at a; unfold QkW at z; omega)
  obtain ⟨P, p1, p2⟩ := m_way hRN (x1 := x1) h2
  have er : nxR N 0 V = nxR M 0 V := nxR_fr n2 (fun k j x q => by unfold QkW at q; omega)
  rw [er] at p1
  have hIP := im_MO_way hu.1 h1 h2 _ p1
  have fP := fr_MO_way (W := QmW) (M0 := N) (fun k j z => by unfold W_MO_way at z; unfold QmW; omega) Fr.rf _ p1
  exact ⟨_, n1, _, p1, rfl, hLN.qm hIP.1 fP⟩
end
