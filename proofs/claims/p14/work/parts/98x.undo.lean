/-! ===== undo, keep, back ===== -/
theorem bs_undo {M : Mem} (h : LI M) : Ok (fun r => (t_WF_undo M).2 = r.2 ∧ LI r.1) (t_MO_undo (t_WF_undo M).1) := by
  have h' := h
  obtain ⟨hI, ⟨V, hR, hX, hRL⟩, -⟩ := h
  have hV := hR.1.1
  have hv := hV.1
  have hP := hRL.2.2.1
  have hm43 := hP.2.2.1
  have hL := hP.2.1
  have hIC := (sf_WF_undo hI).1
  have f00 : ∀ N : Mem, Fr (fun q j => q = 191 ∧ j = 0) N (setI N 191 0 0) := fun N => Fr.rf.setI ⟨rfl, rfl⟩
  by_cases c1 : M.1 191 43 = 0
  · have hw : t_WF_undo M = (M, -1) := by
      unfold t_WF_undo t_Past_takeBack
      rw [if_pos (hP.1.trans c1)]
      simp only [qlet]
      rw [if_pos trivial]
    rw [hw]
    refine ⟨(setI M 191 0 0, -1), ?_, rfl, h'.at0⟩
    unfold t_MO_undo
    simp (config := { proj := false }) only [qlet]
    rw [((f00 M) 191 43 (by omega)).1, if_pos c1]
  -- the class
  have eL : M.1 70 1 = (((M.1 70 1).toNat : Nat) : Int) := by omega
  have hk := hP.2.2.2 (M.1 191 43 - 1) (by omega) (by omega)
  have ei : rgI (M.1 70 1) (M.1 191 43) (M.1 191 43 - 1) = (M.1 70 1).toNat := by unfold rgI; congr 1; omega
  rw [ei] at hk
  obtain ⟨N1, n1, n2, n3, n4, n5⟩ := c_takeBack hV hL (by rw [hP.1]; omega) hk
  have hw : t_WF_undo M = (setI N1 177 8 0, M.1 191 43 - 1) := by
    unfold t_WF_undo
    rw [n1]
    simp (config := { proj := false }) only [qlet]
    rw [if_neg (show ¬ (1 : Int) = 0 by decide)]
    have : (setI N1 177 8 0).1 70 2 = M.1 191 43 - 1 := by rw [sI_ne (by omega), n4, hP.1]
    rw [← this]
  rw [hw] at hIC ⊢
  have f2 : Fr (fun q j => q = 177 ∧ j = 8) N1 (setI N1 177 8 0) := Fr.rf.setI ⟨rfl, rfl⟩
  have v8 : (setI N1 177 8 0).1 177 8 = 0 := sI_self _ _ _ _
  have fN : Fr (fun q j => (q = 70 ∧ (j = 1 ∨ j = 2)) ∨ (47 ≤ q ∧ q ≤ 51) ∨ (q = 177 ∧ j = 8)) M (setI N1 177 8 0) := (n2.mono (fun q j z => by unfold CsW at z; omega)).trans (f2.mono (fun q j z => by omega))
  have n5' := n5.fr f2 (fun q j z y => by unfold CsW at z; omega)
  have v1 : (setI N1 177 8 0).1 70 1 = dnL (M.1 70 1) := ((f2 70 1 (by omega)).1).trans n3
  have v2 : (setI N1 177 8 0).1 70 2 = M.1 191 43 - 1 := ((f2 70 2 (by omega)).1).trans (by rw [n4, hP.1])
  generalize setI N1 177 8 0 = N at *
  have hRN : RI N V := hR.fr fN (fun q j a z => by unfold RIc at a; omega)
  have eN : ∀ q j, 191 ≤ q → N.1 q j = M.1 q j ∧ N.2 q j = M.2 q j := fun q j x => fN q j (by omega)
  have e43 : N.1 191 43 = M.1 191 43 := (eN 191 43 (by omega)).1
  -- the reference
  obtain ⟨P, p0, p1⟩ := ri_undo hRN
  have hIP := im_MO_undo hIC P p0
  have p0' := p0
  unfold t_MO_undo at p0'
  simp (config := { proj := false }) only [qlet] at p0'
  have g0 := f00 N
  have w43 : (setI N 191 0 0).1 191 43 = M.1 191 43 := ((g0 191 43 (by omega)).1).trans e43
  rw [w43, if_neg c1, w32_id (x := M.1 191 43 - 1) (by unfold InR; omega)] at p0'
  have g1 : Fr (fun q j => q = 191 ∧ (j = 0 ∨ j = 43)) N (setI (setI N 191 0 0) 191 43 (M.1 191 43 - 1)) := (g0.mono (fun q j z => by omega)).setI (by omega)
  have w1 : (setI (setI N 191 0 0) 191 43 (M.1 191 43 - 1)).1 191 43 = M.1 191 43 - 1 := sI_self _ _ _ _
  rw [w1, w32_id (x := 3 + (M.1 191 43 - 1)) (by unfold InR; omega)] at p0'
  generalize setI (setI N 191 0 0) 191 43 (M.1 191 43 - 1) = N2 at *
  obtain ⟨Q, q1, q2, q3⟩ := m_copies (M := N2) (x1 := 0) (x2 := 3 + (M.1 191 43 - 1)) (by omega) (by omega) (by omega)
  have u43 : Q.1 191 43 = M.1 191 43 - 1 := ((q2 191 43 (by unfold CW; omega)).1).trans w1
  rw [q1, obind_some, u43] at p0'
  have eP := Option.some.inj p0'
  subst eP
  refine ⟨(Q, M.1 191 43 - 1), p0, rfl, ?_⟩
  have fP : Fr (fun q j => (q = 191 ∧ (j = 0 ∨ j = 43)) ∨ CW 0 q j) N Q := (g1.mono (fun q j z => Or.inl z)).trans (q2.mono (fun q j z => Or.inr z))
  have fA : Fr (fun q j => ((q = 70 ∧ (j = 1 ∨ j = 2)) ∨ (47 ≤ q ∧ q ≤ 51) ∨ (q = 177 ∧ j = 8)) ∨ ((q = 191 ∧ (j = 0 ∨ j = 43)) ∨ CW 0 q j)) M Q := (fN.mono (fun q j z => Or.inl z)).trans (fP.mono (fun q j z => Or.inr z))
  have rN2 : ∀ b, RowEq N2 b M b := fun b => (RowEq.fr g1 (fun q j z w => by unfold CW at z; omega)).trans (RowEq.fr fN (fun q j z w => by unfold CW at z; omega))
  have row : RowEq Q 0 M (3 + (M.1 191 43 - 1)) := q3.trans (rN2 _)
  have hyk := hR.2.2.2.2.1.2.2 (M.1 191 43 - 1) (by omega) (by omega)
  refine h'.two hX hIP.1 p1 ⟨?_, ?_, ?_, ?_, ?_, ?_⟩ (fA.mono (fun q j z => by unfold CW at z; unfold KpA; omega))
  · exact CSR.of hV (n5'.fr fP (fun q j z y => by unfold CsW at z; unfold CW at y; omega)) row
  · obtain ⟨k1, k2, k3, k4⟩ := hRL.2.1
    have c : ∀ q j, ChW 62 q j → Q.1 q j = M.1 q j ∧ Q.2 q j = M.2 q j := fun q j z => fA q j (fun y => by unfold ChW at z; unfold CW at y; omega)
    have e7 : Q.1 207 0 = M.1 207 0 := row.1.1.trans hyk.2.1
    have e8 : Q.1 208 0 = M.1 208 0 := row.1.2.1.trans hyk.2.2.1
    have e9 : Q.1 209 0 = M.1 209 0 := row.1.2.2.1.trans hyk.2.2.2
    refine ⟨by rw [(c 62 3 (by unfold ChW; omega)).1, e7]; exact k1, by rw [(c 62 4 (by unfold ChW; omega)).1, e8]; exact k2, by rw [(c 62 5 (by unfold ChW; omega)).2, e9]; exact k3, fun y a b => ?_⟩
    rw [e7] at b
    rw [(c (62 + 1) y (by unfold ChW; omega)).1, (c (62 + 2) y (by unfold ChW; omega)).1, (c (62 + 3) y (by unfold ChW; omega)).1, (fA 216 _ (fun y => by unfold CW at y; omega)).1, (fA 217 _ (fun y => by unfold CW at y; omega)).1, (fA 218 _ (fun y => by unfold CW at y; omega)).1]
    exact k4 y a b
  · have x1 : Q.1 70 1 = dnL (M.1 70 1) := ((fP 70 1 (fun y => by unfold CW at y; omega)).1).trans v1
    have x2 : Q.1 70 2 = M.1 191 43 - 1 := ((fP 70 2 (fun y => by unfold CW at y; omega)).1).trans v2
    refine ⟨by rw [x2, u43], by rw [x1]; unfold dnL; split <;> omega, by rw [u43]; omega, fun k a b => ?_⟩
    rw [u43] at b
    rw [x1, u43]
    have er : rgI (dnL (M.1 70 1)) (M.1 191 43 - 1) k = rgI (M.1 70 1) (M.1 191 43) k := by
      unfold rgI dnL
      congr 1
      split <;> omega
    rw [er]
    have hlt : rgI (M.1 70 1) (M.1 191 43) k < 20 := by unfold rgI; omega
    exact (hP.2.2.2 k a (by omega)).fr hV fA (fun q j z y => by
      rcases z with z | z
      · unfold CsW at z; unfold CW at y; omega
      · unfold RwW at z; unfold CW at y; omega)
  · exact hRL.2.2.2.1.fr hV hR.yr.2 fA (fun q j z y => by unfold CsW RwW ChW RgR at z; unfold CW at y; omega)
  · exact hRL.2.2.2.2.1.fr fA (fun q j z y => by unfold CW at y; omega)
  · exact CaR.zero (((fP 177 8 (fun y => by unfold CW at y; omega)).1).trans v8)
theorem c_ccopy (M : Mem) {k0 k1 : Nat} (hne : k1 + 3 < k0 ∨ k0 + 3 < k1) : Fr (ChW k0) M (t_Chronicle_copy M k0 k1) ∧ (t_Chronicle_copy M k0 k1).1 k0 3 = M.1 k1 3 ∧ (t_Chronicle_copy M k0 k1).1 k0 4 = M.1 k1 4 ∧ (t_Chronicle_copy M k0 k1).2 k0 5 = M.2 k1 5 ∧ ∀ y, 0 ≤ y → y < 99 → (t_Chronicle_copy M k0 k1).1 (k0 + 1) y = M.1 (k1 + 1) y ∧ (t_Chronicle_copy M k0 k1).1 (k0 + 2) y = M.1 (k1 + 2) y ∧ (t_Chronicle_copy M k0 k1).1 (k0 + 3) y = M.1 (k1 + 3) y := by
  have q9 : q_min ((99 : Nat) : Int) ((99 : Nat) : Int) = 99 := rfl
  unfold t_Chronicle_copy t_WF_copyRow
  simp (config := { proj := false }) only [qlet]
  rw [q9]
  obtain ⟨M1, e1⟩ : ∃ M1, M1 = cpyM M (k1 + 1) (k0 + 1) 99 := ⟨_, rfl⟩
  rw [← e1]
  have f1 : Fr (fun q _ => q = k0 + 1) M M1 := by rw [e1]; exact Fr.rf.cpy (fun j => rfl)
  have v1 : ∀ w, 0 ≤ w → w < 99 → M1.1 (k0 + 1) w = M.1 (k1 + 1) w := fun w a b => by rw [e1]; exact cpy_get a b
  obtain ⟨M2, e2⟩ : ∃ M2, M2 = cpyM M1 (k1 + 2) (k0 + 2) 99 := ⟨_, rfl⟩
  rw [← e2]
  have f2 : Fr (fun q _ => q = k0 + 2) M1 M2 := by rw [e2]; exact Fr.rf.cpy (fun j => rfl)
  have v2 : ∀ w, 0 ≤ w → w < 99 → M2.1 (k0 + 2) w = M1.1 (k1 + 2) w := fun w a b => by rw [e2]; exact cpy_get a b
  obtain ⟨M3, e3⟩ : ∃ M3, M3 = cpyM M2 (k1 + 3) (k0 + 3) 99 := ⟨_, rfl⟩
  rw [← e3]
  have f3 : Fr (fun q _ => q = k0 + 3) M2 M3 := by rw [e3]; exact Fr.rf.cpy (fun j => rfl)
  have v3 : ∀ w, 0 ≤ w → w < 99 → M3.1 (k0 + 3) w = M2.1 (k1 + 3) w := fun w a b => by rw [e3]; exact cpy_get a b
  have fM : Fr (fun q _ => k0 + 1 ≤ q ∧ q ≤ k0 + 3) M M3 := ((f1.mono (fun q j z => by omega)).trans (f2.mono (fun q j z => by omega))).trans (f3.mono (fun q j z => by omega))
  rw [(fM k1 3 (by omega)).1]
  have g4 : (setI M3 k0 3 (M.1 k1 3)).1 k1 4 = M.1 k1 4 := by rw [sI_ne (by omega)]; exact (fM k1 4 (by omega)).1
  rw [g4]
  have g5 : (setI (setI M3 k0 3 (M.1 k1 3)) k0 4 (M.1 k1 4)).2 k1 5 = M.2 k1 5 := by rw [sI_snd, sI_snd]; exact (fM k1 5 (by omega)).2
  rw [g5]
  refine ⟨((fM.mono (fun q j z => by unfold ChW; omega)).setI (by unfold ChW; omega)).setI (by unfold ChW; omega) |>.setL (by unfold ChW; omega), ?_, ?_, sL_self _ _ _ _, fun y a b => ⟨?_, ?_, ?_⟩⟩
  · rw [sL_fst, sI_ne (by omega), sI_self]
  · rw [sL_fst, sI_self]
  · rw [sL_fst, sI_ne (by omega), sI_ne (by omega), (f3 _ _ (by omega)).1, (f2 _ _ (by omega)).1]; exact v1 y a b
  · rw [sL_fst, sI_ne (by omega), sI_ne (by omega), (f3 _ _ (by omega)).1, v2 y a b, (f1 _ _ (by omega)).1]
  · rw [sL_fst, sI_ne (by omega), sI_ne (by omega), v3 y a b, (f2 _ _ (by omega)).1, (f1 _ _ (by omega)).1]
theorem bs_keep {M : Mem} (h : LI M) : Ok (fun r => (t_WF_keep M).2 = r.2 ∧ LI r.1) (t_MO_keep (t_WF_keep M).1) := by
  have h' := h
  obtain ⟨hI, ⟨V, hR, hX, hRL⟩, -⟩ := h
  have hV := hR.1.1
  have hv := hV.1
  have hIC := (sf_WF_keep hI).1
  have hS : CScF M 47 V (DN M 0) (AT M 0) (ST M 0) (LN M 0) (M.2 210 0) (M.2 211 0) (wlV V) := hRL.1
  obtain ⟨k1, k2, k3, k4⟩ := hRL.2.1
  have hy := hR.2.2.1.2
  have hcl : ∃ N, t_WF_keep M = (N, M.1 207 0) ∧ Fr (fun q j => (57 ≤ q ∧ q ≤ 61) ∨ ChW 66 q j ∨ (q = 0 ∧ j = 13)) M N ∧ CScF N 57 V (DN M 0) (AT M 0) (ST M 0) (LN M 0) (M.2 210 0) (M.2 211 0) (wlV V) ∧ N.1 66 3 = M.1 207 0 ∧ N.1 66 4 = M.1 208 0 ∧ N.2 66 5 = q_i2l (M.1 209 0) ∧ (∀ y, 0 ≤ y → y < 99 → N.1 67 y = M.1 63 y ∧ N.1 68 y = M.1 64 y ∧ N.1 69 y = M.1 65 y) ∧ N.1 0 13 = 1 := by
    unfold t_WF_keep
    simp (config := { proj := false }) only [qlet]
    obtain ⟨s1, s2⟩ := c_scopy (k0 := 57) (k1 := 47) hV (Or.inl (by omega)) hS
    generalize t_Scene_copy M 57 47 = N1 at *
    obtain ⟨t1, t2, t3, t4, t5⟩ := c_ccopy N1 (k0 := 66) (k1 := 62) (Or.inl (by omega))
    generalize t_Chronicle_copy N1 66 62 = N2 at *
    have e : ∀ q j, ChW 62 q j → N1.1 q j = M.1 q j ∧ N1.2 q j = M.2 q j := fun q j z => s2 q j (fun y => by unfold ChW at z; unfold CsW at y; omega)
    have f3 : Fr (fun q j => q = 0 ∧ j = 13) N2 (setI N2 0 13 1) := Fr.rf.setI ⟨rfl, rfl⟩
    have y3 : (setI N2 0 13 1).1 62 3 = M.1 207 0 := by rw [(f3 62 3 (by omega)).1, (t1 62 3 (by unfold ChW; omega)).1, (e 62 3 (by unfold ChW; omega)).1]; exact k1
    rw [y3]
    refine ⟨_, rfl, ((s2.mono (fun q j z => by unfold CsW at z; omega)).trans (t1.mono (fun q j z => Or.inr (Or.inl z)))).trans (f3.mono (fun q j z => by omega)), (s1.fr t1 (fun q j z y => by unfold CsW at z; unfold ChW at y; omega)).fr f3 (fun q j z y => by unfold CsW at z; omega), ?_, ?_, ?_, fun y a b => ⟨?_, ?_, ?_⟩, sI_self _ _ _ _⟩
    · rw [(f3 66 3 (by omega)).1, t2, (e 62 3 (by unfold ChW; omega)).1]; exact k1
    · rw [(f3 66 4 (by omega)).1, t3, (e 62 4 (by unfold ChW; omega)).1]; exact k2
    · rw [(f3 66 5 (by omega)).2, t4, (e 62 5 (by unfold ChW; omega)).2]; exact k3
    · rw [(f3 67 y (by omega)).1]; exact ((t5 y a b).1).trans (e 63 y (by unfold ChW; omega)).1
    · rw [(f3 68 y (by omega)).1]; exact ((t5 y a b).2.1).trans (e 64 y (by unfold ChW; omega)).1
    · rw [(f3 69 y (by omega)).1]; exact ((t5 y a b).2.2).trans (e 65 y (by unfold ChW; omega)).1
  obtain ⟨N, n1, n2, n3, n4, n5, n6, n7, n8⟩ := hcl
  rw [n1] at hIC ⊢
  have hRN : RI N V := hR.fr n2 (fun q j a z => by unfold RIc at a; unfold ChW at z; omega)
  have eN : ∀ q j, 191 ≤ q → N.1 q j = M.1 q j ∧ N.2 q j = M.2 q j := fun q j x => n2 q j (fun z => by unfold ChW at z; omega)
  obtain ⟨P, p0, p1⟩ := ri_keep hRN
  have hIP := im_MO_keep hIC P p0
  have p0' := p0
  unfold t_MO_keep at p0'
  simp (config := { proj := false }) only [qlet] at p0'
  have g0 : Fr (fun q j => q = 191 ∧ j = 0) N (setI N 191 0 0) := Fr.rf.setI ⟨rfl, rfl⟩
  obtain ⟨Q1, a1, a2, a3⟩ := m_copies (M := setI N 191 0 0) (x1 := 2) (x2 := 0) (by omega) (by omega) (by omega)
  obtain ⟨Q2, b1, b2, b3⟩ := m_copiesLog (M := Q1) (x1 := 2) (x2 := 0) (by omega) (by omega) (by omega)
  rw [a1, obind_some, b1, obind_some] at p0'
  have f3 : Fr (fun q j => q = 191 ∧ j = 42) Q2 (setI Q2 191 42 1) := Fr.rf.setI ⟨rfl, rfl⟩
  have v42 : (setI Q2 191 42 1).1 191 42 = 1 := sI_self _ _ _ _
  have eP := Option.some.inj p0'
  subst eP
  generalize hQ : setI Q2 191 42 1 = Q at *
  have fP : Fr (fun q j => (q = 191 ∧ (j = 0 ∨ j = 42)) ∨ CW 2 q j ∨ LW 2 q j) N Q := (((g0.mono (fun q j z => by omega)).trans (a2.mono (fun q j z => Or.inr (Or.inl z)))).trans (b2.mono (fun q j z => Or.inr (Or.inr z)))).trans (f3.mono (fun q j z => by omega))
  have fA : Fr (fun q j => ((57 ≤ q ∧ q ≤ 61) ∨ ChW 66 q j ∨ (q = 0 ∧ j = 13)) ∨ ((q = 191 ∧ (j = 0 ∨ j = 42)) ∨ CW 2 q j ∨ LW 2 q j)) M Q := (n2.mono (fun q j z => Or.inl z)).trans (fP.mono (fun q j z => Or.inr z))
  have row : RowEq Q 2 M 0 := ((((RowEq.fr f3 (fun q j z w => by unfold CW at z; omega)).trans (RowEq.fr b2 (fun q j z w => by unfold CW at z; unfold LW at w; omega))).trans a3).trans (RowEq.fr g0 (fun q j z w => by unfold CW at z; omega))).trans (RowEq.fr n2 (fun q j z w => by unfold CW at z; unfold ChW at w; omega))
  have e70 : Q.1 207 0 = M.1 207 0 := (fA 207 0 (fun y => by unfold ChW CW LW at y; omega)).1
  refine ⟨(Q, Q.1 207 0), p0, e70.symm, ?_⟩
  refine h'.two hX hIP.1 p1 ⟨?_, ?_, ?_, ⟨?_, fun _ => ⟨?_, ?_⟩⟩, ?_, ?_⟩ (fA.mono (fun q j z => by unfold ChW CW LW at z; unfold KpA; omega))
  · exact CSR.fr hV hRL.1 fA (fun q j z y => by unfold CsW RwW at z; unfold ChW CW LW at y; omega)
  · exact hRL.2.1.fr hR.yr.1 fA (fun q j z y => by unfold ChW RgR at z; unfold ChW CW LW at y; omega)
  · exact hRL.2.2.1.fr hV fA (fun q j z y => by unfold ChW CW LW at y; omega)
  · rw [(fP 0 13 (fun y => by unfold CW LW at y; omega)).1, n8]; exact v42.symm
  · exact CSR.of hV (n3.fr fP (fun q j z y => by unfold CsW at z; unfold CW LW at y; omega)) row
  · have c : ∀ q j, ChW 66 q j → Q.1 q j = N.1 q j ∧ Q.2 q j = N.2 q j := fun q j z => fP q j (fun y => by unfold ChW at z; unfold CW LW at y; omega)
    refine ⟨by rw [(c 66 3 (by unfold ChW; omega)).1, n4, row.1.1], by rw [(c 66 4 (by unfold ChW; omega)).1, n5, row.1.2.1], by rw [(c 66 5 (by unfold ChW; omega)).2, n6, row.1.2.2.1], fun y a b => ?_⟩
    rw [row.1.1] at b
    have b9 : y < 99 := by omega
    have lg : ∀ k, (k = 216 ∨ k = 217 ∨ k = 218) → Q.1 k (100 * 2 + y) = M.1 k (100 * 0 + y) := fun k hk => by
      rw [(f3 k _ (by omega)).1, b3 k y hk a (by omega), (a2 k _ (fun z => by unfold CW at z; omega)).1, (g0 k _ (by omega)).1, (eN k _ (by omega)).1]
    rw [(c (66 + 1) y (by unfold ChW; omega)).1, (c (66 + 2) y (by unfold ChW; omega)).1, (c (66 + 3) y (by unfold ChW; omega)).1, lg 216 (by omega), lg 217 (by omega), lg 218 (by omega), (n7 y a b9).1, (n7 y a b9).2.1, (n7 y a b9).2.2]
    exact k4 y a b
  · exact hRL.2.2.2.2.1.fr fA (fun q j z y => by unfold ChW CW LW at y; omega)
  · exact hRL.2.2.2.2.2.fr hV fA (fun q j z y => by unfold RwW at z; unfold ChW CW LW at y; omega)
