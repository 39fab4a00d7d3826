/-! vote -/
theorem bs_vote {M : Mem} (h : LI M) {x1 x2 : Int} (h1 : InR x1) (h2 : InR x2) : Ok (fun q => Ok (fun r => q.2 = r.2 ∧ LI r.1) (t_MO_vote q.1 x1 x2)) (t_WF_vote M x1 x2) := by
  have h' := h
  have hTT := h.T
  obtain ⟨hI, ⟨V, hR, hX, hRL⟩, -⟩ := h
  have hV := hR.1.1
  have hv := hV.1
  have hC := hV.cells
  have hMT := hR.1.2.1
  have hS : CScF M 47 V (DN M 0) (AT M 0) (ST M 0) (LN M 0) (M.2 210 0) (M.2 211 0) (wlV V) := hRL.1
  have hP := hRL.2.2.1
  have okC := sf_WF_vote hI h1 h2
  obtain ⟨T, hT⟩ : ∃ T, T = (M.1 0 4).toNat := ⟨_, rfl⟩
  have same : t_WF_vote M x1 x2 = some (M, 0) → t_MO_vote M x1 x2 = some (setI M 191 0 0, 0) → Ok (fun q => Ok (fun r => q.2 = r.2 ∧ LI r.1) (t_MO_vote q.1 x1 x2)) (t_WF_vote M x1 x2) := fun e1 e2 => ⟨_, e1, _, e2, rfl, h'.at0⟩
  have q0 : ∀ k j, ¬ (k = 191 ∧ j = 0) → (setI M 191 0 0).1 k j = M.1 k j := fun k j z => sI_ne z
  by_cases c1 : 0 ≤ x1 ∧ x1 < V 0 2
  rotate_left
  · refine same ?_ ?_
    · unfold t_WF_vote; rw [c_hasWard hX.1]; simp only [qlet]; rw [if_neg c1, if_pos rfl]
    · unfold t_MO_vote; simp (config := { proj := false }) only [qlet]; rw [m_isWard (hR.set0 0).1.2.1, if_neg c1, if_pos rfl]
  by_cases c2 : 0 ≤ x2 ∧ x2 ≤ 4
  rotate_left
  · refine same ?_ ?_
    · unfold t_WF_vote; rw [c_hasWard hX.1]; simp only [qlet]; rw [if_pos c1, if_neg (show ¬ (1 : Int) = 0 by decide), c_isDown, if_neg c2, if_pos rfl]
    · unfold t_MO_vote; simp (config := { proj := false }) only [qlet]; rw [m_isWard (hR.set0 0).1.2.1, if_pos c1, if_neg (show ¬ (1 : Int) = 0 by decide)]
      have ed : t_MO_isDown (setI M 191 0 0) x2 = 0 := by
        unfold t_MO_isDown
        by_cases z : x2 < 0
        · rw [if_pos z]
        · rw [if_neg z, if_pos (by omega)]
      rw [ed, if_pos rfl]
  have d1 : M.1 48 x1 = M.1 212 x1 := by
    have := hS.1 x1 c1.1 c1.2
    unfold DN at this
    rw [show (4 : Int) * 0 + x1 = x1 by omega] at this
    exact this
  have edn : ∀ N : Mem, t_MO_isDown N x2 = 1 := fun N => by unfold t_MO_isDown; rw [if_neg (by omega), if_neg (by omega)]
  by_cases c3 : M.1 212 x1 = x2
  · refine same ?_ ?_
    · unfold t_WF_vote; rw [c_hasWard hX.1]; simp only [qlet]; rw [if_pos c1, if_neg (show ¬ (1 : Int) = 0 by decide), c_isDown, if_pos c2, if_neg (show ¬ (1 : Int) = 0 by decide), look_in c1.1 (by omega), d1, if_pos c3]
    · unfold t_MO_vote; simp (config := { proj := false }) only [qlet]; rw [m_isWard (hR.set0 0).1.2.1, if_pos c1, if_neg (show ¬ (1 : Int) = 0 by decide), edn, if_neg (show ¬ (1 : Int) = 0 by decide), qguard_pos ⟨c1.1, by omega⟩, q0 212 x1 (by omega), if_pos c3]
  -- the class
  have hm43 := hP.2.2.1
  obtain ⟨r1, r2, r3, r4⟩ := c_remember hV hP.2.1 (by rw [hP.1]; exact hm43) hS
  have hcls : ∃ N, t_WF_vote M x1 x2 = some (N, 1) ∧ CmR M N V (upA (DN M 0) x1 x2) (AT M 0) (ST M 0) (LN M 0) (M.2 210 0) (flS (nxV V (upA (DN M 0) x1 x2) (M.2 210 0) (wlV V)) (M.2 211 0) (cellsV V).toNat) := by
    unfold t_WF_vote
    rw [c_hasWard hX.1]
    simp (config := { proj := false }) only [qlet]
    rw [if_pos c1, if_neg (show ¬ (1 : Int) = 0 by decide), c_isDown, if_pos c2, if_neg (show ¬ (1 : Int) = 0 by decide), look_in c1.1 (by omega), d1, if_neg c3]
    have hu : 0 ≤ upL (M.1 70 1) ∧ upL (M.1 70 1) < 20 := by have := hP.2.1; unfold upL; split <;> omega
    generalize t_Past_remember M 47 = N1 at *
    have w1 : ∀ {q j}, RmW (M.1 70 1) q j → (q = 70 ∧ (j = 1 ∨ j = 2)) ∨ (72 ≤ q ∧ q ≤ 171) := fun z => by unfold RmW CsW at z; omega
    rw [put_in (M := N1) c1.1 (by omega)]
    have f2 : Fr (fun q j => q = 48 ∧ j = x1) N1 (setI N1 48 x1 x2) := Fr.rf.setI ⟨rfl, rfl⟩
    have s1 : CScF N1 47 V (DN M 0) (AT M 0) (ST M 0) (LN M 0) (M.2 210 0) (M.2 211 0) (wlV V) := hS.fr r1 (fun q j z y => by have := w1 y; unfold CsW at z; omega)
    have s2 : CScF (setI N1 48 x1 x2) 47 V (upA (DN M 0) x1 x2) (AT M 0) (ST M 0) (LN M 0) (M.2 210 0) (M.2 211 0) (wlV V) := by
      obtain ⟨a1, a2, a3, a4, a5⟩ := s1
      refine ⟨fun w x y => ?_, fun t x y => ?_, a3, a4, a5⟩
      · by_cases e : w = x1
        · rw [e, upA_self]; exact sI_self _ _ _ _
        · rw [upA_ne _ e, (f2 (47 + 1) w (by omega)).1]; exact a1 w x y
      · rw [(f2 (47 + 2) t (by omega)).1, (f2 (47 + 3) t (by omega)).1, (f2 (47 + 4) t (by omega)).1]; exact a2 t x y
    have r4' := r4.fr f2 (fun q j z y => by unfold CsW at z; omega)
    have f12 : Fr (fun q j => RmW (M.1 70 1) q j ∨ (q = 48 ∧ j = x1)) M (setI N1 48 x1 x2) := (r1.mono (fun q j z => Or.inl z)).trans (f2.mono (fun q j z => Or.inr z))
    have v1 : (setI N1 48 x1 x2).1 70 1 = upL (M.1 70 1) := ((f2 70 1 (by omega)).1).trans r2
    have v2 : (setI N1 48 x1 x2).1 70 2 = upM (M.1 70 2) := ((f2 70 2 (by omega)).1).trans r3
    have n12 : ∀ {q : Nat} {j : Int}, (RmW (M.1 70 1) q j ∨ (q = 48 ∧ j = x1)) → q = 48 ∨ (q = 70 ∧ (j = 1 ∨ j = 2)) ∨ (72 ≤ q ∧ q ≤ 171) := fun z => by
      rcases z with z | z
      · have := w1 z; omega
      · omega
    have v8 : (setI N1 48 x1 x2).1 177 8 = M.1 177 8 := (f12 177 8 (fun y => by have := n12 y; omega)).1
    generalize setI N1 48 x1 x2 = N2 at *
    have e4 : N2.1 0 4 = M.1 0 4 := (f12 0 4 (fun y => by have := n12 y; omega)).1
    rw [e4, ← hT]
    rw [← hT] at hX hTT
    have X2 : CT0 N2 T V ∧ CTs N2 T V := ⟨CT0.fr f12 (fun q j x y z => by have := n12 z; omega) hX.1, CTs.fr f12 (fun q j x y z => by have := n12 z; omega) hX.2.1⟩
    obtain ⟨N3, n1, n2, n3⟩ := c_flood (T := T) hV hTT.2 (by omega) X2 s2
    rw [n1, obind_some]
    refine ⟨N3, rfl, ?_, ?_, ?_, r4'.fr n3 (fun q j z y => by unfold CsW at z; unfold PoW at y; omega), n2, Or.inr ⟨?_, fun t _ _ => rfl, rfl⟩⟩
    · exact (f12.mono (fun q j z => by
        rcases z with z | z
        · exact Or.inl z
        · exact Or.inr (Or.inl (by unfold CsW; omega)))).trans (n3.mono (fun q j z => Or.inr (Or.inl (by unfold PoW at z; unfold CsW; omega))))
    · rw [(n3 70 1 (by unfold PoW; omega)).1]; exact v1
    · rw [(n3 70 2 (by unfold PoW; omega)).1]; exact v2
    · rw [(n3 177 8 (by unfold PoW; omega)).1]; exact v8
  obtain ⟨N, n1, n2⟩ := hcls
  obtain ⟨u, e, hu⟩ := okC
  have : u = (N, 1) := Option.some.inj (e.symm.trans n1)
  subst this
  have hIN : IM N := hu.1
  have cls : ∀ q j, CmW (M.1 70 1) q j → q < 191 := fun q j z => by have := CmW_cls hP.2.1 z; omega
  have hRN : RI N V := riN hR n2.1 cls
  have eN : ∀ q j, 191 ≤ q → N.1 q j = M.1 q j ∧ N.2 q j = M.2 q j := fun q j x => n2.1 q j (fun z => by have := cls q j z; omega)
  -- the reference
  obtain ⟨P, p0, p1⟩ := ri_vote hRN x1 x2
  have hIP := im_MO_vote hIN h1 h2 P p0
  refine ⟨(N, 1), n1, P, p0, ?_⟩
  have hmo : ∃ Q, t_MO_vote N x1 x2 = some (Q, 1) ∧ MmR N Q V (upA (DN M 0) x1 x2) (AT M 0) (ST M 0) (LN M 0) (M.2 210 0) (flS (nxV V (upA (DN M 0) x1 x2) (M.2 210 0) (wlV V)) (M.2 211 0) (cellsV V).toNat) := by
    unfold t_MO_vote
    simp (config := { proj := false }) only [qlet]
    have hR1 : RI (setI N 191 0 0) V := hRN.set0 0
    have f0 : Fr (fun q j => q = 191 ∧ j = 0) N (setI N 191 0 0) := Fr.rf.setI ⟨rfl, rfl⟩
    have e212 : (setI N 191 0 0).1 212 x1 = M.1 212 x1 := ((f0 212 x1 (by omega)).1).trans (eN 212 x1 (by omega)).1
    rw [m_isWard hR1.1.2.1, if_pos c1, if_neg (show ¬ (1 : Int) = 0 by decide), edn, if_neg (show ¬ (1 : Int) = 0 by decide), qguard_pos ⟨c1.1, by omega⟩, e212, if_neg c3]
    have e43 : (setI N 191 0 0).1 191 43 = N.1 191 43 := (f0 191 43 (by omega)).1
    obtain ⟨Q1, a1, a2, a3, a4⟩ := m_kn (M := setI N 191 0 0) (by rw [e43, (eN 191 43 (by omega)).1]; exact hm43)
    rw [a1, obind_some, qguard_pos ⟨c1.1, by omega⟩]
    have g1 : Fr (fun q j => KW q j ∨ (q = 191 ∧ j = 0)) N Q1 := (f0.mono (fun q j z => Or.inr z)).trans (a2.mono (fun q j z => Or.inl z))
    have f2 : Fr (fun q j => q = 212 ∧ j = x1) Q1 (setI Q1 212 x1 x2) := Fr.rf.setI ⟨rfl, rfl⟩
    have v212 : (setI Q1 212 x1 x2).1 212 x1 = x2 := sI_self _ _ _ _
    have g2 : Fr (fun q j => KW q j ∨ (q = 191 ∧ j = 0) ∨ (q = 212 ∧ j = x1)) N (setI Q1 212 x1 x2) := (g1.mono (fun q j z => z.imp (fun w => w) Or.inl)).trans (f2.mono (fun q j z => Or.inr (Or.inr z)))
    have k2 : KnR (setI Q1 212 x1 x2) (setI N 191 0 0) := a4.fr f2 (by rw [e43, (eN 191 43 (by omega)).1]; exact hm43.1) (fun a q j x y z w => by unfold CW at z; omega)
    have v43 : (setI Q1 212 x1 x2).1 191 43 = upM (N.1 191 43) := by rw [(f2 191 43 (by omega)).1, a3, e43]
    generalize setI Q1 212 x1 x2 = Q2 at *
    have row : ∀ q j, ((q = 210 ∨ q = 211) ∧ j = 0) ∨ (q = 212 ∧ 0 ≤ j ∧ j < 4 ∧ j ≠ x1) ∨ ((q = 213 ∨ q = 214 ∨ q = 215) ∧ 0 ≤ j ∧ j < 8) → Q2.1 q j = M.1 q j ∧ Q2.2 q j = M.2 q j := fun q j z => by
      have := g2 q j (by unfold KW; omega)
      have e := eN q j (by omega)
      exact ⟨this.1.trans e.1, this.2.trans e.2⟩
    have hD : ∀ w, 0 ≤ w → w < V 0 2 → upA (DN M 0) x1 x2 w = DN Q2 0 w := fun w x y => by
      unfold DN
      rw [show (4 : Int) * 0 + w = w by omega]
      by_cases z : w = x1
      · rw [z, upA_self, v212]
      · rw [upA_ne _ z, (row 212 w (by omega)).1]
        rw [show (4 : Int) * 0 + w = w by omega]
    have nb : NB Q2 0 V := by
      refine ⟨hV, MT0.fr g2 (fun q j x y z => by unfold KW at z; omega) hRN.1.2.1, ?_, fun w x y => ?_⟩
      · rw [(g2 191 44 (by unfold KW; omega)).1]; exact hRN.2.1
      · have := hD w x y
        unfold DN at this
        rw [← this]
        by_cases z : w = x1
        · rw [z, upA_self]; exact c2
        · rw [upA_ne _ z]; exact hR.row0.1 w x y
    obtain ⟨Q3, b1, b2, b3⟩ := nb.floods (by omega)
    rw [b1, obind_some]
    refine ⟨Q3, rfl, (g2.mono (fun q j z => ?_)).trans (b3.mono (fun q j z => ?_)), ?_, ?_, fun w x y => ?_, fun t x y => ⟨?_, ?_, ?_⟩, ?_, ?_⟩
    · rcases z with z | z | z
      · exact Or.inl z
      · exact Or.inr (Or.inr (Or.inr z))
      · exact Or.inr (Or.inl (by unfold RwW; omega))
    · exact Or.inr (Or.inl (by unfold RwW; omega))
    · rw [(b3 191 43 (by omega)).1]; exact v43
    · have k3 := k2.fr b3 (by rw [e43, (eN 191 43 (by omega)).1]; exact hm43.1) (fun a q j x y z w => by unfold CW at z; omega)
      have rs : ∀ b, RowEq (setI N 191 0 0) b N b := fun b => RowEq.fr f0 (fun q j z w => by unfold CW at z; omega)
      unfold KnR at k3 ⊢
      rw [e43] at k3
      rcases k3 with ⟨x, y, z⟩ | ⟨x, y, z⟩
      · exact Or.inl ⟨x, fun k p q => (y k p q).trans (rs _), z.trans (rs _)⟩
      · exact Or.inr ⟨x, fun k p q => (y k p q).trans (rs _), z.trans (rs _)⟩
    · rw [(b3 212 w (by omega)).1]
      have := hD w x y
      unfold DN at this
      rw [show (4 : Int) * 0 + w = w by omega] at this
      exact this.symm
    · rw [(b3 213 t (by omega)).1, (row 213 t (by omega)).1]; unfold AT; rw [show (8 : Int) * 0 + t = t by omega]
    · rw [(b3 214 t (by omega)).1, (row 214 t (by omega)).1]; unfold ST; rw [show (8 : Int) * 0 + t = t by omega]
    · rw [(b3 215 t (by omega)).1, (row 215 t (by omega)).1]; unfold LN; rw [show (8 : Int) * 0 + t = t by omega]
    · rw [(b3 210 0 (by omega)).2]; exact (row 210 0 (by omega)).2
    · rw [b2, (row 211 0 (by omega)).2]
      unfold nxR
      rw [(row 210 0 (by omega)).2]
      exact (fl_congr hV hD _ _ _).symm
  obtain ⟨Q, q1, q2⟩ := hmo
  have ePQ : P = (Q, 1) := Option.some.inj (p0.symm.trans q1)
  subst ePQ
  exact ⟨rfl, bs_move h' hR hX hRL hIP.1 p1 n2 q2⟩
