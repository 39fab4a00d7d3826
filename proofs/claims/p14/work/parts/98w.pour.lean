theorem pn_congr {f g : Int → Int} {C : Int} (hf : stepOK f C) (h : ∀ c, 0 ≤ c → c < C → f c = g c) {c : Int} (c0 : 0 ≤ c) (c1 : c < C) : ∀ (n : Nat) (w : Int64), pnS f c n w = pnS g c n w := by
  intro n
  induction n with
  | zero => intro w; rfl
  | succ n ih => intro w; rw [pnS, pnS, ih w, prS_congr hf h _ _ _ c0 c1]
theorem RowEq.dn {N M : Mem} {a b : Int} {V : TV} (hV : VOK V) (e : RowEq N a M b) : ∀ w, 0 ≤ w → w < V 0 2 → DN N a w = DN M b w := fun w x y => e.2.1 w x (by have := hV.1; omega)
theorem bs_pour {M : Mem} (h : LI M) {x1 x2 : Int} (h1 : InR x1) (h2 : InR x2) : Ok (fun q => Ok (fun r => q.2 = r.2 ∧ LI r.1) (t_MO_pour q.1 x1 x2)) (t_WF_pour M x1 x2) := by
  have h' := h
  have hTT := h.T
  obtain ⟨hI, ⟨V, hR, hX, hRL⟩, -⟩ := h
  have hV := hR.1.1
  have hv := hV.1
  have hC := hV.cells
  have hP := hRL.2.2.1
  have hS : CScF M 47 V (DN M 0) (AT M 0) (ST M 0) (LN M 0) (M.2 210 0) (M.2 211 0) (wlV V) := hRL.1
  have okC := sf_WF_pour hI h1 h2
  have same : t_WF_pour M x1 x2 = some (M, -1) → t_MO_pour M x1 x2 = some (setI M 191 0 0, -1) → Ok (fun q => Ok (fun r => q.2 = r.2 ∧ LI r.1) (t_MO_pour q.1 x1 x2)) (t_WF_pour M x1 x2) := fun e1 e2 => ⟨_, e1, _, e2, rfl, h'.at0⟩
  by_cases c1 : opV V x1
  rotate_left
  · refine same ?_ ?_
    · unfold t_WF_pour; rw [c_isFree hV hX hS, if_neg c1]; simp only [qlet]; rw [if_pos trivial]
    · unfold t_MO_pour; simp (config := { proj := false }) only [qlet]; rw [m_open01 (hR.set0 0).1.2.1 hV, if_neg c1, obind_some, if_pos rfl]
  by_cases c2 : x2 < 1
  · refine same ?_ ?_
    · unfold t_WF_pour; rw [c_isFree hV hX hS, if_pos c1]; simp only [qlet]; rw [if_neg (show ¬ (1 : Int) = 0 by decide), if_pos c2]
    · unfold t_MO_pour; simp (config := { proj := false }) only [qlet]; rw [m_open01 (hR.set0 0).1.2.1 hV, if_pos c1, obind_some, if_neg (show ¬ (1 : Int) = 0 by decide), if_pos c2]
  by_cases c3 : x2 ≤ 99
  rotate_left
  · refine same ?_ ?_
    · unfold t_WF_pour; rw [c_isFree hV hX hS, if_pos c1]; simp only [qlet]; rw [if_neg (show ¬ (1 : Int) = 0 by decide), if_neg c2, if_neg c3]
    · unfold t_MO_pour; simp (config := { proj := false }) only [qlet]; rw [m_open01 (hR.set0 0).1.2.1 hV, if_pos c1, obind_some, if_neg (show ¬ (1 : Int) = 0 by decide), if_neg c2, if_neg c3]
  obtain ⟨n, hn⟩ : ∃ n : Nat, (n : Int) = x2 := ⟨x2.toNat, by omega⟩
  subst hn
  obtain ⟨T, hT⟩ : ∃ T, T = (M.1 0 4).toNat := ⟨_, rfl⟩
  have hX0 := hX
  rw [← hT] at hX hTT
  -- the class tries
  obtain ⟨s1, s2⟩ := c_scopy (k0 := 52) (k1 := 47) hV (Or.inl (by omega)) hS
  have e52 : (t_Scene_copy M 52 47).1 0 4 = M.1 0 4 := (s2 0 4 (by unfold CsW; omega)).1
  have hfN : ∀ N, Fr (PoW 52) (t_Scene_copy M 52 47) N → t_Scene_pourOne N 52 (N.1 0 4).toNat x1 = t_Scene_pourOne N 52 ((t_Scene_copy M 52 47).1 0 4).toNat x1 ∧ ∀ c, 0 ≤ c → c < cellsV V → t_Scene_nextOf N 52 ((t_Scene_copy M 52 47).1 0 4).toNat c = nxV V (DN M 0) (M.2 210 0) (wlV V) c := by
    intro N hF
    have e4 : N.1 0 4 = (t_Scene_copy M 52 47).1 0 4 := (hF 0 4 (by unfold PoW; omega)).1
    rw [e4, e52, ← hT]
    refine ⟨rfl, fun c a b => ?_⟩
    have fN : Fr (CsW 52) M N := s2.trans (hF.mono (fun q j z => by unfold PoW at z; unfold CsW; omega))
    have hcs : CSc N 52 V (DN M 0) (AT M 0) (M.2 210 0) (wlV V) := by
      have hs := s1.sc
      refine ⟨fun w x y => ?_, fun t x y => ?_, ?_, fun q x y => ?_⟩
      · rw [(hF (52 + 1) w (by unfold PoW; omega)).1]; exact hs.1 w x y
      · rw [(hF (52 + 2) t (by unfold PoW; omega)).1]; exact hs.2.1 t x y
      · rw [(hF 52 5 (by unfold PoW; omega)).2]; exact hs.2.2.1
      · rw [(hF 52 4 (by unfold PoW; omega)).2]; exact hs.2.2.2 q x y
    exact c_next (CT0.fr fN (fun q j x y z => by unfold CsW at z; omega) hX.1) (CTs.fr fN (fun q j x y z => by unfold CsW at z; omega) hX.2.1) hV hcs a b
  obtain ⟨N0, n1, n2, n3⟩ := c_pour_L37 (M0 := t_Scene_copy M 52 47) (w0 := M.2 211 0) (n := n) (by omega) hC.2 (nx_ok hV (DN M 0) (M.2 210 0) (wlV V)) c1.1 c1.2.1 hfN n 0 FU (t_Scene_copy M 52 47) (by omega) (fu_big (by omega)) Fr.rf s1.2.2.2.1
  have hw : t_WF_pour M x1 (n : Int) = (if (pnS (nxV V (DN M 0) (M.2 210 0) (wlV V)) x1 n (M.2 211 0)).2 ≤ 0 then some (N0, (pnS (nxV V (DN M 0) (M.2 210 0) (wlV V)) x1 n (M.2 211 0)).2) else some (setL (t_Past_remember N0 47) 47 6 ((t_Past_remember N0 47).2 52 6), (pnS (nxV V (DN M 0) (M.2 210 0) (wlV V)) x1 n (M.2 211 0)).2)) := by
    unfold t_WF_pour
    rw [c_isFree hV hX0 hS, if_pos c1]
    simp (config := { proj := false }) only [qlet]
    rw [if_neg (show ¬ (1 : Int) = 0 by decide), if_neg c2, if_pos c3]
    exact n3
  have fN0 : Fr (fun q j => 52 ≤ q ∧ q ≤ 56) M N0 := (s2.mono (fun q j z => by unfold CsW at z; omega)).trans (n1.mono (fun q j z => by unfold PoW at z; omega))
  have pr := pn_rng (nxV V (DN M 0) (M.2 210 0) (wlV V)) x1 (M.2 211 0) n
  -- the reference tries
  have hm : ∀ N : Mem, RI N V → (∀ q j, 191 ≤ q → N.1 q j = M.1 q j ∧ N.2 q j = M.2 q j) → ∃ Q, Fr (fun q j => CW 1 q j ∨ (q = 191 ∧ j = 0)) N Q ∧ Q.2 211 1 = (pnS (nxV V (DN M 0) (M.2 210 0) (wlV V)) x1 n (M.2 211 0)).1 ∧ t_MO_pour N x1 (n : Int) = (if (pnS (nxV V (DN M 0) (M.2 210 0) (wlV V)) x1 n (M.2 211 0)).2 = 0 then some (Q, 0) else obind (t_MO_keepNow Q) fun q11 => some (setL q11 211 0 (q11.2 211 1), (pnS (nxV V (DN M 0) (M.2 210 0) (wlV V)) x1 n (M.2 211 0)).2)) := by
    intro N hN eN
    have f0 : Fr (fun q j => q = 191 ∧ j = 0) N (setI N 191 0 0) := Fr.rf.setI ⟨rfl, rfl⟩
    have hN1 := hN.set0 0
    obtain ⟨C, k1, k2, k3, k4, k5⟩ := hN1.cp1
    have hb : NB C 1 V := k2.nb k3
    have e0 : ∀ q j, RwW 0 q j → (setI N 191 0 0).1 q j = M.1 q j ∧ (setI N 191 0 0).2 q j = M.2 q j := fun q j z => by
      have a := f0 q j (by unfold RwW at z; omega)
      have b := eN q j (by unfold RwW at z; omega)
      exact ⟨a.1.trans b.1, a.2.trans b.2⟩
    have eD : ∀ w, 0 ≤ w → w < V 0 2 → DN M 0 w = DN C 1 w := fun w x y => by
      rw [k4.dn hV w x y]
      exact ((e0 212 _ (by unfold RwW; omega)).1).symm
    have e210 : C.2 210 1 = M.2 210 0 := k4.1.2.2.2.1.trans (e0 210 0 (by unfold RwW; omega)).2
    have e211 : C.2 211 1 = M.2 211 0 := k4.1.2.2.2.2.trans (e0 211 0 (by unfold RwW; omega)).2
    have enx : ∀ c, 0 ≤ c → c < cellsV V → nxV V (DN M 0) (M.2 210 0) (wlV V) c = nxR C 1 V c := fun c a b => by
      unfold nxR
      rw [e210]
      exact nx_congr hV eD _ _ a (by omega)
    obtain ⟨Q, q1, q2, q3⟩ := m_pour_L37 (M0 := C) (V := V) (w0 := M.2 211 0) (n := n) (by omega) hb c1.1 c1.2.1 n 0 FU C (by omega) (fu_big (by omega)) Fr.rf e211
    have ep := pn_congr (nx_ok hV (DN M 0) (M.2 210 0) (wlV V)) enx c1.1 c1.2.1 n (M.2 211 0)
    rw [← ep] at q2 q3
    refine ⟨Q, ((f0.mono (fun q j z => Or.inr z)).trans (k5.mono (fun q j z => Or.inl z))).trans (q1.mono (fun q j z => Or.inl (by unfold CW; omega))), q2, ?_⟩
    unfold t_MO_pour
    simp (config := { proj := false }) only [qlet]
    rw [m_open01 hN1.1.2.1 hV, if_pos c1, obind_some, if_neg (show ¬ (1 : Int) = 0 by decide), if_neg c2, if_pos c3, k1, obind_some]
    exact q3
  by_cases c4 : (pnS (nxV V (DN M 0) (M.2 210 0) (wlV V)) x1 n (M.2 211 0)).2 ≤ 0
  · rw [if_pos c4] at hw
    obtain ⟨u, e, hu⟩ := okC
    rw [hw] at e ⊢
    have e1 := Option.some.inj e
    subst e1
    have hLN : LI N0 := h'.q hu.1 (fN0.mono (fun q j z => by unfold QkW; omega))
    have hRN : RI N0 V := hR.fr fN0 (fun q j a z => by unfold RIc at a; omega)
    obtain ⟨Q, q1, q2, q3⟩ := hm N0 hRN (fun q j x => fN0 q j (by omega))
    rw [if_pos (by omega)] at q3
    have hIQ := im_MO_pour hu.1 h1 h2 _ q3
    exact ⟨_, rfl, _, q3, by show (pnS (nxV V (DN M 0) (M.2 210 0) (wlV V)) x1 n (M.2 211 0)).2 = 0; omega, hLN.qm hIQ.1 (q1.mono (fun q j z => by unfold CW at z; unfold QmW CW; omega))⟩
  rw [if_neg c4] at hw
  have hRL0 : RL N0 V := hRL.frf hV hR.yr fN0 (fun q j a z => by unfold RLf at a; omega)
  have rm0 := rm_of hV hRL0
  have e70 : ∀ j, N0.1 70 j = M.1 70 j := fun j => (fN0 70 j (by omega)).1
  have eR0 : ∀ q j, 191 ≤ q → N0.1 q j = M.1 q j ∧ N0.2 q j = M.2 q j := fun q j x => fN0 q j (by omega)
  have eDN : DN N0 0 = DN M 0 := funext fun w => (eR0 212 _ (by omega)).1
  have eAT : AT N0 0 = AT M 0 := funext fun w => (eR0 213 _ (by omega)).1
  have eST : ST N0 0 = ST M 0 := funext fun w => (eR0 214 _ (by omega)).1
  have eLN : LN N0 0 = LN M 0 := funext fun w => (eR0 215 _ (by omega)).1
  obtain ⟨u, e, hu⟩ := okC
  rw [hw] at e ⊢
  have e1 := Option.some.inj e
  subst e1
  have hIC : IM (setL (t_Past_remember N0 47) 47 6 ((t_Past_remember N0 47).2 52 6)) := hu.1
  have hcm : CmR M (setL (t_Past_remember N0 47) 47 6 ((t_Past_remember N0 47).2 52 6)) V (DN M 0) (AT M 0) (ST M 0) (LN M 0) (M.2 210 0) (pnS (nxV V (DN M 0) (M.2 210 0) (wlV V)) x1 n (M.2 211 0)).1 := by
    obtain ⟨m1, m2, m3, m4, m5⟩ := rm0
    rw [e70, eDN, eAT, eST, eLN, (eR0 210 0 (by omega)).2, (eR0 211 0 (by omega)).2] at *
    have hL := hP.2.1
    have e6 : (t_Past_remember N0 47).2 52 6 = N0.2 52 6 := (m1 52 6 (fun z => by have := RmW_cls hL z; omega)).2
    rw [e6, n2]
    generalize t_Past_remember N0 47 = N1 at *
    have f2 : Fr (fun q j => q = 47 ∧ j = 6) N1 (setL N1 47 6 (pnS (nxV V (DN M 0) (M.2 210 0) (wlV V)) x1 n (M.2 211 0)).1) := Fr.rf.setL ⟨rfl, rfl⟩
    have u0 : 0 ≤ upL (M.1 70 1) ∧ upL (M.1 70 1) < 20 := by unfold upL; split <;> omega
    refine ⟨((fN0.mono (fun q j z => Or.inr (Or.inr (Or.inr z)))).trans (m1.mono (fun q j z => Or.inl z))).trans (f2.mono (fun q j z => Or.inr (Or.inl (by unfold CsW; omega)))), ?_, ?_, ?_, ?_, Or.inr ⟨?_, fun t _ _ => rfl, rfl⟩⟩
    · rw [(f2 70 1 (by omega)).1]; exact m2
    · rw [(f2 70 2 (by omega)).1]; exact m3
    · exact m4.fr f2 (fun q j z y => by unfold CsW at z; omega)
    · obtain ⟨a1, a2, a3, a4, a5⟩ := m5
      refine ⟨fun w x y => a1 w x y, fun t x y => a2 t x y, ?_, sL_self _ _ _ _, fun c x y => ?_⟩
      · rw [(f2 47 5 (by omega)).2]; exact a3
      · rw [(f2 47 4 (by omega)).2]; exact a5 c x y
    · rw [(f2 177 8 (by omega)).1, (m1 177 8 (fun z => by have := RmW_cls hL z; omega)).1, (fN0 177 8 (by omega)).1]
  generalize setL (t_Past_remember N0 47) 47 6 ((t_Past_remember N0 47).2 52 6) = N at *
  have cls : ∀ q j, CmW (M.1 70 1) q j → q < 191 := fun q j z => by have := CmW_cls hP.2.1 z; omega
  have hRN : RI N V := riN hR hcm.1 cls
  have eN : ∀ q j, 191 ≤ q → N.1 q j = M.1 q j ∧ N.2 q j = M.2 q j := fun q j x => hcm.1 q j (fun z => by have := cls q j z; omega)
  obtain ⟨P, p0, p1⟩ := ri_pour hRN x1 (n : Int)
  have hIP := im_MO_pour hIC h1 h2 P p0
  have p0' := p0
  obtain ⟨Q, q1, q2, q3⟩ := hm N hRN eN
  rw [q3, if_neg (by omega)] at p0'
  have hm43 : 0 ≤ N.1 191 43 ∧ N.1 191 43 ≤ 20 := by rw [(eN 191 43 (by omega)).1]; exact hP.2.2.1
  obtain ⟨R, a1, a2, a3, a4⟩ := kn_of1 hm43 q1 (fun q j z => z)
  have r0 := row0_of eN a2 (fun q j z => z)
  rw [a1, obind_some] at p0'
  have eP := Option.some.inj p0'
  refine ⟨(N, _), rfl, P, p0, by rw [← eP], bs_move h' hR hX0 hRL hIP.1 p1 hcm ?_⟩
  have e211 : R.2 211 1 = (pnS (nxV V (DN M 0) (M.2 210 0) (wlV V)) x1 n (M.2 211 0)).1 := by
    rw [← q2]
    have kf : Fr KW Q R := by
      obtain ⟨b1, b2, b3, -⟩ := m_kn (M := Q) (by rw [(q1 191 43 (by unfold CW; omega)).1]; exact hm43)
      have : R = b1 := Option.some.inj (a1.symm.trans b2)
      rw [this]; exact b3
    exact (kf 211 1 (by unfold KW; omega)).2
  have f3 : Fr (fun q j => q = 211 ∧ j = 0) R (setL R 211 0 (R.2 211 1)) := Fr.rf.setL ⟨rfl, rfl⟩
  rw [← eP]
  refine mm_of hm43.1 a2 (fun q j z => z) a3 a4 (f3.mono (fun q j z => by unfold RwW; omega)) (fun w x y => ?_) (fun t x y => ?_) ?_ ?_
  · rw [(f3 212 w (by omega)).1, (r0 212 w (by unfold RwW; omega)).1]; exact dn_row M
  · rw [(f3 213 t (by omega)).1, (r0 213 t (by unfold RwW; omega)).1, (f3 214 t (by omega)).1, (r0 214 t (by unfold RwW; omega)).1, (f3 215 t (by omega)).1, (r0 215 t (by unfold RwW; omega)).1]; exact at_row M
  · exact ((f3 210 0 (by omega)).2).trans (r0 210 0 (by unfold RwW; omega)).2
  · show (setL R 211 0 (R.2 211 1)).2 211 0 = _
    rw [sL_self, e211]
