/-! ===== nets, things laid, water ===== -/
def RmR (M N : Mem) (V : TV) : Prop := Fr (RmW (M.1 70 1)) M N ∧ N.1 70 1 = upL (M.1 70 1) ∧ N.1 70 2 = upM (M.1 70 2) ∧ CScF N (72 + 5 * (upL (M.1 70 1)).toNat) V (DN M 0) (AT M 0) (ST M 0) (LN M 0) (M.2 210 0) (M.2 211 0) (wlV V) ∧ CScF N 47 V (DN M 0) (AT M 0) (ST M 0) (LN M 0) (M.2 210 0) (M.2 211 0) (wlV V)
theorem RmW_cls {L : Int} (hL : 0 ≤ L ∧ L < 20) {q : Nat} {j : Int} (h : RmW L q j) : (q = 70 ∧ (j = 1 ∨ j = 2)) ∨ (72 ≤ q ∧ q ≤ 171) := by
  have u : 0 ≤ upL L ∧ upL L < 20 := by unfold upL; split <;> omega
  unfold RmW CsW at h
  omega
theorem rm_of {M : Mem} {V : TV} (hV : VOK V) (hRL : RL M V) : RmR M (t_Past_remember M 47) V := by
  have hP := hRL.2.2.1
  have hm43 := hP.2.2.1
  obtain ⟨r1, r2, r3, r4⟩ := c_remember hV hP.2.1 (by rw [hP.1]; exact hm43) hRL.1
  exact ⟨r1, r2, r3, r4, CScF.fr hRL.1 r1 (fun q j z y => by have := RmW_cls hP.2.1 y; unfold CsW at z; omega)⟩
def ClW : Nat → Int → Prop := fun q j => CsW 47 q j ∨ (q = 177 ∧ j = 8) ∨ (52 ≤ q ∧ q ≤ 56)
theorem cm_of {M N1 N : Mem} {V : TV} {D A S L : Int → Int} {nets wat : Int64} (hL : 0 ≤ M.1 70 1 ∧ M.1 70 1 < 20) (hr : RmR M N1 V) (hF : Fr ClW N1 N) (hs : CScF N 47 V D A S L nets wat (wlV V)) (h8 : N.1 177 8 = 0 ∨ (N.1 177 8 = N1.1 177 8 ∧ (∀ t, 0 ≤ t → t < V 0 3 → A t = AT M 0 t) ∧ nets = M.2 210 0)) : CmR M N V D A S L nets wat := by
  obtain ⟨r1, r2, r3, r4, r5⟩ := hr
  have u : 0 ≤ upL (M.1 70 1) ∧ upL (M.1 70 1) < 20 := by unfold upL; split <;> omega
  refine ⟨(r1.mono (fun q j z => Or.inl z)).trans (hF.mono (fun q j z => Or.inr z)), ?_, ?_, r4.fr hF (fun q j z y => by unfold CsW at z; unfold ClW CsW at y; omega), hs, ?_⟩
  · rw [(hF 70 1 (by unfold ClW CsW; omega)).1]; exact r2
  · rw [(hF 70 2 (by unfold ClW CsW; omega)).1]; exact r3
  · rcases h8 with q | ⟨q1, q2, q3⟩
    · exact Or.inl q
    · exact Or.inr ⟨by rw [q1, (r1 177 8 (fun z => by have := RmW_cls hL z; omega)).1], q2, q3⟩
def KnS (N Q : Mem) : Prop := Fr (fun q j => KW q j ∨ (q = 191 ∧ j = 0)) N Q ∧ Q.1 191 43 = upM (N.1 191 43) ∧ KnR Q N
theorem kn_of {N : Mem} (hm : 0 ≤ N.1 191 43 ∧ N.1 191 43 ≤ 20) : ∃ Q, t_MO_keepNow (setI N 191 0 0) = some Q ∧ KnS N Q := by
  have f0 : Fr (fun q j => q = 191 ∧ j = 0) N (setI N 191 0 0) := Fr.rf.setI ⟨rfl, rfl⟩
  have e43 : (setI N 191 0 0).1 191 43 = N.1 191 43 := (f0 191 43 (by omega)).1
  obtain ⟨Q, a1, a2, a3, a4⟩ := m_kn (M := setI N 191 0 0) (by rw [e43]; exact hm)
  have rs : ∀ b, RowEq (setI N 191 0 0) b N b := fun b => RowEq.fr f0 (fun q j z w => by unfold CW at z; omega)
  refine ⟨Q, a1, (f0.mono (fun q j z => Or.inr z)).trans (a2.mono (fun q j z => Or.inl z)), by rw [a3, e43], ?_⟩
  unfold KnR at a4 ⊢
  rw [e43] at a4
  rcases a4 with ⟨x, y, z⟩ | ⟨x, y, z⟩
  · exact Or.inl ⟨x, fun k p q => (y k p q).trans (rs _), z.trans (rs _)⟩
  · exact Or.inr ⟨x, fun k p q => (y k p q).trans (rs _), z.trans (rs _)⟩
theorem kn_of1 {W : Nat → Int → Prop} {N N1 : Mem} (hm : 0 ≤ N.1 191 43 ∧ N.1 191 43 ≤ 20) (hF : Fr W N N1) (hd : ∀ q j, W q j → CW 1 q j ∨ (q = 191 ∧ j = 0)) : ∃ Q, t_MO_keepNow N1 = some Q ∧ Fr (fun q j => KW q j ∨ W q j) N Q ∧ Q.1 191 43 = upM (N.1 191 43) ∧ KnR Q N := by
  have e43 : N1.1 191 43 = N.1 191 43 := (hF 191 43 (fun z => by have := hd _ _ z; unfold CW at this; omega)).1
  obtain ⟨Q, a1, a2, a3, a4⟩ := m_kn (M := N1) (by rw [e43]; exact hm)
  have rs : ∀ b, b ≠ 1 → RowEq N1 b N b := fun b hb => RowEq.fr hF (fun q j z w => by have := hd _ _ w; unfold CW at z this; omega)
  refine ⟨Q, a1, (hF.mono (fun q j z => Or.inr z)).trans (a2.mono (fun q j z => Or.inl z)), by rw [a3, e43], ?_⟩
  unfold KnR at a4 ⊢
  rw [e43] at a4
  rcases a4 with ⟨x, y, z⟩ | ⟨x, y, z⟩
  · exact Or.inl ⟨x, fun k p q => (y k p q).trans (rs _ (by omega)), z.trans (rs _ (by omega))⟩
  · exact Or.inr ⟨x, fun k p q => (y k p q).trans (rs _ (by omega)), z.trans (rs _ (by omega))⟩
theorem mm_of {W : Nat → Int → Prop} {N Q1 Q : Mem} {V : TV} {D A S L : Int → Int} {nets wat : Int64} (hm : 0 ≤ N.1 191 43) (h1 : Fr (fun q j => KW q j ∨ W q j) N Q1) (hd : ∀ q j, W q j → CW 1 q j ∨ (q = 191 ∧ j = 0)) (h2 : Q1.1 191 43 = upM (N.1 191 43)) (h3 : KnR Q1 N) (hF : Fr (RwW 0) Q1 Q) (e1 : ∀ w, 0 ≤ w → w < V 0 2 → Q.1 212 w = D w) (e2 : ∀ t, 0 ≤ t → t < V 0 3 → Q.1 213 t = A t ∧ Q.1 214 t = S t ∧ Q.1 215 t = L t) (e3 : Q.2 210 0 = nets) (e4 : Q.2 211 0 = wat) : MmR N Q V D A S L nets wat := by
  refine ⟨(h1.mono (fun q j z => ?_)).trans (hF.mono (fun q j z => Or.inr (Or.inl z))), ?_, h3.fr hF hm (fun a q j x y z w => by unfold CW at z; unfold RwW at w; omega), e1, e2, e3, e4⟩
  · rcases z with z | z
    · exact Or.inl z
    · exact Or.inr (Or.inr (hd q j z))
  · rw [(hF 191 43 (by unfold RwW; omega)).1]; exact h2
/-- row 0 behind keepNow -/
theorem row0_of {W : Nat → Int → Prop} {M N Q : Mem} (hN : ∀ q j, 191 ≤ q → N.1 q j = M.1 q j ∧ N.2 q j = M.2 q j) (h1 : Fr (fun q j => KW q j ∨ W q j) N Q) (hd : ∀ q j, W q j → CW 1 q j ∨ (q = 191 ∧ j = 0)) : ∀ q j, RwW 0 q j → Q.1 q j = M.1 q j ∧ Q.2 q j = M.2 q j := by
  intro q j z
  have a := h1 q j (fun y => by
    rcases y with y | y
    · unfold RwW at z; unfold KW at y; omega
    · have := hd _ _ y; unfold RwW at z; unfold CW at this; omega)
  have b := hN q j (by unfold RwW at z; omega)
  exact ⟨a.1.trans b.1, a.2.trans b.2⟩
theorem at_row (M : Mem) {t : Int} : M.1 213 t = AT M 0 t ∧ M.1 214 t = ST M 0 t ∧ M.1 215 t = LN M 0 t := by
  unfold AT ST LN
  rw [show (8 : Int) * 0 + t = t by omega]
  exact ⟨rfl, rfl, rfl⟩
theorem dn_row (M : Mem) {w : Int} : M.1 212 w = DN M 0 w := by
  unfold DN
  rw [show (4 : Int) * 0 + w = w by omega]
abbrev W0 : Nat → Int → Prop := fun q j => q = 191 ∧ j = 0
theorem kn0 {N Q : Mem} (h : KnS N Q) : Fr (fun q j => KW q j ∨ W0 q j) N Q := h.1
theorem bs_net {M : Mem} (h : LI M) {x1 x2 x3 : Int} (h1 : InR x1) (h2 : InR x2) (h3 : InR x3) (hx : x2 = 1 ↔ x3 = 1) (hx2 : x2 = 0 ↔ x3 = 0) : Ok (fun r => (t_WF_net M x1 x2).2 = r.2 ∧ LI r.1) (t_MO_net (t_WF_net M x1 x2).1 x1 x3) := by
  have h' := h
  obtain ⟨hI, ⟨V, hR, hX, hRL⟩, -⟩ := h
  have hV := hR.1.1
  have hv := hV.1
  have hC := hV.cells
  have hP := hRL.2.2.1
  have hS : CScF M 47 V (DN M 0) (AT M 0) (ST M 0) (LN M 0) (M.2 210 0) (M.2 211 0) (wlV V) := hRL.1
  have hIC := (sf_WF_net hI h1 h2).1
  have same : t_WF_net M x1 x2 = (M, 0) → t_MO_net M x1 x3 = some (setI M 191 0 0, 0) → Ok (fun r => (t_WF_net M x1 x2).2 = r.2 ∧ LI r.1) (t_MO_net (t_WF_net M x1 x2).1 x1 x3) := fun e1 e2 => by
    rw [e1]; exact ⟨_, e2, rfl, h'.at0⟩
  have q210 : ∀ N : Mem, (setI N 191 0 0).2 210 0 = N.2 210 0 := fun N => rfl
  by_cases c1 : opV V x1
  rotate_left
  · refine same ?_ ?_
    · unfold t_WF_net; rw [c_isFree hV hX hS, if_neg c1]; simp only [qlet]; rw [if_pos trivial]
    · unfold t_MO_net; simp (config := { proj := false }) only [qlet]; rw [m_open01 (hR.set0 0).1.2.1 hV, if_neg c1, obind_some, if_pos rfl]
  have hw : t_WF_net M x1 x2 = if (if tb (M.2 210 0) x1 = true then (1 : Int) else 0) = x2 then (M, 0) else (setI (setL (t_Past_remember M 47) 47 5 ((t_Past_remember M 47).2 47 5 ^^^ q_lshl 1 x1)) 177 8 0, 1) := by
    unfold t_WF_net t_WF_net_L28
    rw [c_isFree hV hX hS, if_pos c1]
    simp (config := { proj := false }) only [qlet]
    rw [if_neg (show ¬ (1 : Int) = 0 by decide), bitOf_tb M _ c1.1 (by omega), hS.2.2.1]
    cases tb (M.2 210 0) x1 with
    | true => rw [if_pos (show (if true = true then (1 : Int) else 0) = 1 from rfl)]; rfl
    | false => rw [if_neg (show ¬ (if false = true then (1 : Int) else 0) = 1 by decide)]; rfl
  have hm : ∀ N : Mem, MT0 N V → N.2 210 0 = M.2 210 0 → t_MO_net N x1 x3 = if (if tb (M.2 210 0) x1 = true then (1 : Int) else 0) = x3 then some (setI N 191 0 0, 0) else obind (t_MO_keepNow (setI N 191 0 0)) fun q7 => some (setL q7 210 0 (q7.2 210 0 ^^^ q_lshl 1 x1), 1) := by
    intro N hN e
    have hN1 : MT0 (setI N 191 0 0) V := MT0.fr (W := fun q j => q = 191 ∧ j = 0) (Fr.rf.setI ⟨rfl, rfl⟩) (fun q j x y z => by omega) hN
    unfold t_MO_net t_MO_net_L33
    simp (config := { proj := false }) only [qlet]
    rw [m_open01 hN1 hV, if_pos c1, obind_some, if_neg (show ¬ (1 : Int) = 0 by decide), q210, e]
    cases z : tb (M.2 210 0) x1 with
    | true => rw [if_pos ((lshr_1 _ c1.1 (by omega)).mpr z)]; rfl
    | false => rw [if_neg (fun q => by rw [(lshr_1 _ c1.1 (by omega)).mp q] at z; cases z)]; rfl
  by_cases c2 : (if tb (M.2 210 0) x1 = true then (1 : Int) else 0) = x2
  · have c3 : (if tb (M.2 210 0) x1 = true then (1 : Int) else 0) = x3 := by
      cases z : tb (M.2 210 0) x1 with
      | true => rw [z, if_pos rfl] at c2; rw [if_pos rfl]; exact (hx.mp c2.symm).symm
      | false => rw [z, if_neg (by decide)] at c2; rw [if_neg (by decide)]; exact (hx2.mp c2.symm).symm
    exact same (by rw [hw, if_pos c2]) (by rw [hm M hR.1.2.1 rfl, if_pos c3])
  have c3 : ¬ (if tb (M.2 210 0) x1 = true then (1 : Int) else 0) = x3 := fun c3 => c2 (by
    cases z : tb (M.2 210 0) x1 with
    | true => rw [z, if_pos rfl] at c3; rw [if_pos rfl]; exact (hx.mpr c3.symm).symm
    | false => rw [z, if_neg (by decide)] at c3; rw [if_neg (by decide)]; exact (hx2.mpr c3.symm).symm)
  rw [if_neg c2] at hw
  have rm := rm_of hV hRL
  rw [hw] at hIC ⊢
  have hcm : CmR M (setI (setL (t_Past_remember M 47) 47 5 ((t_Past_remember M 47).2 47 5 ^^^ q_lshl 1 x1)) 177 8 0) V (DN M 0) (AT M 0) (ST M 0) (LN M 0) (M.2 210 0 ^^^ q_lshl 1 x1) (M.2 211 0) := by
    have r5 := rm.2.2.2.2
    rw [r5.2.2.1]
    generalize t_Past_remember M 47 = N1 at *
    have f2 : Fr (fun q j => (q = 47 ∧ j = 5) ∨ (q = 177 ∧ j = 8)) N1 (setI (setL N1 47 5 (M.2 210 0 ^^^ q_lshl 1 x1)) 177 8 0) := (Fr.rf.setL (by omega)).setI (by omega)
    refine cm_of hP.2.1 rm (f2.mono (fun q j z => by unfold ClW CsW; omega)) ?_ (Or.inl (sI_self _ _ _ _))
    obtain ⟨a1, a2, a3, a4, a5⟩ := r5
    refine ⟨fun w x y => ?_, fun t x y => ?_, ?_, ?_, fun c x y => ?_⟩
    · rw [(f2 (47 + 1) w (by omega)).1]; exact a1 w x y
    · rw [(f2 (47 + 2) t (by omega)).1, (f2 (47 + 3) t (by omega)).1, (f2 (47 + 4) t (by omega)).1]; exact a2 t x y
    · rw [sI_snd, sL_self]
    · rw [(f2 47 6 (by omega)).2]; exact a4
    · rw [(f2 47 4 (by omega)).2]; exact a5 c x y
  generalize setI (setL (t_Past_remember M 47) 47 5 ((t_Past_remember M 47).2 47 5 ^^^ q_lshl 1 x1)) 177 8 0 = N at *
  have cls : ∀ q j, CmW (M.1 70 1) q j → q < 191 := fun q j z => by have := CmW_cls hP.2.1 z; omega
  have hRN : RI N V := riN hR hcm.1 cls
  have eN : ∀ q j, 191 ≤ q → N.1 q j = M.1 q j ∧ N.2 q j = M.2 q j := fun q j x => hcm.1 q j (fun z => by have := cls q j z; omega)
  obtain ⟨P, p0, p1⟩ := ri_net hRN x1 x3
  have hIP := im_MO_net hIC h1 h3 P p0
  have p0' := p0
  rw [hm N hRN.1.2.1 (eN 210 0 (by omega)).2, if_neg c3] at p0'
  have hm43 : 0 ≤ N.1 191 43 ∧ N.1 191 43 ≤ 20 := by rw [(eN 191 43 (by omega)).1]; exact hP.2.2.1
  obtain ⟨Q, a1, a2⟩ := kn_of hm43
  rw [a1, obind_some] at p0'
  have eP := Option.some.inj p0'
  refine ⟨P, p0, by rw [← eP], bs_move h' hR hX hRL hIP.1 p1 hcm ?_⟩
  have r0 := row0_of eN (kn0 a2) (fun q j z => Or.inr z)
  have f3 : Fr (fun q j => q = 210 ∧ j = 0) Q (setL Q 210 0 (Q.2 210 0 ^^^ q_lshl 1 x1)) := Fr.rf.setL ⟨rfl, rfl⟩
  rw [← eP]
  refine mm_of hm43.1 (kn0 a2) (fun q j z => Or.inr z) a2.2.1 a2.2.2 (f3.mono (fun q j z => by unfold RwW; omega)) (fun w x y => ?_) (fun t x y => ?_) ?_ ?_
  · rw [(f3 212 w (by omega)).1, (r0 212 w (by unfold RwW; omega)).1]; exact dn_row M
  · rw [(f3 213 t (by omega)).1, (r0 213 t (by unfold RwW; omega)).1, (f3 214 t (by omega)).1, (r0 214 t (by unfold RwW; omega)).1, (f3 215 t (by omega)).1, (r0 215 t (by unfold RwW; omega)).1]; exact at_row M
  · show (setL Q 210 0 (Q.2 210 0 ^^^ q_lshl 1 x1)).2 210 0 = _
    rw [sL_self, (r0 210 0 (by unfold RwW; omega)).2]
  · rw [(f3 211 0 (by omega)).2]; exact (r0 211 0 (by unfold RwW; omega)).2
