/-! ===== flood, tried ===== -/
theorem bs_flood {M : Mem} (h : LI M) {x1 x2 : Int} (h1 : InR x1) (h2 : InR x2) : Ok (fun q => Ok (fun r => q.2 = r.2 ∧ LI r.1) (t_MO_flood q.1 x1 x2)) (t_WF_flood M x1 x2) := by
  have h' := h
  have hTT := h.T
  obtain ⟨hI, ⟨V, hR, hX, hRL⟩, -⟩ := h
  have hV := hR.1.1
  have hv := hV.1
  have hC := hV.cells
  have hS : CScF M 47 V (DN M 0) (AT M 0) (ST M 0) (LN M 0) (M.2 210 0) (M.2 211 0) (wlV V) := hRL.1
  have okC := sf_WF_flood hI h1 h2
  have same : t_WF_flood M x1 x2 = some (M, -1) → t_MO_flood M x1 x2 = some (setI M 191 0 0, -1) → Ok (fun q => Ok (fun r => q.2 = r.2 ∧ LI r.1) (t_MO_flood q.1 x1 x2)) (t_WF_flood M x1 x2) := fun e1 e2 => ⟨_, e1, _, e2, rfl, h'.at0⟩
  have edn : ∀ N : Mem, t_MO_isDown N x2 = if 0 ≤ x2 ∧ x2 ≤ 4 then 1 else 0 := fun N => by
    unfold t_MO_isDown
    by_cases z : x2 < 0
    · rw [if_pos z, if_neg (show ¬ (0 ≤ x2 ∧ x2 ≤ 4) by omega)]
    · rw [if_neg z]
      by_cases w : 4 < x2
      · rw [if_pos w, if_neg (show ¬ (0 ≤ x2 ∧ x2 ≤ 4) by omega)]
      · rw [if_neg w, if_pos (show 0 ≤ x2 ∧ x2 ≤ 4 by omega)]
  by_cases c1 : 0 ≤ x1 ∧ x1 < V 0 2
  rotate_left
  · refine same ?_ ?_
    · unfold t_WF_flood; rw [c_hasWard hX.1]; simp (config := { proj := false }) only [qlet]; rw [if_neg c1, if_pos rfl]
    · unfold t_MO_flood; simp (config := { proj := false }) only [qlet]; rw [m_isWard (hR.set0 0).1.2.1, if_neg c1, if_pos rfl]
  by_cases c2 : 0 ≤ x2 ∧ x2 ≤ 4
  rotate_left
  · refine same ?_ ?_
    · unfold t_WF_flood; rw [c_hasWard hX.1]; simp (config := { proj := false }) only [qlet]; rw [if_pos c1, if_neg (show ¬ (1 : Int) = 0 by decide), c_isDown, if_neg c2, if_pos rfl]
    · unfold t_MO_flood; simp (config := { proj := false }) only [qlet]; rw [m_isWard (hR.set0 0).1.2.1, if_pos c1, if_neg (show ¬ (1 : Int) = 0 by decide), edn, if_neg c2, if_pos rfl]
  have hcls : ∃ N, t_WF_flood M x1 x2 = some (N, flS (nxV V (upA (DN M 0) x1 x2) (M.2 210 0) (wlV V)) (M.2 211 0) (cellsV V).toNat) ∧ Fr (CsW 52) M N := by
    unfold t_WF_flood
    rw [c_hasWard hX.1]
    simp (config := { proj := false }) only [qlet]
    rw [if_pos c1, if_neg (show ¬ (1 : Int) = 0 by decide), c_isDown, if_pos c2, if_neg (show ¬ (1 : Int) = 0 by decide)]
    obtain ⟨s1, s2⟩ := c_scopy (k0 := 52) (k1 := 47) hV (Or.inl (by omega)) hS
    generalize t_Scene_copy M 52 47 = N1 at *
    have p1 : t_WF_put N1 53 4 x1 x2 = setI N1 53 x1 x2 := put_in c1.1 (by omega)
    rw [p1]
    have f2 : Fr (fun q j => q = 53 ∧ j = x1) N1 (setI N1 53 x1 x2) := Fr.rf.setI ⟨rfl, rfl⟩
    have s3 : CScF (setI N1 53 x1 x2) 52 V (upA (DN M 0) x1 x2) (AT M 0) (ST M 0) (LN M 0) (M.2 210 0) (M.2 211 0) (wlV V) := by
      obtain ⟨a1, a2, a3, a4, a5⟩ := s1
      refine ⟨fun w x y => ?_, fun t x y => ?_, a3, a4, a5⟩
      · by_cases e : w = x1
        · rw [e, upA_self]; exact sI_self _ _ _ _
        · rw [upA_ne _ e, (f2 (52 + 1) w (by omega)).1]; exact a1 w x y
      · rw [(f2 (52 + 2) t (by omega)).1, (f2 (52 + 3) t (by omega)).1, (f2 (52 + 4) t (by omega)).1]; exact a2 t x y
    have f3 : Fr (CsW 52) M (setI N1 53 x1 x2) := s2.trans (f2.mono (fun q j z => by unfold CsW; omega))
    generalize setI N1 53 x1 x2 = N2 at *
    rw [(f3 0 4 (by unfold CsW; omega)).1]
    have X2 : CT0 N2 (M.1 0 4).toNat V ∧ CTs N2 (M.1 0 4).toNat V := ⟨CT0.fr f3 (fun q j x y z => by unfold CsW at z; omega) hX.1, CTs.fr f3 (fun q j x y z => by unfold CsW at z; omega) hX.2.1⟩
    obtain ⟨N3, n1, n2, n3⟩ := c_flood hV hTT.2 (by omega) X2 s3
    rw [n1, obind_some]
    refine ⟨N3, by rw [n2.2.2.2.1], f3.trans (n3.mono (fun q j z => by unfold PoW at z; unfold CsW; omega))⟩
  obtain ⟨N, n1, n2⟩ := hcls
  obtain ⟨u, e, hu⟩ := okC
  have : u = (N, flS (nxV V (upA (DN M 0) x1 x2) (M.2 210 0) (wlV V)) (M.2 211 0) (cellsV V).toNat) := Option.some.inj (e.symm.trans n1)
  subst this
  have hIN : IM N := hu
  have hRN : RI N V := hR.fr n2 (fun q j a z => by unfold RIc at a; unfold CsW at z; omega)
  have hLN : LI N := h'.q hIN (n2.mono (fun q j z => by unfold CsW at z; unfold QkW; omega))
  have eN : ∀ q j, 191 ≤ q → N.1 q j = M.1 q j ∧ N.2 q j = M.2 q j := fun q j x => n2 q j (fun z => by unfold CsW at z; omega)
  have hmo : ∃ Q, t_MO_flood N x1 x2 = some (Q, flS (nxV V (upA (DN M 0) x1 x2) (M.2 210 0) (wlV V)) (M.2 211 0) (cellsV V).toNat) ∧ Fr (fun q j => (q = 191 ∧ j = 0) ∨ CW 1 q j) N Q := by
    have g0 : Fr (fun q j => q = 191 ∧ j = 0) N (setI N 191 0 0) := Fr.rf.setI ⟨rfl, rfl⟩
    have hR0 : RI (setI N 191 0 0) V := hRN.set0 0
    unfold t_MO_flood
    simp (config := { proj := false }) only [qlet]
    rw [m_isWard hR0.1.2.1, if_pos c1, if_neg (show ¬ (1 : Int) = 0 by decide), edn, if_pos c2, if_neg (show ¬ (1 : Int) = 0 by decide), w32_id (x := 4 + x1) (by unfold InR; omega)]
    obtain ⟨Q1, a1, a2, a3⟩ := m_copies (M := setI N 191 0 0) (x1 := 1) (x2 := 0) (by omega) (by omega) (by omega)
    rw [a1, obind_some, qguard_pos ⟨by omega, by omega⟩]
    have row : RowEq Q1 1 M 0 := (a3.trans (RowEq.fr g0 (fun q j z w => by unfold CW at z; omega))).trans (RowEq.fr n2 (fun q j z w => by unfold CW at z; unfold CsW at w; omega))
    have f2 : Fr (fun q j => q = 212 ∧ j = 4 + x1) Q1 (setI Q1 212 (4 + x1) x2) := Fr.rf.setI ⟨rfl, rfl⟩
    have v212 : (setI Q1 212 (4 + x1) x2).1 212 (4 + x1) = x2 := sI_self _ _ _ _
    have g2 : Fr (fun q j => (q = 191 ∧ j = 0) ∨ CW 1 q j) N (setI Q1 212 (4 + x1) x2) := ((g0.mono (fun q j z => Or.inl z)).trans (a2.mono (fun q j z => Or.inr z))).trans (f2.mono (fun q j z => Or.inr (by unfold CW; omega)))
    have e210 : (setI Q1 212 (4 + x1) x2).2 210 1 = M.2 210 0 := row.1.2.2.2.1
    have e211 : (setI Q1 212 (4 + x1) x2).2 211 1 = M.2 211 0 := row.1.2.2.2.2
    generalize setI Q1 212 (4 + x1) x2 = Q2 at *
    have hD : ∀ w, 0 ≤ w → w < V 0 2 → DN Q2 1 w = upA (DN M 0) x1 x2 w := fun w x y => by
      unfold DN
      by_cases z : w = x1
      · rw [z, upA_self, show (4 : Int) * 1 + x1 = 4 + x1 by omega, v212]
      · rw [upA_ne _ z, (f2 212 _ (by omega)).1]
        exact row.2.1 w x (by omega)
    have nb : NB Q2 1 V := by
      refine ⟨hV, MT0.fr g2 (fun q j x y z => by unfold CW at z; omega) hRN.1.2.1, ?_, fun w x y => ?_⟩
      · rw [(g2 191 44 (by unfold CW; omega)).1]; exact hRN.2.1
      · have := hD w x y
        unfold DN at this
        rw [this]
        by_cases z : w = x1
        · rw [z, upA_self]; exact c2
        · rw [upA_ne _ z]; exact hR.row0.1 w x y
    obtain ⟨Q3, b1, b2, b3⟩ := nb.floods (by omega)
    rw [b1, obind_some, b2, e211]
    unfold nxR
    rw [e210]
    refine ⟨Q3, ?_, g2.trans (b3.mono (fun q j z => Or.inr (by unfold CW; omega)))⟩
    rw [fl_congr hV hD]
  obtain ⟨Q, q1, q2⟩ := hmo
  have hIP := im_MO_flood hIN h1 h2 _ q1
  exact ⟨_, n1, _, q1, rfl, hLN.qm hIP (q2.mono (fun q j z => by unfold CW at z; unfold QmW CW; omega))⟩
/-! tries -/
theorem c_tried_loop {M0 : Mem} {x1 x2 x3 : Int} {T : Nat} {V : TV} {D : Int → Int} {nets wat : Int64} {wl : Int → Bool} (hV : VOK V) (hT : T = 2 ∨ T = 22) (hX : CT0 M0 T V ∧ CTs M0 T V) (hT0 : (M0.1 0 4).toNat = T) (h2 : x3 ≤ 200) : ∀ (n fu : Nat) (M : Mem) (q : BT) (v : Int), v + (n : Int) = x3 → 0 ≤ v → n < fu → Fr (BtW 52) M0 M → CScF M 52 V D q.1 q.2.1 q.2.2.1 nets wat wl → (∀ t, 0 ≤ t → t < V 0 3 → -1 ≤ q.1 t ∧ q.1 t < cellsV V) →
    ∃ N, t_WF_tried_L126 x1 x2 x3 fu M q.2.2.2 v = some (N, (btI V (decide (x1 ≠ 1)) (nxV V D nets wl) n q).2.2.2) ∧ Fr (BtW 52) M0 N := by
  intro n
  induction n with
  | zero =>
    intro fu M q v g0 g1 g2 hF h hA
    obtain ⟨g, rfl⟩ : ∃ g, fu = g + 1 := ⟨fu - 1, by omega⟩
    rw [t_WF_tried_L126, if_pos (by omega)]
    exact ⟨M, rfl, hF⟩
  | succ n ih =>
    intro fu M q v g0 g1 g2 hF h hA
    obtain ⟨g, rfl⟩ : ∃ g, fu = g + 1 := ⟨fu - 1, by omega⟩
    have hX' : CT0 M T V ∧ CTs M T V := ⟨CT0.fr hF (fun q j x y z => by unfold BtW at z; omega) hX.1, CTs.fr hF (fun q j x y z => by unfold BtW at z; omega) hX.2⟩
    have eT : (M.1 0 4).toNat = T := by rw [(hF 0 4 (by unfold BtW; omega)).1]; exact hT0
    have hw : ∃ v7 : Int, decide (v7 ≠ 0) = decide (x1 ≠ 1) ∧ t_WF_tried_L126 x1 x2 x3 (g + 1) M q.2.2.2 v = t_WF_tried_L152 x1 x2 x3 (fun a0_ a1_ a2_ => t_WF_tried_L126 x1 x2 x3 g a0_ a1_ a2_) M v q.2.2.2 T v7 := by
      rw [t_WF_tried_L126, if_neg (by omega), eT]
      by_cases c : x1 = 1
      · refine ⟨0, ?_, by rw [if_pos c]⟩
        rw [decide_eq_false (show ¬ x1 ≠ 1 from fun z => z c)]
        decide
      · refine ⟨1, ?_, by rw [if_neg c]⟩
        rw [decide_eq_true (show x1 ≠ 1 from c)]
        decide
    obtain ⟨v7, hd, hw⟩ := hw
    rw [hw]
    unfold t_WF_tried_L152
    obtain ⟨N, n1, n2, n3⟩ := c_beat (x2 := v7) hV hT (by omega) hX' h hA
    rw [hd] at n1 n2
    rw [n1, obind_some, w32_id (x := v + 1) (by unfold InR; omega), btI]
    exact ih g N (_, _, _, _) (v + 1) (by omega) (by omega) (by omega) (hF.trans n3) n2 (fun t a b => btS_rng (nx_ok hV D nets wl) hA _ (by have := hV.1; omega) t a b)
theorem m_tried_loop {x1 x2 x3 : Int} {V : TV} {M0 : Mem} {D : Int → Int} {nets : Int64} (h : RI M0 V) (hr : RowOK M0 1 V) (hD : ∀ w, 0 ≤ w → w < V 0 2 → DN M0 1 w = D w) (hn : M0.2 210 1 = nets) (h2 : x3 ≤ 200) : ∀ (n fu : Nat) (M : Mem) (q : BT) (v : Int), v + (n : Int) = x3 → 0 ≤ v → n < fu → Fr (fun k j => BW 1 k j ∨ (k = 191 ∧ (j = 44 ∨ j = 45))) M0 M → M.2 191 44 = M0.2 191 44 → M.1 191 44 = x1 → M.1 191 45 = x2 → MTh M 1 V x1 x2 q.1 q.2.1 q.2.2.1 → (∀ t, 0 ≤ t → t < V 0 3 → -1 ≤ q.1 t ∧ q.1 t < cellsV V) → (∀ t, 0 ≤ t → t < V 0 3 → ¬ (x1 = 4 ∧ x2 = t) → 0 ≤ q.1 t) →
    ∃ N, t_MO_tried_L91 x1 x2 x3 fu M q.2.2.2 v = some (N, (btI V (decide (x1 ≠ 1)) (nxV V (trD x1 x2 D) (trN x1 nets) (trW x1 (wlV V))) n q).2.2.2) ∧ Fr (fun k j => BW 1 k j ∨ (k = 191 ∧ j = 45)) M0 N := by
  intro n
  induction n with
  | zero =>
    intro fu M q v g0 g1 g2 hF hL e44 e45 hT hA hA2
    obtain ⟨g, rfl⟩ : ∃ g, fu = g + 1 := ⟨fu - 1, by omega⟩
    rw [t_MO_tried_L91, if_pos (by omega)]
    simp (config := { proj := false }) only [qlet]
    refine ⟨_, rfl, fun k j hk => ?_⟩
    by_cases z : k = 191 ∧ j = 44
    · obtain ⟨rfl, rfl⟩ := z
      refine ⟨?_, hL⟩
      rw [sI_ne (by omega), sI_self, h.2.1]
    · have hk2 : ¬ (BW 1 k j ∨ (k = 191 ∧ (j = 44 ∨ j = 45))) := fun p => p.elim (fun p => hk (Or.inl p)) (fun p => p.2.elim (fun p2 => z ⟨p.1, p2⟩) (fun p2 => hk (Or.inr ⟨p.1, p2⟩)))
      refine ⟨?_, (hF k j hk2).2⟩
      rw [sI_ne (fun p => hk (Or.inr p)), sI_ne z]
      exact (hF k j hk2).1
  | succ n ih =>
    intro fu M q v g0 g1 g2 hF hL e44 e45 hT hA hA2
    obtain ⟨g, rfl⟩ : ∃ g, fu = g + 1 := ⟨fu - 1, by omega⟩
    have hC := h.1.1.cells
    rw [t_MO_tried_L91, if_neg (by omega), w32_id (x := v + 1) (by unfold InR; omega)]
    have hs : stepOK (nxV V (trD x1 x2 D) (trN x1 nets) (trW x1 (wlV V))) (cellsV V) := nx_ok h.1.1 _ _ _
    have hmt : ∀ N, Fr (fun k j => BW 1 k j ∨ (k = 191 ∧ (j = 44 ∨ j = 45))) M0 N → N.1 191 44 = x1 → N.1 191 45 = x2 → MT0 N V ∧ ∀ c, 0 ≤ c → c < cellsV V → t_MO_nextOf N 1 c = some (nxV V (trD x1 x2 D) (trN x1 nets) (trW x1 (wlV V)) c) := by
      intro N hN a b
      have m0 : MT0 N V := h.1.2.1.fr hN (fun k j x y q => by unfold BW at q; omega)
      refine ⟨m0, fun c p r => ?_⟩
      have := m_nextT (M := N) (at_ := 1) (D := DN M0 1) (A := AT N 1) (nets := M0.2 210 1) m0 h.1.1 ⟨fun w x y => (hN 212 _ (by unfold BW; omega)).1, fun t x y => rfl, (hN 210 1 (by unfold BW; omega)).2⟩ hr.1 (by omega) p r
      rw [a, b, hn] at this
      rw [this]
      refine congrArg some (nx_congr h.1.1 (fun w x y => ?_) _ _ p (by omega))
      unfold trD
      by_cases z : x1 = 3 ∧ w = x2
      · rw [if_pos z, if_pos z]
      · rw [if_neg z, if_neg z]; exact hD w x y
    obtain ⟨N, e1, e2, e3, e4⟩ := m_beat (M := M) (at_ := 1) (A := q.1) (S := q.2.1) (L := q.2.2.1) (by omega) h.1.1 hC.2 hs hA (by rw [e44, e45]; exact hA2) (fun N hN => hmt N (hF.trans (hN.mono (fun k j q => Or.inl (Or.inr q)))) (by rw [(hN 191 44 (by unfold TW; omega)).1]; exact e44) (by rw [(hN 191 45 (by unfold TW; omega)).1]; exact e45)) (by rw [e44, e45]; exact hT)
    rw [e44] at e1 e3
    rw [e45] at e3
    rw [e1, obind_some, btI]
    exact ih g N (_, _, _, _) (v + 1) (by omega) (by omega) (by omega) (hF.trans (e2.mono (fun k j q => Or.inl q))) ((e2 191 44 (by unfold BW; omega)).2.trans hL) (by rw [(e2 191 44 (by unfold BW; omega)).1]; exact e44) (by rw [(e2 191 45 (by unfold BW; omega)).1]; exact e45) e3 (fun t a b => btS_rng hs hA _ (by have := h.1.1.1; omega) t a b) (fun t a b z => btS_nn (hA2 t a b z) _)
theorem try_of {M : Mem} {T : Nat} {V : TV} (hX : CT0 M T V) (hT : (M.1 0 4).toNat = T) (x1 x2 x3 : Int) : ∃ v, t_WF_canTry M x1 x2 = v ∧ (∀ N, MT0 (setI N 191 0 0) V → t_MO_tried N x1 x2 x3 = t_MO_tried_L49 x1 x2 x3 (setI N 191 0 0) v) ∧ (v = 0 ∨ (v = 1 ∧ (x1 = 3 → 0 ≤ x2 ∧ x2 < V 0 2) ∧ (x1 = 4 → 0 ≤ x2 ∧ x2 < V 0 3) ∧ 0 ≤ x1 ∧ x1 ≤ 4)) := by
  by_cases c3 : x1 = 3
  · refine ⟨if 0 ≤ x2 ∧ x2 < V 0 2 then 1 else 0, ?_, fun N hN => ?_, ?_⟩
    · unfold t_WF_canTry
      simp (config := { proj := false }) only [qlet]
      rw [if_neg (show ¬ x1 = 0 by omega), if_neg (show ¬ x1 = 1 by omega), if_neg (show ¬ x1 = 2 by omega), if_pos c3, hT, c_hasWard hX]
    · unfold t_MO_tried
      simp (config := { proj := false }) only [qlet]
      rw [if_pos c3, m_isWard hN]
    · by_cases z : 0 ≤ x2 ∧ x2 < V 0 2
      · rw [if_pos z]; exact Or.inr ⟨rfl, fun _ => z, fun w => by omega, by omega, by omega⟩
      · rw [if_neg z]; exact Or.inl rfl
  by_cases c4 : x1 = 4
  · refine ⟨if 0 ≤ x2 ∧ x2 < V 0 3 then 1 else 0, ?_, fun N hN => ?_, ?_⟩
    · unfold t_WF_canTry
      simp (config := { proj := false }) only [qlet]
      rw [if_neg (show ¬ x1 = 0 by omega), if_neg (show ¬ x1 = 1 by omega), if_neg (show ¬ x1 = 2 by omega), if_neg c3, if_pos c4, hT, c_hasThing hX]
    · unfold t_MO_tried
      simp (config := { proj := false }) only [qlet]
      rw [if_neg c3, if_pos c4, m_isThing hN]
    · by_cases z : 0 ≤ x2 ∧ x2 < V 0 3
      · rw [if_pos z]; exact Or.inr ⟨rfl, fun w => absurd w c3, fun _ => z, by omega, by omega⟩
      · rw [if_neg z]; exact Or.inl rfl
  by_cases c : 0 ≤ x1 ∧ x1 ≤ 2
  · refine ⟨if x2 = 0 then 1 else 0, ?_, fun N hN => ?_, ?_⟩
    · unfold t_WF_canTry t_WF_canTry_L36
      by_cases z0 : x1 = 0
      · rw [if_pos z0]
      · by_cases z1 : x1 = 1
        · rw [if_neg z0, if_pos z1]
        · rw [if_neg z0, if_neg z1, if_pos (show x1 = 2 by omega)]
    · unfold t_MO_tried t_MO_tried_L48
      simp (config := { proj := false }) only [qlet]
      rw [if_neg c3, if_neg c4, if_neg (show ¬ x1 < 0 by omega), if_neg (show ¬ 2 < x1 by omega)]
      by_cases z : x2 = 0
      · rw [if_pos z, if_pos z]
      · rw [if_neg z, if_neg z]
    · by_cases z : x2 = 0
      · rw [if_pos z]; exact Or.inr ⟨rfl, fun w => absurd w c3, fun w => absurd w c4, by omega, by omega⟩
      · rw [if_neg z]; exact Or.inl rfl
  · refine ⟨0, ?_, fun N hN => ?_, Or.inl rfl⟩
    · unfold t_WF_canTry
      simp (config := { proj := false }) only [qlet]
      rw [if_neg (show ¬ x1 = 0 by omega), if_neg (show ¬ x1 = 1 by omega), if_neg (show ¬ x1 = 2 by omega), if_neg c3, if_neg c4]
    · unfold t_MO_tried t_MO_tried_L48
      simp (config := { proj := false }) only [qlet]
      rw [if_neg c3, if_neg c4]
      by_cases z : x1 < 0
      · rw [if_pos z]
      · rw [if_neg z, if_pos (show 2 < x1 by omega)]
theorem bs_tried {M : Mem} (h : LI M) {x1 x2 x3 : Int} (h1 : InR x1) (h2 : InR x2) (h3 : InR x3) : Ok (fun q => Ok (fun r => q.2 = r.2 ∧ LI r.1) (t_MO_tried q.1 x1 x2 x3)) (t_WF_tried M x1 x2 x3) := by
  have h' := h
  have hTT := h.T
  obtain ⟨hI, ⟨V, hR, hX, hRL⟩, -⟩ := h
  have hV := hR.1.1
  have hv := hV.1
  have hC := hV.cells
  have hS : CScF M 47 V (DN M 0) (AT M 0) (ST M 0) (LN M 0) (M.2 210 0) (M.2 211 0) (wlV V) := hRL.1
  have okC := sf_WF_tried hI h1 h2 h3
  have same : t_WF_tried M x1 x2 x3 = some (M, -1) → t_MO_tried M x1 x2 x3 = some (setI M 191 0 0, -1) → Ok (fun q => Ok (fun r => q.2 = r.2 ∧ LI r.1) (t_MO_tried q.1 x1 x2 x3)) (t_WF_tried M x1 x2 x3) := fun e1 e2 => ⟨_, e1, _, e2, rfl, h'.at0⟩
  obtain ⟨v, t1, t2, t3⟩ := try_of (T := (M.1 0 4).toNat) hX.1 rfl x1 x2 x3
  have t2M := t2 M (hR.set0 0).1.2.1
  by_cases c1 : x3 < 0
  · refine same ?_ ?_
    · unfold t_WF_tried; rw [if_pos c1]
    · rw [t2M]; unfold t_MO_tried_L49
      by_cases z : v = 0
      · rw [if_pos z]
      · rw [if_neg z, if_pos c1]
  by_cases c2 : x3 ≤ 200
  rotate_left
  · refine same ?_ ?_
    · unfold t_WF_tried; rw [if_neg c1, if_pos (show 200 < x3 by omega)]
    · rw [t2M]; unfold t_MO_tried_L49
      by_cases z : v = 0
      · rw [if_pos z]
      · rw [if_neg z, if_neg c1, if_neg c2]
  rcases t3 with t3 | ⟨t3, t4, t5, t6, t7⟩
  · refine same ?_ ?_
    · unfold t_WF_tried; simp (config := { proj := false }) only [qlet]; rw [if_neg c1, if_neg (show ¬ 200 < x3 by omega), t1, if_pos t3]
    · rw [t2M]; unfold t_MO_tried_L49; rw [if_pos t3]
  obtain ⟨n, hn⟩ : ∃ n : Nat, (n : Int) = x3 := ⟨x3.toNat, by omega⟩
  obtain ⟨A', eA⟩ : ∃ A' : Int → Int, A' = fun t => if x1 = 4 ∧ x2 = t then -1 else AT M 0 t := ⟨_, rfl⟩
  have hA0 : ∀ t, 0 ≤ t → t < V 0 3 → 0 ≤ AT M 0 t ∧ AT M 0 t < cellsV V := fun t a b => hR.row0.2.1 t a b
  have hA' : ∀ t, 0 ≤ t → t < V 0 3 → -1 ≤ A' t ∧ A' t < cellsV V := fun t a b => by
    have := hA0 t a b
    rw [eA]
    show -1 ≤ (if x1 = 4 ∧ x2 = t then -1 else AT M 0 t) ∧ (if x1 = 4 ∧ x2 = t then -1 else AT M 0 t) < cellsV V
    split <;> omega
  have hA2 : ∀ t, 0 ≤ t → t < V 0 3 → ¬ (x1 = 4 ∧ x2 = t) → 0 ≤ A' t := fun t a b z => by
    rw [eA]
    show 0 ≤ (if x1 = 4 ∧ x2 = t then -1 else AT M 0 t)
    rw [if_neg z]
    exact (hA0 t a b).1
  have hcls : ∃ K, t_WF_tried M x1 x2 x3 = t_WF_tried_L126 x1 x2 x3 FU K 0 0 ∧ Fr (CsW 52) M K ∧ CScF K 52 V (trD x1 x2 (DN M 0)) A' (ST M 0) (LN M 0) (trN x1 (M.2 210 0)) (M.2 211 0) (trW x1 (wlV V)) := by
    unfold t_WF_tried t_WF_tried_L120
    simp (config := { proj := false }) only [qlet]
    rw [if_neg c1, if_neg (show ¬ 200 < x3 by omega), t1, if_neg (show ¬ v = 0 by omega)]
    obtain ⟨s1, s2⟩ := c_scopy (k0 := 52) (k1 := 47) hV (Or.inl (by omega)) hS
    generalize t_Scene_copy M 52 47 = K at *
    have eD : x1 ≠ 3 → ∀ w, 0 ≤ w → w < V 0 2 → DN M 0 w = trD x1 x2 (DN M 0) w := fun z w _ _ => (if_neg (fun y => z y.1)).symm
    have eA4 : x1 ≠ 4 → ∀ t, 0 ≤ t → t < V 0 3 → AT M 0 t = A' t ∧ ST M 0 t = ST M 0 t ∧ LN M 0 t = LN M 0 t := fun z t _ _ => ⟨by rw [eA]; exact (if_neg (fun y => z y.1)).symm, rfl, rfl⟩
    have eN : x1 ≠ 0 → M.2 210 0 = trN x1 (M.2 210 0) := fun z => (if_neg z).symm
    have eW : x1 ≠ 2 → trW x1 (wlV V) = wlV V := fun z => if_neg z
    by_cases z0 : x1 = 0
    · have f1 : Fr (fun q j => q = 52 ∧ j = 5) K (setL K 52 5 0) := Fr.rf.setL ⟨rfl, rfl⟩
      rw [if_pos z0]
      refine ⟨setL K 52 5 0, rfl, s2.trans (f1.mono (fun q j z => by unfold CsW; omega)), ?_⟩
      rw [eW (by omega)]
      obtain ⟨a1, a2, a3, a4, a5⟩ := s1
      have k : CScF (setL K 52 5 0) 52 V (DN M 0) (AT M 0) (ST M 0) (LN M 0) 0 (M.2 211 0) (wlV V) := ⟨a1, a2, sL_self _ _ _ _, by rw [(f1 52 6 (by omega)).2]; exact a4, fun c a b => by rw [(f1 52 4 (by omega)).2]; exact a5 c a b⟩
      exact k.eq (eD (by omega)) (eA4 (by omega)) (by unfold trN; rw [if_pos z0]) rfl
    by_cases z1 : x1 = 1
    · rw [if_neg z0, if_pos z1]
      refine ⟨K, rfl, s2, ?_⟩
      rw [eW (by omega)]
      exact s1.eq (eD (by omega)) (eA4 (by omega)) (eN z0) rfl
    by_cases z2 : x1 = 2
    · have f1 : Fr (fun q j => q = 52 ∧ j = 4) K (setL K 52 4 0) := Fr.rf.setL ⟨rfl, rfl⟩
      rw [if_neg z0, if_neg z1, if_pos z2]
      refine ⟨setL K 52 4 0, rfl, s2.trans (f1.mono (fun q j z => by unfold CsW; omega)), ?_⟩
      have ew : trW x1 (wlV V) = fun _ => false := if_pos z2
      rw [ew]
      obtain ⟨a1, a2, a3, a4, a5⟩ := s1
      have k : CScF (setL K 52 4 0) 52 V (DN M 0) (AT M 0) (ST M 0) (LN M 0) (M.2 210 0) (M.2 211 0) (fun _ => false) := ⟨a1, a2, by rw [(f1 52 5 (by omega)).2]; exact a3, by rw [(f1 52 6 (by omega)).2]; exact a4, fun c a b => by rw [sL_self]; exact tb_zero c⟩
      exact k.eq (eD (by omega)) (eA4 (by omega)) (eN z0) rfl
    by_cases z3 : x1 = 3
    · have hw := t4 z3
      have p1 : t_WF_put K 53 4 x2 4 = setI K 53 x2 4 := put_in hw.1 (by omega)
      have f1 : Fr (fun q j => q = 53 ∧ j = x2) K (setI K 53 x2 4) := Fr.rf.setI ⟨rfl, rfl⟩
      rw [if_neg z0, if_neg z1, if_neg z2, if_pos z3, p1]
      refine ⟨setI K 53 x2 4, rfl, s2.trans (f1.mono (fun q j z => by unfold CsW; omega)), ?_⟩
      rw [eW z2]
      obtain ⟨a1, a2, a3, a4, a5⟩ := s1
      have k : CScF (setI K 53 x2 4) 52 V (trD x1 x2 (DN M 0)) (AT M 0) (ST M 0) (LN M 0) (M.2 210 0) (M.2 211 0) (wlV V) := by
        refine ⟨fun w x y => ?_, fun t x y => ?_, a3, a4, a5⟩
        · unfold trD
          by_cases e : w = x2
          · rw [if_pos ⟨z3, e⟩, e]; exact sI_self _ _ _ _
          · rw [if_neg (fun q => e q.2), (f1 (52 + 1) w (by omega)).1]; exact a1 w x y
        · rw [(f1 (52 + 2) t (by omega)).1, (f1 (52 + 3) t (by omega)).1, (f1 (52 + 4) t (by omega)).1]; exact a2 t x y
      exact k.eq (fun _ _ _ => rfl) (eA4 (by omega)) (eN z0) rfl
    · have z4 : x1 = 4 := by omega
      have hw := t5 z4
      have p1 : t_WF_put K 54 8 x2 (-1) = setI K 54 x2 (-1) := put_in hw.1 (by omega)
      have f1 : Fr (fun q j => q = 54 ∧ j = x2) K (setI K 54 x2 (-1)) := Fr.rf.setI ⟨rfl, rfl⟩
      rw [if_neg z0, if_neg z1, if_neg z2, if_neg z3, if_pos z4, p1]
      refine ⟨setI K 54 x2 (-1), rfl, s2.trans (f1.mono (fun q j z => by unfold CsW; omega)), ?_⟩
      rw [eW z2]
      obtain ⟨a1, a2, a3, a4, a5⟩ := s1
      have k : CScF (setI K 54 x2 (-1)) 52 V (DN M 0) A' (ST M 0) (LN M 0) (M.2 210 0) (M.2 211 0) (wlV V) := by
        refine ⟨fun w x y => ?_, fun t x y => ⟨?_, ?_, ?_⟩, a3, a4, a5⟩
        · rw [(f1 (52 + 1) w (by omega)).1]; exact a1 w x y
        · rw [eA]
          show (setI K 54 x2 (-1)).1 54 t = if x1 = 4 ∧ x2 = t then -1 else AT M 0 t
          by_cases e : x2 = t
          · rw [if_pos ⟨z4, e⟩, e]; exact sI_self _ _ _ _
          · rw [if_neg (fun q => e q.2), (f1 54 t (by omega)).1]; exact (a2 t x y).1
        · rw [(f1 (52 + 3) t (by omega)).1]; exact (a2 t x y).2.1
        · rw [(f1 (52 + 4) t (by omega)).1]; exact (a2 t x y).2.2
      exact k.eq (eD z3) (fun t _ _ => ⟨rfl, rfl, rfl⟩) (eN z0) rfl
  obtain ⟨K, k1, k2, k3⟩ := hcls
  have XK : CT0 K (M.1 0 4).toNat V ∧ CTs K (M.1 0 4).toNat V := ⟨CT0.fr k2 (fun q j x y z => by unfold CsW at z; omega) hX.1, CTs.fr k2 (fun q j x y z => by unfold CsW at z; omega) hX.2.1⟩
  obtain ⟨N, n1, n2⟩ := c_tried_loop (x1 := x1) (x2 := x2) (x3 := x3) (T := (M.1 0 4).toNat) hV hTT.2 XK (by rw [(k2 0 4 (by unfold CsW; omega)).1]) c2 n FU K (A', ST M 0, LN M 0, 0) 0 (by omega) (by omega) (fu_big (by omega)) Fr.rf k3 hA'
  have hw : t_WF_tried M x1 x2 x3 = some (N, (btI V (decide (x1 ≠ 1)) (nxV V (trD x1 x2 (DN M 0)) (trN x1 (M.2 210 0)) (trW x1 (wlV V))) n (A', ST M 0, LN M 0, 0)).2.2.2) := k1.trans n1
  generalize hr : btI V (decide (x1 ≠ 1)) (nxV V (trD x1 x2 (DN M 0)) (trN x1 (M.2 210 0)) (trW x1 (wlV V))) n (A', ST M 0, LN M 0, 0) = r at *
  have fN : Fr (CsW 52) M N := k2.trans (n2.mono (fun q j z => by unfold BtW at z; unfold CsW; omega))
  obtain ⟨u, e, hu⟩ := okC
  have : u = (N, r.2.2.2) := Option.some.inj (e.symm.trans hw)
  subst this
  have hIN : IM N := hu.1
  have hRN : RI N V := hR.fr fN (fun q j a z => by unfold RIc at a; unfold CsW at z; omega)
  have hLN : LI N := h'.q hIN (fN.mono (fun q j z => by unfold CsW at z; unfold QkW; omega))
  have hmo : ∃ Q, t_MO_tried N x1 x2 x3 = some (Q, r.2.2.2) ∧ Fr QmW N Q := by
    have g0 : Fr (fun q j => q = 191 ∧ j = 0) N (setI N 191 0 0) := Fr.rf.setI ⟨rfl, rfl⟩
    have hR0 : RI (setI N 191 0 0) V := hRN.set0 0
    rw [t2 N hR0.1.2.1]
    unfold t_MO_tried_L49
    simp (config := { proj := false }) only [qlet]
    rw [if_neg (show ¬ v = 0 by omega), if_neg c1, if_pos c2]
    obtain ⟨Q1, a1, a2, a3⟩ := m_copies (M := setI N 191 0 0) (x1 := 1) (x2 := 0) (by omega) (by omega) (by omega)
    obtain ⟨Q1', b1, b2, b3, -⟩ := hR0.cp1
    have : Q1' = Q1 := Option.some.inj (b1.symm.trans a1)
    subst this
    rw [a1, obind_some]
    have row : RowEq Q1' 1 M 0 := (a3.trans (RowEq.fr g0 (fun q j z w => by unfold CW at z; omega))).trans (RowEq.fr fN (fun q j z w => by unfold CW at z; unfold CsW at w; omega))
    have fT : Fr (fun k j => BW 1 k j ∨ (k = 191 ∧ (j = 44 ∨ j = 45))) Q1' (setI (setI Q1' 191 44 x1) 191 45 x2) := (Fr.rf.setI (by omega)).setI (by omega)
    obtain ⟨Q, q1, q2⟩ := m_tried_loop (x1 := x1) (x2 := x2) (x3 := x3) (D := DN M 0) (nets := M.2 210 0) b2 b3 (fun w a b => row.2.1 w a (by omega)) row.1.2.2.2.1 c2 n FU (setI (setI Q1' 191 44 x1) 191 45 x2) (A', ST M 0, LN M 0, 0) 0 (by omega) (by omega) (fu_big (by omega)) fT rfl (by rw [sI_ne (by omega), sI_self]) (sI_self _ _ _ _) (fun t a b => by
      by_cases z : x1 = 4 ∧ x2 = t
      · exact Or.inl ⟨z.1, z.2, by show A' t = -1; rw [eA]; exact if_pos z⟩
      · refine Or.inr ⟨z, ?_, ?_, ?_⟩
        · rw [sI_ne (by omega), sI_ne (by omega)]
          show Q1'.1 213 (8 * 1 + t) = A' t
          rw [eA, (row.2.2 t a (by omega)).1]
          exact (if_neg z).symm
        · rw [sI_ne (by omega), sI_ne (by omega)]; exact (row.2.2 t a (by omega)).2.1
        · rw [sI_ne (by omega), sI_ne (by omega)]; exact (row.2.2 t a (by omega)).2.2) hA' hA2
    rw [hr] at q1
    have w0 : Fr QmW N (setI N 191 0 0) := g0.mono (fun q j z => by unfold QmW; omega)
    have w1 : Fr QmW (setI N 191 0 0) Q1' := a2.mono (fun q j z => by unfold QmW; exact Or.inr (Or.inl z))
    have w2 : Fr QmW Q1' Q := q2.mono (fun q j z => by
      rcases z with z | z
      · unfold BW at z; unfold QmW CW; omega
      · unfold QmW; omega)
    exact ⟨Q, q1, (w0.trans w1).trans w2⟩
  obtain ⟨Q, q1, q2⟩ := hmo
  have hIP := im_MO_tried hIN h1 h2 h3 _ q1
  exact ⟨_, hw, _, q1, rfl, hLN.qm hIP.1 q2⟩
