/-! lay -/
theorem bs_lay {M : Mem} (h : LI M) {x1 x2 : Int} (h1 : InR x1) (h2 : InR x2) : Ok (fun q => Ok (fun r => q.2 = r.2 ∧ LI r.1) (t_MO_lay q.1 x1 x2)) (t_WF_lay M x1 x2) := by
  have h' := h
  obtain ⟨hI, ⟨V, hR, hX, hRL⟩, -⟩ := h
  have hV := hR.1.1
  have hv := hV.1
  have hC := hV.cells
  have hP := hRL.2.2.1
  have hS : CScF M 47 V (DN M 0) (AT M 0) (ST M 0) (LN M 0) (M.2 210 0) (M.2 211 0) (wlV V) := hRL.1
  have okC := sf_WF_lay hI h1 h2
  have same : t_WF_lay M x1 x2 = some (M, 0) → t_MO_lay M x1 x2 = some (setI M 191 0 0, 0) → Ok (fun q => Ok (fun r => q.2 = r.2 ∧ LI r.1) (t_MO_lay q.1 x1 x2)) (t_WF_lay M x1 x2) := fun e1 e2 => ⟨_, e1, _, e2, rfl, h'.at0⟩
  have hT3 : ∀ N : Mem, MT0 N V → t_MO_isThing (setI N 191 0 0) x1 = if 0 ≤ x1 ∧ x1 < V 0 3 then 1 else 0 := fun N hN => m_isThing (MT0.fr (W := fun q j => q = 191 ∧ j = 0) (Fr.rf.setI ⟨rfl, rfl⟩) (fun q j x y z => by omega) hN) x1
  by_cases c1 : 0 ≤ x1 ∧ x1 < V 0 3
  rotate_left
  · refine same ?_ ?_
    · unfold t_WF_lay; rw [c_hasThing hX.1]; simp only [qlet]; rw [if_neg c1, if_pos rfl]
    · unfold t_MO_lay; simp (config := { proj := false }) only [qlet]; rw [hT3 M hR.1.2.1, if_neg c1, if_pos rfl]
  by_cases c2 : opV V x2
  rotate_left
  · refine same ?_ ?_
    · unfold t_WF_lay; rw [c_hasThing hX.1]; simp only [qlet]; rw [if_pos c1, if_neg (show ¬ (1 : Int) = 0 by decide), c_isFree hV hX hS, if_neg c2, if_pos rfl]
    · unfold t_MO_lay; simp (config := { proj := false }) only [qlet]; rw [hT3 M hR.1.2.1, if_pos c1, if_neg (show ¬ (1 : Int) = 0 by decide), m_open01 (hR.set0 0).1.2.1 hV, if_neg c2, obind_some, if_pos rfl]
  have hth : t_Scene_thingIn M 47 (M.1 0 4).toNat x2 = some (thV V (AT M 0) x2) := c_thingIn hV ⟨hX.1, hX.2.1⟩ (fun t a b => (hS.2.1 t a b).1) x2
  have tr := th_rng hV (AT M 0) x2
  have hmt : ∀ N : Mem, RI N V → AT N 0 = AT M 0 → t_MO_thingIn (setI N 191 0 0) 0 x2 = some (thV V (AT M 0) x2) := fun N hN e => by
    have := (hN.set0 0).thing0 (c := x2) c2.1
    have e2 : AT (setI N 191 0 0) 0 = AT N 0 := AT_fr (W := fun q j => q = 191 ∧ j = 0) (Fr.rf.setI ⟨rfl, rfl⟩) (fun j z => by omega)
    rw [e2, e] at this
    exact this
  have hw : t_WF_lay M x1 x2 = if thV V (AT M 0) x2 < 0 then some (setI (t_WF_put (t_Past_remember M 47) 49 8 x1 x2) 177 8 0, 1) else some (M, 0) := by
    unfold t_WF_lay
    rw [c_hasThing hX.1]
    simp (config := { proj := false }) only [qlet]
    rw [if_pos c1, if_neg (show ¬ (1 : Int) = 0 by decide), c_isFree hV hX hS, if_pos c2, if_neg (show ¬ (1 : Int) = 0 by decide), hth, obind_some]
  have hm : ∀ N : Mem, RI N V → AT N 0 = AT M 0 → t_MO_lay N x1 x2 = if thV V (AT M 0) x2 = -1 then obind (t_MO_keepNow (setI N 191 0 0)) fun q11 => qguard (0 ≤ x1 ∧ x1 < 184) (some (setI q11 213 x1 x2, 1)) else some (setI N 191 0 0, 0) := fun N hN e => by
    unfold t_MO_lay
    simp (config := { proj := false }) only [qlet]
    rw [hT3 N hN.1.2.1, if_pos c1, if_neg (show ¬ (1 : Int) = 0 by decide), m_open01 (hN.set0 0).1.2.1 hV, if_pos c2, obind_some, if_neg (show ¬ (1 : Int) = 0 by decide), hmt N hN e, obind_some]
  by_cases c3 : thV V (AT M 0) x2 < 0
  rotate_left
  · exact same (by rw [hw, if_neg c3]) (by rw [hm M hR rfl, if_neg (by omega)])
  rw [if_pos c3] at hw
  have rm := rm_of hV hRL
  obtain ⟨u, e, hu⟩ := okC
  rw [hw] at e ⊢
  have e1 := Option.some.inj e
  subst e1
  have hIC : IM (setI (t_WF_put (t_Past_remember M 47) 49 8 x1 x2) 177 8 0) := hu.1
  have hcm : CmR M (setI (t_WF_put (t_Past_remember M 47) 49 8 x1 x2) 177 8 0) V (DN M 0) (upA (AT M 0) x1 x2) (ST M 0) (LN M 0) (M.2 210 0) (M.2 211 0) := by
    have r5 := rm.2.2.2.2
    generalize t_Past_remember M 47 = N1 at *
    rw [put_in (M := N1) c1.1 (by omega)]
    have f2 : Fr (fun q j => (q = 49 ∧ j = x1) ∨ (q = 177 ∧ j = 8)) N1 (setI (setI N1 49 x1 x2) 177 8 0) := (Fr.rf.setI (by omega)).setI (by omega)
    refine cm_of hP.2.1 rm (f2.mono (fun q j z => by unfold ClW CsW; omega)) ?_ (Or.inl (sI_self _ _ _ _))
    obtain ⟨a1, a2, a3, a4, a5⟩ := r5
    refine ⟨fun w x y => ?_, fun t x y => ?_, ?_, ?_, fun c x y => ?_⟩
    · rw [(f2 (47 + 1) w (by omega)).1]; exact a1 w x y
    · rw [(f2 (47 + 3) t (by omega)).1, (f2 (47 + 4) t (by omega)).1]
      refine ⟨?_, (a2 t x y).2⟩
      by_cases z : t = x1
      · rw [z, upA_self, sI_ne (by omega)]; exact sI_self _ _ _ _
      · rw [upA_ne _ z, (f2 (47 + 2) t (by omega)).1]; exact (a2 t x y).1
    · rw [(f2 47 5 (by omega)).2]; exact a3
    · rw [(f2 47 6 (by omega)).2]; exact a4
    · rw [(f2 47 4 (by omega)).2]; exact a5 c x y
  generalize setI (t_WF_put (t_Past_remember M 47) 49 8 x1 x2) 177 8 0 = N at *
  have cls : ∀ q j, CmW (M.1 70 1) q j → q < 191 := fun q j z => by have := CmW_cls hP.2.1 z; omega
  have hRN : RI N V := riN hR hcm.1 cls
  have eN : ∀ q j, 191 ≤ q → N.1 q j = M.1 q j ∧ N.2 q j = M.2 q j := fun q j x => hcm.1 q j (fun z => by have := cls q j z; omega)
  have eA : AT N 0 = AT M 0 := funext fun t => (eN 213 _ (by omega)).1
  obtain ⟨P, p0, p1⟩ := ri_lay hRN x1 x2
  have hIP := im_MO_lay hIC h1 h2 P p0
  have p0' := p0
  rw [hm N hRN eA, if_pos (by omega)] at p0'
  have hm43 : 0 ≤ N.1 191 43 ∧ N.1 191 43 ≤ 20 := by rw [(eN 191 43 (by omega)).1]; exact hP.2.2.1
  obtain ⟨Q, a1, a2⟩ := kn_of hm43
  rw [a1, obind_some, qguard_pos ⟨c1.1, by omega⟩] at p0'
  have eP := Option.some.inj p0'
  refine ⟨(N, 1), rfl, P, p0, by rw [← eP], bs_move h' hR hX hRL hIP.1 p1 hcm ?_⟩
  have r0 := row0_of eN (kn0 a2) (fun q j z => Or.inr z)
  have f3 : Fr (fun q j => q = 213 ∧ j = x1) Q (setI Q 213 x1 x2) := Fr.rf.setI ⟨rfl, rfl⟩
  rw [← eP]
  refine mm_of hm43.1 (kn0 a2) (fun q j z => Or.inr z) a2.2.1 a2.2.2 (f3.mono (fun q j z => by unfold RwW; omega)) (fun w x y => ?_) (fun t x y => ?_) ?_ ?_
  · rw [(f3 212 w (by omega)).1, (r0 212 w (by unfold RwW; omega)).1]; exact dn_row M
  · rw [(f3 214 t (by omega)).1, (r0 214 t (by unfold RwW; omega)).1, (f3 215 t (by omega)).1, (r0 215 t (by unfold RwW; omega)).1]
    refine ⟨?_, (at_row M).2⟩
    by_cases z : t = x1
    · rw [z, upA_self]; exact sI_self _ _ _ _
    · rw [upA_ne _ z, (f3 213 t (by omega)).1, (r0 213 t (by unfold RwW; omega)).1]; exact (at_row M).1
  · exact ((f3 210 0 (by omega)).2).trans (r0 210 0 (by unfold RwW; omega)).2
  · exact ((f3 211 0 (by omega)).2).trans (r0 211 0 (by unfold RwW; omega)).2
/-! drain -/
theorem bitsOf_eq {x : Int64} {M : Mem} : ∀ (n k fu : Nat), k + n = 48 → n < fu → t_MO_bitsOf_L4 x fu M (cntT x k) (k : Int) = some (cntT x 48) := by
  intro n
  induction n with
  | zero =>
    intro k fu g0 g1
    obtain ⟨g, rfl⟩ : ∃ g, fu = g + 1 := ⟨fu - 1, by omega⟩
    rw [t_MO_bitsOf_L4, if_pos (by omega), show k = 48 by omega]
  | succ n ih =>
    intro k fu g0 g1
    obtain ⟨g, rfl⟩ : ∃ g, fu = g + 1 := ⟨fu - 1, by omega⟩
    have cr := cnt_rng x k
    have e : q_l2i ((q_lshr x (k : Int)) &&& 1) = if tb x (k : Int) = true then 1 else 0 := by
      rw [lshr_tb x (by omega) (by omega)]
      cases tb x (k : Int) <;> decide
    rw [t_MO_bitsOf_L4, if_neg (by omega), e, w32_succ (by omega)]
    have := ih (k + 1) g (by omega) (by omega)
    rw [cntT] at this
    rw [w32_id (by unfold InR; split <;> omega)]
    exact this
theorem m_bitsOf (x : Int64) (M : Mem) : t_MO_bitsOf M x = some (cntT x 48) := bitsOf_eq 48 0 FU (by omega) (fu_big (by omega))
theorem cnt_48 {x : Int64} {C : Int} (hC : C ≤ 48) (h : ∀ c, C ≤ c → c < 64 → tb x c = false) : cntT x 64 = cntT x 48 := cnt_more (by omega) (fun i a b => h _ (by omega) (by omega))
theorem bs_drain {M : Mem} (h : LI M) : Ok (fun r => (t_WF_drain M).2 = r.2 ∧ LI r.1) (t_MO_drain (t_WF_drain M).1) := by
  have h' := h
  obtain ⟨hI, ⟨V, hR, hX, hRL⟩, -⟩ := h
  have hV := hR.1.1
  have hv := hV.1
  have hC := hV.cells
  have hP := hRL.2.2.1
  have hS : CScF M 47 V (DN M 0) (AT M 0) (ST M 0) (LN M 0) (M.2 210 0) (M.2 211 0) (wlV V) := hRL.1
  have hIC := (sf_WF_drain hI).1
  have e48 : cntT (M.2 211 0) 64 = cntT (M.2 211 0) 48 := cnt_48 hC.2 (fun c a b => (hR.row0.2.2 c a b).2)
  have hw : t_WF_drain M = if cntT (M.2 211 0) 64 ≤ 0 then (M, cntT (M.2 211 0) 64) else (setL (t_Past_remember M 47) 47 6 0, cntT (M.2 211 0) 64) := by
    unfold t_WF_drain
    simp (config := { proj := false }) only [qlet]
    rw [bitCount_eq, hS.2.2.2.1]
  have cr := cnt_rng (M.2 211 0) 64
  have hm : ∀ N : Mem, N.2 211 0 = M.2 211 0 → t_MO_drain N = if M.2 211 0 = 0 then some (setI N 191 0 0, 0) else obind (t_MO_keepNow (setI N 191 0 0)) fun q3 => obind (t_MO_bitsOf q3 (q3.2 211 0)) fun q5 => some (setL q3 211 0 0, q5) := fun N e => by
    unfold t_MO_drain
    simp (config := { proj := false }) only [qlet]
    rw [show (setI N 191 0 0).2 211 0 = M.2 211 0 from e]
  by_cases c1 : cntT (M.2 211 0) 64 ≤ 0
  · have z : M.2 211 0 = 0 := cnt_eq0.mp (by omega)
    rw [hw, if_pos c1]
    refine ⟨_, (hm M rfl).trans (if_pos z), ?_, h'.at0⟩
    show cntT (M.2 211 0) 64 = 0
    omega
  have z : ¬ M.2 211 0 = 0 := fun q => c1 (by rw [cnt_eq0.mpr q]; exact Int.le_refl _)
  rw [if_neg c1] at hw
  have rm := rm_of hV hRL
  rw [hw] at hIC ⊢
  have hcm : CmR M (setL (t_Past_remember M 47) 47 6 0) V (DN M 0) (AT M 0) (ST M 0) (LN M 0) (M.2 210 0) 0 := by
    have r5 := rm.2.2.2.2
    generalize t_Past_remember M 47 = N1 at *
    have f2 : Fr (fun q j => q = 47 ∧ j = 6) N1 (setL N1 47 6 0) := Fr.rf.setL ⟨rfl, rfl⟩
    refine cm_of hP.2.1 rm (f2.mono (fun q j z => by unfold ClW CsW; omega)) ?_ (Or.inr ⟨rfl, fun t _ _ => rfl, rfl⟩)
    obtain ⟨a1, a2, a3, a4, a5⟩ := r5
    refine ⟨fun w x y => a1 w x y, fun t x y => a2 t x y, ?_, sL_self _ _ _ _, fun c x y => ?_⟩
    · rw [(f2 47 5 (by omega)).2]; exact a3
    · rw [(f2 47 4 (by omega)).2]; exact a5 c x y
  generalize setL (t_Past_remember M 47) 47 6 0 = N at *
  have cls : ∀ q j, CmW (M.1 70 1) q j → q < 191 := fun q j z => by have := CmW_cls hP.2.1 z; omega
  have hRN : RI N V := riN hR hcm.1 cls
  have eN : ∀ q j, 191 ≤ q → N.1 q j = M.1 q j ∧ N.2 q j = M.2 q j := fun q j x => hcm.1 q j (fun z => by have := cls q j z; omega)
  obtain ⟨P, p0, p1⟩ := ri_drain hRN
  have hIP := im_MO_drain hIC P p0
  have p0' := p0
  rw [hm N (eN 211 0 (by omega)).2, if_neg z] at p0'
  have hm43 : 0 ≤ N.1 191 43 ∧ N.1 191 43 ≤ 20 := by rw [(eN 191 43 (by omega)).1]; exact hP.2.2.1
  obtain ⟨Q, a1, a2⟩ := kn_of hm43
  have r0 := row0_of eN (kn0 a2) (fun q j z => Or.inr z)
  rw [a1, obind_some, m_bitsOf, obind_some, (r0 211 0 (by unfold RwW; omega)).2] at p0'
  have eP := Option.some.inj p0'
  refine ⟨P, p0, by rw [← eP]; exact e48, bs_move h' hR hX hRL hIP.1 p1 hcm ?_⟩
  have f3 : Fr (fun q j => q = 211 ∧ j = 0) Q (setL Q 211 0 0) := Fr.rf.setL ⟨rfl, rfl⟩
  rw [← eP]
  refine mm_of hm43.1 (kn0 a2) (fun q j z => Or.inr z) a2.2.1 a2.2.2 (f3.mono (fun q j z => by unfold RwW; omega)) (fun w x y => ?_) (fun t x y => ?_) ?_ ?_
  · rw [(f3 212 w (by omega)).1, (r0 212 w (by unfold RwW; omega)).1]; exact dn_row M
  · rw [(f3 213 t (by omega)).1, (r0 213 t (by unfold RwW; omega)).1, (f3 214 t (by omega)).1, (r0 214 t (by unfold RwW; omega)).1, (f3 215 t (by omega)).1, (r0 215 t (by unfold RwW; omega)).1]; exact at_row M
  · exact ((f3 210 0 (by omega)).2).trans (r0 210 0 (by unfold RwW; omega)).2
  · exact sL_self _ _ _ _
/-! pour -/
def pnS (f : Int → Int) (c : Int) : Nat → Int64 → Int64 × Int
  | 0, w => (w, 0)
  | n + 1, w => ((prS f 49 (pnS f c n w).1 c).1, (pnS f c n w).2 + (prS f 49 (pnS f c n w).1 c).2)
theorem prS_01 (f : Int → Int) : ∀ (n : Nat) (w : Int64) (c : Int), (prS f n w c).2 = 0 ∨ (prS f n w c).2 = 1 := by
  intro n
  induction n with
  | zero => intro w c; exact Or.inl rfl
  | succ n ih =>
    intro w c
    rw [prS]
    split
    · split
      · exact Or.inl rfl
      · exact Or.inr rfl
    · exact ih w (f c)
theorem pn_rng (f : Int → Int) (c : Int) (w : Int64) : ∀ n : Nat, 0 ≤ (pnS f c n w).2 ∧ (pnS f c n w).2 ≤ (n : Int) := by
  intro n
  induction n with
  | zero => exact ⟨Int.le_refl _, Int.le_refl _⟩
  | succ n ih =>
    rw [pnS]
    have := prS_01 f 49 (pnS f c n w).1 c
    show 0 ≤ (pnS f c n w).2 + (prS f 49 (pnS f c n w).1 c).2 ∧ _ ≤ _
    omega
theorem c_pour_L37 {M0 : Mem} {x1 C : Int} {f : Int → Int} {w0 : Int64} {n : Nat} (hn : n ≤ 99) (hC : C ≤ 48) (hf : stepOK f C) (c0 : 0 ≤ x1) (c1 : x1 < C) (hN : ∀ M, Fr (PoW 52) M0 M → t_Scene_pourOne M 52 (M.1 0 4).toNat x1 = t_Scene_pourOne M 52 (M0.1 0 4).toNat x1 ∧ ∀ c, 0 ≤ c → c < C → t_Scene_nextOf M 52 (M0.1 0 4).toNat c = f c) : ∀ (m k fu : Nat) (M : Mem), k + m = n → m < fu → Fr (PoW 52) M0 M → M.2 52 6 = (pnS f x1 k w0).1 →
    ∃ N, Fr (PoW 52) M0 N ∧ N.2 52 6 = (pnS f x1 n w0).1 ∧ t_WF_pour_L37 x1 (n : Int) fu M (pnS f x1 k w0).2 (k : Int) = (if (pnS f x1 n w0).2 ≤ 0 then some (N, (pnS f x1 n w0).2) else some (setL (t_Past_remember N 47) 47 6 ((t_Past_remember N 47).2 52 6), (pnS f x1 n w0).2)) := by
  intro m
  induction m with
  | zero =>
    intro k fu M g0 g1 hF hw
    obtain ⟨g, rfl⟩ : ∃ g, fu = g + 1 := ⟨fu - 1, by omega⟩
    have e : k = n := by omega
    subst e
    refine ⟨M, hF, hw, ?_⟩
    rw [t_WF_pour_L37, if_pos (Int.le_refl _)]
  | succ m ih =>
    intro k fu M g0 g1 hF hw
    obtain ⟨g, rfl⟩ : ∃ g, fu = g + 1 := ⟨fu - 1, by omega⟩
    obtain ⟨e1, e2⟩ := hN M hF
    obtain ⟨P, p1, p2, p3⟩ := c_pourOne (M := M) (k := 52) (T := (M0.1 0 4).toNat) (x2 := x1) hC hf e2 c0 c1
    have pr := pn_rng f x1 w0 k
    have p01 := prS_01 f 49 (pnS f x1 k w0).1 x1
    rw [hw] at p1 p2
    obtain ⟨N, n1, n2, n3⟩ := ih (k + 1) g P (by omega) (by omega) (hF.trans p3) (by rw [p2]; rfl)
    refine ⟨N, n1, n2, ?_⟩
    rw [t_WF_pour_L37, if_neg (by omega), e1, p1, obind_some]
    unfold t_WF_pour_L61
    rw [w32_succ (by omega), w32_id (x := (pnS f x1 k w0).2 + 1) (by unfold InR; omega)]
    rw [← n3]
    show (if (prS f 49 (pnS f x1 k w0).1 x1).2 = 0 then _ else _) = t_WF_pour_L37 x1 (n : Int) g P ((pnS f x1 k w0).2 + (prS f 49 (pnS f x1 k w0).1 x1).2) ((k + 1 : Nat) : Int)
    rcases p01 with z | z
    · rw [if_pos z, z, Int.add_zero]
    · rw [if_neg (by omega), z]
theorem m_pour_L37 {M0 : Mem} {x1 : Int} {V : TV} {w0 : Int64} {n : Nat} (hn : n ≤ 99) (hb : NB M0 1 V) (c0 : 0 ≤ x1) (c1 : x1 < cellsV V) : ∀ (m k fu : Nat) (M : Mem), k + m = n → m < fu → Fr (fun q j => q = 211 ∧ j = 1) M0 M → M.2 211 1 = (pnS (nxR M0 1 V) x1 k w0).1 →
    ∃ N, Fr (fun q j => q = 211 ∧ j = 1) M0 N ∧ N.2 211 1 = (pnS (nxR M0 1 V) x1 n w0).1 ∧ t_MO_pour_L37 x1 (n : Int) fu M (pnS (nxR M0 1 V) x1 k w0).2 (k : Int) = (if (pnS (nxR M0 1 V) x1 n w0).2 = 0 then some (N, 0) else obind (t_MO_keepNow N) fun q11 => some (setL q11 211 0 (q11.2 211 1), (pnS (nxR M0 1 V) x1 n w0).2)) := by
  intro m
  induction m with
  | zero =>
    intro k fu M g0 g1 hF hw
    obtain ⟨g, rfl⟩ : ∃ g, fu = g + 1 := ⟨fu - 1, by omega⟩
    have e : k = n := by omega
    subst e
    refine ⟨M, hF, hw, ?_⟩
    rw [t_MO_pour_L37, if_pos (Int.le_refl _)]
  | succ m ih =>
    intro k fu M g0 g1 hF hw
    obtain ⟨g, rfl⟩ : ∃ g, fu = g + 1 := ⟨fu - 1, by omega⟩
    have hbM : NB M 1 V := hb.fr hF (fun q j x z => by omega)
    have enx : nxR M 1 V = nxR M0 1 V := nxR_fr hF (fun q j x z => by omega)
    obtain ⟨P, p1, p2, p3⟩ := hbM.pours (x2 := x1) (by omega) c0 c1
    have pr := pn_rng (nxR M0 1 V) x1 w0 k
    have p01 := prS_01 (nxR M0 1 V) 49 (pnS (nxR M0 1 V) x1 k w0).1 x1
    rw [hw, enx] at p1 p2
    obtain ⟨N, n1, n2, n3⟩ := ih (k + 1) g P (by omega) (by omega) (hF.trans p3) (by rw [p2]; rfl)
    refine ⟨N, n1, n2, ?_⟩
    rw [t_MO_pour_L37, if_neg (by omega), p1, obind_some]
    unfold t_MO_pour_L58
    rw [w32_succ (by omega), w32_id (x := (pnS (nxR M0 1 V) x1 k w0).2 + 0) (by unfold InR; omega), w32_id (x := (pnS (nxR M0 1 V) x1 k w0).2 + 1) (by unfold InR; omega)]
    rw [← n3]
    show (if (prS (nxR M0 1 V) 49 (pnS (nxR M0 1 V) x1 k w0).1 x1).2 = 0 then _ else _) = t_MO_pour_L37 x1 (n : Int) g P ((pnS (nxR M0 1 V) x1 k w0).2 + (prS (nxR M0 1 V) 49 (pnS (nxR M0 1 V) x1 k w0).1 x1).2) ((k + 1 : Nat) : Int)
    rcases p01 with z | z
    · rw [if_pos z, z]
    · rw [if_neg (by omega), z]
