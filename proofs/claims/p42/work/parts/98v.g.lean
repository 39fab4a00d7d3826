section
/-! lay -/
theorem bs_lay {M : Mem} (h : LI M) {x1 x2 : Int} (h1 : InR x1) (h2 : InR x2) : Ok (fun q => Ok (fun r => q.2 = r.2 ∧ LI r.1) (t_MO_lay q.1 x1 x2)) (t_WF_lay M x1 x2) := by
  have h' := h
  obtain ⟨hI, ⟨V, hR, hX, hRL⟩, -⟩ := h
  have hV := hR.1.1
  have hv := hV.1
  have hC := hV.cells
  have hP := hRL.2.2.1
  have hS : CScF M 47 V (DN M 0) (AT M 0) (ST M 0) (LN M 0) (M.2 210 0) (M.2 211 0) (wlV V) := hRL.1
  have okC := sf_WF_lay hI h1 h2
  have same : t_WF_lay M x1 x2 = some (M, 0) → t_MO_lay M x1 x2 = some (setI M 191 0 0, 0) → Ok (fun q => Ok (fun r => q.2 = r.2 ∧ LI r.1) (t_MO_lay q.1 x1 x2)) (t_WF_lay M x1 x2) := fun e1 e2 => ⟨_, e1, _, e2, rfl, h'.at0⟩
  have hT3 : ∀ N : Mem, MT0 N V → t_MO_isThing (setI N 191 0 0) x1 = if 0 ≤ x1 ∧ x1 < V 0 3 then 1 else 0 := fun N hN => m_isThing (MT0.fr (W := fun q j => q = 191 ∧ j = 0) (Fr.rf.setI ⟨rfl, rfl⟩) (fun q j x y z => by omega) hN) x1
  by_cases c1 : 0 ≤ x1 ∧ x1 < V 0 3
  rotate_left
  · refine same ?_ ?_
    · unfold t_WF_lay; rw [c_hasThing hX.1]; simp only [qlet]; rw [if_neg c1, if_pos rfl]
    · unfold t_MO_lay; simp (config := { proj := false }) only [qlet]; rw [hT3 M hR.1.2.1, if_neg c1, if_pos rfl]
  by_cases c2 : opV V x2
  rotate_left
  · refine same ?_ ?_
    · unfold t_WF_lay; rw [c_hasThing hX.1]; simp only [qlet]; rw [if_pos c1, if_neg (show ¬ (1 : Int) = 0 by decide), c_isFree hV hX hS, if_neg c2, if_pos rfl]
    · unfold t_MO_lay; simp (config := { proj := false }) only [qlet]; rw [hT3 M hR.1.2.1, if_pos c1, if_neg (show ¬ (1 : Int) = 0 by decide), m_open01 (hR.set0 0).1.2.1 hV, if_neg c2, obind_some, if_pos rfl]
  have hth : t_Scene_thingIn M 47 (M.1 0 4).toNat x2 = some (thV V (AT M 0) x2) := c_thingIn hV ⟨hX.1, hX.2.1⟩ (fun t a b => (hS.2.1 t a b).1) x2
  have tr := th_rng hV (AT M 0) x2
  have hmt : ∀ N : Mem, RI N V → AT N 0 = AT M 0 → t_MO_thingIn (setI N 191 0 0) 0 x2 = some (thV V (AT M 0) x2) := fun N hN e => by
    have := (hN.set0 0).thing0 (c := x2) c2.1
    have e2 : AT (setI N 191 0 0) 0 = AT N 0 := AT_fr (W := fun q j => q = 191 ∧ j = 0) (Fr.rf.setI ⟨rfl, rfl⟩) (fun j z => by omega)
    rw [e2, e] at this
    exact this
  have hw : t_WF_lay M x1 x2 = if thV V (AT M 0) x2 < 0 then some (setI (t_WF_put (t_Past_remember M 47) 49 8 x1 x2) 177 8 0, 1) else some (M, 0) := by
    unfold t_WF_lay
    rw [c_hasThing hX.1]
    simp (config := { proj := false }) only [qlet]
    rw [if_pos c1, if_neg (show ¬ (1 : Int) = 0 by decide), c_isFree hV hX hS, if_pos c2, if_neg (show ¬ (1 : Int) = 0 by decide), hth, obind_some]
  have hm : ∀ N : Mem, RI N V → AT N 0 = AT M 0 → t_MO_lay N x1 x2 = if thV V (AT M 0) x2 = -1 then obind (t_MO_keepNow (setI N 191 0 0)) fun q11 => qguard (0 ≤ x1 ∧ x1 < 184) (some (setI q11 213 x1 x2, 1)) else some (setI N 191 0 0, 0) := fun N hN e => by
    unfold t_MO_lay
    simp (config := { proj := false }) only [qlet]
    rw [hT3 N hN.1.2.1, if_pos c1, if_neg (show ¬ (1 : Int) = 0 by decide), m_open01 (hN.set0 0).1.2.1 hV, if_pos c2, obind_some, if_neg (show ¬ (1 : Int) = 0 by decide), hmt N hN e, obind_some]
  by_cases c3 : thV V (AT M 0) x2 < 0
  rotate_left
  · exact same (by rw [hw, if_neg c3]) (by rw [hm M hR rfl, if_neg (by omega)])
  rw [if_pos c3] at hw
  have rm := rm_of hV hRL
  obtain ⟨u, e, hu⟩ := okC
  rw [hw] at e ⊢
  have e1 := Option.some.inj e
  subst e1
  have hIC : IM (setI (t_WF_put (t_Past_remember M 47) 49 8 x1 x2) 177 8 0) := hu.1
  have hcm : CmR M (setI (t_WF_put (t_Past_remember M 47) 49 8 x1 x2) 177 8 0) V (DN M 0) (upA (AT M 0) x1 x2) (ST M 0) (LN M 0) (M.2 210 0) (M.2 211 0) := by
    have r5 := rm.2.2.2.2
    generalize t_Past_remember M 47 = N1 at *
    rw [put_in (M := N1) c1.1 (by omega)]
    have f2 : Fr (fun q j => (q = 49 ∧ j = x1) ∨ (q = 177 ∧ j = 8)) N1 (setI (setI N1 49 x1 x2) 177 8 0) := (Fr.rf.setI (by omega)).setI (by omega)
    refine cm_of hP.2.1 rm (f2.mono (fun q j z => by unfold ClW CsW; omega)) ?_ (Or.inl (sI_self _ _ _ _))
    obtain ⟨a1, a2, a3, a4, a5⟩ := r5
    refine ⟨fun w x y => ?_, fun t x y => ?_, ?_, ?_, fun c x y => ?_⟩
    · rw [(f2 (47 + 1) w (by omega)).1]; exact a1 w x y
    · rw [(f2 (47 + 3) t (by omega)).1, (f2 (47 + 4) t (by omega)).1]
      refine ⟨?_, (a2 t x y).2⟩
      by_cases z : t = x1
      · rw [z, upA_self, sI_ne (by omega)]; exact sI_self _ _ _ _
      · rw [upA_ne _ z, (f2 (47 + 2) t (by omega)).1]; exact (a2 t x y).1
    · rw [(f2 47 5 (by omega)).2]; exact a3
    · rw [(f2 47 6 (by omega)).2]; exact a4
    · rw [(f2 47 4 (by omega)).2]; exact a5 c x y
  generalize setI (t_WF_put (t_Past_remember M 47) 49 8 x1 x2) 177 8 0 = N at *
  have cls : ∀ q j, CmW (M.1 70 1) q j → q < 191 := fun q j z => by have := CmW_cls hP.2.1 z; omega
  have hRN : RI N V := riN hR hcm.1 cls
  have eN : ∀ q j, 191 ≤ q → N.1 q j = M.1 q j ∧ N.2 q j = M.2 q j := fun q j x => hcm.1 q j (fun z => by have := cls q j z; omega)
  have eA : AT N 0 = AT M 0 := funext fun t => (eN 213 _ (by omega)).1
  obtain ⟨P, p0, p1⟩ := ri_lay hRN x1 x2
  have hIP := im_MO_lay hIC h1 h2 P p0
  have p0' := p0
  rw [hm N hRN eA, if_pos (by omega)] at p0'
  have hm43 : 0 ≤ N.1 191 43 ∧ N.1 191 43 ≤ 20 := by rw [(eN 191 43 (by omega)).1]; exact hP.2.2.1
  obtain ⟨Q, a1, a2⟩ := kn_of hm43
  rw [a1, obind_some, qguard_pos ⟨c1.1, by omega⟩] at p0'
  have eP := Option.some.inj p0'
  refine ⟨(N, 1), rfl, P, p0, by rw [← eP], bs_move h' hR hX hRL hIP.1 p1 hcm ?_⟩
  have r0 := row0_of eN (kn0 a2) (fun q j z => Or.inr z)
  have f3 : Fr (fun q j => q = 213 ∧ j = x1) Q (setI Q 213 x1 x2) := Fr.rf.setI ⟨rfl, rfl⟩
  rw [← eP]
  refine mm_of hm43.1 (kn0 a2) (fun q j z => Or.inr z) a2.2.1 a2.2.2 (f3.mono (fun q j z => by unfold RwW; omega)) (fun w x y => ?_) (fun t x y => ?_) ?_ ?_
  · rw [(f3 212 w (by omega)).1, (r0 212 w (by unfold RwW; omega)).1]; exact dn_row M
  · rw [(f3 214 t (by omega)).1, (r0 214 t (by unfold RwW; omega)).1, (f3 215 t (by omega)).1, (r0 215 t (by unfold RwW; omega)).1]
    refine ⟨?_, (at_row M).2⟩
    by_cases z : t = x1
    · rw [z, upA_self]; exact sI_self _ _ _ _
    · rw [upA_ne _ z, (f3 213 t (by omega)).1, (r0 213 t (by unfold RwW; omega)).1]; exact (at_row M).1
  · exact ((f3 210 0 (by omega)).2).trans (r0 210 0 (by unfold RwW; omega)).2
  · exact ((f3 211 0 (by omega)).2).trans (r0 211 0 (by unfold RwW; omega)).2
/-! drain -/
theorem bitsOf_eq {x : Int64} {M : Mem} : ∀ (n k fu : Nat), k + n = 48 → n < fu → t_MO_bitsOf_L4 x fu M (cntT x k) (k : Int) = some (cntT x 48) := by
  intro n
  induction n with
  | zero =>
    intro k fu g0 g1
    obtain ⟨g, rfl⟩ : ∃ g, fu = g + 1 := ⟨fu - 1, by omega⟩
    rw [t_MO_bitsOf_L4, if_pos (by omega), show k = 48 by omega]
  | succ n ih =>
    intro k fu g0 g1
    obtain ⟨g, rfl⟩ : ∃ g, fu = g + 1 := ⟨fu - 1, by omega⟩
    have cr := cnt_rng x k
    have e : q_l2i ((q_lshr x (k : Int)) &&& 1) = if tb x (k : Int) = true then 1 else 0 := by
      rw [lshr_tb x (by omega) (by omega)]
      cases tb x (k : Int) <;> decide
    rw [t_MO_bitsOf_L4, if_neg (by omega), e, w32_succ (by omega)]
    have := ih (k + 1) g (by omega) (by omega)
    rw [cntT] at this
    rw [w32_id (by unfold InR; split <;> omega)]
    exact this
theorem m_bitsOf (x : Int64) (M : Mem) : t_MO_bitsOf M x = some (cntT x 48) := bitsOf_eq 48 0 FU (by omega) (fu_big (by omega))
theorem cnt_48 {x : Int64} {C : Int} (hC : C ≤ 48) (h : ∀ c, C ≤ c → c < 64 → tb x c = false) : cntT x 64 = cntT x 48 := cnt_more (by omega) (fun i a b => h _ (by omega) (by omega))
theorem bs_drain {M : Mem} (h : LI M) : Ok (fun r => (t_WF_drain M).2 = r.2 ∧ LI r.1) (t_MO_drain (t_WF_drain M).1) := by
  have h' := h
  obtain ⟨hI, ⟨V, hR, hX, hRL⟩, -⟩ := h
  have hV := hR.1.1
  have hv := hV.1
  have hC := hV.cells
  have hP := hRL.2.2.1
  have hS : CScF M 47 V (DN M 0) (AT M 0) (ST M 0) (LN M 0) (M.2 210 0) (M.2 211 0) (wlV V) := hRL.1
  have hIC := (sf_WF_drain hI).1
  have e48 : cntT (M.2 211 0) 64 = cntT (M.2 211 0) 48 := cnt_48 hC.2 (fun c a b => (hR.row0.2.2 c a b).2)
  have hw : t_WF_drain M = if cntT (M.2 211 0) 64 ≤ 0 then (M, cntT (M.2 211 0) 64) else (setL (t_Past_remember M 47) 47 6 0, cntT (M.2 211 0) 64) := by
    unfold t_WF_drain
    simp (config := { proj := false }) only [qlet]
    rw [bitCount_eq, hS.2.2.2.1]
  have cr := cnt_rng (M.2 211 0) 64
  have hm : ∀ N : Mem, N.2 211 0 = M.2 211 0 → t_MO_drain N = if M.2 211 0 = 0 then some (setI N 191 0 0, 0) else obind (t_MO_keepNow (setI N 191 0 0)) fun q3 => obind (t_MO_bitsOf q3 (q3.2 211 0)) fun q5 => some (setL q3 211 0 0, q5) := fun N e => by
    unfold t_MO_drain
    simp (config := { proj := false }) only [qlet]
    rw [show (setI N 191 0 0).2 211 0 = M.2 211 0 from e]
  by_cases c1 : cntT (M.2 211 0) 64 ≤ 0
  · have z : M.2 211 0 = 0 := cnt_eq0.mp (by omega)
    rw [hw, if_pos c1]
    refine ⟨_, (hm M rfl).trans (if_pos z), ?_, h'.at0⟩
    show cntT (M.2 211 0) 64 = 0
    omega
  have z : ¬ M.2 211 0 = 0 := fun q => c1 (by rw [cnt_eq0.mpr q]; exact Int.le_refl _)
  rw [if_neg c1] at hw
  have rm := rm_of hV hRL
  rw [hw] at hIC ⊢
  have hcm : CmR M (setL (t_Past_remember M 47) 47 6 0) V (DN M 0) (AT M 0) (ST M 0) (LN M 0) (M.2 210 0) 0 := by
    have r5 := rm.2.2.2.2
    generalize t_Past_remember M 47 = N1 at *
    have f2 : Fr (fun q j => q = 47 ∧ j = 6) N1 (setL N1 47 6 0) := Fr.rf.setL ⟨rfl, rfl⟩
    refine cm_of hP.2.1 rm (f2.mono (fun q j z => by unfold ClW CsW; omega)) ?_ (Or.inr ⟨rfl, fun t _ _ => rfl, rfl⟩)
    obtain ⟨a1, a2, a3, a4, a5⟩ := r5
    refine ⟨fun w x y => a1 w x y, fun t x y => a2 t x y, ?_, sL_self _ _ _ _, fun c x y => ?_⟩
    · rw [(f2 47 5 (by omega)).2]; exact a3
    · rw [(f2 47 4 (by omega)).2]; exact a5 c x y
  generalize setL (t_Past_remember M 47) 47 6 0 = N at *
  have cls : ∀ q j, CmW (M.1 70 1) q j → q < 191 := fun q j z => by have := CmW_cls hP.2.1 z; omega
  have hRN : RI N V := riN hR hcm.1 cls
  have eN : ∀ q j, 191 ≤ q → N.1 q j = M.1 q j ∧ N.2 q j = M.2 q j := fun q j x => hcm.1 q j (fun z => by have := cls q j z; omega)
  obtain ⟨P, p0, p1⟩ := ri_drain hRN
  have hIP := im_MO_drain hIC P p0
  have p0' := p0
  rw [hm N (eN 211 0 (by omega)).2, if_neg z] at p0'
  have hm43 : 0 ≤ N.1 191 43 ∧ N.1 191 43 ≤ 20 := by rw [(eN 191 43 (by omega)).1]; exact hP.2.2.1
  obtain ⟨Q, a1, a2⟩ := kn_of hm43
  have r0 := row0_of eN (kn0 a2) (fun q j z => Or.inr z)
  rw [a1, obind_some, m_bitsOf, obind_some, (r0 211 0 (by unfold RwW; omega)).2] at p0'
  have eP := Option.some.inj p0'
  refine ⟨P, p0, by rw [← eP]; exact e48, bs_move h' hR hX hRL hIP.1 p1 hcm ?_⟩
  have f3 : Fr (fun q j => q = 211 ∧ j = 0) Q (setL Q 211 0 0) := Fr.rf.setL ⟨rfl, rfl⟩
  rw [← eP]
  refine mm_of hm43.1 (kn0 a2) (fun q j z => Or.inr z) a2.2.1 a2.2.2 (f3.mono (fun q j z => by unfold RwW; omega)) (fun w x y => ?_) (fun t x y => ?_) ?_ ?_
  · rw [(f3 212 w (by omega)).1, (r0 212 w (by unfold RwW; omega)).1]; exact dn_row M
  · rw [(f3 213 t (by omega)).1, (r0 213 t (by unfold RwW; omega)).1, (f3 214 t (by omega)).1, (r0 214 t (by unfold RwW; omega)).1, (f3 215 t (by omega)).1, (r0 215 t (by unfold RwW; omega)).1]; exact at_row M
  · exact ((f3 210 0 (by omega)).2).trans (r0 210 0 (by unfold RwW; omega)).2
  · exact sL_self _ _ _ _
/-! pour -/
def pnS (f : Int → Int) (c : Int) : Nat → Int64 → Int64 × Int
  | 0, w => (w, 0)
  | n + 1, w => ((prS f 49 (pnS f c n w).1 c).1, (pnS f c n w).2 + (prS f 49 (pnS f c n w).1 c).2)
theorem prS_01 (f : Int → Int) : ∀ (n : Nat) (w : Int64) (c : Int), (prS f n w c).2 = 0 ∨ (prS f n w c).2 = 1 := by
  intro n
  induction n with
  | zero => intro w c; exact Or.inl rfl
  | succ n ih =>
    intro w c
    rw [prS]
    split
    · split
      · exact Or.inl rfl
      · exact Or.inr rfl
    · exact ih w (f c)
theorem pn_rng (f : Int → Int) (c : Int) (w : Int64) : ∀ n : Nat, 0 ≤ (pnS f c n w).2 ∧ (pnS f c n w).2 ≤ (n : Int) := by
  intro n
  induction n with
  | zero => exact ⟨Int.le_refl _, Int.le_refl _⟩
  | succ n ih =>
    rw [pnS]
    have := prS_01 f 49 (pnS f c n w).1 c
    show 0 ≤ (pnS f c n w).2 + (prS f 49 (pnS f c n w).1 c).2 ∧ _ ≤ _
    omega
theorem c_pour_L37 {M0 : Mem} {x1 C : Int} {f : Int → Int} {w0 : Int64} {n : Nat} (hn : n ≤ 99) (hC : C ≤ 48) (hf : stepOK f C) (c0 : 0 ≤ x1) (c1 : x1 < C) (hN : ∀ M, Fr (PoW 52) M0 M → t_Scene_pourOne M 52 (M.1 0 4).toNat x1 = t_Scene_pourOne M 52 (M0.1 0 4).toNat x1 ∧ ∀ c, 0 ≤ c → c < C → t_Scene_nextOf M 52 (M0.1 0 4).toNat c = f c) : ∀ (m k fu : Nat) (M : Mem), k + m = n → m < fu → Fr (PoW 52) M0 M → M.2 52 6 = (pnS f x1 k w0).1 →
    ∃ N, Fr (PoW 52) M0 N ∧ N.2 52 6 = (pnS f x1 n w0).1 ∧ t_WF_pour_L37 x1 (n : Int) fu M (pnS f x1 k w0).2 (k : Int) = (if (pnS f x1 n w0).2 ≤ 0 then some (N, (pnS f x1 n w0).2) else some (setL (t_Past_remember N 47) 47 6 ((t_Past_remember N 47).2 52 6), (pnS f x1 n w0).2)) := by
  intro m
  induction m with
  | zero =>
    intro k fu M g0 g1 hF hw
    obtain ⟨g, rfl⟩ : ∃ g, fu = g + 1 := ⟨fu - 1, by omega⟩
    have e : k = n := by omega
    subst e
    refine ⟨M, hF, hw, ?_⟩
    rw [t_WF_pour_L37, if_pos (Int.le_refl _)]
  | succ m ih =>
    intro k fu M g0 g1 hF hw
    obtain ⟨g, rfl⟩ : ∃ g, fu = g + 1 := ⟨fu - 1, by omega⟩
    obtain ⟨e1, e2⟩ := hN M hF
    obtain ⟨P, p1, p2, p3⟩ := c_pourOne (M := M) (k := 52) (T := (M0.1 0 4).toNat) (x2 := x1) hC hf e2 c0 c1
    have pr := pn_rng f x1 w0 k
    have p01 := prS_01 f 49 (pnS f x1 k w0).1 x1
    rw [hw] at p1 p2
    obtain ⟨N, n1, n2, n3⟩ := ih (k + 1) g P (by omega) (by omega) (hF.trans p3) (by rw [p2]; rfl)
    refine ⟨N, n1, n2, ?_⟩
    rw [t_WF_pour_L37, if_neg (by omega), e1, p1, obind_some]
    unfold t_WF_pour_L61
    rw [w32_succ (by omega), w32_id (x := (pnS f x1 k w0).2 + 1) (by unfold InR; omega)]
    rw [← n3]
    show (if (prS f 49 (pnS f x1 k w0).1 x1).2 = 0 then _ else _) = t_WF_pour_L37 x1 (n : Int) g P ((pnS f x1 k w0).2 + (prS f 49 (pnS f x1 k w0).1 x1).2) ((k + 1 : Nat) : Int)
    rcases p01 with z | z
    · rw [if_pos z, z, Int.add_zero]
    · rw [if_neg (by omega), z]
theorem m_pour_L37 {M0 : Mem} {x1 : Int} {V : TV} {w0 : Int64} {n : Nat} (hn : n ≤ 99) (hb : NB M0 1 V) (c0 : 0 ≤ x1) (c1 : x1 < cellsV V) : ∀ (m k fu : Nat) (M : Mem), k + m = n → m < fu → Fr (fun q j => q = 211 ∧ j = 1) M0 M → M.2 211 1 = (pnS (nxR M0 1 V) x1 k w0).1 →
    ∃ N, Fr (fun q j => q = 211 ∧ j = 1) M0 N ∧ N.2 211 1 = (pnS (nxR M0 1 V) x1 n w0).1 ∧ t_MO_pour_L37 x1 (n : Int) fu M (pnS (nxR M0 1 V) x1 k w0).2 (k : Int) = (if (pnS (nxR M0 1 V) x1 n w0).2 = 0 then some (N, 0) else obind (t_MO_keepNow N) fun q11 => some (setL q11 211 0 (q11.2 211 1), (pnS (nxR M0 1 V) x1 n w0).2)) := by
  intro m
  induction m with
  | zero =>
    intro k fu M g0 g1 hF hw
    obtain ⟨g, rfl⟩ : ∃ g, fu = g + 1 := ⟨fu - 1, by omega⟩
    have e : k = n := by omega
    subst e
    refine ⟨M, hF, hw, ?_⟩
    rw [t_MO_pour_L37, if_pos (Int.le_refl _)]
  | succ m ih =>
    intro k fu M g0 g1 hF hw
    obtain ⟨g, rfl⟩ : ∃ g, fu = g + 1 := ⟨fu - 1, by omega⟩
    have hbM : NB M 1 V := hb.fr hF (fun q j x z => by omega)
    have enx : nxR M 1 V = nxR M0 1 V := nxR_fr hF (fun q j x z => by omega)
    obtain ⟨P, p1, p2, p3⟩ := hbM.pours (x2 := x1) (by omega) c0 c1
    have pr := pn_rng (nxR M0 1 V) x1 w0 k
    have p01 := prS_01 (nxR M0 1 V) 49 (pnS (nxR M0 1 V) x1 k w0).1 x1
    rw [hw, enx] at p1 p2
    obtain ⟨N, n1, n2, n3⟩ := ih (k + 1) g P (by omega) (by omega) (hF.trans p3) (by rw [p2]; rfl)
    refine ⟨N, n1, n2, ?_⟩
    rw [t_MO_pour_L37, if_neg (by omega), p1, obind_some]
    unfold t_MO_pour_L58
    rw [w32_succ (by omega), w32_id (x := (pnS (nxR M0 1 V) x1 k w0).2 + 0) (by unfold InR; omega), w32_id (x := (pnS (nxR M0 1 V) x1 k w0).2 + 1) (by unfold InR; omega)]
    rw [← n3]
    show (if (prS (nxR M0 1 V) 49 (pnS (nxR M0 1 V) x1 k w0).1 x1).2 = 0 then _ else _) = t_MO_pour_L37 x1 (n : Int) g P ((pnS (nxR M0 1 V) x1 k w0).2 + (prS (nxR M0 1 V) 49 (pnS (nxR M0 1 V) x1 k w0).1 x1).2) ((k + 1 : Nat) : Int)
    rcases p01 with z | z
    · rw [if_pos z, z]
    · rw [if_neg (by omega), z]
end
section
theorem pn_congr {f g : Int → Int} {C : Int} (hf : stepOK f C) (h : ∀ c, 0 ≤ c → c < C → f c = g c) {c : Int} (c0 : 0 ≤ c) (c1 : c < C) : ∀ (n : Nat) (w : Int64), pnS f c n w = pnS g c n w := by
  intro n
  induction n with
  | zero => intro w; rfl
  | succ n ih => intro w; rw [pnS, pnS, ih w, prS_congr hf h _ _ _ c0 c1]
theorem RowEq.dn {N M : Mem} {a b : Int} {V : TV} (hV : VOK V) (e : RowEq N a M b) : ∀ w, 0 ≤ w → w < V 0 2 → DN N a w = DN M b w := fun w x y => e.2.1 w x (by have := hV.1; omega)
theorem bs_pour {M : Mem} (h : LI M) {x1 x2 : Int} (h1 : InR x1) (h2 : InR x2) : Ok (fun q => Ok (fun r => q.2 = r.2 ∧ LI r.1) (t_MO_pour q.1 x1 x2)) (t_WF_pour M x1 x2) := by
  have h' := h
  have hTT := h.T
  obtain ⟨hI, ⟨V, hR, hX, hRL⟩, -⟩ := h
  have hV := hR.1.1
  have hv := hV.1
  have hC := hV.cells
  have hP := hRL.2.2.1
  have hS : CScF M 47 V (DN M 0) (AT M 0) (ST M 0) (LN M 0) (M.2 210 0) (M.2 211 0) (wlV V) := hRL.1
  have okC := sf_WF_pour hI h1 h2
  have same : t_WF_pour M x1 x2 = some (M, -1) → t_MO_pour M x1 x2 = some (setI M 191 0 0, -1) → Ok (fun q => Ok (fun r => q.2 = r.2 ∧ LI r.1) (t_MO_pour q.1 x1 x2)) (t_WF_pour M x1 x2) := fun e1 e2 => ⟨_, e1, _, e2, rfl, h'.at0⟩
  by_cases c1 : opV V x1
  rotate_left
  · refine same ?_ ?_
    · unfold t_WF_pour; rw [c_isFree hV hX hS, if_neg c1]; simp only [qlet]; rw [if_pos trivial]
    · unfold t_MO_pour; simp (config := { proj := false }) only [qlet]; rw [m_open01 (hR.set0 0).1.2.1 hV, if_neg c1, obind_some, if_pos rfl]
  by_cases c2 : x2 < 1
  · refine same ?_ ?_
    · unfold t_WF_pour; rw [c_isFree hV hX hS, if_pos c1]; simp only [qlet]; rw [if_neg (show ¬ (1 : Int) = 0 by decide), if_pos c2]
    · unfold t_MO_pour; simp (config := { proj := false }) only [qlet]; rw [m_open01 (hR.set0 0).1.2.1 hV, if_pos c1, obind_some, if_neg (show ¬ (1 : Int) = 0 by decide), if_pos c2]
  by_cases c3 : x2 ≤ 99
  rotate_left
  · refine same ?_ ?_
    · unfold t_WF_pour; rw [c_isFree hV hX hS, if_pos c1]; simp only [qlet]; rw [if_neg (show ¬ (1 : Int) = 0 by decide), if_neg c2, if_neg c3]
    · unfold t_MO_pour; simp (config := { proj := false }) only [qlet]; rw [m_open01 (hR.set0 0).1.2.1 hV, if_pos c1, obind_some, if_neg (show ¬ (1 : Int) = 0 by decide), if_neg c2, if_neg c3]
  obtain ⟨n, hn⟩ : ∃ n : Nat, (n : Int) = x2 := ⟨x2.toNat, by omega⟩
  subst hn
  obtain ⟨T, hT⟩ : ∃ T, T = (M.1 0 4).toNat := ⟨_, rfl⟩
  have hX0 := hX
  rw [← hT] at hX hTT
  -- the class tries
  obtain ⟨s1, s2⟩ := c_scopy (k0 := 52) (k1 := 47) hV (Or.inl (by omega)) hS
  have e52 : (t_Scene_copy M 52 47).1 0 4 = M.1 0 4 := (s2 0 4 (by unfold CsW; omega)).1
  have hfN : ∀ N, Fr (PoW 52) (t_Scene_copy M 52 47) N → t_Scene_pourOne N 52 (N.1 0 4).toNat x1 = t_Scene_pourOne N 52 ((t_Scene_copy M 52 47).1 0 4).toNat x1 ∧ ∀ c, 0 ≤ c → c < cellsV V → t_Scene_nextOf N 52 ((t_Scene_copy M 52 47).1 0 4).toNat c = nxV V (DN M 0) (M.2 210 0) (wlV V) c := by
    intro N hF
    have e4 : N.1 0 4 = (t_Scene_copy M 52 47).1 0 4 := (hF 0 4 (by unfold PoW; omega)).1
    rw [e4, e52, ← hT]
    refine ⟨rfl, fun c a b => ?_⟩
    have fN : Fr (CsW 52) M N := s2.trans (hF.mono (fun q j z => by unfold PoW at z; unfold CsW; omega))
    have hcs : CSc N 52 V (DN M 0) (AT M 0) (M.2 210 0) (wlV V) := by
      have hs := s1.sc
      refine ⟨fun w x y => ?_, fun t x y => ?_, ?_, fun q x y => ?_⟩
      · rw [(hF (52 + 1) w (by unfold PoW; omega)).1]; exact hs.1 w x y
      · rw [(hF (52 + 2) t (by unfold PoW; omega)).1]; exact hs.2.1 t x y
      · rw [(hF 52 5 (by unfold PoW; omega)).2]; exact hs.2.2.1
      · rw [(hF 52 4 (by unfold PoW; omega)).2]; exact hs.2.2.2 q x y
    exact c_next (CT0.fr fN (fun q j x y z => by unfold CsW at z; omega) hX.1) (CTs.fr fN (fun q j x y z => by unfold CsW at z; omega) hX.2.1) hV hcs a b
  obtain ⟨N0, n1, n2, n3⟩ := c_pour_L37 (M0 := t_Scene_copy M 52 47) (w0 := M.2 211 0) (n := n) (by omega) hC.2 (nx_ok hV (DN M 0) (M.2 210 0) (wlV V)) c1.1 c1.2.1 hfN n 0 FU (t_Scene_copy M 52 47) (by omega) (fu_big (by omega)) Fr.rf s1.2.2.2.1
  have hw : t_WF_pour M x1 (n : Int) = (if (pnS (nxV V (DN M 0) (M.2 210 0) (wlV V)) x1 n (M.2 211 0)).2 ≤ 0 then some (N0, (pnS (nxV V (DN M 0) (M.2 210 0) (wlV V)) x1 n (M.2 211 0)).2) else some (setL (t_Past_remember N0 47) 47 6 ((t_Past_remember N0 47).2 52 6), (pnS (nxV V (DN M 0) (M.2 210 0) (wlV V)) x1 n (M.2 211 0)).2)) := by
    unfold t_WF_pour
    rw [c_isFree hV hX0 hS, if_pos c1]
    simp (config := { proj := false }) only [qlet]
    rw [if_neg (show ¬ (1 : Int) = 0 by decide), if_neg c2, if_pos c3]
    exact n3
  have fN0 : Fr (fun q j => 52 ≤ q ∧ q ≤ 56) M N0 := (s2.mono (fun q j z => by unfold CsW at z; omega)).trans (n1.mono (fun q j z => by unfold PoW at z; omega))
  have pr := pn_rng (nxV V (DN M 0) (M.2 210 0) (wlV V)) x1 (M.2 211 0) n
  -- the reference tries
  have hm : ∀ N : Mem, RI N V → (∀ q j, 191 ≤ q → N.1 q j = M.1 q j ∧ N.2 q j = M.2 q j) → ∃ Q, Fr (fun q j => CW 1 q j ∨ (q = 191 ∧ j = 0)) N Q ∧ Q.2 211 1 = (pnS (nxV V (DN M 0) (M.2 210 0) (wlV V)) x1 n (M.2 211 0)).1 ∧ t_MO_pour N x1 (n : Int) = (if (pnS (nxV V (DN M 0) (M.2 210 0) (wlV V)) x1 n (M.2 211 0)).2 = 0 then some (Q, 0) else obind (t_MO_keepNow Q) fun q11 => some (setL q11 211 0 (q11.2 211 1), (pnS (nxV V (DN M 0) (M.2 210 0) (wlV V)) x1 n (M.2 211 0)).2)) := by
    intro N hN eN
    have f0 : Fr (fun q j => q = 191 ∧ j = 0) N (setI N 191 0 0) := Fr.rf.setI ⟨rfl, rfl⟩
    have hN1 := hN.set0 0
    obtain ⟨C, k1, k2, k3, k4, k5⟩ := hN1.cp1
    have hb : NB C 1 V := k2.nb k3
    have e0 : ∀ q j, RwW 0 q j → (setI N 191 0 0).1 q j = M.1 q j ∧ (setI N 191 0 0).2 q j = M.2 q j := fun q j z => by
      have a := f0 q j (by unfold RwW at z; omega)
      have b := eN q j (by unfold RwW at z; omega)
      exact ⟨a.1.trans b.1, a.2.trans b.2⟩
    have eD : ∀ w, 0 ≤ w → w < V 0 2 → DN M 0 w = DN C 1 w := fun w x y => by
      rw [k4.dn hV w x y]
      exact ((e0 212 _ (by unfold RwW; omega)).1).symm
    have e210 : C.2 210 1 = M.2 210 0 := k4.1.2.2.2.1.trans (e0 210 0 (by unfold RwW; omega)).2
    have e211 : C.2 211 1 = M.2 211 0 := k4.1.2.2.2.2.trans (e0 211 0 (by unfold RwW; omega)).2
    have enx : ∀ c, 0 ≤ c → c < cellsV V → nxV V (DN M 0) (M.2 210 0) (wlV V) c = nxR C 1 V c := fun c a b => by
      unfold nxR
      rw [e210]
      exact nx_congr hV eD _ _ a (by omega)
    obtain ⟨Q, q1, q2, q3⟩ := m_pour_L37 (M0 := C) (V := V) (w0 := M.2 211 0) (n := n) (by omega) hb c1.1 c1.2.1 n 0 FU C (by omega) (fu_big (by omega)) Fr.rf e211
    have ep := pn_congr (nx_ok hV (DN M 0) (M.2 210 0) (wlV V)) enx c1.1 c1.2.1 n (M.2 211 0)
    rw [← ep] at q2 q3
    refine ⟨Q, ((f0.mono (fun q j z => Or.inr z)).trans (k5.mono (fun q j z => Or.inl z))).trans (q1.mono (fun q j z => Or.inl (by unfold CW; omega))), q2, ?_⟩
    unfold t_MO_pour
    simp (config := { proj := false }) only [qlet]
    rw [m_open01 hN1.1.2.1 hV, if_pos c1, obind_some, if_neg (show ¬ (1 : Int) = 0 by decide), if_neg c2, if_pos c3, k1, obind_some]
    exact q3
  by_cases c4 : (pnS (nxV V (DN M 0) (M.2 210 0) (wlV V)) x1 n (M.2 211 0)).2 ≤ 0
  · rw [if_pos c4] at hw
    obtain ⟨u, e, hu⟩ := okC
    rw [hw] at e ⊢
    have e1 := Option.some.inj e
    subst e1
    have hLN : LI N0 := h'.q hu.1 (fN0.mono (fun q j z => by unfold QkW; omega))
    have hRN : RI N0 V := hR.fr fN0 (fun q j a z => by unfold RIc at a; omega)
    obtain ⟨Q, q1, q2, q3⟩ := hm N0 hRN (fun q j x => fN0 q j (by omega))
    rw [if_pos (by omega)] at q3
    have hIQ := im_MO_pour hu.1 h1 h2 _ q3
    exact ⟨_, rfl, _, q3, by show (pnS (nxV V (DN M 0) (M.2 210 0) (wlV V)) x1 n (M.2 211 0)).2 = 0; omega, hLN.qm hIQ.1 (q1.mono (fun q j z => by unfold CW at z; unfold QmW CW; omega))⟩
  rw [if_neg c4] at hw
  have hRL0 : RL N0 V := hRL.frf hV hR.yr fN0 (fun q j a z => by unfold RLf at a; omega)
  have rm0 := rm_of hV hRL0
  have e70 : ∀ j, N0.1 70 j = M.1 70 j := fun j => (fN0 70 j (by omega)).1
  have eR0 : ∀ q j, 191 ≤ q → N0.1 q j = M.1 q j ∧ N0.2 q j = M.2 q j := fun q j x => fN0 q j (by omega)
  have eDN : DN N0 0 = DN M 0 := funext fun w => (eR0 212 _ (by omega)).1
  have eAT : AT N0 0 = AT M 0 := funext fun w => (eR0 213 _ (by omega)).1
  have eST : ST N0 0 = ST M 0 := funext fun w => (eR0 214 _ (by omega)).1
  have eLN : LN N0 0 = LN M 0 := funext fun w => (eR0 215 _ (by omega)).1
  obtain ⟨u, e, hu⟩ := okC
  rw [hw] at e ⊢
  have e1 := Option.some.inj e
  subst e1
  have hIC : IM (setL (t_Past_remember N0 47) 47 6 ((t_Past_remember N0 47).2 52 6)) := hu.1
  have hcm : CmR M (setL (t_Past_remember N0 47) 47 6 ((t_Past_remember N0 47).2 52 6)) V (DN M 0) (AT M 0) (ST M 0) (LN M 0) (M.2 210 0) (pnS (nxV V (DN M 0) (M.2 210 0) (wlV V)) x1 n (M.2 211 0)).1 := by
    obtain ⟨m1, m2, m3, m4, m5⟩ := rm0
    rw [e70, eDN, eAT, eST, eLN, (eR0 210 0 (by omega)).2, (eR0 211 0 (by omega)).2] at *
    have hL := hP.2.1
    have e6 : (t_Past_remember N0 47).2 52 6 = N0.2 52 6 := (m1 52 6 (fun z => by have := RmW_cls hL z; omega)).2
    rw [e6, n2]
    generalize t_Past_remember N0 47 = N1 at *
    have f2 : Fr (fun q j => q = 47 ∧ j = 6) N1 (setL N1 47 6 (pnS (nxV V (DN M 0) (M.2 210 0) (wlV V)) x1 n (M.2 211 0)).1) := Fr.rf.setL ⟨rfl, rfl⟩
    have u0 : 0 ≤ upL (M.1 70 1) ∧ upL (M.1 70 1) < 20 := by unfold upL; split <;> omega
    refine ⟨((fN0.mono (fun q j z => Or.inr (Or.inr (Or.inr z)))).trans (m1.mono (fun q j z => Or.inl z))).trans (f2.mono (fun q j z => Or.inr (Or.inl (by unfold CsW; omega)))), ?_, ?_, ?_, ?_, Or.inr ⟨?_, fun t _ _ => rfl, rfl⟩⟩
    · rw [(f2 70 1 (by omega)).1]; exact m2
    · rw [(f2 70 2 (by omega)).1]; exact m3
    · exact m4.fr f2 (fun q j z y => by unfold CsW at z; omega)
    · obtain ⟨a1, a2, a3, a4, a5⟩ := m5
      refine ⟨fun w x y => a1 w x y, fun t x y => a2 t x y, ?_, sL_self _ _ _ _, fun c x y => ?_⟩
      · rw [(f2 47 5 (by omega)).2]; exact a3
      · rw [(f2 47 4 (by omega)).2]; exact a5 c x y
    · rw [(f2 177 8 (by omega)).1, (m1 177 8 (fun z => by have := RmW_cls hL z; omega)).1, (fN0 177 8 (by omega)).1]
  generalize setL (t_Past_remember N0 47) 47 6 ((t_Past_remember N0 47).2 52 6) = N at *
  have cls : ∀ q j, CmW (M.1 70 1) q j → q < 191 := fun q j z => by have := CmW_cls hP.2.1 z; omega
  have hRN : RI N V := riN hR hcm.1 cls
  have eN : ∀ q j, 191 ≤ q → N.1 q j = M.1 q j ∧ N.2 q j = M.2 q j := fun q j x => hcm.1 q j (fun z => by have := cls q j z; omega)
  obtain ⟨P, p0, p1⟩ := ri_pour hRN x1 (n : Int)
  have hIP := im_MO_pour hIC h1 h2 P p0
  have p0' := p0
  obtain ⟨Q, q1, q2, q3⟩ := hm N hRN eN
  rw [q3, if_neg (by omega)] at p0'
  have hm43 : 0 ≤ N.1 191 43 ∧ N.1 191 43 ≤ 20 := by rw [(eN 191 43 (by omega)).1]; exact hP.2.2.1
  obtain ⟨R, a1, a2, a3, a4⟩ := kn_of1 hm43 q1 (fun q j z => z)
  have r0 := row0_of eN a2 (fun q j z => z)
  rw [a1, obind_some] at p0'
  have eP := Option.some.inj p0'
  refine ⟨(N, _), rfl, P, p0, by rw [← eP], bs_move h' hR hX0 hRL hIP.1 p1 hcm ?_⟩
  have e211 : R.2 211 1 = (pnS (nxV V (DN M 0) (M.2 210 0) (wlV V)) x1 n (M.2 211 0)).1 := by
    rw [← q2]
    have kf : Fr KW Q R := by
      obtain ⟨b1, b2, b3, -⟩ := m_kn (M := Q) (by rw [(q1 191 43 (by unfold CW; omega)).1]; exact hm43)
      have : R = b1 := Option.some.inj (a1.symm.trans b2)
      rw [this]; exact b3
    exact (kf 211 1 (by unfold KW; omega)).2
  have f3 : Fr (fun q j => q = 211 ∧ j = 0) R (setL R 211 0 (R.2 211 1)) := Fr.rf.setL ⟨rfl, rfl⟩
  rw [← eP]
  refine mm_of hm43.1 a2 (fun q j z => z) a3 a4 (f3.mono (fun q j z => by unfold RwW; omega)) (fun w x y => ?_) (fun t x y => ?_) ?_ ?_
  · rw [(f3 212 w (by omega)).1, (r0 212 w (by unfold RwW; omega)).1]; exact dn_row M
  · rw [(f3 213 t (by omega)).1, (r0 213 t (by unfold RwW; omega)).1, (f3 214 t (by omega)).1, (r0 214 t (by unfold RwW; omega)).1, (f3 215 t (by omega)).1, (r0 215 t (by unfold RwW; omega)).1]; exact at_row M
  · exact ((f3 210 0 (by omega)).2).trans (r0 210 0 (by unfold RwW; omega)).2
  · show (setL R 211 0 (R.2 211 1)).2 211 0 = _
    rw [sL_self, e211]
end
section
/-! ===== undo, keep, back ===== -/
theorem bs_undo {M : Mem} (h : LI M) : Ok (fun r => (t_WF_undo M).2 = r.2 ∧ LI r.1) (t_MO_undo (t_WF_undo M).1) := by
  have h' := h
  obtain ⟨hI, ⟨V, hR, hX, hRL⟩, -⟩ := h
  have hV := hR.1.1
  have hv := hV.1
  have hP := hRL.2.2.1
  have hm43 := hP.2.2.1
  have hL := hP.2.1
  have hIC := (sf_WF_undo hI).1
  have f00 : ∀ N : Mem, Fr (fun q j => q = 191 ∧ j = 0) N (setI N 191 0 0) := fun N => Fr.rf.setI ⟨rfl, rfl⟩
  by_cases c1 : M.1 191 43 = 0
  · have hw : t_WF_undo M = (M, -1) := by
      unfold t_WF_undo t_Past_takeBack
      rw [if_pos (hP.1.trans c1)]
      simp only [qlet]
      rw [if_pos trivial]
    rw [hw]
    refine ⟨(setI M 191 0 0, -1), ?_, rfl, h'.at0⟩
    unfold t_MO_undo
    simp (config := { proj := false }) only [qlet]
    rw [((f00 M) 191 43 (by omega)).1, if_pos c1]
  -- the class
  have eL : M.1 70 1 = (((M.1 70 1).toNat : Nat) : Int) := by omega
  have hk := hP.2.2.2 (M.1 191 43 - 1) (by omega) (by omega)
  have ei : rgI (M.1 70 1) (M.1 191 43) (M.1 191 43 - 1) = (M.1 70 1).toNat := by unfold rgI; congr 1; omega
  rw [ei] at hk
  obtain ⟨N1, n1, n2, n3, n4, n5⟩ := c_takeBack hV hL (by rw [hP.1]; omega) hk
  have hw : t_WF_undo M = (setI N1 177 8 0, M.1 191 43 - 1) := by
    unfold t_WF_undo
    rw [n1]
    simp (config := { proj := false }) only [qlet]
    rw [if_neg (show ¬ (1 : Int) = 0 by decide)]
    have : (setI N1 177 8 0).1 70 2 = M.1 191 43 - 1 := by rw [sI_ne (by omega), n4, hP.1]
    rw [← this]
  rw [hw] at hIC ⊢
  have f2 : Fr (fun q j => q = 177 ∧ j = 8) N1 (setI N1 177 8 0) := Fr.rf.setI ⟨rfl, rfl⟩
  have v8 : (setI N1 177 8 0).1 177 8 = 0 := sI_self _ _ _ _
  have fN : Fr (fun q j => (q = 70 ∧ (j = 1 ∨ j = 2)) ∨ (47 ≤ q ∧ q ≤ 51) ∨ (q = 177 ∧ j = 8)) M (setI N1 177 8 0) := (n2.mono (fun q j z => by unfold CsW at z; omega)).trans (f2.mono (fun q j z => by omega))
  have n5' := n5.fr f2 (fun q j z y => by unfold CsW at z; omega)
  have v1 : (setI N1 177 8 0).1 70 1 = dnL (M.1 70 1) := ((f2 70 1 (by omega)).1).trans n3
  have v2 : (setI N1 177 8 0).1 70 2 = M.1 191 43 - 1 := ((f2 70 2 (by omega)).1).trans (by rw [n4, hP.1])
  generalize setI N1 177 8 0 = N at *
  have hRN : RI N V := hR.fr fN (fun q j a z => by unfold RIc at a; omega)
  have eN : ∀ q j, 191 ≤ q → N.1 q j = M.1 q j ∧ N.2 q j = M.2 q j := fun q j x => fN q j (by omega)
  have e43 : N.1 191 43 = M.1 191 43 := (eN 191 43 (by omega)).1
  -- the reference
  obtain ⟨P, p0, p1⟩ := ri_undo hRN
  have hIP := im_MO_undo hIC P p0
  have p0' := p0
  unfold t_MO_undo at p0'
  simp (config := { proj := false }) only [qlet] at p0'
  have g0 := f00 N
  have w43 : (setI N 191 0 0).1 191 43 = M.1 191 43 := ((g0 191 43 (by omega)).1).trans e43
  rw [w43, if_neg c1, w32_id (x := M.1 191 43 - 1) (by unfold InR; omega)] at p0'
  have g1 : Fr (fun q j => q = 191 ∧ (j = 0 ∨ j = 43)) N (setI (setI N 191 0 0) 191 43 (M.1 191 43 - 1)) := (g0.mono (fun q j z => by omega)).setI (by omega)
  have w1 : (setI (setI N 191 0 0) 191 43 (M.1 191 43 - 1)).1 191 43 = M.1 191 43 - 1 := sI_self _ _ _ _
  rw [w1, w32_id (x := 3 + (M.1 191 43 - 1)) (by unfold InR; omega)] at p0'
  generalize setI (setI N 191 0 0) 191 43 (M.1 191 43 - 1) = N2 at *
  obtain ⟨Q, q1, q2, q3⟩ := m_copies (M := N2) (x1 := 0) (x2 := 3 + (M.1 191 43 - 1)) (by omega) (by omega) (by omega)
  have u43 : Q.1 191 43 = M.1 191 43 - 1 := ((q2 191 43 (by unfold CW; omega)).1).trans w1
  rw [q1, obind_some, u43] at p0'
  have eP := Option.some.inj p0'
  subst eP
  refine ⟨(Q, M.1 191 43 - 1), p0, rfl, ?_⟩
  have fP : Fr (fun q j => (q = 191 ∧ (j = 0 ∨ j = 43)) ∨ CW 0 q j) N Q := (g1.mono (fun q j z => Or.inl z)).trans (q2.mono (fun q j z => Or.inr z))
  have fA : Fr (fun q j => ((q = 70 ∧ (j = 1 ∨ j = 2)) ∨ (47 ≤ q ∧ q ≤ 51) ∨ (q = 177 ∧ j = 8)) ∨ ((q = 191 ∧ (j = 0 ∨ j = 43)) ∨ CW 0 q j)) M Q := (fN.mono (fun q j z => Or.inl z)).trans (fP.mono (fun q j z => Or.inr z))
  have rN2 : ∀ b, RowEq N2 b M b := fun b => (RowEq.fr g1 (fun q j z w => by unfold CW at z; omega)).trans (RowEq.fr fN (fun q j z w => by unfold CW at z; omega))
  have row : RowEq Q 0 M (3 + (M.1 191 43 - 1)) := q3.trans (rN2 _)
  have hyk := hR.2.2.2.2.1.2.2 (M.1 191 43 - 1) (by omega) (by omega)
  refine h'.two hX hIP.1 p1 ⟨?_, ?_, ?_, ?_, ?_, ?_⟩ (fA.mono (fun q j z => by unfold CW at z; unfold KpA; omega))
  · exact CSR.of hV (n5'.fr fP (fun q j z y => by unfold CsW at z; unfold CW at y; omega)) row
  · obtain ⟨k1, k2, k3, k4⟩ := hRL.2.1
    have c : ∀ q j, ChW 62 q j → Q.1 q j = M.1 q j ∧ Q.2 q j = M.2 q j := fun q j z => fA q j (fun y => by unfold ChW at z; unfold CW at y; omega)
    have e7 : Q.1 207 0 = M.1 207 0 := row.1.1.trans hyk.2.1
    have e8 : Q.1 208 0 = M.1 208 0 := row.1.2.1.trans hyk.2.2.1
    have e9 : Q.1 209 0 = M.1 209 0 := row.1.2.2.1.trans hyk.2.2.2
    refine ⟨by rw [(c 62 3 (by unfold ChW; omega)).1, e7]; exact k1, by rw [(c 62 4 (by unfold ChW; omega)).1, e8]; exact k2, by rw [(c 62 5 (by unfold ChW; omega)).2, e9]; exact k3, fun y a b => ?_⟩
    rw [e7] at b
    rw [(c (62 + 1) y (by unfold ChW; omega)).1, (c (62 + 2) y (by unfold ChW; omega)).1, (c (62 + 3) y (by unfold ChW; omega)).1, (fA 216 _ (fun y => by unfold CW at y; omega)).1, (fA 217 _ (fun y => by unfold CW at y; omega)).1, (fA 218 _ (fun y => by unfold CW at y; omega)).1]
    exact k4 y a b
  · have x1 : Q.1 70 1 = dnL (M.1 70 1) := ((fP 70 1 (fun y => by unfold CW at y; omega)).1).trans v1
    have x2 : Q.1 70 2 = M.1 191 43 - 1 := ((fP 70 2 (fun y => by unfold CW at y; omega)).1).trans v2
    refine ⟨by rw [x2, u43], by rw [x1]; unfold dnL; split <;> omega, by rw [u43]; omega, fun k a b => ?_⟩
    rw [u43] at b
    rw [x1, u43]
    have er : rgI (dnL (M.1 70 1)) (M.1 191 43 - 1) k = rgI (M.1 70 1) (M.1 191 43) k := by
      unfold rgI dnL
      congr 1
      split <;> omega
    rw [er]
    have hlt : rgI (M.1 70 1) (M.1 191 43) k < 20 := by unfold rgI; omega
    exact (hP.2.2.2 k a (by omega)).fr hV fA (fun q j z y => by
      rcases z with z | z
      · unfold CsW at z; unfold CW at y; omega
      · unfold RwW at z; unfold CW at y; omega)
  · exact hRL.2.2.2.1.fr hV hR.yr.2 fA (fun q j z y => by unfold CsW RwW ChW RgR at z; unfold CW at y; omega)
  · exact hRL.2.2.2.2.1.fr fA (fun q j z y => by unfold CW at y; omega)
  · exact CaR.zero (((fP 177 8 (fun y => by unfold CW at y; omega)).1).trans v8)
theorem c_ccopy (M : Mem) {k0 k1 : Nat} (hne : k1 + 3 < k0 ∨ k0 + 3 < k1) : Fr (ChW k0) M (t_Chronicle_copy M k0 k1) ∧ (t_Chronicle_copy M k0 k1).1 k0 3 = M.1 k1 3 ∧ (t_Chronicle_copy M k0 k1).1 k0 4 = M.1 k1 4 ∧ (t_Chronicle_copy M k0 k1).2 k0 5 = M.2 k1 5 ∧ ∀ y, 0 ≤ y → y < 99 → (t_Chronicle_copy M k0 k1).1 (k0 + 1) y = M.1 (k1 + 1) y ∧ (t_Chronicle_copy M k0 k1).1 (k0 + 2) y = M.1 (k1 + 2) y ∧ (t_Chronicle_copy M k0 k1).1 (k0 + 3) y = M.1 (k1 + 3) y := by
  have q9 : q_min ((99 : Nat) : Int) ((99 : Nat) : Int) = 99 := rfl
  unfold t_Chronicle_copy t_WF_copyRow
  simp (config := { proj := false }) only [qlet]
  rw [q9]
  obtain ⟨M1, e1⟩ : ∃ M1, M1 = cpyM M (k1 + 1) (k0 + 1) 99 := ⟨_, rfl⟩
  rw [← e1]
  have f1 : Fr (fun q _ => q = k0 + 1) M M1 := by rw [e1]; exact Fr.rf.cpy (fun j => rfl)
  have v1 : ∀ w, 0 ≤ w → w < 99 → M1.1 (k0 + 1) w = M.1 (k1 + 1) w := fun w a b => by rw [e1]; exact cpy_get a b
  obtain ⟨M2, e2⟩ : ∃ M2, M2 = cpyM M1 (k1 + 2) (k0 + 2) 99 := ⟨_, rfl⟩
  rw [← e2]
  have f2 : Fr (fun q _ => q = k0 + 2) M1 M2 := by rw [e2]; exact Fr.rf.cpy (fun j => rfl)
  have v2 : ∀ w, 0 ≤ w → w < 99 → M2.1 (k0 + 2) w = M1.1 (k1 + 2) w := fun w a b => by rw [e2]; exact cpy_get a b
  obtain ⟨M3, e3⟩ : ∃ M3, M3 = cpyM M2 (k1 + 3) (k0 + 3) 99 := ⟨_, rfl⟩
  rw [← e3]
  have f3 : Fr (fun q _ => q = k0 + 3) M2 M3 := by rw [e3]; exact Fr.rf.cpy (fun j => rfl)
  have v3 : ∀ w, 0 ≤ w → w < 99 → M3.1 (k0 + 3) w = M2.1 (k1 + 3) w := fun w a b => by rw [e3]; exact cpy_get a b
  have fM : Fr (fun q _ => k0 + 1 ≤ q ∧ q ≤ k0 + 3) M M3 := ((f1.mono (fun q j z => by omega)).trans (f2.mono (fun q j z => by omega))).trans (f3.mono (fun q j z => by omega))
  rw [(fM k1 3 (by omega)).1]
  have g4 : (setI M3 k0 3 (M.1 k1 3)).1 k1 4 = M.1 k1 4 := by rw [sI_ne (by omega)]; exact (fM k1 4 (by omega)).1
  rw [g4]
  have g5 : (setI (setI M3 k0 3 (M.1 k1 3)) k0 4 (M.1 k1 4)).2 k1 5 = M.2 k1 5 := by rw [sI_snd, sI_snd]; exact (fM k1 5 (by omega)).2
  rw [g5]
  refine ⟨((fM.mono (fun q j z => by unfold ChW; omega)).setI (by unfold ChW; omega)).setI (by unfold ChW; omega) |>.setL (by unfold ChW; omega), ?_, ?_, sL_self _ _ _ _, fun y a b => ⟨?_, ?_, ?_⟩⟩
  · rw [sL_fst, sI_ne (by omega), sI_self]
  · rw [sL_fst, sI_self]
  · rw [sL_fst, sI_ne (by omega), sI_ne (by omega), (f3 _ _ (by omega)).1, (f2 _ _ (by omega)).1]; exact v1 y a b
  · rw [sL_fst, sI_ne (by omega), sI_ne (by omega), (f3 _ _ (by omega)).1, v2 y a b, (f1 _ _ (by omega)).1]
  · rw [sL_fst, sI_ne (by omega), sI_ne (by omega), v3 y a b, (f2 _ _ (by omega)).1, (f1 _ _ (by omega)).1]
theorem bs_keep {M : Mem} (h : LI M) : Ok (fun r => (t_WF_keep M).2 = r.2 ∧ LI r.1) (t_MO_keep (t_WF_keep M).1) := by
  have h' := h
  obtain ⟨hI, ⟨V, hR, hX, hRL⟩, -⟩ := h
  have hV := hR.1.1
  have hv := hV.1
  have hIC := (sf_WF_keep hI).1
  have hS : CScF M 47 V (DN M 0) (AT M 0) (ST M 0) (LN M 0) (M.2 210 0) (M.2 211 0) (wlV V) := hRL.1
  obtain ⟨k1, k2, k3, k4⟩ := hRL.2.1
  have hy := hR.2.2.1.2
  have hcl : ∃ N, t_WF_keep M = (N, M.1 207 0) ∧ Fr (fun q j => (57 ≤ q ∧ q ≤ 61) ∨ ChW 66 q j ∨ (q = 0 ∧ j = 13)) M N ∧ CScF N 57 V (DN M 0) (AT M 0) (ST M 0) (LN M 0) (M.2 210 0) (M.2 211 0) (wlV V) ∧ N.1 66 3 = M.1 207 0 ∧ N.1 66 4 = M.1 208 0 ∧ N.2 66 5 = q_i2l (M.1 209 0) ∧ (∀ y, 0 ≤ y → y < 99 → N.1 67 y = M.1 63 y ∧ N.1 68 y = M.1 64 y ∧ N.1 69 y = M.1 65 y) ∧ N.1 0 13 = 1 := by
    unfold t_WF_keep
    simp (config := { proj := false }) only [qlet]
    obtain ⟨s1, s2⟩ := c_scopy (k0 := 57) (k1 := 47) hV (Or.inl (by omega)) hS
    generalize t_Scene_copy M 57 47 = N1 at *
    obtain ⟨t1, t2, t3, t4, t5⟩ := c_ccopy N1 (k0 := 66) (k1 := 62) (Or.inl (by omega))
    generalize t_Chronicle_copy N1 66 62 = N2 at *
    have e : ∀ q j, ChW 62 q j → N1.1 q j = M.1 q j ∧ N1.2 q j = M.2 q j := fun q j z => s2 q j (fun y => by unfold ChW at z; unfold CsW at y; omega)
    have f3 : Fr (fun q j => q = 0 ∧ j = 13) N2 (setI N2 0 13 1) := Fr.rf.setI ⟨rfl, rfl⟩
    have y3 : (setI N2 0 13 1).1 62 3 = M.1 207 0 := by rw [(f3 62 3 (by omega)).1, (t1 62 3 (by unfold ChW; omega)).1, (e 62 3 (by unfold ChW; omega)).1]; exact k1
    rw [y3]
    refine ⟨_, rfl, ((s2.mono (fun q j z => by unfold CsW at z; omega)).trans (t1.mono (fun q j z => Or.inr (Or.inl z)))).trans (f3.mono (fun q j z => by omega)), (s1.fr t1 (fun q j z y => by unfold CsW at z; unfold ChW at y; omega)).fr f3 (fun q j z y => by unfold CsW at z; omega), ?_, ?_, ?_, fun y a b => ⟨?_, ?_, ?_⟩, sI_self _ _ _ _⟩
    · rw [(f3 66 3 (by omega)).1, t2, (e 62 3 (by unfold ChW; omega)).1]; exact k1
    · rw [(f3 66 4 (by omega)).1, t3, (e 62 4 (by unfold ChW; omega)).1]; exact k2
    · rw [(f3 66 5 (by omega)).2, t4, (e 62 5 (by unfold ChW; omega)).2]; exact k3
    · rw [(f3 67 y (by omega)).1]; exact ((t5 y a b).1).trans (e 63 y (by unfold ChW; omega)).1
    · rw [(f3 68 y (by omega)).1]; exact ((t5 y a b).2.1).trans (e 64 y (by unfold ChW; omega)).1
    · rw [(f3 69 y (by omega)).1]; exact ((t5 y a b).2.2).trans (e 65 y (by unfold ChW; omega)).1
  obtain ⟨N, n1, n2, n3, n4, n5, n6, n7, n8⟩ := hcl
  rw [n1] at hIC ⊢
  have hRN : RI N V := hR.fr n2 (fun q j a z => by unfold RIc at a; unfold ChW at z; omega)
  have eN : ∀ q j, 191 ≤ q → N.1 q j = M.1 q j ∧ N.2 q j = M.2 q j := fun q j x => n2 q j (fun z => by unfold ChW at z; omega)
  obtain ⟨P, p0, p1⟩ := ri_keep hRN
  have hIP := im_MO_keep hIC P p0
  have p0' := p0
  unfold t_MO_keep at p0'
  simp (config := { proj := false }) only [qlet] at p0'
  have g0 : Fr (fun q j => q = 191 ∧ j = 0) N (setI N 191 0 0) := Fr.rf.setI ⟨rfl, rfl⟩
  obtain ⟨Q1, a1, a2, a3⟩ := m_copies (M := setI N 191 0 0) (x1 := 2) (x2 := 0) (by omega) (by omega) (by omega)
  obtain ⟨Q2, b1, b2, b3⟩ := m_copiesLog (M := Q1) (x1 := 2) (x2 := 0) (by omega) (by omega) (by omega)
  rw [a1, obind_some, b1, obind_some] at p0'
  have f3 : Fr (fun q j => q = 191 ∧ j = 42) Q2 (setI Q2 191 42 1) := Fr.rf.setI ⟨rfl, rfl⟩
  have v42 : (setI Q2 191 42 1).1 191 42 = 1 := sI_self _ _ _ _
  have eP := Option.some.inj p0'
  subst eP
  generalize hQ : setI Q2 191 42 1 = Q at *
  have fP : Fr (fun q j => (q = 191 ∧ (j = 0 ∨ j = 42)) ∨ CW 2 q j ∨ LW 2 q j) N Q := (((g0.mono (fun q j z => by omega)).trans (a2.mono (fun q j z => Or.inr (Or.inl z)))).trans (b2.mono (fun q j z => Or.inr (Or.inr z)))).trans (f3.mono (fun q j z => by omega))
  have fA : Fr (fun q j => ((57 ≤ q ∧ q ≤ 61) ∨ ChW 66 q j ∨ (q = 0 ∧ j = 13)) ∨ ((q = 191 ∧ (j = 0 ∨ j = 42)) ∨ CW 2 q j ∨ LW 2 q j)) M Q := (n2.mono (fun q j z => Or.inl z)).trans (fP.mono (fun q j z => Or.inr z))
  have row : RowEq Q 2 M 0 := ((((RowEq.fr f3 (fun q j z w => by unfold CW at z; omega)).trans (RowEq.fr b2 (fun q j z w => by unfold CW at z; unfold LW at w; omega))).trans a3).trans (RowEq.fr g0 (fun q j z w => by unfold CW at z; omega))).trans (RowEq.fr n2 (fun q j z w => by unfold CW at z; unfold ChW at w; omega))
  have e70 : Q.1 207 0 = M.1 207 0 := (fA 207 0 (fun y => by unfold ChW CW LW at y; omega)).1
  refine ⟨(Q, Q.1 207 0), p0, e70.symm, ?_⟩
  refine h'.two hX hIP.1 p1 ⟨?_, ?_, ?_, ⟨?_, fun _ => ⟨?_, ?_⟩⟩, ?_, ?_⟩ (fA.mono (fun q j z => by unfold ChW CW LW at z; unfold KpA; omega))
  · exact CSR.fr hV hRL.1 fA (fun q j z y => by unfold CsW RwW at z; unfold ChW CW LW at y; omega)
  · exact hRL.2.1.fr hR.yr.1 fA (fun q j z y => by unfold ChW RgR at z; unfold ChW CW LW at y; omega)
  · exact hRL.2.2.1.fr hV fA (fun q j z y => by unfold ChW CW LW at y; omega)
  · rw [(fP 0 13 (fun y => by unfold CW LW at y; omega)).1, n8]; exact v42.symm
  · exact CSR.of hV (n3.fr fP (fun q j z y => by unfold CsW at z; unfold CW LW at y; omega)) row
  · have c : ∀ q j, ChW 66 q j → Q.1 q j = N.1 q j ∧ Q.2 q j = N.2 q j := fun q j z => fP q j (fun y => by unfold ChW at z; unfold CW LW at y; omega)
    refine ⟨by rw [(c 66 3 (by unfold ChW; omega)).1, n4, row.1.1], by rw [(c 66 4 (by unfold ChW; omega)).1, n5, row.1.2.1], by rw [(c 66 5 (by unfold ChW; omega)).2, n6, row.1.2.2.1], fun y a b => ?_⟩
    rw [row.1.1] at b
    have b9 : y < 99 := by omega
    have lg : ∀ k, (k = 216 ∨ k = 217 ∨ k = 218) → Q.1 k (100 * 2 + y) = M.1 k (100 * 0 + y) := fun k hk => by
      rw [(f3 k _ (by omega)).1, b3 k y hk a (by omega), (a2 k _ (fun z => by unfold CW at z; omega)).1, (g0 k _ (by omega)).1, (eN k _ (by omega)).1]
    rw [(c (66 + 1) y (by unfold ChW; omega)).1, (c (66 + 2) y (by unfold ChW; omega)).1, (c (66 + 3) y (by unfold ChW; omega)).1, lg 216 (by omega), lg 217 (by omega), lg 218 (by omega), (n7 y a b9).1, (n7 y a b9).2.1, (n7 y a b9).2.2]
    exact k4 y a b
  · exact hRL.2.2.2.2.1.fr fA (fun q j z y => by unfold ChW CW LW at y; omega)
  · exact hRL.2.2.2.2.2.fr hV fA (fun q j z y => by unfold RwW at z; unfold ChW CW LW at y; omega)
end
section
/-! ===== back, beats ===== -/
theorem bs_back {M : Mem} (h : LI M) : Ok (fun r => (t_WF_back M).2 = r.2 ∧ LI r.1) (t_MO_back (t_WF_back M).1) := by
  have h' := h
  obtain ⟨hI, ⟨V, hR, hX, hRL⟩, -⟩ := h
  have hV := hR.1.1
  have hv := hV.1
  have hIC := (sf_WF_back hI).1
  have h42 := hR.2.2.2.1
  have g00 : ∀ N : Mem, Fr (fun q j => q = 191 ∧ j = 0) N (setI N 191 0 0) := fun N => Fr.rf.setI ⟨rfl, rfl⟩
  by_cases c1 : M.1 191 42 = 0
  · have hw : t_WF_back M = (M, -1) := by
      unfold t_WF_back
      rw [if_pos (hRL.2.2.2.1.1.trans c1)]
    rw [hw]
    refine ⟨(setI M 191 0 0, -1), ?_, rfl, h'.at0⟩
    unfold t_MO_back
    simp (config := { proj := false }) only [qlet]
    rw [((g00 M) 191 42 (by omega)).1, if_pos c1]
  have c2 : M.1 191 42 = 1 := h42.1.resolve_left c1
  obtain ⟨i1, i2⟩ := hRL.2.2.2.1.2 c2
  have i1' : CScF M 57 V (DN M 2) (AT M 2) (ST M 2) (LN M 2) (M.2 210 2) (M.2 211 2) (wlV V) := i1
  obtain ⟨y1, y2, y3, y4, y5⟩ := h42.2 c2
  obtain ⟨k1, k2, k3, k4⟩ := i2
  have hcl : ∃ N, t_WF_back M = (N, M.1 207 2) ∧ Fr (fun q j => (47 ≤ q ∧ q ≤ 51) ∨ ChW 62 q j ∨ (q = 70 ∧ j = 2) ∨ (q = 177 ∧ j = 8)) M N ∧ CScF N 47 V (DN M 2) (AT M 2) (ST M 2) (LN M 2) (M.2 210 2) (M.2 211 2) (wlV V) ∧ N.1 62 3 = M.1 207 2 ∧ N.1 62 4 = M.1 208 2 ∧ N.2 62 5 = q_i2l (M.1 209 2) ∧ (∀ y, 0 ≤ y → y < 99 → N.1 63 y = M.1 67 y ∧ N.1 64 y = M.1 68 y ∧ N.1 65 y = M.1 69 y) ∧ N.1 70 2 = 0 ∧ N.1 177 8 = 0 := by
    unfold t_WF_back
    rw [if_neg (show ¬ M.1 0 13 = 0 from fun z => c1 (by rw [← hRL.2.2.2.1.1]; exact z))]
    unfold t_Past_clear
    simp (config := { proj := false }) only [qlet]
    obtain ⟨s1, s2⟩ := c_scopy (k0 := 47) (k1 := 57) hV (Or.inr (by omega)) i1'
    generalize t_Scene_copy M 47 57 = N1 at *
    obtain ⟨t1, t2, t3, t4, t5⟩ := c_ccopy N1 (k0 := 62) (k1 := 66) (Or.inr (by omega))
    generalize t_Chronicle_copy N1 62 66 = N2 at *
    have e : ∀ q j, ChW 66 q j → N1.1 q j = M.1 q j ∧ N1.2 q j = M.2 q j := fun q j z => s2 q j (fun y => by unfold ChW at z; unfold CsW at y; omega)
    have f3 : Fr (fun q j => (q = 70 ∧ j = 2) ∨ (q = 177 ∧ j = 8)) N2 (setI (setI N2 70 2 0) 177 8 0) := (Fr.rf.setI (by omega)).setI (by omega)
    have z3 : (setI (setI N2 70 2 0) 177 8 0).1 62 3 = M.1 207 2 := by rw [(f3 62 3 (by omega)).1, t2, (e 66 3 (by unfold ChW; omega)).1]; exact k1
    rw [z3]
    refine ⟨_, rfl, ((s2.mono (fun q j z => by unfold CsW at z; omega)).trans (t1.mono (fun q j z => Or.inr (Or.inl z)))).trans (f3.mono (fun q j z => by omega)), (s1.fr t1 (fun q j z y => by unfold CsW at z; unfold ChW at y; omega)).fr f3 (fun q j z y => by unfold CsW at z; omega), z3, ?_, ?_, fun y a b => ⟨?_, ?_, ?_⟩, ?_, sI_self _ _ _ _⟩
    · rw [(f3 62 4 (by omega)).1, t3, (e 66 4 (by unfold ChW; omega)).1]; exact k2
    · rw [(f3 62 5 (by omega)).2, t4, (e 66 5 (by unfold ChW; omega)).2]; exact k3
    · rw [(f3 63 y (by omega)).1]; exact ((t5 y a b).1).trans (e 67 y (by unfold ChW; omega)).1
    · rw [(f3 64 y (by omega)).1]; exact ((t5 y a b).2.1).trans (e 68 y (by unfold ChW; omega)).1
    · rw [(f3 65 y (by omega)).1]; exact ((t5 y a b).2.2).trans (e 69 y (by unfold ChW; omega)).1
    · rw [sI_ne (by omega), sI_self]
  obtain ⟨N, n1, n2, n3, n4, n5, n6, n7, n8, n9⟩ := hcl
  rw [n1] at hIC ⊢
  have hRN : RI N V := hR.fr n2 (fun q j a z => by unfold RIc at a; unfold ChW at z; omega)
  have eN : ∀ q j, 191 ≤ q → N.1 q j = M.1 q j ∧ N.2 q j = M.2 q j := fun q j x => n2 q j (fun z => by unfold ChW at z; omega)
  obtain ⟨P, p0, p1⟩ := ri_back hRN
  have hIP := im_MO_back hIC P p0
  have p0' := p0
  unfold t_MO_back at p0'
  simp (config := { proj := false }) only [qlet] at p0'
  have g0 := g00 N
  have w42 : (setI N 191 0 0).1 191 42 = M.1 191 42 := ((g0 191 42 (by omega)).1).trans (eN 191 42 (by omega)).1
  rw [w42, if_neg c1] at p0'
  obtain ⟨Q1, a1, a2, a3⟩ := m_copies (M := setI N 191 0 0) (x1 := 0) (x2 := 2) (by omega) (by omega) (by omega)
  obtain ⟨Q2, b1, b2, b3⟩ := m_copiesLog (M := Q1) (x1 := 0) (x2 := 2) (by omega) (by omega) (by omega)
  rw [a1, obind_some, b1, obind_some] at p0'
  have f3 : Fr (fun q j => q = 191 ∧ j = 43) Q2 (setI Q2 191 43 0) := Fr.rf.setI ⟨rfl, rfl⟩
  have v43 : (setI Q2 191 43 0).1 191 43 = 0 := sI_self _ _ _ _
  generalize setI Q2 191 43 0 = Q at *
  have eP := Option.some.inj p0'
  subst eP
  have fP : Fr (fun q j => (q = 191 ∧ (j = 0 ∨ j = 43)) ∨ CW 0 q j ∨ LW 0 q j) N Q := (((g0.mono (fun q j z => by omega)).trans (a2.mono (fun q j z => Or.inr (Or.inl z)))).trans (b2.mono (fun q j z => Or.inr (Or.inr z)))).trans (f3.mono (fun q j z => by omega))
  have fA : Fr (fun q j => ((47 ≤ q ∧ q ≤ 51) ∨ ChW 62 q j ∨ (q = 70 ∧ j = 2) ∨ (q = 177 ∧ j = 8)) ∨ ((q = 191 ∧ (j = 0 ∨ j = 43)) ∨ CW 0 q j ∨ LW 0 q j)) M Q := (n2.mono (fun q j z => Or.inl z)).trans (fP.mono (fun q j z => Or.inr z))
  have row : RowEq Q 0 M 2 := ((((RowEq.fr f3 (fun q j z w => by unfold CW at z; omega)).trans (RowEq.fr b2 (fun q j z w => by unfold CW at z; unfold LW at w; omega))).trans a3).trans (RowEq.fr g0 (fun q j z w => by unfold CW at z; omega))).trans (RowEq.fr n2 (fun q j z w => by unfold CW at z; unfold ChW at w; omega))
  refine ⟨(Q, Q.1 207 0), p0, row.1.1.symm, ?_⟩
  refine h'.two hX hIP.1 p1 ⟨?_, ?_, ?_, ?_, ?_, ?_⟩ (fA.mono (fun q j z => by unfold ChW CW LW at z; unfold KpA; omega))
  · exact CSR.of hV (n3.fr fP (fun q j z y => by unfold CsW at z; unfold CW LW at y; omega)) row
  · have c : ∀ q j, ChW 62 q j → Q.1 q j = N.1 q j ∧ Q.2 q j = N.2 q j := fun q j z => fP q j (fun y => by unfold ChW at z; unfold CW LW at y; omega)
    refine ⟨by rw [(c 62 3 (by unfold ChW; omega)).1, n4, row.1.1], by rw [(c 62 4 (by unfold ChW; omega)).1, n5, row.1.2.1], by rw [(c 62 5 (by unfold ChW; omega)).2, n6, row.1.2.2.1], fun y a b => ?_⟩
    rw [row.1.1] at b
    have b9 : y < 99 := by omega
    have lg : ∀ k, (k = 216 ∨ k = 217 ∨ k = 218) → Q.1 k (100 * 0 + y) = M.1 k (100 * 2 + y) := fun k hk => by
      rw [(f3 k _ (by omega)).1, b3 k y hk a (by omega), (a2 k _ (fun z => by unfold CW at z; omega)).1, (g0 k _ (by omega)).1, (eN k _ (by omega)).1]
    rw [(c (62 + 1) y (by unfold ChW; omega)).1, (c (62 + 2) y (by unfold ChW; omega)).1, (c (62 + 3) y (by unfold ChW; omega)).1, lg 216 (by omega), lg 217 (by omega), lg 218 (by omega), (n7 y a b9).1, (n7 y a b9).2.1, (n7 y a b9).2.2]
    exact k4 y a b
  · refine past_none ?_ ?_ v43
    · rw [(fP 70 2 (fun y => by unfold CW LW at y; omega)).1]; exact n8
    · rw [(fA 70 1 (fun y => by unfold ChW CW LW at y; omega)).1]; exact hRL.2.2.1.2.1
  · exact hRL.2.2.2.1.fr hV hR.yr.2 fA (fun q j z y => by unfold CsW RwW ChW RgR at z; unfold ChW CW LW at y; omega)
  · exact hRL.2.2.2.2.1.fr fA (fun q j z y => by unfold ChW CW LW at y; omega)
  · exact CaR.zero (((fP 177 8 (fun y => by unfold CW LW at y; omega)).1).trans n9)
/-! beats -/
def btI (V : TV) (way : Bool) (f : Int → Int) : Nat → BT → BT
  | 0, q => q
  | n + 1, q => btI V way f n ((btS V f way q.1 q.2.1 q.2.2.1 (V 0 3).toNat).1, (btS V f way q.1 q.2.1 q.2.2.1 (V 0 3).toNat).2.1, (btS V f way q.1 q.2.1 q.2.2.1 (V 0 3).toNat).2.2.1, w32 (q.2.2.2 + (btS V f way q.1 q.2.1 q.2.2.1 (V 0 3).toNat).2.2.2))
def beE (x1 : Int) (M : Mem) (v : Int) : Option (Mem × Int) := if x1 ≤ 0 then some (M, v) else some (setI (setI (setI M 62 4 (w32 (M.1 62 4 + x1))) 70 2 0) 177 8 0, v)
theorem c_beats_loop {M0 : Mem} {x1 : Int} {T : Nat} {V : TV} {D : Int → Int} {nets wat : Int64} {wl : Int → Bool} (hV : VOK V) (hT : T = 2 ∨ T = 22) (hX : CT0 M0 T V ∧ CTs M0 T V) (hT0 : (M0.1 0 4).toNat = T) (h2 : x1 ≤ 200) : ∀ (n fu : Nat) (M : Mem) (q : BT) (v3 : Int), v3 + (n : Int) = x1 → 0 ≤ v3 → n < fu → Fr (BtW 47) M0 M → CScF M 47 V D q.1 q.2.1 q.2.2.1 nets wat wl → (∀ t, 0 ≤ t → t < V 0 3 → -1 ≤ q.1 t ∧ q.1 t < cellsV V) →
    ∃ N, t_WF_beats_L17 x1 fu M q.2.2.2 v3 = beE x1 N (btI V true (nxV V D nets wl) n q).2.2.2 ∧ Fr (BtW 47) M0 N ∧ CScF N 47 V D (btI V true (nxV V D nets wl) n q).1 (btI V true (nxV V D nets wl) n q).2.1 (btI V true (nxV V D nets wl) n q).2.2.1 nets wat wl := by
  intro n
  induction n with
  | zero =>
    intro fu M q v3 g0 g1 g2 hF h hA
    obtain ⟨g, rfl⟩ : ∃ g, fu = g + 1 := ⟨fu - 1, by omega⟩
    rw [t_WF_beats_L17, if_pos (by omega)]
    exact ⟨M, rfl, hF, h⟩
  | succ n ih =>
    intro fu M q v3 g0 g1 g2 hF h hA
    obtain ⟨g, rfl⟩ : ∃ g, fu = g + 1 := ⟨fu - 1, by omega⟩
    have hX' : CT0 M T V ∧ CTs M T V := ⟨CT0.fr hF (fun q j x y z => by unfold BtW at z; omega) hX.1, CTs.fr hF (fun q j x y z => by unfold BtW at z; omega) hX.2⟩
    have eT : (M.1 0 4).toNat = T := by rw [(hF 0 4 (by unfold BtW; omega)).1]; exact hT0
    rw [t_WF_beats_L17, if_neg (by omega), eT, w32_id (x := v3 + 1) (by unfold InR; omega)]
    obtain ⟨N, n1, n2, n3⟩ := c_beat (x2 := 1) hV hT (by omega) hX' h hA
    have hd : decide ((1 : Int) ≠ 0) = true := by decide
    rw [hd] at n1 n2
    rw [n1, obind_some, btI]
    exact ih g N (_, _, _, _) (v3 + 1) (by omega) (by omega) (by omega) (hF.trans n3) n2 (fun t a b => btS_rng (nx_ok hV D nets wl) hA _ (by have := hV.1; omega) t a b)
def TP (M : Mem) (a : Int) (V : TV) (A S L : Int → Int) : Prop := ∀ t, 0 ≤ t → t < V 0 3 → M.1 213 (8 * a + t) = A t ∧ M.1 214 (8 * a + t) = S t ∧ M.1 215 (8 * a + t) = L t
theorem m_beats_loop {x1 : Int} {V : TV} {D : Int → Int} {nets : Int64} (h2 : x1 ≤ 200) : ∀ (n fu : Nat) (M : Mem) (q : BT) (v3 : Int), v3 + (n : Int) = x1 → 0 ≤ v3 → n < fu → RI M V → IM M → (0 < n → M.1 191 43 = 0) → (∀ w, 0 ≤ w → w < V 0 2 → DN M 0 w = D w) → M.2 210 0 = nets → TP M 0 V q.1 q.2.1 q.2.2.1 →
    ∃ N, t_MO_beats_L31 x1 fu M q.2.2.2 v3 = some (N, (btI V true (nxV V D nets (wlV V)) n q).2.2.2) ∧ Fr (BW 0) M N ∧ TP N 0 V (btI V true (nxV V D nets (wlV V)) n q).1 (btI V true (nxV V D nets (wlV V)) n q).2.1 (btI V true (nxV V D nets (wlV V)) n q).2.2.1 ∧ N.1 208 0 = w32 (M.1 208 0 + (n : Int)) := by
  intro n
  induction n with
  | zero =>
    intro fu M q v3 g0 g1 g2 h hI hu hD hn hT
    obtain ⟨g, rfl⟩ : ∃ g, fu = g + 1 := ⟨fu - 1, by omega⟩
    rw [t_MO_beats_L31, if_pos (by omega)]
    refine ⟨M, rfl, Fr.rf, hT, ?_⟩
    rw [show M.1 208 0 + ((0 : Nat) : Int) = M.1 208 0 by omega]
    exact (w32_id (hI 208 0)).symm
  | succ n ih =>
    intro fu M q v3 g0 g1 g2 h hI hu hD hn hT
    obtain ⟨g, rfl⟩ : ∃ g, fu = g + 1 := ⟨fu - 1, by omega⟩
    have hV := h.1.1
    have hv := hV.1
    have hC := hV.cells
    have hr := h.row0
    have h44 := h.2.1
    have hs : stepOK (nxV V D nets (wlV V)) (cellsV V) := nx_ok hV _ _ _
    have hA : ∀ t, 0 ≤ t → t < V 0 3 → 0 ≤ q.1 t ∧ q.1 t < cellsV V := fun t a b => by rw [← (hT t a b).1]; exact hr.2.1 t a b
    have hd : decide (M.1 191 44 ≠ 1) = true := by rw [h44]; decide
    obtain ⟨N, e1, e2, e3, e4⟩ := m_beat (M := M) (at_ := 0) (f := nxV V D nets (wlV V)) (A := q.1) (S := q.2.1) (L := q.2.2.1) (by omega) hV hC.2 hs (fun t a b => by have := hA t a b; omega) (fun t a b _ => (hA t a b).1) (fun N hF => by
      have hN := (h.nb hr).fr hF (fun k j x q => by unfold TW at q; omega)
      have e : nxR N 0 V = nxR M 0 V := nxR_fr hF (fun k j x q => by unfold TW at q; omega)
      refine ⟨hN.2.1, fun c x y => ?_⟩
      rw [hN.next (by omega) x y, e]
      unfold nxR
      rw [hn, nx_congr hV hD nets (wlV V) x (by omega)]) (fun t a b => Or.inr ⟨fun z => by omega, (hT t a b).1, (hT t a b).2.1, (hT t a b).2.2⟩)
    rw [hd] at e1 e3
    obtain ⟨N', f1, f2, f3, -⟩ := h.beat (hu (by omega))
    have eNN : N' = N := by
      have := Option.some.inj (f1.symm.trans e1)
      exact congrArg Prod.fst this
    subst eNN
    have hIN : IM N' := (im_MO_beat hI (by unfold InR; omega) _ f1).1
    have hT' : TP N' 0 V (btS V (nxV V D nets (wlV V)) true q.1 q.2.1 q.2.2.1 (V 0 3).toNat).1 (btS V (nxV V D nets (wlV V)) true q.1 q.2.1 q.2.2.1 (V 0 3).toNat).2.1 (btS V (nxV V D nets (wlV V)) true q.1 q.2.1 q.2.2.1 (V 0 3).toNat).2.2.1 := fun t a b => by
      rcases e3 t a b with z | z
      · exact absurd z.1 (by omega)
      · exact z.2
    rw [t_MO_beats_L31, if_neg (by omega), w32_id (x := v3 + 1) (by unfold InR; omega), e1, obind_some, btI]
    obtain ⟨Q, q1, q2, q3, q4⟩ := ih g N' ((btS V (nxV V D nets (wlV V)) true q.1 q.2.1 q.2.2.1 (V 0 3).toNat).1, (btS V (nxV V D nets (wlV V)) true q.1 q.2.1 q.2.2.1 (V 0 3).toNat).2.1, (btS V (nxV V D nets (wlV V)) true q.1 q.2.1 q.2.2.1 (V 0 3).toNat).2.2.1, w32 (q.2.2.2 + (btS V (nxV V D nets (wlV V)) true q.1 q.2.1 q.2.2.1 (V 0 3).toNat).2.2.2)) (v3 + 1) (by omega) (by omega) (by omega) f2 hIN (fun _ => f3) (fun w a b => by rw [← hD w a b]; exact (e2 212 _ (by unfold BW; omega)).1) (by rw [(e2 210 0 (by unfold BW; omega)).2]; exact hn) hT'
    refine ⟨Q, q1, e2.trans q2, q3, ?_⟩
    rw [q4, e4]
    unfold w32
    omega
theorem bs_beats {M : Mem} (h : LI M) {x1 : Int} (h1 : InR x1) : Ok (fun q => Ok (fun r => q.2 = r.2 ∧ LI r.1) (t_MO_beats q.1 x1)) (t_WF_beats M x1) := by
  have h' := h
  have hTT := h.T
  obtain ⟨hI, ⟨V, hR, hX, hRL⟩, -⟩ := h
  have hV := hR.1.1
  have hv := hV.1
  have hC := hV.cells
  have hS : CScF M 47 V (DN M 0) (AT M 0) (ST M 0) (LN M 0) (M.2 210 0) (M.2 211 0) (wlV V) := hRL.1
  have okC := sf_WF_beats hI h1
  have same : ∀ v, t_WF_beats M x1 = some (M, v) → t_MO_beats M x1 = some (setI M 191 0 0, v) → Ok (fun q => Ok (fun r => q.2 = r.2 ∧ LI r.1) (t_MO_beats q.1 x1)) (t_WF_beats M x1) := fun v e1 e2 => ⟨_, e1, _, e2, rfl, h'.at0⟩
  by_cases c1 : x1 < 0
  · refine same (-1) ?_ ?_
    · unfold t_WF_beats; rw [if_pos c1]
    · unfold t_MO_beats; simp (config := { proj := false }) only [qlet]; rw [if_pos c1]
  by_cases c2 : x1 ≤ 200
  rotate_left
  · refine same (-1) ?_ ?_
    · unfold t_WF_beats; rw [if_neg c1, if_neg c2]
    · unfold t_MO_beats; simp (config := { proj := false }) only [qlet]; rw [if_neg c1, if_neg c2]
  by_cases c3 : x1 ≤ 0
  · obtain ⟨g, hg⟩ : ∃ g, FU = g + 1 := ⟨FU - 1, by have : 0 < FU := fu_big (by omega); omega⟩
    refine same 0 ?_ ?_
    · unfold t_WF_beats; rw [if_neg c1, if_pos c2, hg, t_WF_beats_L17, if_pos c3, if_pos c3]
    · unfold t_MO_beats t_MO_beats_L27; simp (config := { proj := false }) only [qlet]; rw [if_neg c1, if_pos c2, if_pos c3, hg, t_MO_beats_L31, if_pos c3]
  obtain ⟨n, hn⟩ : ∃ n : Nat, (n : Int) = x1 := ⟨x1.toNat, by omega⟩
  obtain ⟨N0, n1, n2, n3⟩ := c_beats_loop (T := (M.1 0 4).toNat) (x1 := x1) hV hTT.2 ⟨hX.1, hX.2.1⟩ rfl c2 n FU M (AT M 0, ST M 0, LN M 0, 0) 0 (by omega) (by omega) (fu_big (by omega)) Fr.rf hS (fun t a b => by have := hR.row0.2.1 t a b; show -1 ≤ AT M 0 t ∧ AT M 0 t < cellsV V; unfold AT; omega)
  have hw : t_WF_beats M x1 = some (setI (setI (setI N0 62 4 (w32 (N0.1 62 4 + x1))) 70 2 0) 177 8 0, (btI V true (nxV V (DN M 0) (M.2 210 0) (wlV V)) n (AT M 0, ST M 0, LN M 0, 0)).2.2.2) := by
    unfold t_WF_beats
    rw [if_neg c1, if_pos c2]
    refine n1.trans ?_
    unfold beE
    rw [if_neg c3]
  generalize hr : btI V true (nxV V (DN M 0) (M.2 210 0) (wlV V)) n (AT M 0, ST M 0, LN M 0, 0) = r at *
  have f3 : Fr (fun q j => (q = 62 ∧ j = 4) ∨ (q = 70 ∧ j = 2) ∨ (q = 177 ∧ j = 8)) N0 (setI (setI (setI N0 62 4 (w32 (N0.1 62 4 + x1))) 70 2 0) 177 8 0) := ((Fr.rf.setI (by omega)).setI (by omega)).setI (by omega)
  have v4 : (setI (setI (setI N0 62 4 (w32 (N0.1 62 4 + x1))) 70 2 0) 177 8 0).1 62 4 = w32 (M.1 208 0 + x1) := by rw [sI_ne (by omega), sI_ne (by omega), sI_self, (n2 62 4 (by unfold BtW; omega)).1, hRL.2.1.2.1]
  have v2 : (setI (setI (setI N0 62 4 (w32 (N0.1 62 4 + x1))) 70 2 0) 177 8 0).1 70 2 = 0 := by rw [sI_ne (by omega), sI_self]
  have v8 : (setI (setI (setI N0 62 4 (w32 (N0.1 62 4 + x1))) 70 2 0) 177 8 0).1 177 8 = 0 := sI_self _ _ _ _
  have n4 := n3.fr f3 (fun q j z y => by unfold CsW at z; omega)
  have fN : Fr (fun q j => (49 ≤ q ∧ q ≤ 51) ∨ (q = 62 ∧ j = 4) ∨ (q = 70 ∧ j = 2) ∨ (q = 177 ∧ j = 8)) M (setI (setI (setI N0 62 4 (w32 (N0.1 62 4 + x1))) 70 2 0) 177 8 0) := (n2.mono (fun q j z => by unfold BtW at z; omega)).trans (f3.mono (fun q j z => by omega))
  generalize setI (setI (setI N0 62 4 (w32 (N0.1 62 4 + x1))) 70 2 0) 177 8 0 = N at *
  obtain ⟨u, e, hu⟩ := okC
  have : u = (N, r.2.2.2) := Option.some.inj (e.symm.trans hw)
  subst this
  have hIN : IM N := hu.1
  have hRN : RI N V := hR.fr fN (fun q j a z => by unfold RIc at a; omega)
  have eN : ∀ q j, 191 ≤ q → N.1 q j = M.1 q j ∧ N.2 q j = M.2 q j := fun q j x => fN q j (by omega)
  obtain ⟨P, p0, p1⟩ := ri_beats hRN x1
  have hIP := im_MO_beats hIN h1 P p0
  refine ⟨(N, r.2.2.2), hw, P, p0, ?_⟩
  have hRM5 : RI (setI (setI N 191 0 0) 191 43 0) V := (hRN.set0 0).no_undo
  have hIM5 : IM (setI (setI N 191 0 0) 191 43 0) := (hIN.setI (by unfold InR; omega)).setI (by unfold InR; omega)
  have f5 : Fr (fun q j => q = 191 ∧ (j = 0 ∨ j = 43)) N (setI (setI N 191 0 0) 191 43 0) := (Fr.rf.setI (by omega)).setI (by omega)
  have e5 : ∀ q j, 192 ≤ q → (setI (setI N 191 0 0) 191 43 0).1 q j = M.1 q j ∧ (setI (setI N 191 0 0) 191 43 0).2 q j = M.2 q j := fun q j x => ⟨((f5 q j (by omega)).1).trans (eN q j (by omega)).1, ((f5 q j (by omega)).2).trans (eN q j (by omega)).2⟩
  have v43 : (setI (setI N 191 0 0) 191 43 0).1 191 43 = 0 := sI_self _ _ _ _
  obtain ⟨Q, q1, q2, q3, q4⟩ := m_beats_loop (V := V) (D := DN M 0) (nets := M.2 210 0) c2 n FU (setI (setI N 191 0 0) 191 43 0) (AT M 0, ST M 0, LN M 0, 0) 0 (by omega) (by omega) (fu_big (by omega)) hRM5 hIM5 (fun _ => v43) (fun w a b => (e5 212 _ (by omega)).1) (e5 210 0 (by omega)).2 (fun t a b => ⟨(e5 213 _ (by omega)).1, (e5 214 _ (by omega)).1, (e5 215 _ (by omega)).1⟩)
  rw [hr] at q1 q3
  have q0 : t_MO_beats N x1 = some (Q, r.2.2.2) := by
    unfold t_MO_beats t_MO_beats_L27
    simp (config := { proj := false }) only [qlet]
    rw [if_neg c1, if_pos c2, if_neg c3]
    exact q1
  have ePQ : P = (Q, r.2.2.2) := Option.some.inj (p0.symm.trans q0)
  subst ePQ
  have fP : Fr (fun q j => (q = 191 ∧ (j = 0 ∨ j = 43)) ∨ BW 0 q j) N Q := (f5.mono (fun q j z => Or.inl z)).trans (q2.mono (fun q j z => Or.inr z))
  have fA : Fr (fun q j => ((49 ≤ q ∧ q ≤ 51) ∨ (q = 62 ∧ j = 4) ∨ (q = 70 ∧ j = 2) ∨ (q = 177 ∧ j = 8)) ∨ ((q = 191 ∧ (j = 0 ∨ j = 43)) ∨ BW 0 q j)) M Q := (fN.mono (fun q j z => Or.inl z)).trans (fP.mono (fun q j z => Or.inr z))
  have u43 : Q.1 191 43 = 0 := by rw [(q2 191 43 (by unfold BW; omega)).1]; exact v43
  refine ⟨rfl, h'.two hX hIP.1 p1 ⟨?_, ?_, ?_, ?_, ?_, ?_⟩ (fA.mono (fun q j z => by unfold BW at z; unfold KpA; omega))⟩
  · have k := n4.fr fP (fun q j z y => by unfold CsW at z; unfold BW at y; omega)
    exact k.eq (fun w a b => ((fA 212 _ (fun y => by unfold BW at y; omega)).1).symm) (fun t a b => ⟨(q3 t a b).1.symm, (q3 t a b).2.1.symm, (q3 t a b).2.2.symm⟩) ((fA 210 0 (fun y => by unfold BW at y; omega)).2).symm ((fA 211 0 (fun y => by unfold BW at y; omega)).2).symm
  · obtain ⟨k1, k2, k3, k4⟩ := hRL.2.1
    have r7 : Q.1 207 0 = M.1 207 0 := (fA 207 0 (fun y => by unfold BW at y; omega)).1
    have r9 : Q.1 209 0 = M.1 209 0 := (fA 209 0 (fun y => by unfold BW at y; omega)).1
    have c : ∀ q j, q ≤ 69 → 62 ≤ q → ¬ (q = 62 ∧ j = 4) → Q.1 q j = M.1 q j ∧ Q.2 q j = M.2 q j := fun q j x y z => fA q j (fun y => by unfold BW at y; omega)
    refine ⟨by rw [(c 62 3 (by omega) (by omega) (by omega)).1, r7]; exact k1, ?_, by rw [(c 62 5 (by omega) (by omega) (by omega)).2, r9]; exact k3, fun y a b => ?_⟩
    · rw [(fP 62 4 (fun y => by unfold BW at y; omega)).1, v4, q4, (e5 208 0 (by omega)).1, hn]
    · rw [r7] at b
      rw [(c (62 + 1) y (by omega) (by omega) (by omega)).1, (c (62 + 2) y (by omega) (by omega) (by omega)).1, (c (62 + 3) y (by omega) (by omega) (by omega)).1, (fA 216 _ (fun y => by unfold BW at y; omega)).1, (fA 217 _ (fun y => by unfold BW at y; omega)).1, (fA 218 _ (fun y => by unfold BW at y; omega)).1]
      exact k4 y a b
  · refine past_none ?_ ?_ u43
    · rw [(fP 70 2 (fun y => by unfold BW at y; omega)).1]; exact v2
    · rw [(fA 70 1 (fun y => by unfold BW at y; omega)).1]; exact hRL.2.2.1.2.1
  · exact hRL.2.2.2.1.fr hV hR.yr.2 fA (fun q j z y => by unfold CsW RwW ChW RgR at z; unfold BW at y; omega)
  · exact hRL.2.2.2.2.1.fr fA (fun q j z y => by unfold BW at y; omega)
  · exact CaR.zero (((fP 177 8 (fun y => by unfold BW at y; omega)).1).trans v8)
end
section
/-! ===== years ===== -/
theorem qand_mod {x : Int} : q_and x 2147483647 = x % 2147483648 := by
  have hl := q_and_low (x := x)
  have e : (Int32.ofInt x &&& Int32.ofInt 2147483647).toBitVec.toNat = (x % 4294967296).toNat % 2147483648 := by
    rw [Int32.toBitVec_and, BitVec.toNat_and]
    have e1 : (Int32.ofInt 2147483647).toBitVec.toNat = 2 ^ 31 - 1 := by decide
    have e2 : (Int32.ofInt x).toBitVec.toNat = (x % 4294967296).toNat := by
      show (BitVec.ofInt 32 x).toNat = _
      rw [BitVec.toNat_ofInt]
      rfl
    rw [e1, e2, Nat.and_two_pow_sub_one_eq_mod]
  unfold q_and
  rw [← Int32.toInt_toBitVec, BitVec.toInt_eq_toNat_cond, e, if_pos (by omega)]
  omega
theorem i2l_nat {e : Int} (h0 : 0 ≤ e) (h1 : e ≤ 2147483647) : (q_i2l e).toBitVec.toNat = e.toNat := by
  have t : (q_i2l e).toBitVec.toInt = e := by
    show (q_i2l e).toInt = e
    unfold q_i2l
    rw [Int32.toInt_toInt64, q_toInt_of (by unfold InR; omega)]
  have hl := (q_i2l e).toBitVec.isLt
  rw [BitVec.toInt_eq_toNat_cond] at t
  split at t <;> omega
def LC (d : Int) : Int := q_and (w32 (w32 (d * 1103515245) + 12345)) 2147483647
theorem LC_rng (d : Int) : 0 ≤ LC d ∧ LC d ≤ 2147483647 := q_and_low
theorem num_a1 (n : Nat) : (n * 1103515245 % 18446744073709551616 + 12345) % 18446744073709551616 % 2147483648 = (n * 1103515245 + 12345) % 2147483648 := by omega
theorem num_a2 (p : Int) : (w32 (w32 p + 12345)) % 2147483648 = (p + 12345) % 2147483648 := by unfold w32; omega
theorem num_c1 : (1103515245 : Int64).toBitVec.toNat = 1103515245 := by decide +kernel
theorem num_c2 : (12345 : Int64).toBitVec.toNat = 12345 := by decide +kernel
theorem num_c3 : (2147483647 : Int64).toBitVec.toNat = 2 ^ 31 - 1 := by decide +kernel
theorem num_p : (2 : Nat) ^ 64 = 18446744073709551616 ∧ (2 : Nat) ^ 31 = 2147483648 := by decide +kernel
theorem num_l (x : Int64) : ((x * 1103515245) + 12345 &&& 2147483647).toBitVec.toNat = (x.toBitVec.toNat * 1103515245 + 12345) % 2147483648 := by
  rw [Int64.toBitVec_and, BitVec.toNat_and, Int64.toBitVec_add, BitVec.toNat_add, Int64.toBitVec_mul, BitVec.toNat_mul, num_c1, num_c2, num_c3, Nat.and_two_pow_sub_one_eq_mod, num_p.1, num_p.2, num_a1]
theorem num_r (d : Int) : LC d = (d * 1103515245 + 12345) % 2147483648 := by
  unfold LC
  rw [qand_mod, num_a2]
theorem num_v (n a b m : Nat) : (((n * a + b) % m : Nat) : Int) = ((n : Int) * (a : Int) + (b : Int)) % (m : Int) := by
  rw [Int.natCast_emod, Int.natCast_add, Int.natCast_mul]
theorem num_w (n a b m : Nat) (A B Q e : Int) (hA : A = (a : Int)) (hB : B = (b : Int)) (hQ : Q = (m : Int)) (he : e = ((n : Int) * A + B) % Q) : (n * a + b) % m = e.toNat := by
  rw [he, hA, hB, hQ, ← num_v, Int.toNat_natCast]
theorem num_t {d e : Int} (h0 : 0 ≤ d) (he : e = (d * 1103515245 + 12345) % 2147483648) : (d.toNat * 1103515245 + 12345) % 2147483648 = e.toNat :=
  num_w d.toNat 1103515245 12345 2147483648 1103515245 12345 2147483648 e rfl rfl rfl (by rw [Int.toNat_of_nonneg h0]; exact he)
theorem num_e {x y : Int64} {d e : Int} (h0 : 0 ≤ d) (hx : x.toBitVec.toNat = d.toNat) (hy : y.toBitVec.toNat = e.toNat) (he : e = (d * 1103515245 + 12345) % 2147483648) : (x * 1103515245) + 12345 &&& 2147483647 = y := by
  apply Int64.toBitVec_inj.mp
  apply BitVec.eq_of_toNat_eq
  exact (num_l x).trans ((congrArg (fun t => (t * 1103515245 + 12345) % 2147483648) hx).trans ((num_t h0 he).trans hy.symm))
theorem num_eq {d : Int} (h0 : 0 ≤ d) (h1 : d ≤ 2147483647) : ((q_i2l d * 1103515245) + 12345) &&& 2147483647 = q_i2l (LC d) :=
  num_e h0 (i2l_nat h0 h1) (i2l_nat (LC_rng d).1 (LC_rng d).2) (num_r d)
theorem num_val {e : Int} (h0 : 0 ≤ e) (h1 : e ≤ 2147483647) : q_l2i (q_lushr (q_i2l e) 16) = e / 65536 := by
  unfold q_l2i
  rw [← Int32.toInt_toBitVec, Int64.toBitVec_toInt32, lushr_bv (by omega) (by omega), BitVec.signExtend_eq_setWidth_of_le _ (by decide)]
  have e1 : (((q_i2l e).toBitVec >>> (16 : Int).toNat).setWidth 32).toNat = e.toNat / 65536 := by
    rw [BitVec.toNat_setWidth, BitVec.toNat_ushiftRight, i2l_nat h0 h1]
    show (e.toNat >>> 16) % 2 ^ 32 = _
    rw [Nat.shiftRight_eq_div_pow]
    omega
  rw [BitVec.toInt_eq_toNat_cond, e1, if_pos (by omega)]
  omega
theorem c_number {M : Mem} {k0 : Nat} {d : Int} (h0 : 0 ≤ d) (h1 : d ≤ 2147483647) (h : M.2 k0 5 = q_i2l d) : t_Chronicle_number M k0 = (setL M k0 5 (q_i2l (LC d)), LC d / 65536) := by
  unfold t_Chronicle_number
  simp (config := { proj := false }) only [qlet]
  rw [h, num_eq h0 h1, sL_self, num_val (LC_rng d).1 (LC_rng d).2]
theorem m_drawn {M : Mem} {b d : Int} (hd : M.1 209 0 = d) (hb : 0 < b ∧ b ≤ 4) : t_MO_draw M b = some (setI M 209 0 (LC d), LC d / 65536 % b) := by
  have hl := LC_rng d
  unfold t_MO_draw
  simp (config := { proj := false }) only [qlet]
  rw [if_neg (show ¬ b = 0 by omega), hd]
  show some (setI M 209 0 (LC d), q_rem (q_shr ((setI M 209 0 (LC d)).1 209 0) 16) b) = _
  rw [sI_self, q_shr16 (show InR (LC d) by unfold InR; omega), q_rem_nn (by unfold InR; omega) (by unfold InR; omega) (by omega) hb.1]
def yrW (V : TV) (d : Int) : Int := LC d / 65536 % V 0 2
def yrN (d : Int) : Int := LC (LC d) / 65536 % 4
abbrev YS : Type := Int × (Int → Int) × Int64
def yrS (V : TV) (nets : Int64) (wl : Int → Bool) (s : YS) : YS := if V 0 2 ≤ 0 then s else (LC (LC s.1), upA s.2.1 (yrW V s.1) (yrN s.1), flS (nxV V (upA s.2.1 (yrW V s.1) (yrN s.1)) nets wl) s.2.2 (cellsV V).toNat)
def yrE (V : TV) (s : YS) : Int × Int × Int := if V 0 2 ≤ 0 then (-2, -2, -2) else (yrW V s.1, yrN s.1, s.2.1 (yrW V s.1))
def yrI (V : TV) (nets : Int64) (wl : Int → Bool) : Nat → YS → YS
  | 0, s => s
  | n + 1, s => yrI V nets wl n (yrS V nets wl s)
theorem yrS_rng {V : TV} {nets : Int64} {wl : Int → Bool} {s : YS} (h : 0 ≤ s.1 ∧ s.1 ≤ 2147483647) : 0 ≤ (yrS V nets wl s).1 ∧ (yrS V nets wl s).1 ≤ 2147483647 := by
  unfold yrS
  by_cases c : V 0 2 ≤ 0
  · rw [if_pos c]; exact h
  · rw [if_neg c]; exact LC_rng _
theorem yrW_rng {V : TV} (hV : VOK V) (c : ¬ V 0 2 ≤ 0) (d : Int) : 0 ≤ yrW V d ∧ yrW V d < V 0 2 := by
  unfold yrW
  exact ⟨Int.emod_nonneg _ (by omega), Int.emod_lt_of_pos _ (by omega)⟩
def YfW (y : Int) : Nat → Int → Prop := fun q j => (q = 62 ∧ j = 3) ∨ ((q = 63 ∨ q = 64 ∨ q = 65) ∧ j = y)
theorem c_goFin {K : Mem} {T : Nat} {V : TV} {D A S L : Int → Int} {nets wat : Int64} {wl : Int → Bool} {y : Int} (h : CScF K 47 V D A S L nets wat wl) (hy : K.1 62 3 = y) (h0 : 0 ≤ y) (h1 : y < 99) (a b c : Int) : ∃ N, t_Chronicle_goOn_L61 62 T 47 K a b c = some N ∧ Fr (YfW y) K N ∧ CScF N 47 V D A S L nets wat wl ∧ N.1 62 3 = y + 1 ∧ N.1 63 y = a ∧ N.1 64 y = b ∧ N.1 65 y = c := by
  have p1 : t_WF_put K (62 + 1) 99 (K.1 62 3) a = setI K 63 y a := by rw [hy]; exact put_in h0 (by omega)
  have g1 : (setI K 63 y a).1 62 3 = y := by rw [sI_ne (by omega)]; exact hy
  have p2 : t_WF_put (setI K 63 y a) (62 + 2) 99 ((setI K 63 y a).1 62 3) b = setI (setI K 63 y a) 64 y b := by rw [g1]; exact put_in h0 (by omega)
  have g2 : (setI (setI K 63 y a) 64 y b).1 62 3 = y := by rw [sI_ne (by omega)]; exact g1
  have p3 : t_WF_put (setI (setI K 63 y a) 64 y b) (62 + 3) 99 ((setI (setI K 63 y a) 64 y b).1 62 3) c = setI (setI (setI K 63 y a) 64 y b) 65 y c := by rw [g2]; exact put_in h0 (by omega)
  have g3 : (setI (setI (setI K 63 y a) 64 y b) 65 y c).1 62 3 = y := by rw [sI_ne (by omega)]; exact g2
  have hF : Fr (YfW y) K (setI (setI (setI (setI K 63 y a) 64 y b) 65 y c) 62 3 (y + 1)) := (((Fr.rf.setI (by unfold YfW; omega)).setI (by unfold YfW; omega)).setI (by unfold YfW; omega)).setI (by unfold YfW; omega)
  refine ⟨setI (setI (setI (setI K 63 y a) 64 y b) 65 y c) 62 3 (y + 1), ?_, hF, h.fr hF (fun q j z x => by unfold CsW at z; unfold YfW at x; omega), sI_self _ _ _ _, ?_, ?_, ?_⟩
  · unfold t_Chronicle_goOn_L61
    simp (config := { proj := false }) only [qlet]
    rw [p1, p2, p3, g3, w32_id (by unfold InR; omega)]
  · rw [sI_ne (by omega), sI_ne (by omega), sI_ne (by omega), sI_self]
  · rw [sI_ne (by omega), sI_ne (by omega), sI_self]
  · rw [sI_ne (by omega), sI_self]
def YcW (y : Int) : Nat → Int → Prop := fun q j => q = 48 ∨ (q = 47 ∧ j = 6) ∨ (q = 62 ∧ (j = 3 ∨ j = 5)) ∨ ((q = 63 ∨ q = 64 ∨ q = 65) ∧ y ≤ j)
theorem c_goOn {M : Mem} {T : Nat} {V : TV} {s : YS} {A S L : Int → Int} {nets : Int64} {wl : Int → Bool} {y : Int} (hV : VOK V) (hT : T = 2 ∨ T = 22) (hX : CT0 M T V ∧ CTs M T V) (h : CScF M 47 V s.2.1 A S L nets s.2.2 wl) (hd : 0 ≤ s.1 ∧ s.1 ≤ 2147483647) (h5 : M.2 62 5 = q_i2l s.1) (hy : M.1 62 3 = y) (h0 : 0 ≤ y) (h1 : y < 99) :
    ∃ N, t_Chronicle_goOn M 62 T 47 = some N ∧ Fr (YcW y) M N ∧ CScF N 47 V (yrS V nets wl s).2.1 A S L nets (yrS V nets wl s).2.2 wl ∧ N.2 62 5 = q_i2l (yrS V nets wl s).1 ∧ N.1 62 3 = y + 1 ∧ N.1 63 y = (yrE V s).1 ∧ N.1 64 y = (yrE V s).2.1 ∧ N.1 65 y = (yrE V s).2.2 := by
  have hv := hV.1
  have e14 : M.1 T 14 = V 0 2 := hX.1.1.2.2.1
  by_cases c : V 0 2 ≤ 0
  · obtain ⟨N, n1, n2, n3, n4, n5, n6, n7⟩ := c_goFin (T := T) h hy h0 h1 (-2) (-2) (-2)
    have eS : yrS V nets wl s = s := if_pos c
    have eE : yrE V s = (-2, -2, -2) := if_pos c
    rw [eS, eE]
    refine ⟨N, ?_, n2.mono (fun q j z => by unfold YfW at z; unfold YcW; omega), n3, ?_, n4, n5, n6, n7⟩
    · unfold t_Chronicle_goOn
      rw [e14, if_pos c]
      exact n1
    · rw [(n2 62 5 (by unfold YfW; omega)).2]; exact h5
  · have eS : yrS V nets wl s = (LC (LC s.1), upA s.2.1 (yrW V s.1) (yrN s.1), flS (nxV V (upA s.2.1 (yrW V s.1) (yrN s.1)) nets wl) s.2.2 (cellsV V).toNat) := if_neg c
    have eE : yrE V s = (yrW V s.1, yrN s.1, s.2.1 (yrW V s.1)) := if_neg c
    have l1 := LC_rng s.1
    have l2 := LC_rng (LC s.1)
    have hw := yrW_rng hV c s.1
    rw [eS, eE]
    have a1 := c_number (k0 := 62) hd.1 hd.2 h5
    have a2 := c_number (M := setL M 62 5 (q_i2l (LC s.1))) (k0 := 62) l1.1 l1.2 (sL_self _ _ _ _)
    have r1 : q_rem (LC s.1 / 65536) (V 0 2) = yrW V s.1 := q_rem_nn (by unfold InR; omega) (by unfold InR; omega) (by omega) (by omega)
    have r2 : q_rem (LC (LC s.1) / 65536) 4 = yrN s.1 := q_rem_nn (by unfold InR; omega) (by unfold InR; omega) (by omega) (by omega)
    have f2 : Fr (fun q j => q = 62 ∧ j = 5) M (setL (setL M 62 5 (q_i2l (LC s.1))) 62 5 (q_i2l (LC (LC s.1)))) := (Fr.rf.setL ⟨rfl, rfl⟩).setL ⟨rfl, rfl⟩
    have v5 : (setL (setL M 62 5 (q_i2l (LC s.1))) 62 5 (q_i2l (LC (LC s.1)))).2 62 5 = q_i2l (LC (LC s.1)) := sL_self _ _ _ _
    have g14 : (setL M 62 5 (q_i2l (LC s.1))).1 T 14 = V 0 2 := e14
    have body : t_Chronicle_goOn M 62 T 47 = obind (t_Scene_pourAnew (t_WF_put (setL (setL M 62 5 (q_i2l (LC s.1))) 62 5 (q_i2l (LC (LC s.1)))) (47 + 1) 4 (yrW V s.1) (yrN s.1)) 47 T) fun q13 => t_Chronicle_goOn_L61 62 T 47 q13 (yrW V s.1) (yrN s.1) (t_WF_look (setL (setL M 62 5 (q_i2l (LC s.1))) 62 5 (q_i2l (LC (LC s.1)))) (47 + 1) 4 (yrW V s.1)) := by
      unfold t_Chronicle_goOn
      rw [e14, if_neg c, a1]
      simp (config := { proj := false }) only [qlet]
      dsimp only
      rw [a2]
      dsimp only
      rw [g14, if_neg (show ¬ V 0 2 = 0 by omega), r1, r2]
    rw [body]
    generalize setL (setL M 62 5 (q_i2l (LC s.1))) 62 5 (q_i2l (LC (LC s.1))) = M2 at *
    have h2 := h.fr f2 (fun q j z x => by unfold CsW at z; omega)
    have lk : t_WF_look M2 (47 + 1) 4 (yrW V s.1) = s.2.1 (yrW V s.1) := by rw [look_in hw.1 (by omega)]; exact h2.1 _ hw.1 hw.2
    have pt : t_WF_put M2 (47 + 1) 4 (yrW V s.1) (yrN s.1) = setI M2 48 (yrW V s.1) (yrN s.1) := put_in hw.1 (by omega)
    rw [lk, pt]
    have f3 : Fr (fun q j => q = 48 ∧ j = yrW V s.1) M2 (setI M2 48 (yrW V s.1) (yrN s.1)) := Fr.rf.setI ⟨rfl, rfl⟩
    have s3 : CScF (setI M2 48 (yrW V s.1) (yrN s.1)) 47 V (upA s.2.1 (yrW V s.1) (yrN s.1)) A S L nets s.2.2 wl := by
      obtain ⟨b1, b2, b3, b4, b5⟩ := h2
      refine ⟨fun w x z => ?_, fun t x z => ?_, b3, b4, b5⟩
      · by_cases e : w = yrW V s.1
        · rw [e, upA_self]; exact sI_self _ _ _ _
        · rw [upA_ne _ e, (f3 (47 + 1) w (by omega)).1]; exact b1 w x z
      · rw [(f3 (47 + 2) t (by omega)).1, (f3 (47 + 3) t (by omega)).1, (f3 (47 + 4) t (by omega)).1]; exact b2 t x z
    have f23 : Fr (fun q j => (q = 62 ∧ j = 5) ∨ (q = 48 ∧ j = yrW V s.1)) M (setI M2 48 (yrW V s.1) (yrN s.1)) := (f2.mono (fun q j z => Or.inl z)).trans (f3.mono (fun q j z => Or.inr z))
    have v5' : (setI M2 48 (yrW V s.1) (yrN s.1)).2 62 5 = q_i2l (LC (LC s.1)) := v5
    generalize setI M2 48 (yrW V s.1) (yrN s.1) = M3 at *
    have X3 : CT0 M3 T V ∧ CTs M3 T V := ⟨CT0.fr f23 (fun q j x y z => by omega) hX.1, CTs.fr f23 (fun q j x y z => by omega) hX.2⟩
    obtain ⟨M4, m1, m2, m3⟩ := c_flood hV hT (by omega) X3 s3
    have f4 : Fr (fun q j => ((q = 62 ∧ j = 5) ∨ (q = 48 ∧ j = yrW V s.1)) ∨ PoW 47 q j) M M4 := (f23.mono (fun q j z => Or.inl z)).trans (m3.mono (fun q j z => Or.inr z))
    have y4 : M4.1 62 3 = y := by rw [(f4 62 3 (by unfold PoW; omega)).1]; exact hy
    have w5 : M4.2 62 5 = q_i2l (LC (LC s.1)) := by rw [(m3 62 5 (by unfold PoW; omega)).2]; exact v5'
    obtain ⟨N, n1, n2, n3, n4, n5, n6, n7⟩ := c_goFin (T := T) m2 y4 h0 h1 (yrW V s.1) (yrN s.1) (s.2.1 (yrW V s.1))
    rw [m1, obind_some]
    refine ⟨N, n1, (f4.mono (fun q j z => by unfold PoW at z; unfold YcW; omega)).trans (n2.mono (fun q j z => by unfold YfW at z; unfold YcW; omega)), n3, ?_, n4, n5, n6, n7⟩
    rw [(n2 62 5 (by unfold YfW; omega)).2]; exact w5
def yeE (x1 : Int) (M : Mem) : Option (Mem × Int) := if x1 ≤ 0 then some (M, M.1 62 3) else some (setI (setI M 70 2 0) 177 8 0, (setI (setI M 70 2 0) 177 8 0).1 62 3)
theorem c_years_loop {M0 : Mem} {x1 : Int} {T : Nat} {V : TV} {A S L : Int → Int} {nets : Int64} {wl : Int → Bool} (hV : VOK V) (hT : T = 2 ∨ T = 22) (hX : CT0 M0 T V ∧ CTs M0 T V) (hT0 : (M0.1 0 4).toNat = T) (h2 : x1 ≤ 99) : ∀ (n fu : Nat) (M : Mem) (s : YS) (v y y0 : Int), v + (n : Int) = x1 → 0 ≤ v → n < fu → 0 ≤ y0 → y0 ≤ y → y + (n : Int) ≤ 99 → Fr (YcW y0) M0 M → CScF M 47 V s.2.1 A S L nets s.2.2 wl → (0 ≤ s.1 ∧ s.1 ≤ 2147483647) → M.2 62 5 = q_i2l s.1 → M.1 62 3 = y →
    ∃ N, t_WF_years_L28 x1 fu M v = yeE x1 N ∧ Fr (YcW y0) M0 N ∧ Fr (YcW y) M N ∧ CScF N 47 V (yrI V nets wl n s).2.1 A S L nets (yrI V nets wl n s).2.2 wl ∧ N.2 62 5 = q_i2l (yrI V nets wl n s).1 ∧ N.1 62 3 = y + (n : Int) ∧ ∀ i : Nat, i < n → N.1 63 (y + (i : Int)) = (yrE V (yrI V nets wl i s)).1 ∧ N.1 64 (y + (i : Int)) = (yrE V (yrI V nets wl i s)).2.1 ∧ N.1 65 (y + (i : Int)) = (yrE V (yrI V nets wl i s)).2.2 := by
  intro n
  induction n with
  | zero =>
    intro fu M s v y y0 g0 g1 g2 a1 a2 a3 hF h hd h5 hy
    obtain ⟨g, rfl⟩ : ∃ g, fu = g + 1 := ⟨fu - 1, by omega⟩
    rw [t_WF_years_L28, if_pos (by omega)]
    exact ⟨M, rfl, hF, Fr.rf, h, h5, by omega, fun i hi => by omega⟩
  | succ n ih =>
    intro fu M s v y y0 g0 g1 g2 a1 a2 a3 hF h hd h5 hy
    obtain ⟨g, rfl⟩ : ∃ g, fu = g + 1 := ⟨fu - 1, by omega⟩
    have hX' : CT0 M T V ∧ CTs M T V := ⟨CT0.fr hF (fun q j x y z => by unfold YcW at z; omega) hX.1, CTs.fr hF (fun q j x y z => by unfold YcW at z; omega) hX.2⟩
    have eT : (M.1 0 4).toNat = T := by rw [(hF 0 4 (by unfold YcW; omega)).1]; exact hT0
    rw [t_WF_years_L28, if_neg (by omega), eT, w32_id (x := v + 1) (by unfold InR; omega)]
    obtain ⟨K, k1, k2, k3, k4, k5, k6, k7, k8⟩ := c_goOn hV hT hX' h hd h5 hy (by omega) (by omega)
    rw [k1, obind_some]
    have k2' : Fr (YcW y0) M K := k2.mono (fun q j z => by unfold YcW at z ⊢; omega)
    obtain ⟨N, n1, n2, n3, n4, n5, n6, n7⟩ := ih g K (yrS V nets wl s) (v + 1) (y + 1) y0 (by omega) (by omega) (by omega) a1 (by omega) (by omega) (hF.trans k2') k3 (yrS_rng hd) k4 k5
    refine ⟨N, n1, n2, k2.trans (n3.mono (fun q j z => by unfold YcW at z ⊢; omega)), n4, n5, by omega, fun i hi => ?_⟩
    cases i with
    | zero =>
      have e0 : y + ((0 : Nat) : Int) = y := by omega
      rw [e0, (n3 63 y (by unfold YcW; omega)).1, (n3 64 y (by unfold YcW; omega)).1, (n3 65 y (by unfold YcW; omega)).1]
      exact ⟨k6, k7, k8⟩
    | succ i =>
      have e1 : y + ((i + 1 : Nat) : Int) = y + 1 + (i : Int) := by omega
      rw [e1]
      exact n7 i (by omega)
end
