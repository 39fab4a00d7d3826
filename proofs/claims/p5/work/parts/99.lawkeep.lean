/-! ===== what the law keeps, call by call (printed by lawgen4.py) -/
def TPt (M : Mem) : Prop := (M.1 0 4 = 2 ∧ M.1 0 5 = 22) ∨ (M.1 0 4 = 22 ∧ M.1 0 5 = 2)
def TpE (M : Mem) : Prop := ∀ j, 0 ≤ j → j < M.1 0 1 → M.1 1 j = M.1 192 j
def FE (M : Mem) : Prop := M.1 0 2 = M.1 191 26 ∧ M.1 0 3 = M.1 191 27
def LI (M : Mem) : Prop := IM M ∧ (∃ V, RI M V ∧ CTx M (M.1 0 4).toNat V) ∧ TInv M ∧ TPt M ∧ M.1 0 1 = M.1 191 2 ∧ TpE M ∧ FE M
def CkW : Nat → Int → Prop := fun k j => (k < 191 ∨ k = 231) ∧ k ≠ 1 ∧ ¬ (k = 0 ∧ 1 ≤ j ∧ j ≤ 5) ∧ (k ≤ 1 ∨ 42 ≤ k ∨ k = 15 ∨ k = 20 ∨ k = 35 ∨ k = 40)
def MkW : Nat → Int → Prop := fun k j => 191 ≤ k ∧ k ≠ 192 ∧ ¬ (k = 191 ∧ (j = 2 ∨ j = 26 ∨ j = 27))
theorem ok_mono {α : Type} {P Q : α → Prop} {x : Option α} (h : Ok P x) (g : ∀ r, P r → Q r) : Ok Q x := by
  obtain ⟨r, e, hr⟩ := h
  exact ⟨r, e, g r hr⟩
theorem TpE.fr {W : Nat → Int → Prop} {M N : Mem} (h : TpE M) (hF : Fr W M N) (hd : ∀ k j, (k = 1 ∨ k = 192 ∨ (k = 0 ∧ j = 1)) → ¬ W k j) : TpE N := by
  unfold TpE
  rw [(hF 0 1 (hd _ _ (by omega))).1]
  intro j a b
  rw [(hF 1 j (hd _ _ (by omega))).1, (hF 192 j (hd _ _ (by omega))).1]
  exact h j a b
theorem FE.fr {W : Nat → Int → Prop} {M N : Mem} (h : FE M) (hF : Fr W M N) (hd : ∀ k j, ((k = 0 ∧ (j = 2 ∨ j = 3)) ∨ (k = 191 ∧ (j = 26 ∨ j = 27))) → ¬ W k j) : FE N := by
  unfold FE
  rw [(hF 0 2 (hd _ _ (by omega))).1, (hF 0 3 (hd _ _ (by omega))).1, (hF 191 26 (hd _ _ (by omega))).1, (hF 191 27 (hd _ _ (by omega))).1]
  exact h
theorem LI.T {M : Mem} (h : LI M) : M.1 0 4 = (((M.1 0 4).toNat : Nat) : Int) ∧ ((M.1 0 4).toNat = 2 ∨ (M.1 0 4).toNat = 22) := by
  have := h.2.2.2.1
  unfold TPt at this
  omega
theorem LI.cls {M N : Mem} (h : LI M) (hI : IM N) (hF : Fr CkW M N) : LI N := by
  have hT := h.T
  obtain ⟨h1, ⟨V, h2, hX⟩, h3, h4, h5, h6, h7⟩ := h
  have e : ∀ k j, ¬ CkW k j → N.1 k j = M.1 k j := fun k j z => (hF k j z).1
  have e1 := e 0 1 (by unfold CkW; omega)
  have e4 := e 0 4 (by unfold CkW; omega)
  have e5 := e 0 5 (by unfold CkW; omega)
  have e2 := e 191 2 (by unfold CkW; omega)
  refine ⟨hI, ⟨V, h2.fr hF (fun k j a z => by unfold RIc at a; unfold CkW at z; omega), ?_⟩, h3.fr hF (fun k j a z => by unfold CkW at z; omega), ?_, by omega, h6.fr hF (fun k j a z => by unfold CkW at z; omega), h7.fr hF (fun k j a z => by unfold CkW at z; omega)⟩
  · rw [e4]
    exact hX.fr hF (fun k j a z => by unfold CxW at a; unfold CkW at z; omega)
  · unfold TPt
    rw [e4, e5]
    exact h4
theorem LI.ref {M N : Mem} {V : TV} (h : LI M) (hI : IM N) (hR : RI N V) (hX : CTx M (M.1 0 4).toNat V) (hF : Fr MkW M N) : LI N := by
  have hT := h.T
  obtain ⟨h1, -, h3, h4, h5, h6, h7⟩ := h
  have e : ∀ k j, ¬ MkW k j → N.1 k j = M.1 k j := fun k j z => (hF k j z).1
  have e1 := e 0 1 (by unfold MkW; omega)
  have e4 := e 0 4 (by unfold MkW; omega)
  have e5 := e 0 5 (by unfold MkW; omega)
  have e2 := e 191 2 (by unfold MkW; omega)
  refine ⟨hI, ⟨V, hR, ?_⟩, h3.fr hF (fun k j a z => by unfold MkW at z; omega), ?_, by omega, h6.fr hF (fun k j a z => by unfold MkW at z; omega), h7.fr hF (fun k j a z => by unfold MkW at z; omega)⟩
  · rw [e4]
    exact hX.fr hF (fun k j a z => by unfold CxW at a; unfold MkW at z; omega)
  · unfold TPt
    rw [e4, e5]
    exact h4

theorem lr_fault {M : Mem} {x1 : Int} (h : LI M) (hx1 : InR x1) : LI (t_MO_fault M x1).1 := by
  obtain ⟨V, hV, hX⟩ := h.2.1
  exact h.ref (im_MO_fault h.1 hx1).1 (ri_fault hV x1) hX (fr_MO_fault (W := MkW) (M0 := M) (fun k j z => by unfold W_MO_fault at z; unfold MkW; omega) Fr.rf)
theorem lr_named {M : Mem} {x1 : Int} {x2 : Int} (h : LI M) (hx1 : InR x1) (hx2 : InR x2) : Ok (fun r => LI r.1) (t_MO_named M x1 x2) := by
  obtain ⟨V, hV, hX⟩ := h.2.1
  exact ok_mono (ok_and (ok_and (ri_named hV x1 x2) (im_MO_named h.1 hx1 hx2)) (fr_MO_named (W := MkW) (M0 := M) (fun k j z => by unfold W_MO_named at z; unfold MkW; omega) Fr.rf)) (fun r hr => h.ref hr.1.2.1 hr.1.1 hX hr.2)
theorem lc_cell {M : Mem} {x1 : Int} {x2 : Int} (h : LI M) (hx1 : InR x1) (hx2 : InR x2) : Ok (fun r => LI r.1) (t_Law_cell M x1 x2) := by
  unfold t_Law_cell
  refine ok_bind (sf_WF_cell h.1 hx1 hx2) (fun q _ => ok_some ?_)
  by_cases a : q.1 = 0
  · rw [if_pos a]
    exact h.cls h.1.setL (Fr.rf.setL (by unfold CkW; omega))
  · rw [if_neg a]; exact h
theorem lr_cell {M : Mem} {x1 : Int} {x2 : Int} (h : LI M) (hx1 : InR x1) (hx2 : InR x2) : Ok (fun r => LI r.1) (t_MO_cell M x1 x2) := by
  obtain ⟨V, hV, hX⟩ := h.2.1
  exact ok_mono (ok_and (ok_and (ri_cell hV x1 x2) (im_MO_cell h.1 hx1 hx2)) (fr_MO_cell (W := MkW) (M0 := M) (fun k j z => by unfold W_MO_cell at z; unfold MkW; omega) Fr.rf)) (fun r hr => h.ref hr.1.2.1 hr.1.1 hX hr.2)
theorem lc_ward {M : Mem} {x1 : Int} {x2 : Int} (h : LI M) (hx1 : InR x1) (hx2 : InR x2) : Ok (fun r => LI r.1) (t_WF_ward M x1 x2) := ok_mono (ok_and (sf_WF_ward h.1 hx1 hx2) (fr_WF_ward (W := CkW) (M0 := M) (fun k j z => by unfold W_WF_ward at z; unfold CkW; have := h.T; omega) h.T.1 (by unfold CkW; omega) Fr.rf)) (fun r hr => h.cls hr.1.1 hr.2)
theorem lr_ward {M : Mem} {x1 : Int} {x2 : Int} (h : LI M) (hx1 : InR x1) (hx2 : InR x2) : Ok (fun r => LI r.1) (t_MO_ward M x1 x2) := by
  obtain ⟨V, hV, hX⟩ := h.2.1
  exact ok_mono (ok_and (ok_and (ri_ward hV x1 x2) (im_MO_ward h.1 hx1 hx2)) (fr_MO_ward (W := MkW) (M0 := M) (fun k j z => by unfold W_MO_ward at z; unfold MkW; omega) Fr.rf)) (fun r hr => h.ref hr.1.2.1 hr.1.1 hX hr.2)
theorem lr_thing {M : Mem} {x1 : Int} {x2 : Int} (h : LI M) (hx1 : InR x1) (hx2 : InR x2) : Ok (fun r => LI r.1) (t_MO_thing M x1 x2) := by
  obtain ⟨V, hV, hX⟩ := h.2.1
  exact ok_mono (ok_and (ok_and (ri_thing hV x1 x2) (im_MO_thing h.1 hx1 hx2)) (fr_MO_thing (W := MkW) (M0 := M) (fun k j z => by unfold W_MO_thing at z; unfold MkW; omega) Fr.rf)) (fun r hr => h.ref hr.1.2.1 hr.1.1 hX hr.2)
theorem lc_law {M : Mem} {x1 : Int} {x2 : Int} {x3 : Int} (h : LI M) (hx1 : InR x1) (hx2 : InR x2) (hx3 : InR x3) : Ok (fun r => LI r.1) (t_WF_law M x1 x2 x3) := ok_mono (ok_and (sf_WF_law h.1 hx1 hx2 hx3) (fr_WF_law (W := CkW) (M0 := M) (fun k j z => by unfold W_WF_law at z; unfold CkW; have := h.T; omega) h.T.1 (by unfold CkW; omega) Fr.rf)) (fun r hr => h.cls hr.1 hr.2)
theorem lr_law {M : Mem} {x1 : Int} {x2 : Int} {x3 : Int} (h : LI M) (hx1 : InR x1) (hx2 : InR x2) (hx3 : InR x3) : Ok (fun r => LI r.1) (t_MO_law M x1 x2 x3) := by
  obtain ⟨V, hV, hX⟩ := h.2.1
  exact ok_mono (ok_and (ok_and (ri_law hV x1 x2 x3) (im_MO_law h.1 hx1 hx2 hx3)) (fr_MO_law (W := MkW) (M0 := M) (fun k j z => by unfold W_MO_law at z; unfold MkW; omega) Fr.rf)) (fun r hr => h.ref hr.1.2 hr.1.1 hX hr.2)
theorem lc_rest {M : Mem} {x1 : Int} (h : LI M) (hx1 : InR x1) : Ok (fun r => LI r.1) (t_WF_rest M x1) := ok_mono (ok_and (sf_WF_rest h.1 hx1) (fr_WF_rest (W := CkW) (M0 := M) (fun k j z => by unfold W_WF_rest at z; unfold CkW; have := h.T; omega) Fr.rf)) (fun r hr => h.cls hr.1.1 hr.2)
theorem lr_rest {M : Mem} {x1 : Int} (h : LI M) (hx1 : InR x1) : Ok (fun r => LI r.1) (t_MO_rest M x1) := by
  obtain ⟨V, hV, hX⟩ := h.2.1
  exact ok_mono (ok_and (ok_and (ri_rest hV x1) (im_MO_rest h.1 hx1)) (fr_MO_rest (W := MkW) (M0 := M) (fun k j z => by unfold W_MO_rest at z; unfold MkW; omega) Fr.rf)) (fun r hr => h.ref hr.1.2.1 hr.1.1 hX hr.2)
theorem lc_way {M : Mem} {x1 : Int} {x2 : Int} (h : LI M) (hx1 : InR x1) (hx2 : InR x2) : Ok (fun r => LI r.1) (t_WF_way M x1 x2) := ok_mono (ok_and (sf_WF_way h.1 hx1 hx2) (fr_WF_way (W := CkW) (M0 := M) (fun k j z => by unfold W_WF_way at z; unfold CkW; have := h.T; omega) Fr.rf)) (fun r hr => h.cls hr.1.1 hr.2)
theorem lr_way {M : Mem} {x1 : Int} {x2 : Int} (h : LI M) (hx1 : InR x1) (hx2 : InR x2) : Ok (fun r => LI r.1) (t_MO_way M x1 x2) := by
  obtain ⟨V, hV, hX⟩ := h.2.1
  exact ok_mono (ok_and (ok_and (ri_way hV hx2) (im_MO_way h.1 hx1 hx2)) (fr_MO_way (W := MkW) (M0 := M) (fun k j z => by unfold W_MO_way at z; unfold MkW; omega) Fr.rf)) (fun r hr => h.ref hr.1.2.1 hr.1.1 hX hr.2)
theorem lc_falls {M : Mem} {x1 : Int} {x2 : Int} (h : LI M) (hx1 : InR x1) (hx2 : InR x2) : Ok (fun r => LI r.1) (t_WF_falls M x1 x2) := ok_mono (ok_and (sf_WF_falls h.1 hx1 hx2) (fr_WF_falls (W := CkW) (M0 := M) (fun k j z => by unfold W_WF_falls at z; unfold CkW; have := h.T; omega) Fr.rf)) (fun r hr => h.cls hr.1.1 hr.2)
theorem lr_falls {M : Mem} {x1 : Int} {x2 : Int} (h : LI M) (hx1 : InR x1) (hx2 : InR x2) : Ok (fun r => LI r.1) (t_MO_falls M x1 x2) := by
  obtain ⟨V, hV, hX⟩ := h.2.1
  exact ok_mono (ok_and (ok_and (ri_falls hV x1 x2) (im_MO_falls h.1 hx1 hx2)) (fr_MO_falls (W := MkW) (M0 := M) (fun k j z => by unfold W_MO_falls at z; unfold MkW; omega) Fr.rf)) (fun r hr => h.ref hr.1.2.1 hr.1.1 hX hr.2)
theorem lc_beats {M : Mem} {x1 : Int} (h : LI M) (hx1 : InR x1) : Ok (fun r => LI r.1) (t_WF_beats M x1) := ok_mono (ok_and (sf_WF_beats h.1 hx1) (fr_WF_beats (W := CkW) (M0 := M) (fun k j z => by unfold W_WF_beats at z; unfold CkW; have := h.T; omega) Fr.rf)) (fun r hr => h.cls hr.1.1 hr.2)
theorem lr_beats {M : Mem} {x1 : Int} (h : LI M) (hx1 : InR x1) : Ok (fun r => LI r.1) (t_MO_beats M x1) := by
  obtain ⟨V, hV, hX⟩ := h.2.1
  exact ok_mono (ok_and (ok_and (ri_beats hV x1) (im_MO_beats h.1 hx1)) (fr_MO_beats (W := MkW) (M0 := M) (fun k j z => by unfold W_MO_beats at z; unfold MkW; omega) Fr.rf)) (fun r hr => h.ref hr.1.2.1 hr.1.1 hX hr.2)
theorem lc_vote {M : Mem} {x1 : Int} {x2 : Int} (h : LI M) (hx1 : InR x1) (hx2 : InR x2) : Ok (fun r => LI r.1) (t_WF_vote M x1 x2) := ok_mono (ok_and (sf_WF_vote h.1 hx1 hx2) (fr_WF_vote (W := CkW) (M0 := M) (fun k j z => by unfold W_WF_vote at z; unfold CkW; have := h.T; omega) Fr.rf)) (fun r hr => h.cls hr.1.1 hr.2)
theorem lr_vote {M : Mem} {x1 : Int} {x2 : Int} (h : LI M) (hx1 : InR x1) (hx2 : InR x2) : Ok (fun r => LI r.1) (t_MO_vote M x1 x2) := by
  obtain ⟨V, hV, hX⟩ := h.2.1
  exact ok_mono (ok_and (ok_and (ri_vote hV x1 x2) (im_MO_vote h.1 hx1 hx2)) (fr_MO_vote (W := MkW) (M0 := M) (fun k j z => by unfold W_MO_vote at z; unfold MkW; omega) Fr.rf)) (fun r hr => h.ref hr.1.2.1 hr.1.1 hX hr.2)
theorem lc_net {M : Mem} {x1 : Int} {x2 : Int} (h : LI M) (hx1 : InR x1) (hx2 : InR x2) : LI (t_WF_net M x1 x2).1 := h.cls (sf_WF_net h.1 hx1 hx2).1 (fr_WF_net (W := CkW) (M0 := M) (fun k j z => by unfold W_WF_net at z; unfold CkW; have := h.T; omega) Fr.rf)
theorem lr_net {M : Mem} {x1 : Int} {x2 : Int} (h : LI M) (hx1 : InR x1) (hx2 : InR x2) : Ok (fun r => LI r.1) (t_MO_net M x1 x2) := by
  obtain ⟨V, hV, hX⟩ := h.2.1
  exact ok_mono (ok_and (ok_and (ri_net hV x1 x2) (im_MO_net h.1 hx1 hx2)) (fr_MO_net (W := MkW) (M0 := M) (fun k j z => by unfold W_MO_net at z; unfold MkW; omega) Fr.rf)) (fun r hr => h.ref hr.1.2.1 hr.1.1 hX hr.2)
theorem lc_lay {M : Mem} {x1 : Int} {x2 : Int} (h : LI M) (hx1 : InR x1) (hx2 : InR x2) : Ok (fun r => LI r.1) (t_WF_lay M x1 x2) := ok_mono (ok_and (sf_WF_lay h.1 hx1 hx2) (fr_WF_lay (W := CkW) (M0 := M) (fun k j z => by unfold W_WF_lay at z; unfold CkW; have := h.T; omega) Fr.rf)) (fun r hr => h.cls hr.1.1 hr.2)
theorem lr_lay {M : Mem} {x1 : Int} {x2 : Int} (h : LI M) (hx1 : InR x1) (hx2 : InR x2) : Ok (fun r => LI r.1) (t_MO_lay M x1 x2) := by
  obtain ⟨V, hV, hX⟩ := h.2.1
  exact ok_mono (ok_and (ok_and (ri_lay hV x1 x2) (im_MO_lay h.1 hx1 hx2)) (fr_MO_lay (W := MkW) (M0 := M) (fun k j z => by unfold W_MO_lay at z; unfold MkW; omega) Fr.rf)) (fun r hr => h.ref hr.1.2.1 hr.1.1 hX hr.2)
theorem lc_pour {M : Mem} {x1 : Int} {x2 : Int} (h : LI M) (hx1 : InR x1) (hx2 : InR x2) : Ok (fun r => LI r.1) (t_WF_pour M x1 x2) := ok_mono (ok_and (sf_WF_pour h.1 hx1 hx2) (fr_WF_pour (W := CkW) (M0 := M) (fun k j z => by unfold W_WF_pour at z; unfold CkW; have := h.T; omega) Fr.rf)) (fun r hr => h.cls hr.1.1 hr.2)
theorem lr_pour {M : Mem} {x1 : Int} {x2 : Int} (h : LI M) (hx1 : InR x1) (hx2 : InR x2) : Ok (fun r => LI r.1) (t_MO_pour M x1 x2) := by
  obtain ⟨V, hV, hX⟩ := h.2.1
  exact ok_mono (ok_and (ok_and (ri_pour hV x1 x2) (im_MO_pour h.1 hx1 hx2)) (fr_MO_pour (W := MkW) (M0 := M) (fun k j z => by unfold W_MO_pour at z; unfold MkW; omega) Fr.rf)) (fun r hr => h.ref hr.1.2.1 hr.1.1 hX hr.2)
theorem lc_drain {M : Mem} (h : LI M) : LI (t_WF_drain M ).1 := h.cls (sf_WF_drain h.1 ).1 (fr_WF_drain (W := CkW) (M0 := M) (fun k j z => by unfold W_WF_drain at z; unfold CkW; have := h.T; omega) Fr.rf)
theorem lr_drain {M : Mem} (h : LI M) : Ok (fun r => LI r.1) (t_MO_drain M ) := by
  obtain ⟨V, hV, hX⟩ := h.2.1
  exact ok_mono (ok_and (ok_and (ri_drain hV ) (im_MO_drain h.1 )) (fr_MO_drain (W := MkW) (M0 := M) (fun k j z => by unfold W_MO_drain at z; unfold MkW; omega) Fr.rf)) (fun r hr => h.ref hr.1.2.1 hr.1.1 hX hr.2)
theorem lc_flood {M : Mem} {x1 : Int} {x2 : Int} (h : LI M) (hx1 : InR x1) (hx2 : InR x2) : Ok (fun r => LI r.1) (t_WF_flood M x1 x2) := ok_mono (ok_and (sf_WF_flood h.1 hx1 hx2) (fr_WF_flood (W := CkW) (M0 := M) (fun k j z => by unfold W_WF_flood at z; unfold CkW; have := h.T; omega) Fr.rf)) (fun r hr => h.cls hr.1 hr.2)
theorem lr_flood {M : Mem} {x1 : Int} {x2 : Int} (h : LI M) (hx1 : InR x1) (hx2 : InR x2) : Ok (fun r => LI r.1) (t_MO_flood M x1 x2) := by
  obtain ⟨V, hV, hX⟩ := h.2.1
  exact ok_mono (ok_and (ok_and (ri_flood hV x1 x2) (im_MO_flood h.1 hx1 hx2)) (fr_MO_flood (W := MkW) (M0 := M) (fun k j z => by unfold W_MO_flood at z; unfold MkW; omega) Fr.rf)) (fun r hr => h.ref hr.1.2 hr.1.1 hX hr.2)
theorem lc_walk {M : Mem} {x1 : Int} {x2 : Int} (h : LI M) (hx1 : InR x1) (hx2 : InR x2) : Ok (fun r => LI r.1) (t_WF_walk M x1 x2) := ok_mono (ok_and (sf_WF_walk h.1 hx1 hx2) (fr_WF_walk (W := CkW) (M0 := M) (fun k j z => by unfold W_WF_walk at z; unfold CkW; have := h.T; omega) Fr.rf)) (fun r hr => h.cls hr.1.1 hr.2)
theorem lr_walk {M : Mem} {x1 : Int} {x2 : Int} (h : LI M) (hx1 : InR x1) (hx2 : InR x2) : Ok (fun r => LI r.1) (t_MO_walk M x1 x2) := by
  obtain ⟨V, hV, hX⟩ := h.2.1
  exact ok_mono (ok_and (ok_and (ri_walk hV x1 x2) (im_MO_walk h.1 hx1 hx2)) (fr_MO_walk (W := MkW) (M0 := M) (fun k j z => by unfold W_MO_walk at z; unfold MkW; omega) Fr.rf)) (fun r hr => h.ref hr.1.2.1 hr.1.1 hX hr.2)
theorem lc_step {M : Mem} {x1 : Int} {x2 : Int} {x3 : Int} (h : LI M) (hx1 : InR x1) (hx2 : InR x2) (hx3 : InR x3) : Ok (fun r => LI r.1) (t_WF_step M x1 x2 x3) := ok_mono (ok_and (sf_WF_step h.1 hx1 hx2 hx3) (fr_WF_step (W := CkW) (M0 := M) (fun k j z => by unfold W_WF_step at z; unfold CkW; have := h.T; omega) Fr.rf)) (fun r hr => h.cls hr.1.1 hr.2)
theorem lr_step {M : Mem} {x1 : Int} {x2 : Int} {x3 : Int} (h : LI M) (hx1 : InR x1) (hx2 : InR x2) (hx3 : InR x3) : Ok (fun r => LI r.1) (t_MO_step M x1 x2 x3) := by
  obtain ⟨V, hV, hX⟩ := h.2.1
  exact ok_mono (ok_and (ok_and (ri_step hV x1 x2 x3) (im_MO_step h.1 hx1 hx2 hx3)) (fr_MO_step (W := MkW) (M0 := M) (fun k j z => by unfold W_MO_step at z; unfold MkW; omega) Fr.rf)) (fun r hr => h.ref hr.1.2.1 hr.1.1 hX hr.2)
theorem lc_push {M : Mem} {x1 : Int} {x2 : Int} {x3 : Int} (h : LI M) (hx1 : InR x1) (hx2 : InR x2) (hx3 : InR x3) : Ok (fun r => LI r.1) (t_WF_push M x1 x2 x3) := ok_mono (ok_and (sf_WF_push h.1 hx1 hx2 hx3) (fr_WF_push (W := CkW) (M0 := M) (fun k j z => by unfold W_WF_push at z; unfold CkW; have := h.T; omega) h.T.1 (by unfold CkW; omega) Fr.rf)) (fun r hr => h.cls hr.1.1 hr.2)
theorem lr_push {M : Mem} {x1 : Int} {x2 : Int} {x3 : Int} (h : LI M) (hx1 : InR x1) (hx2 : InR x2) (hx3 : InR x3) : Ok (fun r => LI r.1) (t_MO_push M x1 x2 x3) := by
  obtain ⟨V, hV, hX⟩ := h.2.1
  exact ok_mono (ok_and (ok_and (ri_push hV x1 x2 x3) (im_MO_push h.1 hx1 hx2 hx3)) (fr_MO_push (W := MkW) (M0 := M) (fun k j z => by unfold W_MO_push at z; unfold MkW; omega) Fr.rf)) (fun r hr => h.ref hr.1.2.1 hr.1.1 hX hr.2)
theorem lc_pushed {M : Mem} {x1 : Int} {x2 : Int} {x3 : Int} (h : LI M) (hx1 : InR x1) (hx2 : InR x2) (hx3 : InR x3) : Ok (fun r => LI r.1) (t_WF_pushed M x1 x2 x3) := ok_mono (ok_and (sf_WF_pushed h.1 hx1 hx2 hx3) (fr_WF_pushed (W := CkW) (M0 := M) (fun k j z => by unfold W_WF_pushed at z; unfold CkW; have := h.T; omega) h.T.1 (by unfold CkW; omega) Fr.rf)) (fun r hr => h.cls hr.1.1 hr.2)
theorem lr_pushed {M : Mem} {x1 : Int} {x2 : Int} {x3 : Int} (h : LI M) (hx1 : InR x1) (hx2 : InR x2) (hx3 : InR x3) : Ok (fun r => LI r.1) (t_MO_pushed M x1 x2 x3) := by
  obtain ⟨V, hV, hX⟩ := h.2.1
  exact ok_mono (ok_and (ok_and (ri_pushed hV x1 x2 x3) (im_MO_pushed h.1 hx1 hx2 hx3)) (fr_MO_pushed (W := MkW) (M0 := M) (fun k j z => by unfold W_MO_pushed at z; unfold MkW; omega) Fr.rf)) (fun r hr => h.ref hr.1.2.1 hr.1.1 hX hr.2)
theorem lc_war {M : Mem} {x1 : Int} {x2 : Int} (h : LI M) (hx1 : InR x1) (hx2 : InR x2) : Ok (fun r => LI r.1) (t_WF_war M x1 x2) := ok_mono (ok_and (sf_WF_war h.1 hx1 hx2) (fr_WF_war (W := CkW) (M0 := M) (fun k j z => by unfold W_WF_war at z; unfold CkW; have := h.T; omega) Fr.rf)) (fun r hr => h.cls hr.1.1 hr.2)
theorem lr_war {M : Mem} {x1 : Int} {x2 : Int} (h : LI M) (hx1 : InR x1) (hx2 : InR x2) : Ok (fun r => LI r.1) (t_MO_war M x1 x2) := by
  obtain ⟨V, hV, hX⟩ := h.2.1
  exact ok_mono (ok_and (ok_and (ri_war hV x1 x2) (im_MO_war h.1 hx1 hx2)) (fr_MO_war (W := MkW) (M0 := M) (fun k j z => by unfold W_MO_war at z; unfold MkW; omega) Fr.rf)) (fun r hr => h.ref hr.1.2.1 hr.1.1 hX hr.2)
theorem lr_nets {M : Mem} (h : LI M) : Ok (fun r => LI r.1) (t_MO_nets M ) := by
  obtain ⟨V, hV, hX⟩ := h.2.1
  exact ok_mono (ok_and (ok_and (ri_nets hV ) (im_MO_nets h.1 )) (fr_MO_nets (W := MkW) (M0 := M) (fun k j z => by unfold W_MO_nets at z; unfold MkW; omega) Fr.rf)) (fun r hr => h.ref hr.1.2 hr.1.1 hX hr.2)
theorem lc_clock {M : Mem} {x1 : Int} (h : LI M) (hx1 : InR x1) : Ok (fun r => LI r.1) (t_WF_clock M x1) := ok_mono (ok_and (sf_WF_clock h.1 hx1) (fr_WF_clock (W := CkW) (M0 := M) (fun k j z => by unfold W_WF_clock at z; unfold CkW; have := h.T; omega) Fr.rf)) (fun r hr => h.cls hr.1.1 hr.2)
theorem lr_clock {M : Mem} {x1 : Int} (h : LI M) (hx1 : InR x1) : Ok (fun r => LI r.1) (t_MO_clock M x1) := by
  obtain ⟨V, hV, hX⟩ := h.2.1
  exact ok_mono (ok_and (ok_and (ri_clock hV x1) (im_MO_clock h.1 hx1)) (fr_MO_clock (W := MkW) (M0 := M) (fun k j z => by unfold W_MO_clock at z; unfold MkW; omega) Fr.rf)) (fun r hr => h.ref hr.1.2.1 hr.1.1 hX hr.2)
theorem lc_stays {M : Mem} (h : LI M) : Ok (fun r => LI r.1) (t_WF_stays M ) := ok_mono (ok_and (sf_WF_stays h.1 ) (fr_WF_stays (W := CkW) (M0 := M) (fun k j z => by unfold W_WF_stays at z; unfold CkW; have := h.T; omega) h.T.1 (by unfold CkW; omega) Fr.rf)) (fun r hr => h.cls hr.1.1 hr.2)
theorem lr_stays {M : Mem} (h : LI M) : Ok (fun r => LI r.1) (t_MO_stays M ) := by
  obtain ⟨V, hV, hX⟩ := h.2.1
  exact ok_mono (ok_and (ok_and (ri_stays hV ) (im_MO_stays h.1 )) (fr_MO_stays (W := MkW) (M0 := M) (fun k j z => by unfold W_MO_stays at z; unfold MkW; omega) Fr.rf)) (fun r hr => h.ref hr.1.2.1 hr.1.1 hX hr.2)
theorem lc_stay {M : Mem} {x1 : Int} (h : LI M) (hx1 : InR x1) : Ok (fun r => LI r.1) (t_WF_stay M x1) := ok_mono (ok_and (sf_WF_stay h.1 hx1) (fr_WF_stay (W := CkW) (M0 := M) (fun k j z => by unfold W_WF_stay at z; unfold CkW; have := h.T; omega) h.T.1 (by unfold CkW; omega) Fr.rf)) (fun r hr => h.cls hr.1.1 hr.2)
theorem lr_stay {M : Mem} {x1 : Int} (h : LI M) (hx1 : InR x1) : Ok (fun r => LI r.1) (t_MO_stay M x1) := by
  obtain ⟨V, hV, hX⟩ := h.2.1
  exact ok_mono (ok_and (ok_and (ri_stay hV x1) (im_MO_stay h.1 hx1)) (fr_MO_stay (W := MkW) (M0 := M) (fun k j z => by unfold W_MO_stay at z; unfold MkW; omega) Fr.rf)) (fun r hr => h.ref hr.1.2.1 hr.1.1 hX hr.2)
theorem lc_treaty {M : Mem} {x1 : Int} (h : LI M) (hx1 : InR x1) : Ok (fun r => LI r.1) (t_WF_treaty M x1) := ok_mono (ok_and (sf_WF_treaty h.1 hx1) (fr_WF_treaty (W := CkW) (M0 := M) (fun k j z => by unfold W_WF_treaty at z; unfold CkW; have := h.T; omega) h.T.1 (by unfold CkW; omega) Fr.rf)) (fun r hr => h.cls hr.1.1 hr.2)
theorem lr_treaty {M : Mem} {x1 : Int} (h : LI M) (hx1 : InR x1) : Ok (fun r => LI r.1) (t_MO_treaty M x1) := by
  obtain ⟨V, hV, hX⟩ := h.2.1
  exact ok_mono (ok_and (ok_and (ri_treaty hV x1) (im_MO_treaty h.1 hx1)) (fr_MO_treaty (W := MkW) (M0 := M) (fun k j z => by unfold W_MO_treaty at z; unfold MkW; omega) Fr.rf)) (fun r hr => h.ref hr.1.2.1 hr.1.1 hX hr.2)
theorem lc_moves {M : Mem} {x1 : Int} {x2 : Int} (h : LI M) (hx1 : InR x1) (hx2 : InR x2) : Ok (fun r => LI r.1) (t_WF_moves M x1 x2) := ok_mono (ok_and (sf_WF_moves h.1 hx1 hx2) (fr_WF_moves (W := CkW) (M0 := M) (fun k j z => by unfold W_WF_moves at z; unfold CkW; have := h.T; omega) h.T.1 (by unfold CkW; omega) Fr.rf)) (fun r hr => h.cls hr.1.1 hr.2)
theorem lr_moves {M : Mem} {x1 : Int} {x2 : Int} (h : LI M) (hx1 : InR x1) (hx2 : InR x2) : Ok (fun r => LI r.1) (t_MO_moves M x1 x2) := by
  obtain ⟨V, hV, hX⟩ := h.2.1
  exact ok_mono (ok_and (ok_and (ri_moves hV x1 x2) (im_MO_moves h.1 hx1 hx2)) (fr_MO_moves (W := MkW) (M0 := M) (fun k j z => by unfold W_MO_moves at z; unfold MkW; omega) Fr.rf)) (fun r hr => h.ref hr.1.2.1 hr.1.1 hX hr.2)
theorem lc_note {M : Mem} {x1 : Int} {x2 : Int} (h : LI M) (hx1 : InR x1) (hx2 : InR x2) : LI (t_WF_note M x1 x2).1 := h.cls (sf_WF_note h.1 hx1 hx2).1 (fr_WF_note (W := CkW) (M0 := M) (fun k j z => by unfold W_WF_note at z; unfold CkW; have := h.T; omega) Fr.rf)
theorem lr_note {M : Mem} {x1 : Int} {x2 : Int} (h : LI M) (hx1 : InR x1) (hx2 : InR x2) : Ok (fun r => LI r.1) (t_MO_note M x1 x2) := by
  obtain ⟨V, hV, hX⟩ := h.2.1
  exact ok_mono (ok_and (ok_and (ri_note hV x1 x2) (im_MO_note h.1 hx1 hx2)) (fr_MO_note (W := MkW) (M0 := M) (fun k j z => by unfold W_MO_note at z; unfold MkW; omega) Fr.rf)) (fun r hr => h.ref hr.1.2.1 hr.1.1 hX hr.2)
theorem lc_strike {M : Mem} {x1 : Int} (h : LI M) (hx1 : InR x1) : LI (t_WF_strike M x1).1 := h.cls (sf_WF_strike h.1 hx1).1 (fr_WF_strike (W := CkW) (M0 := M) (fun k j z => by unfold W_WF_strike at z; unfold CkW; have := h.T; omega) Fr.rf)
theorem lr_strike {M : Mem} {x1 : Int} (h : LI M) (hx1 : InR x1) : Ok (fun r => LI r.1) (t_MO_strike M x1) := by
  obtain ⟨V, hV, hX⟩ := h.2.1
  exact ok_mono (ok_and (ok_and (ri_strike hV x1) (im_MO_strike h.1 hx1)) (fr_MO_strike (W := MkW) (M0 := M) (fun k j z => by unfold W_MO_strike at z; unfold MkW; omega) Fr.rf)) (fun r hr => h.ref hr.1.2.1 hr.1.1 hX hr.2)
theorem lc_known {M : Mem} {x1 : Int} (h : LI M) (hx1 : InR x1) : LI (t_WF_known M x1).1 := h.cls (sf_WF_known h.1 hx1).1 (fr_WF_known (W := CkW) (M0 := M) (fun k j z => by unfold W_WF_known at z; unfold CkW; have := h.T; omega) Fr.rf)
theorem lr_known {M : Mem} {x1 : Int} (h : LI M) (hx1 : InR x1) : LI (t_MO_known M x1).1 := by
  obtain ⟨V, hV, hX⟩ := h.2.1
  exact h.ref (im_MO_known h.1 hx1).1 (ri_known hV x1) hX (fr_MO_known (W := MkW) (M0 := M) (fun k j z => by unfold W_MO_known at z; unfold MkW; omega) Fr.rf)
theorem lc_fits {M : Mem} (h : LI M) : Ok (fun r => LI r.1) (t_WF_fits M ) := ok_mono (ok_and (sf_WF_fits h.1 ) (fr_WF_fits (W := CkW) (M0 := M) (fun k j z => by unfold W_WF_fits at z; unfold CkW; have := h.T; omega) Fr.rf)) (fun r hr => h.cls hr.1.1 hr.2)
theorem lr_fits {M : Mem} (h : LI M) : Ok (fun r => LI r.1) (t_MO_fits M ) := by
  obtain ⟨V, hV, hX⟩ := h.2.1
  exact ok_mono (ok_and (ok_and (ri_fits hV ) (im_MO_fits h.1 )) (fr_MO_fits (W := MkW) (M0 := M) (fun k j z => by unfold W_MO_fits at z; unfold MkW; omega) Fr.rf)) (fun r hr => h.ref hr.1.2.1 hr.1.1 hX hr.2)
theorem lc_may {M : Mem} {x1 : Int} (h : LI M) (hx1 : InR x1) : Ok (fun r => LI r.1) (t_WF_may M x1) := ok_mono (ok_and (sf_WF_may h.1 hx1) (fr_WF_may (W := CkW) (M0 := M) (fun k j z => by unfold W_WF_may at z; unfold CkW; have := h.T; omega) Fr.rf)) (fun r hr => h.cls hr.1.1 hr.2)
theorem lr_may {M : Mem} {x1 : Int} (h : LI M) (hx1 : InR x1) : Ok (fun r => LI r.1) (t_MO_may M x1) := by
  obtain ⟨V, hV, hX⟩ := h.2.1
  exact ok_mono (ok_and (ok_and (ri_may hV x1) (im_MO_may h.1 hx1)) (fr_MO_may (W := MkW) (M0 := M) (fun k j z => by unfold W_MO_may at z; unfold MkW; omega) Fr.rf)) (fun r hr => h.ref hr.1.2.1 hr.1.1 hX hr.2)
theorem lc_years {M : Mem} {x1 : Int} (h : LI M) (hx1 : InR x1) : Ok (fun r => LI r.1) (t_WF_years M x1) := ok_mono (ok_and (sf_WF_years h.1 hx1) (fr_WF_years (W := CkW) (M0 := M) (fun k j z => by unfold W_WF_years at z; unfold CkW; have := h.T; omega) Fr.rf)) (fun r hr => h.cls hr.1.1 hr.2)
theorem lr_years {M : Mem} {x1 : Int} (h : LI M) (hx1 : InR x1) : Ok (fun r => LI r.1) (t_MO_years M x1) := by
  obtain ⟨V, hV, hX⟩ := h.2.1
  exact ok_mono (ok_and (ok_and (ri_years hV x1) (im_MO_years h.1 hx1)) (fr_MO_years (W := MkW) (M0 := M) (fun k j z => by unfold W_MO_years at z; unfold MkW; omega) Fr.rf)) (fun r hr => h.ref hr.1.2.1 hr.1.1 hX hr.2)
theorem lr_voted {M : Mem} {x1 : Int} {x2 : Int} (h : LI M) (hx1 : InR x1) (hx2 : InR x2) : Ok (fun r => LI r.1) (t_MO_voted M x1 x2) := by
  obtain ⟨V, hV, hX⟩ := h.2.1
  exact ok_mono (ok_and (ok_and (ri_voted hV x1 x2) (im_MO_voted h.1 hx1 hx2)) (fr_MO_voted (W := MkW) (M0 := M) (fun k j z => by unfold W_MO_voted at z; unfold MkW; omega) Fr.rf)) (fun r hr => h.ref hr.1.2.1 hr.1.1 hX hr.2)
theorem lc_tried {M : Mem} {x1 : Int} {x2 : Int} {x3 : Int} (h : LI M) (hx1 : InR x1) (hx2 : InR x2) (hx3 : InR x3) : Ok (fun r => LI r.1) (t_WF_tried M x1 x2 x3) := ok_mono (ok_and (sf_WF_tried h.1 hx1 hx2 hx3) (fr_WF_tried (W := CkW) (M0 := M) (fun k j z => by unfold W_WF_tried at z; unfold CkW; have := h.T; omega) Fr.rf)) (fun r hr => h.cls hr.1.1 hr.2)
theorem lr_tried {M : Mem} {x1 : Int} {x2 : Int} {x3 : Int} (h : LI M) (hx1 : InR x1) (hx2 : InR x2) (hx3 : InR x3) : Ok (fun r => LI r.1) (t_MO_tried M x1 x2 x3) := by
  obtain ⟨V, hV, hX⟩ := h.2.1
  exact ok_mono (ok_and (ok_and (ri_tried hV x1 x2 x3) (im_MO_tried h.1 hx1 hx2 hx3)) (fr_MO_tried (W := MkW) (M0 := M) (fun k j z => by unfold W_MO_tried at z; unfold MkW; omega) Fr.rf)) (fun r hr => h.ref hr.1.2.1 hr.1.1 hX hr.2)
theorem lc_undo {M : Mem} (h : LI M) : LI (t_WF_undo M ).1 := h.cls (sf_WF_undo h.1 ).1 (fr_WF_undo (W := CkW) (M0 := M) (fun k j z => by unfold W_WF_undo at z; unfold CkW; have := h.T; omega) Fr.rf)
theorem lr_undo {M : Mem} (h : LI M) : Ok (fun r => LI r.1) (t_MO_undo M ) := by
  obtain ⟨V, hV, hX⟩ := h.2.1
  exact ok_mono (ok_and (ok_and (ri_undo hV ) (im_MO_undo h.1 )) (fr_MO_undo (W := MkW) (M0 := M) (fun k j z => by unfold W_MO_undo at z; unfold MkW; omega) Fr.rf)) (fun r hr => h.ref hr.1.2.1 hr.1.1 hX hr.2)
theorem lc_keep {M : Mem} (h : LI M) : LI (t_WF_keep M ).1 := h.cls (sf_WF_keep h.1 ).1 (fr_WF_keep (W := CkW) (M0 := M) (fun k j z => by unfold W_WF_keep at z; unfold CkW; have := h.T; omega) Fr.rf)
theorem lr_keep {M : Mem} (h : LI M) : Ok (fun r => LI r.1) (t_MO_keep M ) := by
  obtain ⟨V, hV, hX⟩ := h.2.1
  exact ok_mono (ok_and (ok_and (ri_keep hV ) (im_MO_keep h.1 )) (fr_MO_keep (W := MkW) (M0 := M) (fun k j z => by unfold W_MO_keep at z; unfold MkW; omega) Fr.rf)) (fun r hr => h.ref hr.1.2.1 hr.1.1 hX hr.2)
theorem lc_back {M : Mem} (h : LI M) : LI (t_WF_back M ).1 := h.cls (sf_WF_back h.1 ).1 (fr_WF_back (W := CkW) (M0 := M) (fun k j z => by unfold W_WF_back at z; unfold CkW; have := h.T; omega) Fr.rf)
theorem lr_back {M : Mem} (h : LI M) : Ok (fun r => LI r.1) (t_MO_back M ) := by
  obtain ⟨V, hV, hX⟩ := h.2.1
  exact ok_mono (ok_and (ok_and (ri_back hV ) (im_MO_back h.1 )) (fr_MO_back (W := MkW) (M0 := M) (fun k j z => by unfold W_MO_back at z; unfold MkW; omega) Fr.rf)) (fun r hr => h.ref hr.1.2.1 hr.1.1 hX hr.2)
theorem lr_count {M : Mem} {x1 : Int} (h : LI M) (hx1 : InR x1) : Ok (fun r => LI r.1) (t_MO_count M x1) := by
  obtain ⟨V, hV, hX⟩ := h.2.1
  exact ok_mono (ok_and (ok_and (ri_count hV x1) (im_MO_count h.1 hx1)) (fr_MO_count (W := MkW) (M0 := M) (fun k j z => by unfold W_MO_count at z; unfold MkW; omega) Fr.rf)) (fun r hr => h.ref hr.1.2.1 hr.1.1 hX hr.2)
