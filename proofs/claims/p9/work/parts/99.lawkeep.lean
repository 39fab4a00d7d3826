/-! ===== what the law keeps, call by call (printed by lawgen6.py) -/
theorem lr_fault {M : Mem} {x1 : Int} (h : LI M) (hx1 : InR x1) : LI (t_MO_fault M x1).1 := by
  exact h.qm (im_MO_fault h.1 hx1).1 (fr_MO_fault (W := QmW) (M0 := M) (fun k j z => by unfold W_MO_fault at z; unfold QmW; omega) Fr.rf)
theorem lr_named {M : Mem} {x1 : Int} {x2 : Int} (h : LI M) (hx1 : InR x1) (hx2 : InR x2) : Ok (fun r => LI r.1) (t_MO_named M x1 x2) := by
  obtain ⟨V, hV, hX, hRL⟩ := h.2.1
  exact ok_mono (ok_and (ok_and (ri_named hV x1 x2) (im_MO_named h.1 hx1 hx2)) (fr_MO_named (W := QmW) (M0 := M) (fun k j z => by unfold W_MO_named at z; unfold QmW; omega) Fr.rf)) (fun r hr => h.qm hr.1.2.1 hr.2)
theorem lc_cell {M : Mem} {x1 : Int} {x2 : Int} (h : LI M) (hx1 : InR x1) (hx2 : InR x2) : Ok (fun r => LI r.1) (t_Law_cell M x1 x2) := by
  unfold t_Law_cell
  refine ok_bind (sf_WF_cell h.1 hx1 hx2) (fun q _ => ok_some ?_)
  by_cases a : q.1 = 0
  · rw [if_pos a]
    exact h.q h.1.setL (Fr.rf.setL (by unfold QkW; omega))
  · rw [if_neg a]; exact h
theorem lr_cell {M : Mem} {x1 : Int} {x2 : Int} (h : LI M) (hx1 : InR x1) (hx2 : InR x2) : Ok (fun r => LI r.1) (t_MO_cell M x1 x2) := by
  obtain ⟨V, hV, hX, hRL⟩ := h.2.1
  exact ok_mono (ok_and (ok_and (ri_cell hV x1 x2) (im_MO_cell h.1 hx1 hx2)) (fr_MO_cell (W := QmW) (M0 := M) (fun k j z => by unfold W_MO_cell at z; unfold QmW; omega) Fr.rf)) (fun r hr => h.qm hr.1.2.1 hr.2)
theorem lr_thing {M : Mem} {x1 : Int} {x2 : Int} (h : LI M) (hx1 : InR x1) (hx2 : InR x2) : Ok (fun r => LI r.1) (t_MO_thing M x1 x2) := by
  obtain ⟨V, hV, hX, hRL⟩ := h.2.1
  exact ok_mono (ok_and (ok_and (ri_thing hV x1 x2) (im_MO_thing h.1 hx1 hx2)) (fr_MO_thing (W := QmW) (M0 := M) (fun k j z => by unfold W_MO_thing at z; unfold QmW; omega) Fr.rf)) (fun r hr => h.qm hr.1.2.1 hr.2)
theorem lr_nets {M : Mem} (h : LI M) : Ok (fun r => LI r.1) (t_MO_nets M ) := by
  obtain ⟨V, hV, hX, hRL⟩ := h.2.1
  exact ok_mono (ok_and (ok_and (ri_nets hV ) (im_MO_nets h.1 )) (fr_MO_nets (W := QmW) (M0 := M) (fun k j z => by unfold W_MO_nets at z; unfold QmW; omega) Fr.rf)) (fun r hr => h.qm hr.1.2 hr.2)
theorem lr_voted {M : Mem} {x1 : Int} {x2 : Int} (h : LI M) (hx1 : InR x1) (hx2 : InR x2) : Ok (fun r => LI r.1) (t_MO_voted M x1 x2) := by
  obtain ⟨V, hV, hX, hRL⟩ := h.2.1
  exact ok_mono (ok_and (ok_and (ri_voted hV x1 x2) (im_MO_voted h.1 hx1 hx2)) (fr_MO_voted (W := QmW) (M0 := M) (fun k j z => by unfold W_MO_voted at z; unfold QmW; omega) Fr.rf)) (fun r hr => h.qm hr.1.2.1 hr.2)
theorem lr_count {M : Mem} {x1 : Int} (h : LI M) (hx1 : InR x1) : Ok (fun r => LI r.1) (t_MO_count M x1) := by
  obtain ⟨V, hV, hX, hRL⟩ := h.2.1
  exact ok_mono (ok_and (ok_and (ri_count hV x1) (im_MO_count h.1 hx1)) (fr_MO_count (W := QmW) (M0 := M) (fun k j z => by unfold W_MO_count at z; unfold QmW; omega) Fr.rf)) (fun r hr => h.qm hr.1.2.1 hr.2)
