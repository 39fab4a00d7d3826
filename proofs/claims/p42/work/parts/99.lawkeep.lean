/-! ===== what the law keeps, call by call (printed by lawgen6.py) -/
theorem lr_fault {M : Mem} {x1 : Int} (h : LI M) (hx1 : InR x1) : LI (t_MO_fault M x1).1 := by
  exact h.qm (im_MO_fault h.1 hx1).1 (fr_MO_fault (W := QmW) (M0 := M) (fun k j z => by unfold W_MO_fault at z; unfold QmW; omega) Fr.rf)
theorem lr_named {M : Mem} {x1 : Int} {x2 : Int} (h : LI M) (hx1 : InR x1) (hx2 : InR x2) : Ok (fun r => LI r.1) (t_MO_named M x1 x2) := by
  obtain ⟨V, hV, hX, hRL⟩ := h.2.1
  exact ok_mono (ok_and (ok_and (ri_named hV x1 x2) (im_MO_named h.1 hx1 hx2)) (fr_MO_named (W := QmW) (M0 := M) (fun k j z => by unfold W_MO_named at z; unfold QmW; omega) Fr.rf)) (fun r hr => h.qm hr.1.2.1 hr.2)
theorem lc_cell {M : Mem} {x1 : Int} {x2 : Int} (h : LI M) (hx1 : InR x1) (hx2 : InR x2) : Ok (fun r => LI r.1) (t_Law_cell M x1 x2) := by
  unfold t_Law_cell
  refine ok_bind (sf_WF_cell h.1 hx1 hx2) (fun q _ => ok_some ?_)
  by_cases a : q.1 = 0
  · rw [if_pos a]
    exact h.q h.1.setL (Fr.rf.setL (by unfold QkW; omega))
  · rw [if_neg a]; exact h
theorem lr_cell {M : Mem} {x1 : Int} {x2 : Int} (h : LI M) (hx1 : InR x1) (hx2 : InR x2) : Ok (fun r => LI r.1) (t_MO_cell M x1 x2) := by
  obtain ⟨V, hV, hX, hRL⟩ := h.2.1
  exact ok_mono (ok_and (ok_and (ri_cell hV x1 x2) (im_MO_cell h.1 hx1 hx2)) (fr_MO_cell (W := QmW) (M0 := M) (fun k j z => by unfold W_MO_cell at z; unfold QmW; omega) Fr.rf)) (fun r hr => h.qm hr.1.2.1 hr.2)
theorem lc_ward {M : Mem} {x1 : Int} {x2 : Int} (h : LI M) (hx1 : InR x1) (hx2 : InR x2) : Ok (fun r => LI r.1) (t_WF_ward M x1 x2) := ok_mono (ok_and (sf_WF_ward h.1 hx1 hx2) (fr_WF_ward (W := QkW) (M0 := M) (fun k j z => by unfold W_WF_ward at z; unfold QkW; have := h.T; rcases z with z | z | z | z | z | z | z <;> omega) h.T.1 (by unfold QkW; omega) Fr.rf)) (fun r hr => h.q hr.1.1 hr.2)
theorem lr_ward {M : Mem} {x1 : Int} {x2 : Int} (h : LI M) (hx1 : InR x1) (hx2 : InR x2) : Ok (fun r => LI r.1) (t_MO_ward M x1 x2) := by
  obtain ⟨V, hV, hX, hRL⟩ := h.2.1
  exact ok_mono (ok_and (ok_and (ri_ward hV x1 x2) (im_MO_ward h.1 hx1 hx2)) (fr_MO_ward (W := QmW) (M0 := M) (fun k j z => by unfold W_MO_ward at z; unfold QmW; rcases z with z | z | z | z <;> omega) Fr.rf)) (fun r hr => h.qm hr.1.2.1 hr.2)
theorem lr_thing {M : Mem} {x1 : Int} {x2 : Int} (h : LI M) (hx1 : InR x1) (hx2 : InR x2) : Ok (fun r => LI r.1) (t_MO_thing M x1 x2) := by
  obtain ⟨V, hV, hX, hRL⟩ := h.2.1
  exact ok_mono (ok_and (ok_and (ri_thing hV x1 x2) (im_MO_thing h.1 hx1 hx2)) (fr_MO_thing (W := QmW) (M0 := M) (fun k j z => by unfold W_MO_thing at z; unfold QmW; omega) Fr.rf)) (fun r hr => h.qm hr.1.2.1 hr.2)
theorem lc_law {M : Mem} {x1 : Int} {x2 : Int} {x3 : Int} (h : LI M) (hx1 : InR x1) (hx2 : InR x2) (hx3 : InR x3) : Ok (fun r => LI r.1) (t_WF_law M x1 x2 x3) := ok_mono (ok_and (sf_WF_law h.1 hx1 hx2 hx3) (fr_WF_law (W := QkW) (M0 := M) (fun k j z => by unfold W_WF_law at z; unfold QkW; have := h.T; rcases z with z | z | z | z | z | z | z | z <;> omega) h.T.1 (by unfold QkW; omega) Fr.rf)) (fun r hr => h.q hr.1 hr.2)
theorem lr_law {M : Mem} {x1 : Int} {x2 : Int} {x3 : Int} (h : LI M) (hx1 : InR x1) (hx2 : InR x2) (hx3 : InR x3) : Ok (fun r => LI r.1) (t_MO_law M x1 x2 x3) := by
  obtain ⟨V, hV, hX, hRL⟩ := h.2.1
  exact ok_mono (ok_and (ok_and (ri_law hV x1 x2 x3) (im_MO_law h.1 hx1 hx2 hx3)) (fr_MO_law (W := QmW) (M0 := M) (fun k j z => by unfold W_MO_law at z; unfold QmW; rcases z with z | z | z | z <;> omega) Fr.rf)) (fun r hr => h.qm hr.1.2 hr.2)
theorem lc_rest {M : Mem} {x1 : Int} (h : LI M) (hx1 : InR x1) : Ok (fun r => LI r.1) (t_WF_rest M x1) := ok_mono (ok_and (sf_WF_rest h.1 hx1) (fr_WF_rest (W := QkW) (M0 := M) (fun k j z => by unfold W_WF_rest at z; unfold QkW; have := h.T; omega) Fr.rf)) (fun r hr => h.q hr.1.1 hr.2)
theorem lr_rest {M : Mem} {x1 : Int} (h : LI M) (hx1 : InR x1) : Ok (fun r => LI r.1) (t_MO_rest M x1) := by
  obtain ⟨V, hV, hX, hRL⟩ := h.2.1
  exact ok_mono (ok_and (ok_and (ri_rest hV x1) (im_MO_rest h.1 hx1)) (fr_MO_rest (W := QmW) (M0 := M) (fun k j z => by unfold W_MO_rest at z; unfold QmW; omega) Fr.rf)) (fun r hr => h.qm hr.1.2.1 hr.2)
theorem lc_way {M : Mem} {x1 : Int} {x2 : Int} (h : LI M) (hx1 : InR x1) (hx2 : InR x2) : Ok (fun r => LI r.1) (t_WF_way M x1 x2) := ok_mono (ok_and (sf_WF_way h.1 hx1 hx2) (fr_WF_way (W := QkW) (M0 := M) (fun k j z => by unfold W_WF_way at z; unfold QkW; have := h.T; omega) Fr.rf)) (fun r hr => h.q hr.1.1 hr.2)
theorem lr_way {M : Mem} {x1 : Int} {x2 : Int} (h : LI M) (hx1 : InR x1) (hx2 : InR x2) : Ok (fun r => LI r.1) (t_MO_way M x1 x2) := by
  obtain ⟨V, hV, hX, hRL⟩ := h.2.1
  exact ok_mono (ok_and (ok_and (ri_way hV hx2) (im_MO_way h.1 hx1 hx2)) (fr_MO_way (W := QmW) (M0 := M) (fun k j z => by unfold W_MO_way at z; unfold QmW; omega) Fr.rf)) (fun r hr => h.qm hr.1.2.1 hr.2)
theorem lc_falls {M : Mem} {x1 : Int} {x2 : Int} (h : LI M) (hx1 : InR x1) (hx2 : InR x2) : Ok (fun r => LI r.1) (t_WF_falls M x1 x2) := ok_mono (ok_and (sf_WF_falls h.1 hx1 hx2) (fr_WF_falls (W := QkW) (M0 := M) (fun k j z => by unfold W_WF_falls at z; unfold QkW; have := h.T; omega) Fr.rf)) (fun r hr => h.q hr.1.1 hr.2)
theorem lr_falls {M : Mem} {x1 : Int} {x2 : Int} (h : LI M) (hx1 : InR x1) (hx2 : InR x2) : Ok (fun r => LI r.1) (t_MO_falls M x1 x2) := by
  obtain ⟨V, hV, hX, hRL⟩ := h.2.1
  exact ok_mono (ok_and (ok_and (ri_falls hV x1 x2) (im_MO_falls h.1 hx1 hx2)) (fr_MO_falls (W := QmW) (M0 := M) (fun k j z => by unfold W_MO_falls at z; unfold QmW; omega) Fr.rf)) (fun r hr => h.qm hr.1.2.1 hr.2)
theorem lc_walk {M : Mem} {x1 : Int} {x2 : Int} (h : LI M) (hx1 : InR x1) (hx2 : InR x2) : Ok (fun r => LI r.1) (t_WF_walk M x1 x2) := ok_mono (ok_and (sf_WF_walk h.1 hx1 hx2) (fr_WF_walk (W := QkW) (M0 := M) (fun k j z => by unfold W_WF_walk at z; unfold QkW; have := h.T; rcases z with z | z | z | z <;> omega) Fr.rf)) (fun r hr => h.q hr.1.1 hr.2)
theorem lr_walk {M : Mem} {x1 : Int} {x2 : Int} (h : LI M) (hx1 : InR x1) (hx2 : InR x2) : Ok (fun r => LI r.1) (t_MO_walk M x1 x2) := by
  obtain ⟨V, hV, hX, hRL⟩ := h.2.1
  exact ok_mono (ok_and (ok_and (ri_walk hV x1 x2) (im_MO_walk h.1 hx1 hx2)) (fr_MO_walk (W := QmW) (M0 := M) (fun k j z => by unfold W_MO_walk at z; unfold QmW; omega) Fr.rf)) (fun r hr => h.qm hr.1.2.1 hr.2)
theorem lc_step {M : Mem} {x1 : Int} {x2 : Int} {x3 : Int} (h : LI M) (hx1 : InR x1) (hx2 : InR x2) (hx3 : InR x3) : Ok (fun r => LI r.1) (t_WF_step M x1 x2 x3) := ok_mono (ok_and (sf_WF_step h.1 hx1 hx2 hx3) (fr_WF_step (W := QkW) (M0 := M) (fun k j z => by unfold W_WF_step at z; unfold QkW; have := h.T; rcases z with z | z | z | z <;> omega) Fr.rf)) (fun r hr => h.q hr.1.1 hr.2)
theorem lr_step {M : Mem} {x1 : Int} {x2 : Int} {x3 : Int} (h : LI M) (hx1 : InR x1) (hx2 : InR x2) (hx3 : InR x3) : Ok (fun r => LI r.1) (t_MO_step M x1 x2 x3) := by
  obtain ⟨V, hV, hX, hRL⟩ := h.2.1
  exact ok_mono (ok_and (ok_and (ri_step hV x1 x2 x3) (im_MO_step h.1 hx1 hx2 hx3)) (fr_MO_step (W := QmW) (M0 := M) (fun k j z => by unfold W_MO_step at z; unfold QmW; omega) Fr.rf)) (fun r hr => h.qm hr.1.2.1 hr.2)
theorem lc_push {M : Mem} {x1 : Int} {x2 : Int} {x3 : Int} (h : LI M) (hx1 : InR x1) (hx2 : InR x2) (hx3 : InR x3) : Ok (fun r => LI r.1) (t_WF_push M x1 x2 x3) := ok_mono (ok_and (sf_WF_push h.1 hx1 hx2 hx3) (fr_WF_push (W := QkW) (M0 := M) (fun k j z => by unfold W_WF_push at z; unfold QkW; have := h.T; rcases z with z | z | z | z | z | z <;> omega) h.T.1 (by unfold QkW; omega) Fr.rf)) (fun r hr => h.q hr.1.1 hr.2)
theorem lr_push {M : Mem} {x1 : Int} {x2 : Int} {x3 : Int} (h : LI M) (hx1 : InR x1) (hx2 : InR x2) (hx3 : InR x3) : Ok (fun r => LI r.1) (t_MO_push M x1 x2 x3) := by
  obtain ⟨V, hV, hX, hRL⟩ := h.2.1
  exact ok_mono (ok_and (ok_and (ri_push hV x1 x2 x3) (im_MO_push h.1 hx1 hx2 hx3)) (fr_MO_push (W := QmW) (M0 := M) (fun k j z => by unfold W_MO_push at z; unfold QmW; rcases z with z | z | z | z | z <;> omega) Fr.rf)) (fun r hr => h.qm hr.1.2.1 hr.2)
theorem lc_pushed {M : Mem} {x1 : Int} {x2 : Int} {x3 : Int} (h : LI M) (hx1 : InR x1) (hx2 : InR x2) (hx3 : InR x3) : Ok (fun r => LI r.1) (t_WF_pushed M x1 x2 x3) := ok_mono (ok_and (sf_WF_pushed h.1 hx1 hx2 hx3) (fr_WF_pushed (W := QkW) (M0 := M) (fun k j z => by unfold W_WF_pushed at z; unfold QkW; have := h.T; rcases z with z | z | z | z | z | z <;> omega) h.T.1 (by unfold QkW; omega) Fr.rf)) (fun r hr => h.q hr.1.1 hr.2)
theorem lr_pushed {M : Mem} {x1 : Int} {x2 : Int} {x3 : Int} (h : LI M) (hx1 : InR x1) (hx2 : InR x2) (hx3 : InR x3) : Ok (fun r => LI r.1) (t_MO_pushed M x1 x2 x3) := by
  obtain ⟨V, hV, hX, hRL⟩ := h.2.1
  exact ok_mono (ok_and (ok_and (ri_pushed hV x1 x2 x3) (im_MO_pushed h.1 hx1 hx2 hx3)) (fr_MO_pushed (W := QmW) (M0 := M) (fun k j z => by unfold W_MO_pushed at z; unfold QmW; rcases z with z | z | z | z | z <;> omega) Fr.rf)) (fun r hr => h.qm hr.1.2.1 hr.2)
theorem lc_war {M : Mem} {x1 : Int} {x2 : Int} (h : LI M) (hx1 : InR x1) (hx2 : InR x2) : Ok (fun r => LI r.1) (t_WF_war M x1 x2) := ok_mono (ok_and (sf_WF_war h.1 hx1 hx2) (fr_WF_war (W := QkW) (M0 := M) (fun k j z => by unfold W_WF_war at z; unfold QkW; have := h.T; omega) Fr.rf)) (fun r hr => h.q hr.1.1 hr.2)
theorem lr_war {M : Mem} {x1 : Int} {x2 : Int} (h : LI M) (hx1 : InR x1) (hx2 : InR x2) : Ok (fun r => LI r.1) (t_MO_war M x1 x2) := by
  obtain ⟨V, hV, hX, hRL⟩ := h.2.1
  exact ok_mono (ok_and (ok_and (ri_war hV x1 x2) (im_MO_war h.1 hx1 hx2)) (fr_MO_war (W := QmW) (M0 := M) (fun k j z => by unfold W_MO_war at z; unfold QmW; omega) Fr.rf)) (fun r hr => h.qm hr.1.2.1 hr.2)
theorem lr_nets {M : Mem} (h : LI M) : Ok (fun r => LI r.1) (t_MO_nets M ) := by
  obtain ⟨V, hV, hX, hRL⟩ := h.2.1
  exact ok_mono (ok_and (ok_and (ri_nets hV ) (im_MO_nets h.1 )) (fr_MO_nets (W := QmW) (M0 := M) (fun k j z => by unfold W_MO_nets at z; unfold QmW; omega) Fr.rf)) (fun r hr => h.qm hr.1.2 hr.2)
theorem lc_clock {M : Mem} {x1 : Int} (h : LI M) (hx1 : InR x1) : Ok (fun r => LI r.1) (t_WF_clock M x1) := ok_mono (ok_and (sf_WF_clock h.1 hx1) (fr_WF_clock (W := QkW) (M0 := M) (fun k j z => by unfold W_WF_clock at z; unfold QkW; have := h.T; rcases z with z | z | z | z | z | z | z <;> omega) Fr.rf)) (fun r hr => h.q hr.1.1 hr.2)
theorem lr_clock {M : Mem} {x1 : Int} (h : LI M) (hx1 : InR x1) : Ok (fun r => LI r.1) (t_MO_clock M x1) := by
  obtain ⟨V, hV, hX, hRL⟩ := h.2.1
  exact ok_mono (ok_and (kq_clock hV x1) (im_MO_clock h.1 hx1)) (fun r hr => h.qm hr.2.1 hr.1.2)
theorem lc_stays {M : Mem} (h : LI M) : Ok (fun r => LI r.1) (t_WF_stays M ) := ok_mono (ok_and (sf_WF_stays h.1 ) (fr_WF_stays (W := QcW) (M0 := M) (fun k j z => by unfold W_WF_stays at z; unfold QcW QkW; have := h.T; omega) h.T.1 (by unfold QcW QkW; omega) Fr.rf)) (fun r hr => h.qc hr.1.1 hr.2 (fun _ _ _ _ => trivial))
theorem lr_stays {M : Mem} (h : LI M) : Ok (fun r => LI r.1) (t_MO_stays M ) := by
  obtain ⟨V, hV, hX, hRL⟩ := h.2.1
  obtain ⟨N, n1, n2⟩ := m_stays hV 
  exact ⟨_, n1, h.qm (im_MO_stays h.1  _ n1).1 (n2.mono LJ0_qm)⟩
theorem lc_stay {M : Mem} {x1 : Int} (h : LI M) (hx1 : InR x1) : Ok (fun r => LI r.1) (t_WF_stay M x1) := ok_mono (ok_and (sf_WF_stay h.1 hx1) (fr_WF_stay (W := QcW) (M0 := M) (fun k j z => by unfold W_WF_stay at z; unfold QcW QkW; have := h.T; omega) h.T.1 (by unfold QcW QkW; omega) Fr.rf)) (fun r hr => h.qc hr.1.1 hr.2 (fun _ _ _ _ => trivial))
theorem lr_stay {M : Mem} {x1 : Int} (h : LI M) (hx1 : InR x1) : Ok (fun r => LI r.1) (t_MO_stay M x1) := by
  obtain ⟨V, hV, hX, hRL⟩ := h.2.1
  obtain ⟨N, n1, n2⟩ := m_stay hV x1
  exact ⟨_, n1, h.qm (im_MO_stay h.1 hx1 _ n1).1 (n2.mono LJ0_qm)⟩
theorem lc_treaty {M : Mem} {x1 : Int} (h : LI M) (hx1 : InR x1) : Ok (fun r => LI r.1) (t_WF_treaty M x1) := ok_mono (ok_and (sf_WF_treaty h.1 hx1) (fr_WF_treaty (W := QcW) (M0 := M) (fun k j z => by unfold W_WF_treaty at z; unfold QcW QkW; have := h.T; omega) h.T.1 (by unfold QcW QkW; omega) Fr.rf)) (fun r hr => h.qc hr.1.1 hr.2 (fun _ _ _ _ => trivial))
theorem lr_treaty {M : Mem} {x1 : Int} (h : LI M) (hx1 : InR x1) : Ok (fun r => LI r.1) (t_MO_treaty M x1) := by
  obtain ⟨V, hV, hX, hRL⟩ := h.2.1
  obtain ⟨N, n1, n2⟩ := m_treaty hV x1
  exact ⟨_, n1, h.qm (im_MO_treaty h.1 hx1 _ n1).1 (n2.mono LJ0_qm)⟩
theorem lc_moves {M : Mem} {x1 : Int} {x2 : Int} (h : LI M) (hx1 : InR x1) (hx2 : InR x2) : Ok (fun r => LI r.1) (t_WF_moves M x1 x2) := ok_mono (ok_and (sf_WF_moves h.1 hx1 hx2) (fr_WF_moves (W := QcW) (M0 := M) (fun k j z => by unfold W_WF_moves at z; unfold QcW QkW; have := h.T; omega) h.T.1 (by unfold QcW QkW; omega) Fr.rf)) (fun r hr => h.qc hr.1.1 hr.2 (fun _ _ _ _ => trivial))
theorem lr_moves {M : Mem} {x1 : Int} {x2 : Int} (h : LI M) (hx1 : InR x1) (hx2 : InR x2) : Ok (fun r => LI r.1) (t_MO_moves M x1 x2) := by
  obtain ⟨V, hV, hX, hRL⟩ := h.2.1
  obtain ⟨N, n1, n2⟩ := m_moves hV x1 x2
  exact ⟨_, n1, h.qm (im_MO_moves h.1 hx1 hx2 _ n1).1 (n2.mono LJ0_qm)⟩
theorem lc_fits {M : Mem} (h : LI M) : Ok (fun r => LI r.1) (t_WF_fits M ) := ok_mono (ok_and (sf_WF_fits h.1 ) (fr_WF_fits (W := QkW) (M0 := M) (fun k j z => by unfold W_WF_fits at z; unfold QkW; have := h.T; rcases z with z | z | z | z | z | z | z | z | z <;> omega) Fr.rf)) (fun r hr => h.q hr.1.1 hr.2)
theorem lr_fits {M : Mem} (h : LI M) : Ok (fun r => LI r.1) (t_MO_fits M ) := by
  obtain ⟨V, hV, hX, hRL⟩ := h.2.1
  obtain ⟨N, n1, n2⟩ := m_fits hV 
  exact ⟨_, n1, h.qm (im_MO_fits h.1  _ n1).1 (n2.mono LF0_qm)⟩
theorem lc_may {M : Mem} {x1 : Int} (h : LI M) (hx1 : InR x1) : Ok (fun r => LI r.1) (t_WF_may M x1) := ok_mono (ok_and (sf_WF_may h.1 hx1) (fr_WF_may (W := QkW) (M0 := M) (fun k j z => by unfold W_WF_may at z; unfold QkW; have := h.T; rcases z with z | z | z | z | z | z | z | z | z <;> omega) Fr.rf)) (fun r hr => h.q hr.1.1 hr.2)
theorem lr_may {M : Mem} {x1 : Int} (h : LI M) (hx1 : InR x1) : Ok (fun r => LI r.1) (t_MO_may M x1) := by
  obtain ⟨V, hV, hX, hRL⟩ := h.2.1
  obtain ⟨N, n1, n2⟩ := m_may hV x1
  exact ⟨_, n1, h.qm (im_MO_may h.1 hx1 _ n1).1 (n2.mono LF0_qm)⟩
theorem lr_voted {M : Mem} {x1 : Int} {x2 : Int} (h : LI M) (hx1 : InR x1) (hx2 : InR x2) : Ok (fun r => LI r.1) (t_MO_voted M x1 x2) := by
  obtain ⟨V, hV, hX, hRL⟩ := h.2.1
  exact ok_mono (ok_and (ok_and (ri_voted hV x1 x2) (im_MO_voted h.1 hx1 hx2)) (fr_MO_voted (W := QmW) (M0 := M) (fun k j z => by unfold W_MO_voted at z; unfold QmW; omega) Fr.rf)) (fun r hr => h.qm hr.1.2.1 hr.2)
theorem lr_count {M : Mem} {x1 : Int} (h : LI M) (hx1 : InR x1) : Ok (fun r => LI r.1) (t_MO_count M x1) := by
  obtain ⟨V, hV, hX, hRL⟩ := h.2.1
  exact ok_mono (ok_and (ok_and (ri_count hV x1) (im_MO_count h.1 hx1)) (fr_MO_count (W := QmW) (M0 := M) (fun k j z => by unfold W_MO_count at z; unfold QmW; omega) Fr.rf)) (fun r hr => h.qm hr.1.2.1 hr.2)
