/-! ===== p2: the law's branches (printed by lawgen.py) -/
theorem xi (x : Int32) : InR x.toInt := q_inr_toInt x
theorem lb_318 {xs : Nat → Int32} {L : Nat} {bk : Mem → Int → Option Int} {M : Mem} {v : Int} (h : LI M) (hbk : ∀ N, LI N → Ok (fun r => r = 1) (bk N (w32 (v + 6)))) : Ok (fun r => r = 1) (t_Law_law_L318 xs L bk M v) := by
  unfold t_Law_law_L318 t_Law_law_L1541
  exact ok_let (fun q eq => ok_let (fun r er => by rw [er]; exact hbk _ (lr_fault h (xi _))))
theorem lb_343 {xs : Nat → Int32} {L : Nat} {bk : Mem → Int → Option Int} {M : Mem} {v : Int} (h : LI M) (hbk : ∀ N, LI N → Ok (fun r => r = 1) (bk N (w32 (v + 6)))) : Ok (fun r => r = 1) (t_Law_law_L343 xs L bk M v) := by
  unfold t_Law_law_L343 t_Law_law_L1541
  exact ok_bind (sf_WF_named h.1 (xi _) (xi _)) (fun q hq => ok_bind (lr_named h (xi _) (xi _)) (fun r hr => hbk _ hr))
theorem lb_380 {xs : Nat → Int32} {L : Nat} {bk : Mem → Int → Option Int} {M : Mem} {v : Int} (h : LI M) (hbk : ∀ N, LI N → Ok (fun r => r = 1) (bk N (w32 (v + 6)))) : Ok (fun r => r = 1) (t_Law_law_L380 xs L bk M v) := by
  unfold t_Law_law_L380 t_Law_law_L1541
  exact ok_bind (lc_cell h (xi _) (xi _)) (fun q hq => ok_bind (lr_cell hq (xi _) (xi _)) (fun r hr => hbk _ hr))
theorem lb_420 {xs : Nat → Int32} {L : Nat} {bk : Mem → Int → Option Int} {M : Mem} {v : Int} (h : LI M) (hbk : ∀ N, LI N → Ok (fun r => r = 1) (bk N (w32 (v + 6)))) : Ok (fun r => r = 1) (t_Law_law_L420 xs L bk M v) := by
  unfold t_Law_law_L420 t_Law_law_L1541
  exact ok_bind (lc_ward h (xi _) (xi _)) (fun q hq => ok_bind (lr_ward hq (xi _) (xi _)) (fun r hr => hbk _ hr))
theorem lb_457 {xs : Nat → Int32} {L : Nat} {bk : Mem → Int → Option Int} {M : Mem} {v : Int} (h : LI M) (hbk : ∀ N, LI N → Ok (fun r => r = 1) (bk N (w32 (v + 6)))) : Ok (fun r => r = 1) (t_Law_law_L457 xs L bk M v) := by
  unfold t_Law_law_L457 t_Law_law_L1541
  exact ok_let (fun q eq => ok_bind (lr_thing h (xi _) (xi _)) (fun r hr => hbk _ hr))
theorem lb_494 {xs : Nat → Int32} {L : Nat} {bk : Mem → Int → Option Int} {M : Mem} {v : Int} (h : LI M) (hbk : ∀ N, LI N → Ok (fun r => r = 1) (bk N (w32 (v + 6)))) : Ok (fun r => r = 1) (t_Law_law_L494 xs L bk M v) := by
  unfold t_Law_law_L494 t_Law_law_L1541
  exact ok_bind (lc_law h (xi _) (xi _) (xi _)) (fun q hq => ok_bind (lr_law hq (xi _) (xi _) (xi _)) (fun r hr => hbk _ hr))
theorem lb_543 {xs : Nat → Int32} {L : Nat} {bk : Mem → Int → Option Int} {M : Mem} {v : Int} (h : LI M) (hbk : ∀ N, LI N → Ok (fun r => r = 1) (bk N (w32 (v + 6)))) : Ok (fun r => r = 1) (t_Law_law_L543 xs L bk M v) := by
  unfold t_Law_law_L543 t_Law_law_L1541
  exact ok_bind (lc_rest h (xi _)) (fun q hq => ok_bind (lr_rest hq (xi _)) (fun r hr => hbk _ hr))
theorem lb_568 {xs : Nat → Int32} {L : Nat} {bk : Mem → Int → Option Int} {M : Mem} {v : Int} (h : LI M) (hbk : ∀ N, LI N → Ok (fun r => r = 1) (bk N (w32 (v + 6)))) : Ok (fun r => r = 1) (t_Law_law_L568 xs L bk M v) := by
  unfold t_Law_law_L568 t_Law_law_L1541
  exact ok_bind (lc_way h (xi _) (xi _)) (fun q hq => ok_bind (lr_way hq (xi _) (xi _)) (fun r hr => hbk _ hr))
theorem lb_605 {xs : Nat → Int32} {L : Nat} {bk : Mem → Int → Option Int} {M : Mem} {v : Int} (h : LI M) (hbk : ∀ N, LI N → Ok (fun r => r = 1) (bk N (w32 (v + 6)))) : Ok (fun r => r = 1) (t_Law_law_L605 xs L bk M v) := by
  unfold t_Law_law_L605 t_Law_law_L1541
  exact ok_bind (lc_falls h (xi _) (xi _)) (fun q hq => ok_bind (lr_falls hq (xi _) (xi _)) (fun r hr => hbk _ hr))
theorem lb_642 {xs : Nat → Int32} {L : Nat} {bk : Mem → Int → Option Int} {M : Mem} {v : Int} (h : LI M) (hbk : ∀ N, LI N → Ok (fun r => r = 1) (bk N (w32 (v + 6)))) : Ok (fun r => r = 1) (t_Law_law_L642 xs L bk M v) := by
  unfold t_Law_law_L642 t_Law_law_L1541
  exact ok_bind (bs_beats h (xi _)) (fun q hq => ok_bind hq (fun r hr => hbk _ hr.2))
theorem lb_667 {xs : Nat → Int32} {L : Nat} {bk : Mem → Int → Option Int} {M : Mem} {v : Int} (h : LI M) (hbk : ∀ N, LI N → Ok (fun r => r = 1) (bk N (w32 (v + 6)))) : Ok (fun r => r = 1) (t_Law_law_L667 xs L bk M v) := by
  unfold t_Law_law_L667 t_Law_law_L1541
  exact ok_bind (bs_vote h (xi _) (xi _)) (fun q hq => ok_bind hq (fun r hr => hbk _ hr.2))
theorem lb_704 {xs : Nat → Int32} {L : Nat} {bk : Mem → Int → Option Int} {M : Mem} {v : Int} (h : LI M) (hbk : ∀ N, LI N → Ok (fun r => r = 1) (bk N (w32 (v + 6)))) : Ok (fun r => r = 1) (t_Law_law_L704 xs L bk M v) := by
  unfold t_Law_law_L704 t_Law_law_L725 t_Law_law_L750 t_Law_law_L1541
  exact ok_ite (fun c1 => ok_let (fun q eq => by rw [eq]; exact ok_ite (fun _ => ok_bind (bs_net h (xi _) (inr_c rfl) (inr_c rfl) Iff.rfl Iff.rfl) (fun r hr => hbk _ hr.2)) (fun c2 => absurd c1 c2))) (fun c1 => ok_let (fun q eq => by rw [eq]; exact ok_ite (fun c2 => absurd c2 c1) (fun _ => ok_bind (bs_net h (xi _) (inr_c rfl) (inr_c rfl) Iff.rfl Iff.rfl) (fun r hr => hbk _ hr.2))))
theorem lb_757 {xs : Nat → Int32} {L : Nat} {bk : Mem → Int → Option Int} {M : Mem} {v : Int} (h : LI M) (hbk : ∀ N, LI N → Ok (fun r => r = 1) (bk N (w32 (v + 6)))) : Ok (fun r => r = 1) (t_Law_law_L757 xs L bk M v) := by
  unfold t_Law_law_L757 t_Law_law_L1541
  exact ok_bind (bs_lay h (xi _) (xi _)) (fun q hq => ok_bind hq (fun r hr => hbk _ hr.2))
theorem lb_794 {xs : Nat → Int32} {L : Nat} {bk : Mem → Int → Option Int} {M : Mem} {v : Int} (h : LI M) (hbk : ∀ N, LI N → Ok (fun r => r = 1) (bk N (w32 (v + 6)))) : Ok (fun r => r = 1) (t_Law_law_L794 xs L bk M v) := by
  unfold t_Law_law_L794 t_Law_law_L1541
  exact ok_bind (bs_pour h (xi _) (xi _)) (fun q hq => ok_bind hq (fun r hr => hbk _ hr.2))
theorem lb_831 {xs : Nat → Int32} {L : Nat} {bk : Mem → Int → Option Int} {M : Mem} {v : Int} (h : LI M) (hbk : ∀ N, LI N → Ok (fun r => r = 1) (bk N (w32 (v + 6)))) : Ok (fun r => r = 1) (t_Law_law_L831 xs L bk M v) := by
  unfold t_Law_law_L831 t_Law_law_L1541
  exact ok_let (fun q eq => by rw [eq]; exact ok_bind (bs_drain h ) (fun r hr => hbk _ hr.2))
theorem lb_844 {xs : Nat → Int32} {L : Nat} {bk : Mem → Int → Option Int} {M : Mem} {v : Int} (h : LI M) (hbk : ∀ N, LI N → Ok (fun r => r = 1) (bk N (w32 (v + 6)))) : Ok (fun r => r = 1) (t_Law_law_L844 xs L bk M v) := by
  unfold t_Law_law_L844 t_Law_law_L1541
  exact ok_bind (bs_flood h (xi _) (xi _)) (fun q hq => ok_bind hq (fun r hr => hbk _ hr.2))
theorem lb_881 {xs : Nat → Int32} {L : Nat} {bk : Mem → Int → Option Int} {M : Mem} {v : Int} (h : LI M) (hbk : ∀ N, LI N → Ok (fun r => r = 1) (bk N (w32 (v + 6)))) : Ok (fun r => r = 1) (t_Law_law_L881 xs L bk M v) := by
  unfold t_Law_law_L881 t_Law_law_L1541
  exact ok_bind (lc_walk h (xi _) (xi _)) (fun q hq => ok_bind (lr_walk hq (xi _) (xi _)) (fun r hr => hbk _ hr))
theorem lb_918 {xs : Nat → Int32} {L : Nat} {bk : Mem → Int → Option Int} {M : Mem} {v : Int} (h : LI M) (hbk : ∀ N, LI N → Ok (fun r => r = 1) (bk N (w32 (v + 6)))) : Ok (fun r => r = 1) (t_Law_law_L918 xs L bk M v) := by
  unfold t_Law_law_L918 t_Law_law_L1541
  exact ok_bind (lc_step h (xi _) (xi _) (xi _)) (fun q hq => ok_bind (lr_step hq (xi _) (xi _) (xi _)) (fun r hr => hbk _ hr))
theorem lb_967 {xs : Nat → Int32} {L : Nat} {bk : Mem → Int → Option Int} {M : Mem} {v : Int} (h : LI M) (hbk : ∀ N, LI N → Ok (fun r => r = 1) (bk N (w32 (v + 6)))) : Ok (fun r => r = 1) (t_Law_law_L967 xs L bk M v) := by
  unfold t_Law_law_L967 t_Law_law_L1541
  exact ok_bind (lc_push h (xi _) (xi _) (xi _)) (fun q hq => ok_bind (lr_push hq (xi _) (xi _) (xi _)) (fun r hr => hbk _ hr))
theorem lb_1016 {xs : Nat → Int32} {L : Nat} {bk : Mem → Int → Option Int} {M : Mem} {v : Int} (h : LI M) (hbk : ∀ N, LI N → Ok (fun r => r = 1) (bk N (w32 (v + 6)))) : Ok (fun r => r = 1) (t_Law_law_L1016 xs L bk M v) := by
  unfold t_Law_law_L1016 t_Law_law_L1541
  exact ok_bind (lc_pushed h (xi _) (xi _) (xi _)) (fun q hq => ok_bind (lr_pushed hq (xi _) (xi _) (xi _)) (fun r hr => hbk _ hr))
theorem lb_1065 {xs : Nat → Int32} {L : Nat} {bk : Mem → Int → Option Int} {M : Mem} {v : Int} (h : LI M) (hbk : ∀ N, LI N → Ok (fun r => r = 1) (bk N (w32 (v + 6)))) : Ok (fun r => r = 1) (t_Law_law_L1065 xs L bk M v) := by
  unfold t_Law_law_L1065 t_Law_law_L1541
  exact ok_bind (lc_war h (xi _) (xi _)) (fun q hq => ok_bind (lr_war hq (xi _) (xi _)) (fun r hr => hbk _ hr))
theorem lb_1102 {xs : Nat → Int32} {L : Nat} {bk : Mem → Int → Option Int} {M : Mem} {v : Int} (h : LI M) (hbk : ∀ N, LI N → Ok (fun r => r = 1) (bk N (w32 (v + 6)))) : Ok (fun r => r = 1) (t_Law_law_L1102 xs L bk M v) := by
  unfold t_Law_law_L1102 t_Law_law_L1541
  obtain ⟨v, N, e1, e2⟩ := eq_nets h 
  obtain ⟨r, e3, hr⟩ := lr_nets h 
  have e4 := Option.some.inj (e3.symm.trans e2)
  rw [e4] at hr
  rw [e1, obind_some, e2, obind_some, if_pos rfl]
  exact hbk _ hr
theorem lb_1116 {xs : Nat → Int32} {L : Nat} {bk : Mem → Int → Option Int} {M : Mem} {v : Int} (h : LI M) (hbk : ∀ N, LI N → Ok (fun r => r = 1) (bk N (w32 (v + 6)))) : Ok (fun r => r = 1) (t_Law_law_L1116 xs L bk M v) := by
  unfold t_Law_law_L1116 t_Law_law_L1541
  exact ok_bind (lc_clock h (xi _)) (fun q hq => ok_bind (lr_clock hq (xi _)) (fun r hr => hbk _ hr))
theorem lb_1141 {xs : Nat → Int32} {L : Nat} {bk : Mem → Int → Option Int} {M : Mem} {v : Int} (h : LI M) (hbk : ∀ N, LI N → Ok (fun r => r = 1) (bk N (w32 (v + 6)))) : Ok (fun r => r = 1) (t_Law_law_L1141 xs L bk M v) := by
  unfold t_Law_law_L1141 t_Law_law_L1541
  exact ok_bind (lc_stays h ) (fun q hq => ok_bind (lr_stays hq ) (fun r hr => hbk _ hr))
theorem lb_1154 {xs : Nat → Int32} {L : Nat} {bk : Mem → Int → Option Int} {M : Mem} {v : Int} (h : LI M) (hbk : ∀ N, LI N → Ok (fun r => r = 1) (bk N (w32 (v + 6)))) : Ok (fun r => r = 1) (t_Law_law_L1154 xs L bk M v) := by
  unfold t_Law_law_L1154 t_Law_law_L1541
  exact ok_bind (lc_stay h (xi _)) (fun q hq => ok_bind (lr_stay hq (xi _)) (fun r hr => hbk _ hr))
theorem lb_1179 {xs : Nat → Int32} {L : Nat} {bk : Mem → Int → Option Int} {M : Mem} {v : Int} (h : LI M) (hbk : ∀ N, LI N → Ok (fun r => r = 1) (bk N (w32 (v + 6)))) : Ok (fun r => r = 1) (t_Law_law_L1179 xs L bk M v) := by
  unfold t_Law_law_L1179 t_Law_law_L1541
  exact ok_bind (lc_treaty h (xi _)) (fun q hq => ok_bind (lr_treaty hq (xi _)) (fun r hr => hbk _ hr))
theorem lb_1204 {xs : Nat → Int32} {L : Nat} {bk : Mem → Int → Option Int} {M : Mem} {v : Int} (h : LI M) (hbk : ∀ N, LI N → Ok (fun r => r = 1) (bk N (w32 (v + 6)))) : Ok (fun r => r = 1) (t_Law_law_L1204 xs L bk M v) := by
  unfold t_Law_law_L1204 t_Law_law_L1541
  exact ok_bind (lc_moves h (xi _) (xi _)) (fun q hq => ok_bind (lr_moves hq (xi _) (xi _)) (fun r hr => hbk _ hr))
theorem lb_1241 {xs : Nat → Int32} {L : Nat} {bk : Mem → Int → Option Int} {M : Mem} {v : Int} (h : LI M) (hbk : ∀ N, LI N → Ok (fun r => r = 1) (bk N (w32 (v + 6)))) : Ok (fun r => r = 1) (t_Law_law_L1241 xs L bk M v) := by
  unfold t_Law_law_L1241 t_Law_law_L1541
  exact ok_let (fun q eq => by rw [eq]; exact ok_bind (bs_note h (xi _) (xi _)) (fun r hr => hbk _ hr.2))
theorem lb_1278 {xs : Nat → Int32} {L : Nat} {bk : Mem → Int → Option Int} {M : Mem} {v : Int} (h : LI M) (hbk : ∀ N, LI N → Ok (fun r => r = 1) (bk N (w32 (v + 6)))) : Ok (fun r => r = 1) (t_Law_law_L1278 xs L bk M v) := by
  unfold t_Law_law_L1278 t_Law_law_L1541
  exact ok_let (fun q eq => by rw [eq]; exact ok_bind (bs_strike h (xi _)) (fun r hr => hbk _ hr.2))
theorem lb_1303 {xs : Nat → Int32} {L : Nat} {bk : Mem → Int → Option Int} {M : Mem} {v : Int} (h : LI M) (hbk : ∀ N, LI N → Ok (fun r => r = 1) (bk N (w32 (v + 6)))) : Ok (fun r => r = 1) (t_Law_law_L1303 xs L bk M v) := by
  unfold t_Law_law_L1303 t_Law_law_L1541
  exact ok_let (fun q eq => ok_let (fun r er => by rw [er, eq]; exact hbk _ (bs_known h (xi _)).2))
theorem lb_1328 {xs : Nat → Int32} {L : Nat} {bk : Mem → Int → Option Int} {M : Mem} {v : Int} (h : LI M) (hbk : ∀ N, LI N → Ok (fun r => r = 1) (bk N (w32 (v + 6)))) : Ok (fun r => r = 1) (t_Law_law_L1328 xs L bk M v) := by
  unfold t_Law_law_L1328 t_Law_law_L1541
  exact ok_bind (lc_fits h ) (fun q hq => ok_bind (lr_fits hq ) (fun r hr => hbk _ hr))
theorem lb_1341 {xs : Nat → Int32} {L : Nat} {bk : Mem → Int → Option Int} {M : Mem} {v : Int} (h : LI M) (hbk : ∀ N, LI N → Ok (fun r => r = 1) (bk N (w32 (v + 6)))) : Ok (fun r => r = 1) (t_Law_law_L1341 xs L bk M v) := by
  unfold t_Law_law_L1341 t_Law_law_L1541
  exact ok_bind (lc_may h (xi _)) (fun q hq => ok_bind (lr_may hq (xi _)) (fun r hr => hbk _ hr))
theorem lb_1366 {xs : Nat → Int32} {L : Nat} {bk : Mem → Int → Option Int} {M : Mem} {v : Int} (h : LI M) (hbk : ∀ N, LI N → Ok (fun r => r = 1) (bk N (w32 (v + 6)))) : Ok (fun r => r = 1) (t_Law_law_L1366 xs L bk M v) := by
  unfold t_Law_law_L1366 t_Law_law_L1541
  exact ok_bind (bs_years h (xi _)) (fun q hq => ok_bind hq (fun r hr => hbk _ hr.2))
theorem lb_1391 {xs : Nat → Int32} {L : Nat} {bk : Mem → Int → Option Int} {M : Mem} {v : Int} (h : LI M) (hbk : ∀ N, LI N → Ok (fun r => r = 1) (bk N (w32 (v + 6)))) : Ok (fun r => r = 1) (t_Law_law_L1391 xs L bk M v) := by
  unfold t_Law_law_L1391 t_Law_law_L1541
  exact ok_let (fun q eq => ok_bind (lr_voted h (xi _) (xi _)) (fun r hr => hbk _ hr))
theorem lb_1428 {xs : Nat → Int32} {L : Nat} {bk : Mem → Int → Option Int} {M : Mem} {v : Int} (h : LI M) (hbk : ∀ N, LI N → Ok (fun r => r = 1) (bk N (w32 (v + 6)))) : Ok (fun r => r = 1) (t_Law_law_L1428 xs L bk M v) := by
  unfold t_Law_law_L1428 t_Law_law_L1541
  exact ok_bind (bs_tried h (xi _) (xi _) (xi _)) (fun q hq => ok_bind hq (fun r hr => hbk _ hr.2))
theorem lb_1477 {xs : Nat → Int32} {L : Nat} {bk : Mem → Int → Option Int} {M : Mem} {v : Int} (h : LI M) (hbk : ∀ N, LI N → Ok (fun r => r = 1) (bk N (w32 (v + 6)))) : Ok (fun r => r = 1) (t_Law_law_L1477 xs L bk M v) := by
  unfold t_Law_law_L1477 t_Law_law_L1541
  exact ok_let (fun q eq => by rw [eq]; exact ok_bind (bs_undo h ) (fun r hr => hbk _ hr.2))
theorem lb_1490 {xs : Nat → Int32} {L : Nat} {bk : Mem → Int → Option Int} {M : Mem} {v : Int} (h : LI M) (hbk : ∀ N, LI N → Ok (fun r => r = 1) (bk N (w32 (v + 6)))) : Ok (fun r => r = 1) (t_Law_law_L1490 xs L bk M v) := by
  unfold t_Law_law_L1490 t_Law_law_L1541
  exact ok_let (fun q eq => by rw [eq]; exact ok_bind (bs_keep h ) (fun r hr => hbk _ hr.2))
theorem lb_1503 {xs : Nat → Int32} {L : Nat} {bk : Mem → Int → Option Int} {M : Mem} {v : Int} (h : LI M) (hbk : ∀ N, LI N → Ok (fun r => r = 1) (bk N (w32 (v + 6)))) : Ok (fun r => r = 1) (t_Law_law_L1503 xs L bk M v) := by
  unfold t_Law_law_L1503 t_Law_law_L1541
  exact ok_let (fun q eq => by rw [eq]; exact ok_bind (bs_back h ) (fun r hr => hbk _ hr.2))
theorem lb_1516 {xs : Nat → Int32} {L : Nat} {bk : Mem → Int → Option Int} {M : Mem} {v : Int} (h : LI M) (hbk : ∀ N, LI N → Ok (fun r => r = 1) (bk N (w32 (v + 6)))) : Ok (fun r => r = 1) (t_Law_law_L1516 xs L bk M v) := by
  unfold t_Law_law_L1516 t_Law_law_L1541
  exact ok_bind (sf_WF_count h.1 (xi _)) (fun q hq => ok_bind (lr_count h (xi _)) (fun r hr => hbk _ hr))
