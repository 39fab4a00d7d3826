/-! ===== p2: the law's branches (printed by lawgen.py) -/
theorem xi (x : Int32) : InR x.toInt := q_inr_toInt x
theorem lb_318 {xs : Nat → Int32} {L : Nat} {bk : Mem → Int → Option Int} {M : Mem} {v : Int} (h : LI M) (hbk : ∀ N, LI N → Ok (fun r => r = 1) (bk N (w32 (v + 6)))) : Ok (fun r => r = 1) (t_Law_law_L318 xs L bk M v) := by
  unfold t_Law_law_L318 t_Law_law_L1540
  exact ok_let (fun q eq => ok_let (fun r er => by rw [er]; exact hbk _ (lr_fault h (xi _))))
theorem lb_343 {xs : Nat → Int32} {L : Nat} {bk : Mem → Int → Option Int} {M : Mem} {v : Int} (h : LI M) (hbk : ∀ N, LI N → Ok (fun r => r = 1) (bk N (w32 (v + 6)))) : Ok (fun r => r = 1) (t_Law_law_L343 xs L bk M v) := by
  unfold t_Law_law_L343 t_Law_law_L1540
  exact ok_bind (sf_WF_named h.1 (xi _) (xi _)) (fun q hq => ok_bind (lr_named h (xi _) (xi _)) (fun r hr => hbk _ hr))
theorem lb_380 {xs : Nat → Int32} {L : Nat} {bk : Mem → Int → Option Int} {M : Mem} {v : Int} (h : LI M) (hbk : ∀ N, LI N → Ok (fun r => r = 1) (bk N (w32 (v + 6)))) : Ok (fun r => r = 1) (t_Law_law_L380 xs L bk M v) := by
  unfold t_Law_law_L380 t_Law_law_L1540
  exact ok_bind (lc_cell h (xi _) (xi _)) (fun q hq => ok_bind (lr_cell hq (xi _) (xi _)) (fun r hr => hbk _ hr))
theorem lb_420 {xs : Nat → Int32} {L : Nat} {bk : Mem → Int → Option Int} {M : Mem} {v : Int} (h : LI M) (hbk : ∀ N, LI N → Ok (fun r => r = 1) (bk N (w32 (v + 6)))) : Ok (fun r => r = 1) (t_Law_law_L420 xs L bk M v) := by
  unfold t_Law_law_L420 t_Law_law_L1540
  exact ok_bind (lc_ward h (xi _) (xi _)) (fun q hq => ok_bind (lr_ward hq (xi _) (xi _)) (fun r hr => hbk _ hr))
theorem lb_457 {xs : Nat → Int32} {L : Nat} {bk : Mem → Int → Option Int} {M : Mem} {v : Int} (h : LI M) (hbk : ∀ N, LI N → Ok (fun r => r = 1) (bk N (w32 (v + 6)))) : Ok (fun r => r = 1) (t_Law_law_L457 xs L bk M v) := by
  unfold t_Law_law_L457 t_Law_law_L1540
  exact ok_let (fun q eq => ok_bind (lr_thing h (xi _) (xi _)) (fun r hr => hbk _ hr))
theorem lb_494 {xs : Nat → Int32} {L : Nat} {bk : Mem → Int → Option Int} {M : Mem} {v : Int} (h : LI M) (hbk : ∀ N, LI N → Ok (fun r => r = 1) (bk N (w32 (v + 6)))) : Ok (fun r => r = 1) (t_Law_law_L494 xs L bk M v) := by
  unfold t_Law_law_L494 t_Law_law_L1540
  exact ok_bind (lc_law h (xi _) (xi _) (xi _)) (fun q hq => ok_bind (lr_law hq (xi _) (xi _) (xi _)) (fun r hr => hbk _ hr))
theorem lb_543 {xs : Nat → Int32} {L : Nat} {bk : Mem → Int → Option Int} {M : Mem} {v : Int} (h : LI M) (hbk : ∀ N, LI N → Ok (fun r => r = 1) (bk N (w32 (v + 6)))) : Ok (fun r => r = 1) (t_Law_law_L543 xs L bk M v) := by
  unfold t_Law_law_L543 t_Law_law_L1540
  exact ok_bind (lc_rest h (xi _)) (fun q hq => ok_bind (lr_rest hq (xi _)) (fun r hr => hbk _ hr))
theorem lb_568 {xs : Nat → Int32} {L : Nat} {bk : Mem → Int → Option Int} {M : Mem} {v : Int} (h : LI M) (hbk : ∀ N, LI N → Ok (fun r => r = 1) (bk N (w32 (v + 6)))) : Ok (fun r => r = 1) (t_Law_law_L568 xs L bk M v) := by
  unfold t_Law_law_L568 t_Law_law_L1540
  exact ok_bind (lc_way h (xi _) (xi _)) (fun q hq => ok_bind (lr_way hq (xi _) (xi _)) (fun r hr => hbk _ hr))
theorem lb_605 {xs : Nat → Int32} {L : Nat} {bk : Mem → Int → Option Int} {M : Mem} {v : Int} (h : LI M) (hbk : ∀ N, LI N → Ok (fun r => r = 1) (bk N (w32 (v + 6)))) : Ok (fun r => r = 1) (t_Law_law_L605 xs L bk M v) := by
  unfold t_Law_law_L605 t_Law_law_L1540
  exact ok_bind (lc_falls h (xi _) (xi _)) (fun q hq => ok_bind (lr_falls hq (xi _) (xi _)) (fun r hr => hbk _ hr))
theorem lb_642 {xs : Nat → Int32} {L : Nat} {bk : Mem → Int → Option Int} {M : Mem} {v : Int} (h : LI M) (hbk : ∀ N, LI N → Ok (fun r => r = 1) (bk N (w32 (v + 6)))) : Ok (fun r => r = 1) (t_Law_law_L642 xs L bk M v) := by
  unfold t_Law_law_L642 t_Law_law_L1540
  exact ok_bind (bs_beats h (xi _)) (fun q hq => ok_bind hq (fun r hr => hbk _ hr.2))
theorem lb_667 {xs : Nat → Int32} {L : Nat} {bk : Mem → Int → Option Int} {M : Mem} {v : Int} (h : LI M) (hbk : ∀ N, LI N → Ok (fun r => r = 1) (bk N (w32 (v + 6)))) : Ok (fun r => r = 1) (t_Law_law_L667 xs L bk M v) := by
  unfold t_Law_law_L667 t_Law_law_L1540
  exact ok_bind (bs_vote h (xi _) (xi _)) (fun q hq => ok_bind hq (fun r hr => hbk _ hr.2))
theorem lb_704 {xs : Nat → Int32} {L : Nat} {bk : Mem → Int → Option Int} {M : Mem} {v : Int} (h : LI M) (hbk : ∀ N, LI N → Ok (fun r => r = 1) (bk N (w32 (v + 6)))) : Ok (fun r => r = 1) (t_Law_law_L704 xs L bk M v) := by
  unfold t_Law_law_L704 t_Law_law_L725 t_Law_law_L750 t_Law_law_L1540
  exact ok_ite (fun c1 => ok_let (fun q eq => by rw [eq]; exact ok_ite (fun _ => ok_bind (bs_net h (xi _) (inr_c rfl) (inr_c rfl) Iff.rfl Iff.rfl) (fun r hr => hbk _ hr.2)) (fun c2 => absurd c1 c2))) (fun c1 => ok_let (fun q eq => by rw [eq]; exact ok_ite (fun c2 => absurd c2 c1) (fun _ => ok_bind (bs_net h (xi _) (inr_c rfl) (inr_c rfl) Iff.rfl Iff.rfl) (fun r hr => hbk _ hr.2))))
theorem lb_757 {xs : Nat → Int32} {L : Nat} {bk : Mem → Int → Option Int} {M : Mem} {v : Int} (h : LI M) (hbk : ∀ N, LI N → Ok (fun r => r = 1) (bk N (w32 (v + 6)))) : Ok (fun r => r = 1) (t_Law_law_L757 xs L bk M v) := by
  unfold t_Law_law_L757 t_Law_law_L1540
  exact ok_bind (bs_lay h (xi _) (xi _)) (fun q hq => ok_bind hq (fun r hr => hbk _ hr.2))
theorem lb_794 {xs : Nat → Int32} {L : Nat} {bk : Mem → Int → Option Int} {M : Mem} {v : Int} (h : LI M) (hbk : ∀ N, LI N → Ok (fun r => r = 1) (bk N (w32 (v + 6)))) : Ok (fun r => r = 1) (t_Law_law_L794 xs L bk M v) := by
  unfold t_Law_law_L794 t_Law_law_L1540
  exact ok_bind (bs_pour h (xi _) (xi _)) (fun q hq => ok_bind hq (fun r hr => hbk _ hr.2))
theorem lb_831 {xs : Nat → Int32} {L : Nat} {bk : Mem → Int → Option Int} {M : Mem} {v : Int} (h : LI M) (hbk : ∀ N, LI N → Ok (fun r => r = 1) (bk N (w32 (v + 6)))) : Ok (fun r => r = 1) (t_Law_law_L831 xs L bk M v) := by
  unfold t_Law_law_L831 t_Law_law_L1540
  exact ok_let (fun q eq => by rw [eq]; exact ok_bind (bs_drain h ) (fun r hr => hbk _ hr.2))
theorem lb_844 {xs : Nat → Int32} {L : Nat} {bk : Mem → Int → Option Int} {M : Mem} {v : Int} (h : LI M) (hbk : ∀ N, LI N → Ok (fun r => r = 1) (bk N (w32 (v + 6)))) : Ok (fun r => r = 1) (t_Law_law_L844 xs L bk M v) := by
  unfold t_Law_law_L844 t_Law_law_L1540
  exact ok_bind (bs_flood h (xi _) (xi _)) (fun q hq => ok_bind hq (fun r hr => hbk _ hr.2))
theorem lb_881 {xs : Nat → Int32} {L : Nat} {bk : Mem → Int → Option Int} {M : Mem} {v : Int} (h : LI M) (hbk : ∀ N, LI N → Ok (fun r => r = 1) (bk N (w32 (v + 6)))) : Ok (fun r => r = 1) (t_Law_law_L881 xs L bk M v) := by
  unfold t_Law_law_L881 t_Law_law_L1540
  exact ok_bind (lc_walk h (xi _) (xi _)) (fun q hq => ok_bind (lr_walk hq (xi _) (xi _)) (fun r hr => hbk _ hr))
theorem lb_918 {xs : Nat → Int32} {L : Nat} {bk : Mem → Int → Option Int} {M : Mem} {v : Int} (h : LI M) (hbk : ∀ N, LI N → Ok (fun r => r = 1) (bk N (w32 (v + 6)))) : Ok (fun r => r = 1) (t_Law_law_L918 xs L bk M v) := by
  unfold t_Law_law_L918 t_Law_law_L1540
  exact ok_bind (lc_step h (xi _) (xi _) (xi _)) (fun q hq => ok_bind (lr_step hq (xi _) (xi _) (xi _)) (fun r hr => hbk _ hr))
theorem lb_967 {xs : Nat → Int32} {L : Nat} {bk : Mem → Int → Option Int} {M : Mem} {v : Int} (h : LI M) (hbk : ∀ N, LI N → Ok (fun r => r = 1) (bk N (w32 (v + 6)))) : Ok (fun r => r = 1) (t_Law_law_L967 xs L bk M v) := by
  unfold t_Law_law_L967 t_Law_law_L1540
  exact ok_bind (lc_push h (xi _) (xi _) (xi _)) (fun q hq => ok_bind (lr_push hq (xi _) (xi _) (xi _)) (fun r hr => hbk _ hr))
theorem lb_1016 {xs : Nat → Int32} {L : Nat} {bk : Mem → Int → Option Int} {M : Mem} {v : Int} (h : LI M) (hbk : ∀ N, LI N → Ok (fun r => r = 1) (bk N (w32 (v + 6)))) : Ok (fun r => r = 1) (t_Law_law_L1016 xs L bk M v) := by
  unfold t_Law_law_L1016 t_Law_law_L1540
  exact ok_bind (lc_pushed h (xi _) (xi _) (xi _)) (fun q hq => ok_bind (lr_pushed hq (xi _) (xi _) (xi _)) (fun r hr => hbk _ hr))
theorem lb_1065 {xs : Nat → Int32} {L : Nat} {bk : Mem → Int → Option Int} {M : Mem} {v : Int} (h : LI M) (hbk : ∀ N, LI N → Ok (fun r => r = 1) (bk N (w32 (v + 6)))) : Ok (fun r => r = 1) (t_Law_law_L1065 xs L bk M v) := by
  unfold t_Law_law_L1065 t_Law_law_L1540
  exact ok_bind (lc_war h (xi _) (xi _)) (fun q hq => ok_bind (lr_war hq (xi _) (xi _)) (fun r hr => hbk _ hr))
theorem lb_1102 {xs : Nat → Int32} {L : Nat} {bk : Mem → Int → Option Int} {M : Mem} {v : Int} (h : LI M) (hbk : ∀ N, LI N → Ok (fun r => r = 1) (bk N (w32 (v + 6)))) : Ok (fun r => r = 1) (t_Law_law_L1102 xs L bk M v) := by
  unfold t_Law_law_L1102 t_Law_law_L1540
  exact ok_bind (sf_WF_nets h.1 ) (fun q hq => ok_bind (lr_nets h ) (fun r hr => hbk _ hr))
theorem lb_1115 {xs : Nat → Int32} {L : Nat} {bk : Mem → Int → Option Int} {M : Mem} {v : Int} (h : LI M) (hbk : ∀ N, LI N → Ok (fun r => r = 1) (bk N (w32 (v + 6)))) : Ok (fun r => r = 1) (t_Law_law_L1115 xs L bk M v) := by
  unfold t_Law_law_L1115 t_Law_law_L1540
  exact ok_bind (lc_clock h (xi _)) (fun q hq => ok_bind (lr_clock hq (xi _)) (fun r hr => hbk _ hr))
theorem lb_1140 {xs : Nat → Int32} {L : Nat} {bk : Mem → Int → Option Int} {M : Mem} {v : Int} (h : LI M) (hbk : ∀ N, LI N → Ok (fun r => r = 1) (bk N (w32 (v + 6)))) : Ok (fun r => r = 1) (t_Law_law_L1140 xs L bk M v) := by
  unfold t_Law_law_L1140 t_Law_law_L1540
  exact ok_bind (lc_stays h ) (fun q hq => ok_bind (lr_stays hq ) (fun r hr => hbk _ hr))
theorem lb_1153 {xs : Nat → Int32} {L : Nat} {bk : Mem → Int → Option Int} {M : Mem} {v : Int} (h : LI M) (hbk : ∀ N, LI N → Ok (fun r => r = 1) (bk N (w32 (v + 6)))) : Ok (fun r => r = 1) (t_Law_law_L1153 xs L bk M v) := by
  unfold t_Law_law_L1153 t_Law_law_L1540
  exact ok_bind (lc_stay h (xi _)) (fun q hq => ok_bind (lr_stay hq (xi _)) (fun r hr => hbk _ hr))
theorem lb_1178 {xs : Nat → Int32} {L : Nat} {bk : Mem → Int → Option Int} {M : Mem} {v : Int} (h : LI M) (hbk : ∀ N, LI N → Ok (fun r => r = 1) (bk N (w32 (v + 6)))) : Ok (fun r => r = 1) (t_Law_law_L1178 xs L bk M v) := by
  unfold t_Law_law_L1178 t_Law_law_L1540
  exact ok_bind (lc_treaty h (xi _)) (fun q hq => ok_bind (lr_treaty hq (xi _)) (fun r hr => hbk _ hr))
theorem lb_1203 {xs : Nat → Int32} {L : Nat} {bk : Mem → Int → Option Int} {M : Mem} {v : Int} (h : LI M) (hbk : ∀ N, LI N → Ok (fun r => r = 1) (bk N (w32 (v + 6)))) : Ok (fun r => r = 1) (t_Law_law_L1203 xs L bk M v) := by
  unfold t_Law_law_L1203 t_Law_law_L1540
  exact ok_bind (lc_moves h (xi _) (xi _)) (fun q hq => ok_bind (lr_moves hq (xi _) (xi _)) (fun r hr => hbk _ hr))
theorem lb_1240 {xs : Nat → Int32} {L : Nat} {bk : Mem → Int → Option Int} {M : Mem} {v : Int} (h : LI M) (hbk : ∀ N, LI N → Ok (fun r => r = 1) (bk N (w32 (v + 6)))) : Ok (fun r => r = 1) (t_Law_law_L1240 xs L bk M v) := by
  unfold t_Law_law_L1240 t_Law_law_L1540
  exact ok_let (fun q eq => by rw [eq]; exact ok_bind (bs_note h (xi _) (xi _)) (fun r hr => hbk _ hr.2))
theorem lb_1277 {xs : Nat → Int32} {L : Nat} {bk : Mem → Int → Option Int} {M : Mem} {v : Int} (h : LI M) (hbk : ∀ N, LI N → Ok (fun r => r = 1) (bk N (w32 (v + 6)))) : Ok (fun r => r = 1) (t_Law_law_L1277 xs L bk M v) := by
  unfold t_Law_law_L1277 t_Law_law_L1540
  exact ok_let (fun q eq => by rw [eq]; exact ok_bind (bs_strike h (xi _)) (fun r hr => hbk _ hr.2))
theorem lb_1302 {xs : Nat → Int32} {L : Nat} {bk : Mem → Int → Option Int} {M : Mem} {v : Int} (h : LI M) (hbk : ∀ N, LI N → Ok (fun r => r = 1) (bk N (w32 (v + 6)))) : Ok (fun r => r = 1) (t_Law_law_L1302 xs L bk M v) := by
  unfold t_Law_law_L1302 t_Law_law_L1540
  exact ok_let (fun q eq => ok_let (fun r er => by rw [er, eq]; exact hbk _ (bs_known h (xi _)).2))
theorem lb_1327 {xs : Nat → Int32} {L : Nat} {bk : Mem → Int → Option Int} {M : Mem} {v : Int} (h : LI M) (hbk : ∀ N, LI N → Ok (fun r => r = 1) (bk N (w32 (v + 6)))) : Ok (fun r => r = 1) (t_Law_law_L1327 xs L bk M v) := by
  unfold t_Law_law_L1327 t_Law_law_L1540
  exact ok_bind (lc_fits h ) (fun q hq => ok_bind (lr_fits hq ) (fun r hr => hbk _ hr))
theorem lb_1340 {xs : Nat → Int32} {L : Nat} {bk : Mem → Int → Option Int} {M : Mem} {v : Int} (h : LI M) (hbk : ∀ N, LI N → Ok (fun r => r = 1) (bk N (w32 (v + 6)))) : Ok (fun r => r = 1) (t_Law_law_L1340 xs L bk M v) := by
  unfold t_Law_law_L1340 t_Law_law_L1540
  exact ok_bind (lc_may h (xi _)) (fun q hq => ok_bind (lr_may hq (xi _)) (fun r hr => hbk _ hr))
theorem lb_1365 {xs : Nat → Int32} {L : Nat} {bk : Mem → Int → Option Int} {M : Mem} {v : Int} (h : LI M) (hbk : ∀ N, LI N → Ok (fun r => r = 1) (bk N (w32 (v + 6)))) : Ok (fun r => r = 1) (t_Law_law_L1365 xs L bk M v) := by
  unfold t_Law_law_L1365 t_Law_law_L1540
  exact ok_bind (bs_years h (xi _)) (fun q hq => ok_bind hq (fun r hr => hbk _ hr.2))
theorem lb_1390 {xs : Nat → Int32} {L : Nat} {bk : Mem → Int → Option Int} {M : Mem} {v : Int} (h : LI M) (hbk : ∀ N, LI N → Ok (fun r => r = 1) (bk N (w32 (v + 6)))) : Ok (fun r => r = 1) (t_Law_law_L1390 xs L bk M v) := by
  unfold t_Law_law_L1390 t_Law_law_L1540
  exact ok_let (fun q eq => ok_bind (lr_voted h (xi _) (xi _)) (fun r hr => hbk _ hr))
theorem lb_1427 {xs : Nat → Int32} {L : Nat} {bk : Mem → Int → Option Int} {M : Mem} {v : Int} (h : LI M) (hbk : ∀ N, LI N → Ok (fun r => r = 1) (bk N (w32 (v + 6)))) : Ok (fun r => r = 1) (t_Law_law_L1427 xs L bk M v) := by
  unfold t_Law_law_L1427 t_Law_law_L1540
  exact ok_bind (bs_tried h (xi _) (xi _) (xi _)) (fun q hq => ok_bind hq (fun r hr => hbk _ hr.2))
theorem lb_1476 {xs : Nat → Int32} {L : Nat} {bk : Mem → Int → Option Int} {M : Mem} {v : Int} (h : LI M) (hbk : ∀ N, LI N → Ok (fun r => r = 1) (bk N (w32 (v + 6)))) : Ok (fun r => r = 1) (t_Law_law_L1476 xs L bk M v) := by
  unfold t_Law_law_L1476 t_Law_law_L1540
  exact ok_let (fun q eq => by rw [eq]; exact ok_bind (bs_undo h ) (fun r hr => hbk _ hr.2))
theorem lb_1489 {xs : Nat → Int32} {L : Nat} {bk : Mem → Int → Option Int} {M : Mem} {v : Int} (h : LI M) (hbk : ∀ N, LI N → Ok (fun r => r = 1) (bk N (w32 (v + 6)))) : Ok (fun r => r = 1) (t_Law_law_L1489 xs L bk M v) := by
  unfold t_Law_law_L1489 t_Law_law_L1540
  exact ok_let (fun q eq => by rw [eq]; exact ok_bind (bs_keep h ) (fun r hr => hbk _ hr.2))
theorem lb_1502 {xs : Nat → Int32} {L : Nat} {bk : Mem → Int → Option Int} {M : Mem} {v : Int} (h : LI M) (hbk : ∀ N, LI N → Ok (fun r => r = 1) (bk N (w32 (v + 6)))) : Ok (fun r => r = 1) (t_Law_law_L1502 xs L bk M v) := by
  unfold t_Law_law_L1502 t_Law_law_L1540
  exact ok_let (fun q eq => by rw [eq]; exact ok_bind (bs_back h ) (fun r hr => hbk _ hr.2))
theorem lb_1515 {xs : Nat → Int32} {L : Nat} {bk : Mem → Int → Option Int} {M : Mem} {v : Int} (h : LI M) (hbk : ∀ N, LI N → Ok (fun r => r = 1) (bk N (w32 (v + 6)))) : Ok (fun r => r = 1) (t_Law_law_L1515 xs L bk M v) := by
  unfold t_Law_law_L1515 t_Law_law_L1540
  obtain ⟨v, N, e1, e2⟩ := eq_count h (xs ((w32 (v + 1))).toNat).toInt
  obtain ⟨r, e3, hr⟩ := lr_count h (xi _)
  have e4 := Option.some.inj (e3.symm.trans e2)
  rw [e4] at hr
  rw [e1, obind_some, e2, obind_some, if_pos rfl]
  exact hbk _ hr
