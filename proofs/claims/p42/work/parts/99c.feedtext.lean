/-! ===== feed and text -/
theorem lb_220 {xs : Nat → Int32} {L : Nat} {bk : Mem → Int → Option Int} {M : Mem} {v : Int} (h : LI M) (hbk : ∀ N, LI N → Ok (fun r => r = 1) (bk N (w32 (v + 6)))) : Ok (fun r => r = 1) (t_Law_law_L220 xs L bk M v) := by
  unfold t_Law_law_L220 t_Law_law_L1540
  exact ok_bind (bs_feed h (xi _) (xi _) (xi _) (xi _) (xi _)) (fun q hq => ok_bind hq (fun r hr => hbk _ hr.2))
theorem lb_293 {xs : Nat → Int32} {L : Nat} {bk : Mem → Int → Option Int} {M : Mem} {v : Int} (h : LI M) (hbk : ∀ N, LI N → Ok (fun r => r = 1) (bk N (w32 (v + 6)))) : Ok (fun r => r = 1) (t_Law_law_L293 xs L bk M v) := by
  unfold t_Law_law_L293 t_Law_law_L1540
  exact ok_bind (bs_text h (xi _)) (fun q hq => ok_bind hq (fun r hr => hbk _ hr.2))
