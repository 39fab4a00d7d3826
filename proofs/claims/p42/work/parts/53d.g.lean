section
/-! safe rows -/
theorem sf_Paths_trace_L5 {k1 : Nat} {x2 : Int}   (h_x2 : InR x2) : ∀ (fu : Nat) (M : Mem) (v2_ : Int) (v3_ : Int), IM M → InR v2_ → InR v3_ → 2147483648 - v3_ < (fu : Int) → Ok (fun r => IM r) (t_Paths_trace_L5 k1 x2 fu M v2_ v3_) := by
  intro fu
  induction fu with
  | zero => intro M v2_ v3_ h_M h_v2_ h_v3_ hf; have r_ := (h_v3_ : InR v3_); unfold InR at r_; exact absurd hf (by omega)
  | succ fu ih =>
    intro M v2_ v3_ h_M h_v2_ h_v3_ hf
    rw [t_Paths_trace_L5]
    have r_v3_ : -2147483648 ≤ v3_ ∧ v3_ ≤ 2147483647 := h_v3_
    refine ok_ite (fun c_1 => ?_) (fun c_1 => ?_)
    · exact ok_some h_M
    · have f_2 : v3_ ≤ 2147483646 := by omega
      refine ok_let (fun q2 e_q2 => ?_)
      have h_q2 : (fun r => IM r) q2 := by rw [e_q2]; exact (sf_WF_put  h_M h_v3_ h_v2_ )
      clear e_q2
      refine ok_let (fun M4 e_M4 => ?_)
      have h_M4 : IM M4 := by rw [e_M4]; exact IM.setI h_q2 (inr_w32 _)
      clear e_M4
      refine ok_let (fun q5 e_q5 => ?_)
      have h_q5 : (fun r => InR r) q5 := by rw [e_q5]; exact (sf_WF_look  h_M4 h_v2_ )
      clear e_q5
      refine ok_ite (fun c_3 => ?_) (fun c_3 => ?_)
      · exact ok_some h_M4
      · exact (sf_Paths_trace_L45 (c_bk5 := v3_) (fun a0_ a1_ a2_ h0_ h1_ h2_ z_ => ih a0_ a1_ a2_ h0_ h1_ h2_ (by omega)) h_x2 _ _ _ _ _ h_M4 h_v2_ h_v3_ (inr_c rfl) (by omega) (fu_up (inr_c rfl)))
theorem sf_Paths_trace {k1 : Nat} {x2 : Int} {M : Mem}   (h_M : IM M) (h_x2 : InR x2)  : Ok (fun r => IM r) (t_Paths_trace M k1 x2) := by
  unfold t_Paths_trace
  exact (sf_Paths_trace_L5  h_x2 _ _ _ _ h_M h_x2 (inr_c rfl) (fu_up (inr_c rfl)))
theorem sf_Paths_find_L48 {k1 : Nat} {x2 : Int} {x3 : Int} {M : Mem}   (h_M : IM M) (h_x2 : InR x2) (h_x3 : InR x3)  : Ok (fun r => IM r) (t_Paths_find_L48 k1 x2 x3 M) := by
  unfold t_Paths_find_L48
  refine ok_let (fun M9 e_M9 => ?_)
  have h_M9 : IM M9 := by rw [e_M9]; exact IM.setI h_M (inr_c rfl)
  clear e_M9
  refine ok_let (fun q10 e_q10 => ?_)
  have h_q10 : (fun r => InR r) q10 := by rw [e_q10]; exact (sf_WF_look  h_M9 h_x2 )
  clear e_q10
  refine ok_let (fun M12 e_M12 => ?_)
  have h_M12 : IM M12 := by rw [e_M12]; exact IM.setI h_M9 (inrq_div)
  clear e_M12
  refine ok_let (fun q13 e_q13 => ?_)
  have h_q13 : (fun r => InR r) q13 := by rw [e_q13]; exact (sf_WF_look  h_M12 h_x2 )
  clear e_q13
  refine ok_ite (fun c_1 => ?_) (fun c_1 => ?_)
  · exact ok_some h_M12
  · refine ok_bind (Q := fun r => IM r) (sf_Paths_trace  h_M12 h_x2 ) (fun q16 h_q16 => ?_)
    exact ok_some h_q16
theorem sf_Paths_find_L23 {k1 : Nat} {x2 : Int} {x3 : Int}   (h_x2 : InR x2) (h_x3 : InR x3) : ∀ (fu : Nat) (M : Mem) (v3_ : Int) (v4_ : Int), IM M → InR v3_ → InR v4_ → 2147483648 - v4_ < (fu : Int) → Ok (fun r => IM r) (t_Paths_find_L23 k1 x2 x3 fu M v3_ v4_) := by
  intro fu
  induction fu with
  | zero => intro M v3_ v4_ h_M h_v3_ h_v4_ hf; have r_ := (h_v4_ : InR v4_); unfold InR at r_; exact absurd hf (by omega)
  | succ fu ih =>
    intro M v3_ v4_ h_M h_v3_ h_v4_ hf
    rw [t_Paths_find_L23]
    have r_v4_ : -2147483648 ≤ v4_ ∧ v4_ ≤ 2147483647 := h_v4_
    refine ok_ite (fun c_1 => ?_) (fun c_1 => ?_)
    · exact (sf_Paths_find_L48  h_M h_x2 h_x3 )
    · have f_2 : v4_ ≤ 2147483646 := by omega
      refine ok_ite (fun c_3 => ?_) (fun c_3 => ?_)
      · exact (sf_Paths_find_L48  h_M h_x2 h_x3 )
      · refine ok_bind (Q := fun r => IM r.1 ∧ InR r.2) (sf_Paths_spread  h_M  ) (fun q7 h_q7 => ?_)
        have w_4 : (w32 (v4_ + 1)) = v4_ + (1) := w32_id (by unfold InR; omega)
        exact (ih _ _ _ h_q7.1 h_q7.2 (inr_w32 _) (by omega))
theorem sf_Paths_find {k1 : Nat} {x2 : Int} {x3 : Int} {M : Mem}   (h_M : IM M) (h_x2 : InR x2) (h_x3 : InR x3)  : Ok (fun r => IM r) (t_Paths_find M k1 x2 x3) := by
  unfold t_Paths_find
  refine ok_bind (Q := fun r => IM r) (sf_Arrays_fill (by decide) h_M (inr_c rfl) ) (fun q1 h_q1 => ?_)
  refine ok_let (fun q3 e_q3 => ?_)
  have h_q3 : (fun r => IM r) q3 := by rw [e_q3]; exact (sf_WF_put  h_q1 h_x3 (inr_c rfl) )
  clear e_q3
  exact (sf_Paths_find_L23  h_x2 h_x3 _ _ _ _ h_q3 (inr_c rfl) (inr_c rfl) (fu_up (inr_c rfl)))
theorem sf_Paths_walkTo_L59 {k1 : Nat} {k2 : Nat} {x3 : Int} {x4 : Int} {bk3 : Mem → Int → Option (Mem)} {bk15 : Mem → Int → Int → Option (Mem)} {v5_ : Int} {v6_ : Int} {v8_ : Int} {v9_ : Int} {M : Mem} {d_bk15_0 : Int} {c_bk15 : Int} (hbk15 : ∀ (a0_ : Mem) (a1_ : Int) (a2_ : Int), IM a0_ → InR a1_ → InR a2_ → c_bk15 < a2_ ∧ a1_ = d_bk15_0 → Ok (fun r => IM r) (bk15 a0_ a1_ a2_)) (h_M : IM M) (h_x3 : InR x3) (h_x4 : InR x4) (h_v5_ : InR v5_) (h_v6_ : InR v6_) (h_v8_ : InR v8_) (h_v9_ : InR v9_) (g_0 : c_bk15 ≤ v6_ ∧ v6_ ≤ 2147483646) (g_1 : v5_ = d_bk15_0) : Ok (fun r => IM r) (t_Paths_walkTo_L59 k1 k2 x3 x4 bk3 bk15 M v5_ v6_ v8_ v9_) := by
  unfold t_Paths_walkTo_L59
  have r_v6_ : -2147483648 ≤ v6_ ∧ v6_ ≤ 2147483647 := h_v6_
  refine ok_let (fun q11 e_q11 => ?_)
  have h_q11 : (fun r => IM r) q11 := by rw [e_q11]; exact (sf_WF_put  h_M h_v8_ h_v9_ )
  clear e_q11
  have w_1 : (w32 (v6_ + 1)) = v6_ + (1) := w32_id (by unfold InR; omega)
  exact hbk15 _ _ _  h_q11 h_v5_ (inr_w32 _) (by omega)
theorem sf_Paths_walkTo_L15 {k1 : Nat} {k2 : Nat} {x3 : Int} {x4 : Int} {bk3 : Mem → Int → Option (Mem)} {c_bk3 : Int} (hbk3 : ∀ (a0_ : Mem) (a1_ : Int), IM a0_ → InR a1_ → c_bk3 < a1_ → Ok (fun r => IM r) (bk3 a0_ a1_)) (h_x3 : InR x3) (h_x4 : InR x4) : ∀ (fu : Nat) (M : Mem) (v5_ : Int) (v6_ : Int), IM M → InR v5_ → InR v6_ → c_bk3 ≤ v5_ ∧ v5_ ≤ 2147483646 → 2147483648 - v6_ < (fu : Int) → Ok (fun r => IM r) (t_Paths_walkTo_L15 k1 k2 x3 x4 bk3 fu M v5_ v6_) := by
  intro fu
  induction fu with
  | zero => intro M v5_ v6_ h_M h_v5_ h_v6_ g_0 hf; have r_ := (h_v6_ : InR v6_); unfold InR at r_; exact absurd hf (by omega)
  | succ fu ih =>
    intro M v5_ v6_ h_M h_v5_ h_v6_ g_0 hf
    rw [t_Paths_walkTo_L15]
    have r_v5_ : -2147483648 ≤ v5_ ∧ v5_ ≤ 2147483647 := h_v5_
    have r_v6_ : -2147483648 ≤ v6_ ∧ v6_ ≤ 2147483647 := h_v6_
    refine ok_ite (fun c_1 => ?_) (fun c_1 => ?_)
    · have w_2 : (w32 (v5_ + 1)) = v5_ + (1) := w32_id (by unfold InR; omega)
      exact hbk3 _ _  h_M (inr_w32 _) (by omega)
    · have f_3 : v6_ ≤ 2147483646 := by omega
      refine ok_let (fun q6 e_q6 => ?_)
      have h_q6 : (fun r => InR r) q6 := by rw [e_q6]; exact (sf_Town_beside  h_M h_v5_ h_v6_ )
      clear e_q6
      refine ok_let (fun q8 e_q8 => ?_)
      have h_q8 : (fun r => InR r) q8 := by rw [e_q8]; exact (sf_Paths_canStep  h_M h_v5_ h_q6 )
      clear e_q8
      refine ok_ite (fun c_4 => ?_) (fun c_4 => ?_)
      · exact (sf_Paths_walkTo_L59 (c_bk15 := v6_) (d_bk15_0 := v5_) (fun a0_ a1_ a2_ h0_ h1_ h2_ z_ => ih a0_ a1_ a2_ h0_ h1_ h2_ (by omega) (by omega)) h_M h_x3 h_x4 h_v5_ h_v6_ (inr_w32 _) (inr_c rfl) (by omega) (by omega))
      · exact (sf_Paths_walkTo_L59 (c_bk15 := v6_) (d_bk15_0 := v5_) (fun a0_ a1_ a2_ h0_ h1_ h2_ z_ => ih a0_ a1_ a2_ h0_ h1_ h2_ (by omega) (by omega)) h_M h_x3 h_x4 h_v5_ h_v6_ (inr_w32 _) (inr_c rfl) (by omega) (by omega))
theorem sf_Paths_walkTo_L3 {k1 : Nat} {k2 : Nat} {x3 : Int} {x4 : Int}   (h_x3 : InR x3) (h_x4 : InR x4) : ∀ (fu : Nat) (M : Mem) (v5_ : Int), IM M → InR v5_ → 2147483648 - v5_ < (fu : Int) → Ok (fun r => IM r) (t_Paths_walkTo_L3 k1 k2 x3 x4 fu M v5_) := by
  intro fu
  induction fu with
  | zero => intro M v5_ h_M h_v5_ hf; have r_ := (h_v5_ : InR v5_); unfold InR at r_; exact absurd hf (by omega)
  | succ fu ih =>
    intro M v5_ h_M h_v5_ hf
    rw [t_Paths_walkTo_L3]
    have r_v5_ : -2147483648 ≤ v5_ ∧ v5_ ≤ 2147483647 := h_v5_
    refine ok_ite (fun c_1 => ?_) (fun c_1 => ?_)
    · refine ok_bind (Q := fun r => IM r) (sf_Paths_find  h_M h_x3 h_x4 ) (fun q3 h_q3 => ?_)
      exact ok_some h_q3
    · have f_2 : v5_ ≤ 2147483646 := by have b_ : (M.1 k1 13) ≤ 2147483647 := ((h_M _ _)).2; omega
      exact (sf_Paths_walkTo_L15 (c_bk3 := v5_) (fun a0_ a1_ h0_ h1_ z_ => ih a0_ a1_ h0_ h1_ (by omega)) h_x3 h_x4 _ _ _ _ h_M h_v5_ (inr_c rfl) (by omega) (fu_up (inr_c rfl)))
theorem sf_Paths_walkTo {k1 : Nat} {k2 : Nat} {x3 : Int} {x4 : Int} {M : Mem}   (h_M : IM M) (h_x3 : InR x3) (h_x4 : InR x4)  : Ok (fun r => IM r) (t_Paths_walkTo M k1 k2 x3 x4) := by
  unfold t_Paths_walkTo
  exact (sf_Paths_walkTo_L3  h_x3 h_x4 _ _ _ h_M (inr_c rfl) (fu_up (inr_c rfl)))
theorem sf_WF_walk {x1 : Int} {x2 : Int} {M : Mem}   (h_M : IM M) (h_x1 : InR x1) (h_x2 : InR x2)  : Ok (fun r => IM r.1 ∧ InR r.2) (t_WF_walk M x1 x2) := by
  unfold t_WF_walk
  refine ok_let (fun q1 e_q1 => ?_)
  have h_q1 : (fun r => InR r) q1 := by rw [e_q1]; exact (sf_WF_canWalk  h_M h_x1 h_x2 )
  clear e_q1
  refine ok_ite (fun c_1 => ?_) (fun c_1 => ?_)
  · exact ok_some ⟨h_M, (inr_c rfl)⟩
  · refine ok_bind (Q := fun r => IM r) (sf_Paths_walkTo  h_M h_x1 h_x2 ) (fun q5 h_q5 => ?_)
    refine ok_ite (fun c_2 => ?_) (fun c_2 => ?_)
    · exact ok_some ⟨h_q5, (inr_c rfl)⟩
    · exact ok_some ⟨h_q5, (inr_w32 _)⟩
theorem sf_Paths_cellAt {x1 : Int} {M : Mem} (h_M : IM M) (h_x1 : InR x1) : (fun r => InR r) (t_Paths_cellAt M x1) := by
  show Pl (fun r => InR r) (t_Paths_cellAt M x1)
  unfold t_Paths_cellAt
  refine pl_ite (fun c_1 => ?_) (fun c_1 => ?_)
  · exact (inr_c rfl)
  · refine pl_let (fun q3 e_q3 => ?_)
    have h_q3 : (fun r => InR r) q3 := by rw [e_q3]; exact (sf_WF_look  h_M h_x1 )
    clear e_q3
    exact h_q3
theorem sf_WF_step {x1 : Int} {x2 : Int} {x3 : Int} {M : Mem}   (h_M : IM M) (h_x1 : InR x1) (h_x2 : InR x2) (h_x3 : InR x3)  : Ok (fun r => IM r.1 ∧ InR r.2) (t_WF_step M x1 x2 x3) := by
  unfold t_WF_step
  refine ok_let (fun q1 e_q1 => ?_)
  have h_q1 : (fun r => InR r) q1 := by rw [e_q1]; exact (sf_WF_canWalk  h_M h_x1 h_x2 )
  clear e_q1
  refine ok_ite (fun c_1 => ?_) (fun c_1 => ?_)
  · exact ok_some ⟨h_M, (inr_c rfl)⟩
  · refine ok_ite (fun c_2 => ?_) (fun c_2 => ?_)
    · refine ok_bind (Q := fun r => IM r) (sf_Paths_walkTo  h_M h_x1 h_x2 ) (fun q6 h_q6 => ?_)
      refine ok_let (fun q8 e_q8 => ?_)
      have h_q8 : (fun r => InR r) q8 := by rw [e_q8]; exact (sf_Paths_cellAt  h_q6 h_x3 )
      clear e_q8
      exact ok_some ⟨h_q6, h_q8⟩
    · exact ok_some ⟨h_M, (inr_c rfl)⟩
theorem sf_Laws_pushAll_L124 {k1 : Nat} {k2 : Nat} {x3 : Int} {r4 : Nat} {N4 : Nat} {bk3 : Mem → Int → Option (Mem)} {bk24 : Mem → Int → Int → Int → Option (Mem)} {v5_ : Int} {v6_ : Int} {v7_ : Int} {v8_ : Int} {M : Mem} {d_bk24_0 : Int} {c_bk24 : Int} (hbk24 : ∀ (a0_ : Mem) (a1_ : Int) (a2_ : Int) (a3_ : Int), IM a0_ → InR a1_ → InR a2_ → InR a3_ → c_bk24 < a3_ ∧ a1_ = d_bk24_0 → Ok (fun r => IM r) (bk24 a0_ a1_ a2_ a3_)) (h_M : IM M) (h_x3 : InR x3) (h_v5_ : InR v5_) (h_v6_ : InR v6_) (h_v7_ : InR v7_) (h_v8_ : InR v8_) (g_0 : c_bk24 ≤ v7_ ∧ v7_ ≤ 2147483646) (g_1 : v5_ = d_bk24_0) : Ok (fun r => IM r) (t_Laws_pushAll_L124 k1 k2 x3 r4 N4 bk3 bk24 M v5_ v6_ v7_ v8_) := by
  unfold t_Laws_pushAll_L124
  have r_v7_ : -2147483648 ≤ v7_ ∧ v7_ ≤ 2147483647 := h_v7_
  refine ok_let (fun q18 e_q18 => ?_)
  have h_q18 : (fun r => IM r) q18 := by rw [e_q18]; exact (sf_WF_put  h_M (inr_w32 _) h_v8_ )
  clear e_q18
  have w_1 : (w32 (v7_ + 1)) = v7_ + (1) := w32_id (by unfold InR; omega)
  exact hbk24 _ _ _ _  h_q18 h_v5_ h_v6_ (inr_w32 _) (by omega)
theorem sf_Laws_pushAll_L122 {k1 : Nat} {k2 : Nat} {x3 : Int} {r4 : Nat} {N4 : Nat} {bk3 : Mem → Int → Option (Mem)} {bk24 : Mem → Int → Int → Int → Option (Mem)} {v5_ : Int} {v6_ : Int} {v7_ : Int} {v8_ : Int} {M : Mem} {d_bk24_0 : Int} {c_bk24 : Int} (hbk24 : ∀ (a0_ : Mem) (a1_ : Int) (a2_ : Int) (a3_ : Int), IM a0_ → InR a1_ → InR a2_ → InR a3_ → c_bk24 < a3_ ∧ a1_ = d_bk24_0 → Ok (fun r => IM r) (bk24 a0_ a1_ a2_ a3_)) (h_M : IM M) (h_x3 : InR x3) (h_v5_ : InR v5_) (h_v6_ : InR v6_) (h_v7_ : InR v7_) (h_v8_ : InR v8_) (g_0 : c_bk24 ≤ v7_ ∧ v7_ ≤ 2147483646) (g_1 : v5_ = d_bk24_0) : Ok (fun r => IM r) (t_Laws_pushAll_L122 k1 k2 x3 r4 N4 bk3 bk24 M v5_ v6_ v7_ v8_) := by
  unfold t_Laws_pushAll_L122
  have r_v7_ : -2147483648 ≤ v7_ ∧ v7_ ≤ 2147483647 := h_v7_
  exact (sf_Laws_pushAll_L124 (c_bk24 := c_bk24) (d_bk24_0 := d_bk24_0) (fun a0_ a1_ a2_ a3_ h0_ h1_ h2_ h3_ z_ => hbk24 a0_ a1_ a2_ a3_ h0_ h1_ h2_ h3_ (by omega)) h_M h_x3 h_v5_ h_v6_ h_v7_ h_v8_ (by omega) (by omega))
theorem sf_Laws_pushAll_L94 {k1 : Nat} {k2 : Nat} {x3 : Int} {r4 : Nat} {N4 : Nat} {bk3 : Mem → Int → Option (Mem)} {bk24 : Mem → Int → Int → Int → Option (Mem)} {v5_ : Int} {v6_ : Int} {v7_ : Int} {v8_ : Int64} {M : Mem} {d_bk24_0 : Int} {c_bk24 : Int} (hbk24 : ∀ (a0_ : Mem) (a1_ : Int) (a2_ : Int) (a3_ : Int), IM a0_ → InR a1_ → InR a2_ → InR a3_ → c_bk24 < a3_ ∧ a1_ = d_bk24_0 → Ok (fun r => IM r) (bk24 a0_ a1_ a2_ a3_)) (h_M : IM M) (h_x3 : InR x3) (h_v5_ : InR v5_) (h_v6_ : InR v6_) (h_v7_ : InR v7_) (g_0 : c_bk24 ≤ v7_ ∧ v7_ ≤ 2147483646) (g_1 : v5_ = d_bk24_0) : Ok (fun r => IM r) (t_Laws_pushAll_L94 k1 k2 x3 r4 N4 bk3 bk24 M v5_ v6_ v7_ v8_) := by
  unfold t_Laws_pushAll_L94
  have r_v7_ : -2147483648 ≤ v7_ ∧ v7_ ≤ 2147483647 := h_v7_
  refine ok_ite (fun c_1 => ?_) (fun c_1 => ?_)
  · exact (sf_Laws_pushAll_L122 (c_bk24 := c_bk24) (d_bk24_0 := d_bk24_0) (fun a0_ a1_ a2_ a3_ h0_ h1_ h2_ h3_ z_ => hbk24 a0_ a1_ a2_ a3_ h0_ h1_ h2_ h3_ (by omega)) h_M h_x3 h_v5_ h_v6_ h_v7_ (inr_c rfl) (by omega) (by omega))
  · exact (sf_Laws_pushAll_L122 (c_bk24 := c_bk24) (d_bk24_0 := d_bk24_0) (fun a0_ a1_ a2_ a3_ h0_ h1_ h2_ h3_ z_ => hbk24 a0_ a1_ a2_ a3_ h0_ h1_ h2_ h3_ (by omega)) h_M h_x3 h_v5_ h_v6_ h_v7_ (inrq_l2i) (by omega) (by omega))
theorem sf_Laws_pushAll_L24 {k1 : Nat} {k2 : Nat} {x3 : Int} {r4 : Nat} {N4 : Nat} {bk3 : Mem → Int → Option (Mem)} {c_bk3 : Int} (hbk3 : ∀ (a0_ : Mem) (a1_ : Int), IM a0_ → InR a1_ → c_bk3 < a1_ → Ok (fun r => IM r) (bk3 a0_ a1_)) (h_x3 : InR x3) : ∀ (fu : Nat) (M : Mem) (v5_ : Int) (v6_ : Int) (v7_ : Int), IM M → InR v5_ → InR v6_ → InR v7_ → c_bk3 ≤ v5_ ∧ v5_ ≤ 2147483646 → 2147483648 - v7_ < (fu : Int) → Ok (fun r => IM r) (t_Laws_pushAll_L24 k1 k2 x3 r4 N4 bk3 fu M v5_ v6_ v7_) := by
  intro fu
  induction fu with
  | zero => intro M v5_ v6_ v7_ h_M h_v5_ h_v6_ h_v7_ g_0 hf; have r_ := (h_v7_ : InR v7_); unfold InR at r_; exact absurd hf (by omega)
  | succ fu ih =>
    intro M v5_ v6_ v7_ h_M h_v5_ h_v6_ h_v7_ g_0 hf
    rw [t_Laws_pushAll_L24]
    have r_v5_ : -2147483648 ≤ v5_ ∧ v5_ ≤ 2147483647 := h_v5_
    have r_v7_ : -2147483648 ≤ v7_ ∧ v7_ ≤ 2147483647 := h_v7_
    refine ok_ite (fun c_1 => ?_) (fun c_1 => ?_)
    · have w_2 : (w32 (v5_ + 1)) = v5_ + (1) := w32_id (by unfold InR; omega)
      exact hbk3 _ _  h_M (inr_w32 _) (by omega)
    · have f_3 : v7_ ≤ 2147483646 := by omega
      refine ok_let (fun q6 e_q6 => ?_)
      have h_q6 : (fun r => InR r) q6 := by rw [e_q6]; exact (sf_Town_beside  h_M h_v5_ h_v7_ )
      clear e_q6
      refine ok_ite (fun c_4 => ?_) (fun c_4 => ?_)
      · exact (sf_Laws_pushAll_L124 (c_bk24 := v7_) (d_bk24_0 := v5_) (fun a0_ a1_ a2_ a3_ h0_ h1_ h2_ h3_ z_ => ih a0_ a1_ a2_ a3_ h0_ h1_ h2_ h3_ (by omega) (by omega)) h_M h_x3 h_v5_ h_v6_ h_v7_ (inr_c rfl) (by omega) (by omega))
      · refine ok_let (fun q9 e_q9 => ?_)
        have h_q9 : (fun r => InR r) q9 := by rw [e_q9]; exact (sf_WF_bitOf  h_M h_v5_ )
        clear e_q9
        refine ok_ite (fun c_5 => ?_) (fun c_5 => ?_)
        · refine ok_let (fun q12 e_q12 => ?_)
          have h_q12 : (fun r => InR r) q12 := by rw [e_q12]; exact (sf_WF_bitOf  h_M h_q6 )
          clear e_q12
          refine ok_ite (fun c_6 => ?_) (fun c_6 => ?_)
          · refine ok_ite (fun c_7 => ?_) (fun c_7 => ?_)
            · exact (sf_Laws_pushAll_L94 (c_bk24 := v7_) (d_bk24_0 := v5_) (fun a0_ a1_ a2_ a3_ h0_ h1_ h2_ h3_ z_ => ih a0_ a1_ a2_ a3_ h0_ h1_ h2_ h3_ (by omega) (by omega)) h_M h_x3 h_v5_ h_v6_ h_v7_ (by omega) (by omega))
            · refine ok_bind (Q := fun r => IM r.1) (sf_Laws_pushFrom  h_M h_v5_ h_v7_ h_x3 ) (fun q16 h_q16 => ?_)
              exact (sf_Laws_pushAll_L94 (c_bk24 := v7_) (d_bk24_0 := v5_) (fun a0_ a1_ a2_ a3_ h0_ h1_ h2_ h3_ z_ => ih a0_ a1_ a2_ a3_ h0_ h1_ h2_ h3_ (by omega) (by omega)) h_q16 h_x3 h_v5_ h_v6_ h_v7_ (by omega) (by omega))
          · exact (sf_Laws_pushAll_L124 (c_bk24 := v7_) (d_bk24_0 := v5_) (fun a0_ a1_ a2_ a3_ h0_ h1_ h2_ h3_ z_ => ih a0_ a1_ a2_ a3_ h0_ h1_ h2_ h3_ (by omega) (by omega)) h_M h_x3 h_v5_ h_v6_ h_v7_ (inr_c rfl) (by omega) (by omega))
        · exact (sf_Laws_pushAll_L124 (c_bk24 := v7_) (d_bk24_0 := v5_) (fun a0_ a1_ a2_ a3_ h0_ h1_ h2_ h3_ z_ => ih a0_ a1_ a2_ a3_ h0_ h1_ h2_ h3_ (by omega) (by omega)) h_M h_x3 h_v5_ h_v6_ h_v7_ (inr_c rfl) (by omega) (by omega))
theorem sf_Laws_pushAll_L3 {k1 : Nat} {k2 : Nat} {x3 : Int} {r4 : Nat} {N4 : Nat}   (h_x3 : InR x3) : ∀ (fu : Nat) (M : Mem) (v5_ : Int), IM M → InR v5_ → 2147483648 - v5_ < (fu : Int) → Ok (fun r => IM r) (t_Laws_pushAll_L3 k1 k2 x3 r4 N4 fu M v5_) := by
  intro fu
  induction fu with
  | zero => intro M v5_ h_M h_v5_ hf; have r_ := (h_v5_ : InR v5_); unfold InR at r_; exact absurd hf (by omega)
  | succ fu ih =>
    intro M v5_ h_M h_v5_ hf
    rw [t_Laws_pushAll_L3]
    have r_v5_ : -2147483648 ≤ v5_ ∧ v5_ ≤ 2147483647 := h_v5_
    refine ok_ite (fun c_1 => ?_) (fun c_1 => ?_)
    · exact ok_some h_M
    · have f_2 : v5_ ≤ 2147483646 := by have b_ : (M.1 k1 13) ≤ 2147483647 := ((h_M _ _)).2; omega
      refine ok_let (fun q3 e_q3 => ?_)
      have h_q3 : (fun r => InR r) q3 := by rw [e_q3]; exact (sf_Scene_nextOf  h_M h_v5_ )
      clear e_q3
      exact (sf_Laws_pushAll_L24 (c_bk3 := v5_) (fun a0_ a1_ h0_ h1_ z_ => ih a0_ a1_ h0_ h1_ (by omega)) h_x3 _ _ _ _ _ h_M h_v5_ h_q3 (inr_c rfl) (by omega) (fu_up (inr_c rfl)))
theorem sf_Laws_pushAll {k1 : Nat} {k2 : Nat} {x3 : Int} {r4 : Nat} {N4 : Nat} {M : Mem}   (h_M : IM M) (h_x3 : InR x3)  : Ok (fun r => IM r) (t_Laws_pushAll M k1 k2 x3 r4 N4) := by
  unfold t_Laws_pushAll
  exact (sf_Laws_pushAll_L3  h_x3 _ _ _ h_M (inr_c rfl) (fu_up (inr_c rfl)))
theorem sf_WF_findPushed {x1 : Int} {x2 : Int} {M : Mem}   (h_M : IM M) (h_x1 : InR x1) (h_x2 : InR x2)  : Ok (fun r => IM r) (t_WF_findPushed M x1 x2) := by
  unfold t_WF_findPushed
  refine ok_bind (Q := fun r => IM r) (sf_Laws_pushAll  h_M (h_M _ _) ) (fun q3 h_q3 => ?_)
  refine ok_bind (Q := fun r => IM r) (sf_Paths_find  h_q3 h_x1 h_x2 ) (fun q6 h_q6 => ?_)
  exact ok_some h_q6
theorem sf_WF_push {x1 : Int} {x2 : Int} {x3 : Int} {M : Mem}   (h_M : IM M) (h_x1 : InR x1) (h_x2 : InR x2) (h_x3 : InR x3)  : Ok (fun r => IM r.1 ∧ InR r.2) (t_WF_push M x1 x2 x3) := by
  unfold t_WF_push
  refine ok_let (fun q1 e_q1 => ?_)
  have h_q1 : (fun r => InR r) q1 := by rw [e_q1]; exact (sf_WF_isFree  h_M h_x1 )
  clear e_q1
  refine ok_ite (fun c_1 => ?_) (fun c_1 => ?_)
  · exact ok_some ⟨h_M, (inr_c rfl)⟩
  · refine ok_let (fun q4 e_q4 => ?_)
    have h_q4 : (fun r => InR r) q4 := by rw [e_q4]; exact (sf_WF_isFree  h_M h_x2 )
    clear e_q4
    refine ok_ite (fun c_2 => ?_) (fun c_2 => ?_)
    · exact ok_some ⟨h_M, (inr_c rfl)⟩
    · refine ok_ite (fun c_3 => ?_) (fun c_3 => ?_)
      · exact ok_some ⟨h_M, (inr_c rfl)⟩
      · refine ok_ite (fun c_4 => ?_) (fun c_4 => ?_)
        · refine ok_bind (Q := fun r => IM r) (sf_WF_findPushed  h_M h_x1 h_x2 ) (fun q9 h_q9 => ?_)
          refine ok_ite (fun c_5 => ?_) (fun c_5 => ?_)
          · exact ok_some ⟨h_q9, (inr_c rfl)⟩
          · refine ok_ite (fun c_6 => ?_) (fun c_6 => ?_)
            · exact ok_some ⟨h_q9, (h_q9 _ _)⟩
            · exact ok_some ⟨h_q9, (inr_w32 _)⟩
        · exact ok_some ⟨h_M, (inr_c rfl)⟩
theorem sf_WF_pushed {x1 : Int} {x2 : Int} {x3 : Int} {M : Mem}   (h_M : IM M) (h_x1 : InR x1) (h_x2 : InR x2) (h_x3 : InR x3)  : Ok (fun r => IM r.1 ∧ InR r.2) (t_WF_pushed M x1 x2 x3) := by
  unfold t_WF_pushed
  refine ok_let (fun q1 e_q1 => ?_)
  have h_q1 : (fun r => InR r) q1 := by rw [e_q1]; exact (sf_WF_isFree  h_M h_x1 )
  clear e_q1
  refine ok_ite (fun c_1 => ?_) (fun c_1 => ?_)
  · exact ok_some ⟨h_M, (inr_c rfl)⟩
  · refine ok_let (fun q4 e_q4 => ?_)
    have h_q4 : (fun r => InR r) q4 := by rw [e_q4]; exact (sf_WF_isFree  h_M h_x2 )
    clear e_q4
    refine ok_ite (fun c_2 => ?_) (fun c_2 => ?_)
    · exact ok_some ⟨h_M, (inr_c rfl)⟩
    · refine ok_ite (fun c_3 => ?_) (fun c_3 => ?_)
      · refine ok_bind (Q := fun r => IM r) (sf_WF_findPushed  h_M h_x1 h_x2 ) (fun q8 h_q8 => ?_)
        refine ok_let (fun q10 e_q10 => ?_)
        have h_q10 : (fun r => InR r) q10 := by rw [e_q10]; exact (sf_Paths_cellAt  h_q8 h_x3 )
        clear e_q10
        exact ok_some ⟨h_q8, h_q10⟩
      · exact ok_some ⟨h_M, (inr_c rfl)⟩
theorem sf_Trail_firstOther_L2 {k0 : Nat} {k1 : Nat}    : ∀ (fu : Nat) (M : Mem) (v2_ : Int), IM M → InR v2_ → 2147483648 - v2_ < (fu : Int) → Ok (fun r => InR r) (t_Trail_firstOther_L2 k0 k1 fu M v2_) := by
  intro fu
  induction fu with
  | zero => intro M v2_ h_M h_v2_ hf; have r_ := (h_v2_ : InR v2_); unfold InR at r_; exact absurd hf (by omega)
  | succ fu ih =>
    intro M v2_ h_M h_v2_ hf
    rw [t_Trail_firstOther_L2]
    have r_v2_ : -2147483648 ≤ v2_ ∧ v2_ ≤ 2147483647 := h_v2_
    refine ok_ite (fun c_1 => ?_) (fun c_1 => ?_)
    · exact ok_some (inr_c rfl)
    · have f_2 : v2_ ≤ 2147483646 := by have b_ : (M.1 k0 1) ≤ 2147483647 := ((h_M _ _)).2; omega
      refine ok_let (fun q3 e_q3 => ?_)
      have h_q3 : (fun r => InR r) q3 := by rw [e_q3]; exact (sf_WF_look  h_M h_v2_ )
      clear e_q3
      refine ok_let (fun q5 e_q5 => ?_)
      have h_q5 : (fun r => InR r) q5 := by rw [e_q5]; exact (sf_Town_ownerOf  h_M h_q3 )
      clear e_q5
      refine ok_let (fun q7 e_q7 => ?_)
      have h_q7 : (fun r => InR r) q7 := by rw [e_q7]; exact (sf_WF_look  h_M (inr_c rfl) )
      clear e_q7
      refine ok_let (fun q9 e_q9 => ?_)
      have h_q9 : (fun r => InR r) q9 := by rw [e_q9]; exact (sf_Town_ownerOf  h_M h_q7 )
      clear e_q9
      refine ok_ite (fun c_3 => ?_) (fun c_3 => ?_)
      · have w_4 : (w32 (v2_ + 1)) = v2_ + (1) := w32_id (by unfold InR; omega)
        exact (ih _ _ h_M (inr_w32 _) (by omega))
      · exact ok_some h_q5
theorem sf_Trail_firstOther {k0 : Nat} {k1 : Nat} {M : Mem}   (h_M : IM M)   : Ok (fun r => InR r) (t_Trail_firstOther M k0 k1) := by
  unfold t_Trail_firstOther
  exact (sf_Trail_firstOther_L2   _ _ _ h_M (inr_c rfl) (fu_up (inr_c rfl)))
theorem sf_WF_war_L109 {x1 : Int} {x2 : Int} {bk34 : Mem → Int → Int → Option (Mem × Int)} {v3_ : Int} {v4_ : Int} {M : Mem} {c_bk34 : Int} (hbk34 : ∀ (a0_ : Mem) (a1_ : Int) (a2_ : Int), IM a0_ → InR a1_ → InR a2_ → c_bk34 < a2_ → Ok (fun r => IM r.1 ∧ InR r.2) (bk34 a0_ a1_ a2_)) (h_M : IM M) (h_x1 : InR x1) (h_x2 : InR x2) (h_v3_ : InR v3_) (h_v4_ : InR v4_) (g_0 : c_bk34 ≤ v4_ ∧ v4_ ≤ 2147483646) : Ok (fun r => IM r.1 ∧ InR r.2) (t_WF_war_L109 x1 x2 bk34 M v3_ v4_) := by
  unfold t_WF_war_L109
  have r_v4_ : -2147483648 ≤ v4_ ∧ v4_ ≤ 2147483647 := h_v4_
  have w_1 : (w32 (v4_ + 1)) = v4_ + (1) := w32_id (by unfold InR; omega)
  exact hbk34 _ _ _  h_M h_v3_ (inr_w32 _) (by omega)
theorem sf_WF_war_L34 {x1 : Int} {x2 : Int}   (h_x1 : InR x1) (h_x2 : InR x2) : ∀ (fu : Nat) (M : Mem) (v3_ : Int) (v4_ : Int), IM M → InR v3_ → InR v4_ → 2147483648 - v4_ < (fu : Int) → Ok (fun r => IM r.1 ∧ InR r.2) (t_WF_war_L34 x1 x2 fu M v3_ v4_) := by
  intro fu
  induction fu with
  | zero => intro M v3_ v4_ h_M h_v3_ h_v4_ hf; have r_ := (h_v4_ : InR v4_); unfold InR at r_; exact absurd hf (by omega)
  | succ fu ih =>
    intro M v3_ v4_ h_M h_v3_ h_v4_ hf
    rw [t_WF_war_L34]
    have r_v4_ : -2147483648 ≤ v4_ ∧ v4_ ≤ 2147483647 := h_v4_
    refine ok_ite (fun c_1 => ?_) (fun c_1 => ?_)
    · exact ok_some ⟨h_M, h_v3_⟩
    · have f_2 : v4_ ≤ 2147483646 := by have b_ : (M.1 ((M.1 0 4).toNat) 13) ≤ 2147483647 := ((h_M _ _)).2; omega
      refine ok_let (fun q14 e_q14 => ?_)
      have h_q14 : (fun r => InR r) q14 := by rw [e_q14]; exact (sf_Town_ownerOf  h_M h_v4_ )
      clear e_q14
      refine ok_ite (fun c_3 => ?_) (fun c_3 => ?_)
      · refine ok_let (fun q17 e_q17 => ?_)
        have h_q17 : (fun r => InR r) q17 := by rw [e_q17]; exact (sf_WF_bitOf  h_M h_v4_ )
        clear e_q17
        refine ok_ite (fun c_4 => ?_) (fun c_4 => ?_)
        · refine ok_bind (Q := fun r => IM r) (sf_Trail_follow  h_M h_v4_ ) (fun q21 h_q21 => ?_)
          refine ok_bind (Q := fun r => InR r) (sf_Trail_firstOther  h_q21  ) (fun q24 h_q24 => ?_)
          refine ok_ite (fun c_5 => ?_) (fun c_5 => ?_)
          · exact (sf_WF_war_L109 (c_bk34 := v4_) (fun a0_ a1_ a2_ h0_ h1_ h2_ z_ => ih a0_ a1_ a2_ h0_ h1_ h2_ (by omega)) h_q21 h_x1 h_x2 (inr_w32 _) h_v4_ (by omega))
          · exact (sf_WF_war_L109 (c_bk34 := v4_) (fun a0_ a1_ a2_ h0_ h1_ h2_ z_ => ih a0_ a1_ a2_ h0_ h1_ h2_ (by omega)) h_q21 h_x1 h_x2 h_v3_ h_v4_ (by omega))
        · exact (sf_WF_war_L109 (c_bk34 := v4_) (fun a0_ a1_ a2_ h0_ h1_ h2_ z_ => ih a0_ a1_ a2_ h0_ h1_ h2_ (by omega)) h_M h_x1 h_x2 h_v3_ h_v4_ (by omega))
      · exact (sf_WF_war_L109 (c_bk34 := v4_) (fun a0_ a1_ a2_ h0_ h1_ h2_ z_ => ih a0_ a1_ a2_ h0_ h1_ h2_ (by omega)) h_M h_x1 h_x2 h_v3_ h_v4_ (by omega))
theorem sf_WF_war {x1 : Int} {x2 : Int} {M : Mem}   (h_M : IM M) (h_x1 : InR x1) (h_x2 : InR x2)  : Ok (fun r => IM r.1 ∧ InR r.2) (t_WF_war M x1 x2) := by
  unfold t_WF_war
  refine ok_let (fun q2 e_q2 => ?_)
  have h_q2 : (fun r => InR r) q2 := by rw [e_q2]; exact (sf_Town_hasWard  h_M h_x1 )
  clear e_q2
  refine ok_ite (fun c_1 => ?_) (fun c_1 => ?_)
  · exact ok_some ⟨h_M, (inr_c rfl)⟩
  · refine ok_let (fun q6 e_q6 => ?_)
    have h_q6 : (fun r => InR r) q6 := by rw [e_q6]; exact (sf_Town_hasWard  h_M h_x2 )
    clear e_q6
    refine ok_ite (fun c_2 => ?_) (fun c_2 => ?_)
    · exact ok_some ⟨h_M, (inr_c rfl)⟩
    · refine ok_ite (fun c_3 => ?_) (fun c_3 => ?_)
      · exact ok_some ⟨h_M, (inr_c rfl)⟩
      · exact (sf_WF_war_L34  h_x1 h_x2 _ _ _ _ h_M (inr_c rfl) (inr_c rfl) (fu_up (inr_c rfl)))
theorem sf_WF_nets_L72 {bk4 : Mem → Int64 → Int → Option (Int64)} {v1_ : Int64} {v2_ : Int} {M : Mem} {c_bk4 : Int} (hbk4 : ∀ (a0_ : Mem) (a1_ : Int64) (a2_ : Int), IM a0_ → True → InR a2_ → c_bk4 < a2_ → Ok (fun _ => True) (bk4 a0_ a1_ a2_)) (h_M : IM M) (h_v2_ : InR v2_) (g_0 : c_bk4 ≤ v2_ ∧ v2_ ≤ 2147483646) : Ok (fun _ => True) (t_WF_nets_L72 bk4 M v1_ v2_) := by
  unfold t_WF_nets_L72
  have r_v2_ : -2147483648 ≤ v2_ ∧ v2_ ≤ 2147483647 := h_v2_
  have w_1 : (w32 (v2_ + 1)) = v2_ + (1) := w32_id (by unfold InR; omega)
  exact hbk4 _ _ _  h_M trivial (inr_w32 _) (by omega)
theorem sf_WF_nets_L46 {bk4 : Mem → Int64 → Int → Option (Int64)} {v1_ : Int64} {v2_ : Int} {v3_ : Int} {M : Mem} {c_bk4 : Int} (hbk4 : ∀ (a0_ : Mem) (a1_ : Int64) (a2_ : Int), IM a0_ → True → InR a2_ → c_bk4 < a2_ → Ok (fun _ => True) (bk4 a0_ a1_ a2_)) (h_M : IM M) (h_v2_ : InR v2_) (h_v3_ : InR v3_) (g_0 : c_bk4 ≤ v2_ ∧ v2_ ≤ 2147483646) : Ok (fun _ => True) (t_WF_nets_L46 bk4 M v1_ v2_ v3_) := by
  unfold t_WF_nets_L46
  have r_v2_ : -2147483648 ≤ v2_ ∧ v2_ ≤ 2147483647 := h_v2_
  refine ok_ite (fun c_1 => ?_) (fun c_1 => ?_)
  · exact (sf_WF_nets_L72 (c_bk4 := c_bk4) (fun a0_ a1_ a2_ h0_ h1_ h2_ z_ => hbk4 a0_ a1_ a2_ h0_ h1_ h2_ (by omega)) h_M h_v2_ (by omega))
  · refine ok_let (fun q12 e_q12 => ?_)
    have h_q12 : (fun r => InR r) q12 := by rw [e_q12]; exact (sf_Town_isLine  h_M h_v2_ h_v3_ )
    clear e_q12
    refine ok_ite (fun c_2 => ?_) (fun c_2 => ?_)
    · exact (sf_WF_nets_L72 (c_bk4 := c_bk4) (fun a0_ a1_ a2_ h0_ h1_ h2_ z_ => hbk4 a0_ a1_ a2_ h0_ h1_ h2_ (by omega)) h_M h_v2_ (by omega))
    · exact (sf_WF_nets_L72 (c_bk4 := c_bk4) (fun a0_ a1_ a2_ h0_ h1_ h2_ z_ => hbk4 a0_ a1_ a2_ h0_ h1_ h2_ (by omega)) h_M h_v2_ (by omega))
theorem sf_WF_nets_L4     : ∀ (fu : Nat) (M : Mem) (v1_ : Int64) (v2_ : Int), IM M → InR v2_ → 2147483648 - v2_ < (fu : Int) → Ok (fun _ => True) (t_WF_nets_L4  fu M v1_ v2_) := by
  intro fu
  induction fu with
  | zero => intro M v1_ v2_ h_M h_v2_ hf; have r_ := (h_v2_ : InR v2_); unfold InR at r_; exact absurd hf (by omega)
  | succ fu ih =>
    intro M v1_ v2_ h_M h_v2_ hf
    rw [t_WF_nets_L4]
    have r_v2_ : -2147483648 ≤ v2_ ∧ v2_ ≤ 2147483647 := h_v2_
    refine ok_ite (fun c_1 => ?_) (fun c_1 => ?_)
    · exact ok_some True.intro
    · have f_2 : v2_ ≤ 2147483646 := by have b_ : (M.1 ((M.1 0 4).toNat) 13) ≤ 2147483647 := ((h_M _ _)).2; omega
      refine ok_let (fun q4 e_q4 => ?_)
      have h_q4 : (fun r => InR r) q4 := by rw [e_q4]; exact (sf_WF_bitOf  h_M h_v2_ )
      clear e_q4
      refine ok_ite (fun c_3 => ?_) (fun c_3 => ?_)
      · exact (sf_WF_nets_L46 (c_bk4 := v2_) (fun a0_ a1_ a2_ h0_ h1_ h2_ z_ => ih a0_ a1_ a2_ h0_ h2_ (by omega)) h_M h_v2_ (inr_c rfl) (by omega))
      · refine ok_let (fun q8 e_q8 => ?_)
        have h_q8 : (fun r => InR r) q8 := by rw [e_q8]; exact (sf_Scene_nextOf  h_M h_v2_ )
        clear e_q8
        exact (sf_WF_nets_L46 (c_bk4 := v2_) (fun a0_ a1_ a2_ h0_ h1_ h2_ z_ => ih a0_ a1_ a2_ h0_ h2_ (by omega)) h_M h_v2_ h_q8 (by omega))
theorem sf_WF_nets  {M : Mem}   (h_M : IM M)   : Ok (fun _ => True) (t_WF_nets M) := by
  unfold t_WF_nets
  exact (sf_WF_nets_L4   _ _ _ _ h_M (inr_c rfl) (fu_up (inr_c rfl)))
theorem sf_Trail_tryClock_L75 {k0 : Nat} {k1 : Nat} {k2 : Nat} {x3 : Int} {x4 : Int} {bk3 : Mem → Int → Option (Mem)} {v5_ : Int} {M : Mem} {c_bk3 : Int} (hbk3 : ∀ (a0_ : Mem) (a1_ : Int), IM a0_ → InR a1_ → c_bk3 < a1_ → Ok (fun r => IM r) (bk3 a0_ a1_)) (h_M : IM M) (h_x3 : InR x3) (h_x4 : InR x4) (h_v5_ : InR v5_) (g_0 : c_bk3 ≤ v5_ ∧ v5_ ≤ 2147483646) : Ok (fun r => IM r) (t_Trail_tryClock_L75 k0 k1 k2 x3 x4 bk3 M v5_) := by
  unfold t_Trail_tryClock_L75
  have r_v5_ : -2147483648 ≤ v5_ ∧ v5_ ≤ 2147483647 := h_v5_
  have w_1 : (w32 (v5_ + 1)) = v5_ + (1) := w32_id (by unfold InR; omega)
  exact hbk3 _ _  h_M (inr_w32 _) (by omega)
theorem sf_Trail_tryClock_L3 {k0 : Nat} {k1 : Nat} {k2 : Nat} {x3 : Int} {x4 : Int}   (h_x3 : InR x3) (h_x4 : InR x4) : ∀ (fu : Nat) (M : Mem) (v5_ : Int), IM M → InR v5_ → 2147483648 - v5_ < (fu : Int) → Ok (fun r => IM r) (t_Trail_tryClock_L3 k0 k1 k2 x3 x4 fu M v5_) := by
  intro fu
  induction fu with
  | zero => intro M v5_ h_M h_v5_ hf; have r_ := (h_v5_ : InR v5_); unfold InR at r_; exact absurd hf (by omega)
  | succ fu ih =>
    intro M v5_ h_M h_v5_ hf
    rw [t_Trail_tryClock_L3]
    have r_v5_ : -2147483648 ≤ v5_ ∧ v5_ ≤ 2147483647 := h_v5_
    refine ok_ite (fun c_1 => ?_) (fun c_1 => ?_)
    · exact ok_some h_M
    · have f_2 : v5_ ≤ 2147483646 := by have b_ : (M.1 k1 13) ≤ 2147483647 := ((h_M _ _)).2; omega
      refine ok_let (fun q3 e_q3 => ?_)
      have h_q3 : (fun r => InR r) q3 := by rw [e_q3]; exact (sf_WF_bitOf  h_M h_v5_ )
      clear e_q3
      refine ok_ite (fun c_3 => ?_) (fun c_3 => ?_)
      · refine ok_bind (Q := fun r => IM r) (sf_Trail_follow  h_M h_v5_ ) (fun q6 h_q6 => ?_)
        refine ok_ite (fun c_4 => ?_) (fun c_4 => ?_)
        · refine ok_ite (fun c_5 => ?_) (fun c_5 => ?_)
          · exact (sf_Trail_tryClock_L75 (c_bk3 := v5_) (fun a0_ a1_ h0_ h1_ z_ => ih a0_ a1_ h0_ h1_ (by omega)) h_q6 h_x3 h_x4 h_v5_ (by omega))
          · refine ok_let (fun M14 e_M14 => ?_)
            have h_M14 : IM M14 := by rw [e_M14]; exact IM.setI h_q6 (h_q6 _ _)
            clear e_M14
            refine ok_let (fun M15 e_M15 => ?_)
            have h_M15 : IM M15 := by rw [e_M15]; exact IM.setI h_M14 h_x3
            clear e_M15
            refine ok_let (fun M16 e_M16 => ?_)
            have h_M16 : IM M16 := by rw [e_M16]; exact IM.setI h_M15 h_x4
            clear e_M16
            refine ok_let (fun M17 e_M17 => ?_)
            have h_M17 : IM M17 := by rw [e_M17]; exact IM.setI h_M16 h_v5_
            clear e_M17
            exact (sf_Trail_tryClock_L75 (c_bk3 := v5_) (fun a0_ a1_ h0_ h1_ z_ => ih a0_ a1_ h0_ h1_ (by omega)) h_M17 h_x3 h_x4 h_v5_ (by omega))
        · exact (sf_Trail_tryClock_L75 (c_bk3 := v5_) (fun a0_ a1_ h0_ h1_ z_ => ih a0_ a1_ h0_ h1_ (by omega)) h_q6 h_x3 h_x4 h_v5_ (by omega))
      · exact (sf_Trail_tryClock_L75 (c_bk3 := v5_) (fun a0_ a1_ h0_ h1_ z_ => ih a0_ a1_ h0_ h1_ (by omega)) h_M h_x3 h_x4 h_v5_ (by omega))
theorem sf_Trail_tryClock {k0 : Nat} {k1 : Nat} {k2 : Nat} {x3 : Int} {x4 : Int} {M : Mem}   (h_M : IM M) (h_x3 : InR x3) (h_x4 : InR x4)  : Ok (fun r => IM r) (t_Trail_tryClock M k0 k1 k2 x3 x4) := by
  unfold t_Trail_tryClock
  exact (sf_Trail_tryClock_L3  h_x3 h_x4 _ _ _ h_M (inr_c rfl) (fu_up (inr_c rfl)))
theorem sf_Trail_findClock_L51 {k0 : Nat} {k1 : Nat} {k2 : Nat} {bk30 : Mem → Int → Option (Mem)} {c_bk30 : Int} (hbk30 : ∀ (a0_ : Mem) (a1_ : Int), IM a0_ → InR a1_ → c_bk30 < a1_ → Ok (fun r => IM r) (bk30 a0_ a1_))  : ∀ (fu : Nat) (M : Mem) (v3_ : Int) (v4_ : Int) (v5_ : Int), IM M → InR v3_ → InR v4_ → InR v5_ → c_bk30 ≤ v3_ ∧ v3_ ≤ 2147483646 → 2147483648 - v5_ < (fu : Int) → Ok (fun r => IM r) (t_Trail_findClock_L51 k0 k1 k2 bk30 fu M v3_ v4_ v5_) := by
  intro fu
  induction fu with
  | zero => intro M v3_ v4_ v5_ h_M h_v3_ h_v4_ h_v5_ g_0 hf; have r_ := (h_v5_ : InR v5_); unfold InR at r_; exact absurd hf (by omega)
  | succ fu ih =>
    intro M v3_ v4_ v5_ h_M h_v3_ h_v4_ h_v5_ g_0 hf
    rw [t_Trail_findClock_L51]
    have r_v3_ : -2147483648 ≤ v3_ ∧ v3_ ≤ 2147483647 := h_v3_
    have r_v5_ : -2147483648 ≤ v5_ ∧ v5_ ≤ 2147483647 := h_v5_
    refine ok_ite (fun c_1 => ?_) (fun c_1 => ?_)
    · refine ok_let (fun q12 e_q12 => ?_)
      have h_q12 : (fun r => IM r) q12 := by rw [e_q12]; exact (sf_WF_put  h_M h_v3_ h_v4_ )
      clear e_q12
      have w_2 : (w32 (v3_ + 1)) = v3_ + (1) := w32_id (by unfold InR; omega)
      exact hbk30 _ _  h_q12 (inr_w32 _) (by omega)
    · have f_3 : v5_ ≤ 2147483646 := by omega
      refine ok_let (fun q14 e_q14 => ?_)
      have h_q14 : (fun r => IM r) q14 := by rw [e_q14]; exact (sf_WF_put  h_M h_v3_ h_v5_ )
      clear e_q14
      refine ok_bind (Q := fun r => IM r) (sf_Trail_tryClock  h_q14 h_v3_ h_v5_ ) (fun q16 h_q16 => ?_)
      have w_4 : (w32 (v5_ + 1)) = v5_ + (1) := w32_id (by unfold InR; omega)
      exact (ih _ _ _ _ h_q16 h_v3_ h_v4_ (inr_w32 _) (by omega) (by omega))
theorem sf_Trail_findClock_L30 {k0 : Nat} {k1 : Nat} {k2 : Nat}    : ∀ (fu : Nat) (M : Mem) (v3_ : Int), IM M → InR v3_ → 2147483648 - v3_ < (fu : Int) → Ok (fun r => IM r) (t_Trail_findClock_L30 k0 k1 k2 fu M v3_) := by
  intro fu
  induction fu with
  | zero => intro M v3_ h_M h_v3_ hf; have r_ := (h_v3_ : InR v3_); unfold InR at r_; exact absurd hf (by omega)
  | succ fu ih =>
    intro M v3_ h_M h_v3_ hf
    rw [t_Trail_findClock_L30]
    have r_v3_ : -2147483648 ≤ v3_ ∧ v3_ ≤ 2147483647 := h_v3_
    refine ok_ite (fun c_1 => ?_) (fun c_1 => ?_)
    · exact ok_some h_M
    · have f_2 : v3_ ≤ 2147483646 := by have b_ : (M.1 k1 14) ≤ 2147483647 := ((h_M _ _)).2; omega
      refine ok_let (fun q9 e_q9 => ?_)
      have h_q9 : (fun r => InR r) q9 := by rw [e_q9]; exact (sf_WF_look  h_M h_v3_ )
      clear e_q9
      exact (sf_Trail_findClock_L51 (c_bk30 := v3_) (fun a0_ a1_ h0_ h1_ z_ => ih a0_ a1_ h0_ h1_ (by omega))  _ _ _ _ _ h_M h_v3_ h_q9 (inr_c rfl) (by omega) (fu_up (inr_c rfl)))
theorem sf_Trail_findClock {k0 : Nat} {k1 : Nat} {k2 : Nat} {M : Mem}   (h_M : IM M)   : Ok (fun r => IM r) (t_Trail_findClock M k0 k1 k2) := by
  unfold t_Trail_findClock
  refine ok_let (fun M1 e_M1 => ?_)
  have h_M1 : IM M1 := by rw [e_M1]; exact IM.setI h_M (inr_c rfl)
  clear e_M1
  refine ok_let (fun M2 e_M2 => ?_)
  have h_M2 : IM M2 := by rw [e_M2]; exact IM.setI h_M1 (inr_c rfl)
  clear e_M2
  refine ok_let (fun M3 e_M3 => ?_)
  have h_M3 : IM M3 := by rw [e_M3]; exact IM.setI h_M2 (inr_c rfl)
  clear e_M3
  refine ok_let (fun M4 e_M4 => ?_)
  have h_M4 : IM M4 := by rw [e_M4]; exact IM.setI h_M3 (inr_c rfl)
  clear e_M4
  refine ok_bind (Q := fun r => IM r) (sf_Trail_tryClock  h_M4 (inr_c rfl) (inr_c rfl) ) (fun q5 h_q5 => ?_)
  exact (sf_Trail_findClock_L30   _ _ _ h_q5 (inr_c rfl) (fu_up (inr_c rfl)))
theorem sf_WF_clock {x1 : Int} {M : Mem}   (h_M : IM M) (h_x1 : InR x1)  : Ok (fun r => IM r.1 ∧ InR r.2) (t_WF_clock M x1) := by
  unfold t_WF_clock
  refine ok_ite (fun c_1 => ?_) (fun c_1 => ?_)
  · exact ok_some ⟨h_M, (inr_c rfl)⟩
  · refine ok_ite (fun c_2 => ?_) (fun c_2 => ?_)
    · refine ok_let (fun q3 e_q3 => ?_)
      have h_q3 : (fun r => IM r) q3 := by rw [e_q3]; exact (sf_Scene_copy  h_M  )
      clear e_q3
      refine ok_bind (Q := fun r => IM r) (sf_Trail_findClock  h_q3  ) (fun q6 h_q6 => ?_)
      refine ok_ite (fun c_3 => ?_) (fun c_3 => ?_)
      · exact ok_some ⟨h_q6, (h_q6 _ _)⟩
      · refine ok_ite (fun c_4 => ?_) (fun c_4 => ?_)
        · exact ok_some ⟨h_q6, (h_q6 _ _)⟩
        · refine ok_ite (fun c_5 => ?_) (fun c_5 => ?_)
          · exact ok_some ⟨h_q6, (h_q6 _ _)⟩
          · exact ok_some ⟨h_q6, (h_q6 _ _)⟩
    · exact ok_some ⟨h_M, (inr_c rfl)⟩
theorem sf_Laws_tryVotes_L95 {k1 : Nat} {k2 : Nat} {k3 : Nat} {x4 : Int} {bk41 : Mem → Int → Option (Mem)} {c_bk41 : Int} (hbk41 : ∀ (a0_ : Mem) (a1_ : Int), IM a0_ → InR a1_ → c_bk41 < a1_ → Ok (fun r => IM r) (bk41 a0_ a1_)) (h_x4 : InR x4) : ∀ (fu : Nat) (M : Mem) (v4_ : Int) (v5_ : Int), IM M → InR v4_ → InR v5_ → c_bk41 ≤ v4_ ∧ v4_ ≤ 2147483646 → 2147483648 - v5_ < (fu : Int) → Ok (fun r => IM r) (t_Laws_tryVotes_L95 k1 k2 k3 x4 bk41 fu M v4_ v5_) := by
  intro fu
  induction fu with
  | zero => intro M v4_ v5_ h_M h_v4_ h_v5_ g_0 hf; have r_ := (h_v5_ : InR v5_); unfold InR at r_; exact absurd hf (by omega)
  | succ fu ih =>
    intro M v4_ v5_ h_M h_v4_ h_v5_ g_0 hf
    rw [t_Laws_tryVotes_L95]
    have r_v4_ : -2147483648 ≤ v4_ ∧ v4_ ≤ 2147483647 := h_v4_
    have r_v5_ : -2147483648 ≤ v5_ ∧ v5_ ≤ 2147483647 := h_v5_
    refine ok_ite (fun c_1 => ?_) (fun c_1 => ?_)
    · have w_2 : (w32 (v4_ + 1)) = v4_ + (1) := w32_id (by unfold InR; omega)
      exact hbk41 _ _  h_M (inr_w32 _) (by omega)
    · have f_3 : v5_ ≤ 2147483646 := by have b_ : (M.1 177 6) ≤ 2147483647 := ((h_M _ _)).2; omega
      refine ok_bind (Q := fun r => IM r.1 ∧ InR r.2) (sf_Laws_joyOf  h_M h_v5_ h_x4 ) (fun q20 h_q20 => ?_)
      refine ok_let (fun q22 e_q22 => ?_)
      have h_q22 : (fun r => IM r) q22 := by rw [e_q22]; exact (sf_WF_put  h_q20.1 (inr_w32 _) h_q20.2 )
      clear e_q22
      have w_4 : (w32 (v5_ + 1)) = v5_ + (1) := w32_id (by unfold InR; omega)
      exact (ih _ _ _ h_q22 h_v4_ (inr_w32 _) (by omega) (by omega))
theorem sf_Laws_tryVotes_L53 {k1 : Nat} {k2 : Nat} {k3 : Nat} {x4 : Int} {bk41 : Mem → Int → Option (Mem)} {c_bk41 : Int} (hbk41 : ∀ (a0_ : Mem) (a1_ : Int), IM a0_ → InR a1_ → c_bk41 < a1_ → Ok (fun r => IM r) (bk41 a0_ a1_)) (h_x4 : InR x4) : ∀ (fu : Nat) (M : Mem) (v4_ : Int) (v5_ : Int), IM M → InR v4_ → InR v5_ → c_bk41 ≤ v4_ ∧ v4_ ≤ 2147483646 → 2147483648 - v5_ < (fu : Int) → Ok (fun r => IM r) (t_Laws_tryVotes_L53 k1 k2 k3 x4 bk41 fu M v4_ v5_) := by
  intro fu
  induction fu with
  | zero => intro M v4_ v5_ h_M h_v4_ h_v5_ g_0 hf; have r_ := (h_v5_ : InR v5_); unfold InR at r_; exact absurd hf (by omega)
  | succ fu ih =>
    intro M v4_ v5_ h_M h_v4_ h_v5_ g_0 hf
    rw [t_Laws_tryVotes_L53]
    have r_v4_ : -2147483648 ≤ v4_ ∧ v4_ ≤ 2147483647 := h_v4_
    have r_v5_ : -2147483648 ≤ v5_ ∧ v5_ ≤ 2147483647 := h_v5_
    refine ok_ite (fun c_1 => ?_) (fun c_1 => ?_)
    · refine ok_bind (Q := fun r => IM r) (sf_Laws_measure  h_M  ) (fun q14 h_q14 => ?_)
      exact (sf_Laws_tryVotes_L95 (c_bk41 := c_bk41) (fun a0_ a1_ h0_ h1_ z_ => hbk41 a0_ a1_ h0_ h1_ (by omega)) h_x4 _ _ _ _ h_q14 h_v4_ (inr_c rfl) (by omega) (fu_up (inr_c rfl)))
    · have f_2 : v5_ ≤ 2147483646 := by have b_ : (M.1 177 6) ≤ 2147483647 := ((h_M _ _)).2; omega
      refine ok_let (fun q16 e_q16 => ?_)
      have h_q16 : (fun r => IM r) q16 := by rw [e_q16]; exact (sf_WF_put  h_M h_v5_ (inrq_and) )
      clear e_q16
      have w_3 : (w32 (v5_ + 1)) = v5_ + (1) := w32_id (by unfold InR; omega)
      exact (ih _ _ _ h_q16 h_v4_ (inr_w32 _) (by omega) (by omega))
theorem sf_Laws_tryVotes_L41 {k1 : Nat} {k2 : Nat} {k3 : Nat} {x4 : Int}   (h_x4 : InR x4) : ∀ (fu : Nat) (M : Mem) (v4_ : Int), IM M → InR v4_ → 2147483648 - v4_ < (fu : Int) → Ok (fun r => IM r) (t_Laws_tryVotes_L41 k1 k2 k3 x4 fu M v4_) := by
  intro fu
  induction fu with
  | zero => intro M v4_ h_M h_v4_ hf; have r_ := (h_v4_ : InR v4_); unfold InR at r_; exact absurd hf (by omega)
  | succ fu ih =>
    intro M v4_ h_M h_v4_ hf
    rw [t_Laws_tryVotes_L41]
    have r_v4_ : -2147483648 ≤ v4_ ∧ v4_ ≤ 2147483647 := h_v4_
    refine ok_ite (fun c_1 => ?_) (fun c_1 => ?_)
    · exact ok_some h_M
    · have f_2 : v4_ ≤ 2147483646 := by have b_ : (M.1 177 7) ≤ 2147483647 := ((h_M _ _)).2; omega
      exact (sf_Laws_tryVotes_L53 (c_bk41 := v4_) (fun a0_ a1_ h0_ h1_ z_ => ih a0_ a1_ h0_ h1_ (by omega)) h_x4 _ _ _ _ h_M h_v4_ (inr_c rfl) (by omega) (fu_up (inr_c rfl)))
theorem sf_Laws_tryVotes {k1 : Nat} {k2 : Nat} {k3 : Nat} {x4 : Int} {M : Mem}   (h_M : IM M) (h_x4 : InR x4)  : Ok (fun r => IM r) (t_Laws_tryVotes M k1 k2 k3 x4) := by
  unfold t_Laws_tryVotes
  refine ok_ite (fun c_1 => ?_) (fun c_1 => ?_)
  · refine ok_let (fun M3 e_M3 => ?_)
    have h_M3 : IM M3 := by rw [e_M3]; exact IM.setI h_M (inr_c rfl)
    clear e_M3
    refine ok_let (fun q4 e_q4 => ?_)
    have h_q4 : (fun r => IM r) q4 := by rw [e_q4]; exact (sf_Scene_copy  h_M3  )
    clear e_q4
    refine ok_let (fun M7 e_M7 => ?_)
    have h_M7 : IM M7 := by rw [e_M7]; exact IM.setI h_q4 (h_q4 _ _)
    clear e_M7
    refine ok_let (fun M9 e_M9 => ?_)
    have h_M9 : IM M9 := by rw [e_M9]; exact IM.setI h_M7 (inrq_shl)
    clear e_M9
    exact (sf_Laws_tryVotes_L41  h_x4 _ _ _ h_M9 (inr_c rfl) (fu_up (inr_c rfl)))
  · exact ok_some h_M
theorem sf_Laws_joyBy {x1 : Int} {x2 : Int} {M : Mem} (h_M : IM M) (h_x1 : InR x1) (h_x2 : InR x2) : (fun r => InR r) (t_Laws_joyBy M x1 x2) := by
  show Pl (fun r => InR r) (t_Laws_joyBy M x1 x2)
  unfold t_Laws_joyBy
  refine pl_let (fun q1 e_q1 => ?_)
  have h_q1 : (fun r => InR r) q1 := by rw [e_q1]; exact (sf_WF_look  h_M (inr_w32 _) )
  clear e_q1
  exact h_q1
theorem sf_Laws_moved_L58 {x1 : Int} {bk2 : Mem → Int → Option (Int)} {bk15 : Mem → Int → Int → Int → Option (Int)} {v2_ : Int} {v3_ : Int} {v4_ : Int} {M : Mem} {d_bk15_0 : Int} {c_bk15 : Int} (hbk15 : ∀ (a0_ : Mem) (a1_ : Int) (a2_ : Int) (a3_ : Int), IM a0_ → InR a1_ → InR a2_ → InR a3_ → c_bk15 < a3_ ∧ a1_ = d_bk15_0 → Ok (fun r => InR r) (bk15 a0_ a1_ a2_ a3_)) (h_M : IM M) (h_x1 : InR x1) (h_v2_ : InR v2_) (h_v3_ : InR v3_) (h_v4_ : InR v4_) (g_0 : c_bk15 ≤ v4_ ∧ v4_ ≤ 2147483646) (g_1 : v2_ = d_bk15_0) : Ok (fun r => InR r) (t_Laws_moved_L58 x1 bk2 bk15 M v2_ v3_ v4_) := by
  unfold t_Laws_moved_L58
  have r_v4_ : -2147483648 ≤ v4_ ∧ v4_ ≤ 2147483647 := h_v4_
  have w_1 : (w32 (v4_ + 1)) = v4_ + (1) := w32_id (by unfold InR; omega)
  exact hbk15 _ _ _ _  h_M h_v2_ h_v3_ (inr_w32 _) (by omega)
theorem sf_Laws_moved_L15 {x1 : Int} {bk2 : Mem → Int → Option (Int)} {c_bk2 : Int} (hbk2 : ∀ (a0_ : Mem) (a1_ : Int), IM a0_ → InR a1_ → c_bk2 < a1_ → Ok (fun r => InR r) (bk2 a0_ a1_)) (h_x1 : InR x1) : ∀ (fu : Nat) (M : Mem) (v2_ : Int) (v3_ : Int) (v4_ : Int), IM M → InR v2_ → InR v3_ → InR v4_ → c_bk2 ≤ v2_ ∧ v2_ ≤ 2147483646 → 2147483648 - v4_ < (fu : Int) → Ok (fun r => InR r) (t_Laws_moved_L15 x1 bk2 fu M v2_ v3_ v4_) := by
  intro fu
  induction fu with
  | zero => intro M v2_ v3_ v4_ h_M h_v2_ h_v3_ h_v4_ g_0 hf; have r_ := (h_v4_ : InR v4_); unfold InR at r_; exact absurd hf (by omega)
  | succ fu ih =>
    intro M v2_ v3_ v4_ h_M h_v2_ h_v3_ h_v4_ g_0 hf
    rw [t_Laws_moved_L15]
    have r_v2_ : -2147483648 ≤ v2_ ∧ v2_ ≤ 2147483647 := h_v2_
    have r_v4_ : -2147483648 ≤ v4_ ∧ v4_ ≤ 2147483647 := h_v4_
    refine ok_ite (fun c_1 => ?_) (fun c_1 => ?_)
    · refine ok_ite (fun c_2 => ?_) (fun c_2 => ?_)
      · have w_3 : (w32 (v2_ + 1)) = v2_ + (1) := w32_id (by unfold InR; omega)
        exact hbk2 _ _  h_M (inr_w32 _) (by omega)
      · exact ok_some h_v3_
    · have f_4 : v4_ ≤ 2147483646 := by omega
      refine ok_let (fun q5 e_q5 => ?_)
      have h_q5 : (fun r => InR r) q5 := by rw [e_q5]; exact (sf_Laws_joyBy  h_M h_v2_ (inrq_or) )
      clear e_q5
      refine ok_let (fun q7 e_q7 => ?_)
      have h_q7 : (fun r => InR r) q7 := by rw [e_q7]; exact (sf_Laws_joyBy  h_M h_v2_ h_v3_ )
      clear e_q7
      refine ok_ite (fun c_5 => ?_) (fun c_5 => ?_)
      · exact (sf_Laws_moved_L58 (c_bk15 := v4_) (d_bk15_0 := v2_) (fun a0_ a1_ a2_ a3_ h0_ h1_ h2_ h3_ z_ => ih a0_ a1_ a2_ a3_ h0_ h1_ h2_ h3_ (by omega) (by omega)) h_M h_x1 h_v2_ h_v3_ h_v4_ (by omega) (by omega))
      · exact (sf_Laws_moved_L58 (c_bk15 := v4_) (d_bk15_0 := v2_) (fun a0_ a1_ a2_ a3_ h0_ h1_ h2_ h3_ z_ => ih a0_ a1_ a2_ a3_ h0_ h1_ h2_ h3_ (by omega) (by omega)) h_M h_x1 h_v2_ (inrq_or) h_v4_ (by omega) (by omega))
theorem sf_Laws_moved_L2 {x1 : Int}   (h_x1 : InR x1) : ∀ (fu : Nat) (M : Mem) (v2_ : Int), IM M → InR v2_ → 2147483648 - v2_ < (fu : Int) → Ok (fun r => InR r) (t_Laws_moved_L2 x1 fu M v2_) := by
  intro fu
  induction fu with
  | zero => intro M v2_ h_M h_v2_ hf; have r_ := (h_v2_ : InR v2_); unfold InR at r_; exact absurd hf (by omega)
  | succ fu ih =>
    intro M v2_ h_M h_v2_ hf
    rw [t_Laws_moved_L2]
    have r_v2_ : -2147483648 ≤ v2_ ∧ v2_ ≤ 2147483647 := h_v2_
    refine ok_ite (fun c_1 => ?_) (fun c_1 => ?_)
    · exact ok_some h_x1
    · have f_2 : v2_ ≤ 2147483646 := by have b_ : (M.1 177 6) ≤ 2147483647 := ((h_M _ _)).2; omega
      exact (sf_Laws_moved_L15 (c_bk2 := v2_) (fun a0_ a1_ h0_ h1_ z_ => ih a0_ a1_ h0_ h1_ (by omega)) h_x1 _ _ _ _ _ h_M h_v2_ h_x1 (inr_c rfl) (by omega) (fu_up (inr_c rfl)))
theorem sf_Laws_moved {x1 : Int} {M : Mem}   (h_M : IM M) (h_x1 : InR x1)  : Ok (fun r => InR r) (t_Laws_moved M x1) := by
  unfold t_Laws_moved
  exact (sf_Laws_moved_L2  h_x1 _ _ _ h_M (inr_c rfl) (fu_up (inr_c rfl)))
theorem sf_Laws_isStay {x1 : Int} {M : Mem}   (h_M : IM M) (h_x1 : InR x1)  : Ok (fun r => InR r) (t_Laws_isStay M x1) := by
  unfold t_Laws_isStay
  refine ok_bind (Q := fun r => InR r) (sf_Laws_moved  h_M h_x1 ) (fun q1 h_q1 => ?_)
  refine ok_ite (fun c_1 => ?_) (fun c_1 => ?_)
  · exact ok_some (inr_c rfl)
  · exact ok_some (inr_c rfl)
theorem sf_WF_stays_L55 {bk30 : Mem → Int → Int → Option (Mem × Int)} {v1_ : Int} {v2_ : Int} {M : Mem} {c_bk30 : Int} (hbk30 : ∀ (a0_ : Mem) (a1_ : Int) (a2_ : Int), IM a0_ → InR a1_ → InR a2_ → c_bk30 < a2_ → Ok (fun r => IM r.1 ∧ InR r.2) (bk30 a0_ a1_ a2_)) (h_M : IM M) (h_v1_ : InR v1_) (h_v2_ : InR v2_) (g_0 : c_bk30 ≤ v2_ ∧ v2_ ≤ 2147483646) : Ok (fun r => IM r.1 ∧ InR r.2) (t_WF_stays_L55 bk30 M v1_ v2_) := by
  unfold t_WF_stays_L55
  have r_v2_ : -2147483648 ≤ v2_ ∧ v2_ ≤ 2147483647 := h_v2_
  have w_1 : (w32 (v2_ + 1)) = v2_ + (1) := w32_id (by unfold InR; omega)
  exact hbk30 _ _ _  h_M h_v1_ (inr_w32 _) (by omega)
theorem sf_WF_stays_L30     : ∀ (fu : Nat) (M : Mem) (v1_ : Int) (v2_ : Int), IM M → InR v1_ → InR v2_ → 2147483648 - v2_ < (fu : Int) → Ok (fun r => IM r.1 ∧ InR r.2) (t_WF_stays_L30  fu M v1_ v2_) := by
  intro fu
  induction fu with
  | zero => intro M v1_ v2_ h_M h_v1_ h_v2_ hf; have r_ := (h_v2_ : InR v2_); unfold InR at r_; exact absurd hf (by omega)
  | succ fu ih =>
    intro M v1_ v2_ h_M h_v1_ h_v2_ hf
    rw [t_WF_stays_L30]
    have r_v2_ : -2147483648 ≤ v2_ ∧ v2_ ≤ 2147483647 := h_v2_
    refine ok_ite (fun c_1 => ?_) (fun c_1 => ?_)
    · exact ok_some ⟨h_M, h_v1_⟩
    · have f_2 : v2_ ≤ 2147483646 := by have b_ : (M.1 177 7) ≤ 2147483647 := ((h_M _ _)).2; omega
      refine ok_bind (Q := fun r => InR r) (sf_Laws_isStay  h_M h_v2_ ) (fun q7 h_q7 => ?_)
      refine ok_ite (fun c_3 => ?_) (fun c_3 => ?_)
      · exact (sf_WF_stays_L55 (c_bk30 := v2_) (fun a0_ a1_ a2_ h0_ h1_ h2_ z_ => ih a0_ a1_ a2_ h0_ h1_ h2_ (by omega)) h_M h_v1_ h_v2_ (by omega))
      · exact (sf_WF_stays_L55 (c_bk30 := v2_) (fun a0_ a1_ a2_ h0_ h1_ h2_ z_ => ih a0_ a1_ a2_ h0_ h1_ h2_ (by omega)) h_M (inr_w32 _) h_v2_ (by omega))
theorem sf_WF_stays  {M : Mem}   (h_M : IM M)   : Ok (fun r => IM r.1 ∧ InR r.2) (t_WF_stays M) := by
  unfold t_WF_stays
  refine ok_bind (Q := fun r => IM r) (sf_Laws_tryVotes  h_M (h_M _ _) ) (fun q3 h_q3 => ?_)
  exact (sf_WF_stays_L30   _ _ _ _ h_q3 (inr_c rfl) (inr_c rfl) (fu_up (inr_c rfl)))
theorem sf_WF_stay_L67 {x1 : Int} {bk36 : Mem → Int → Int → Option (Mem × Int)} {v1_ : Int} {v2_ : Int} {M : Mem} {c_bk36 : Int} (hbk36 : ∀ (a0_ : Mem) (a1_ : Int) (a2_ : Int), IM a0_ → InR a1_ → InR a2_ → c_bk36 < a2_ → Ok (fun r => IM r.1 ∧ InR r.2) (bk36 a0_ a1_ a2_)) (h_M : IM M) (h_x1 : InR x1) (h_v1_ : InR v1_) (h_v2_ : InR v2_) (g_0 : c_bk36 ≤ v2_ ∧ v2_ ≤ 2147483646) : Ok (fun r => IM r.1 ∧ InR r.2) (t_WF_stay_L67 x1 bk36 M v1_ v2_) := by
  unfold t_WF_stay_L67
  have r_v2_ : -2147483648 ≤ v2_ ∧ v2_ ≤ 2147483647 := h_v2_
  have w_1 : (w32 (v2_ + 1)) = v2_ + (1) := w32_id (by unfold InR; omega)
  exact hbk36 _ _ _  h_M h_v1_ (inr_w32 _) (by omega)
theorem sf_WF_stay_L36 {x1 : Int}   (h_x1 : InR x1) : ∀ (fu : Nat) (M : Mem) (v1_ : Int) (v2_ : Int), IM M → InR v1_ → InR v2_ → 2147483648 - v2_ < (fu : Int) → Ok (fun r => IM r.1 ∧ InR r.2) (t_WF_stay_L36 x1 fu M v1_ v2_) := by
  intro fu
  induction fu with
  | zero => intro M v1_ v2_ h_M h_v1_ h_v2_ hf; have r_ := (h_v2_ : InR v2_); unfold InR at r_; exact absurd hf (by omega)
  | succ fu ih =>
    intro M v1_ v2_ h_M h_v1_ h_v2_ hf
    rw [t_WF_stay_L36]
    have r_v2_ : -2147483648 ≤ v2_ ∧ v2_ ≤ 2147483647 := h_v2_
    refine ok_ite (fun c_1 => ?_) (fun c_1 => ?_)
    · exact ok_some ⟨h_M, (inr_c rfl)⟩
    · have f_2 : v2_ ≤ 2147483646 := by have b_ : (M.1 177 7) ≤ 2147483647 := ((h_M _ _)).2; omega
      refine ok_bind (Q := fun r => InR r) (sf_Laws_isStay  h_M h_v2_ ) (fun q8 h_q8 => ?_)
      refine ok_ite (fun c_3 => ?_) (fun c_3 => ?_)
      · exact (sf_WF_stay_L67 (c_bk36 := v2_) (fun a0_ a1_ a2_ h0_ h1_ h2_ z_ => ih a0_ a1_ a2_ h0_ h1_ h2_ (by omega)) h_M h_x1 h_v1_ h_v2_ (by omega))
      · refine ok_ite (fun c_4 => ?_) (fun c_4 => ?_)
        · exact ok_some ⟨h_M, h_v2_⟩
        · exact (sf_WF_stay_L67 (c_bk36 := v2_) (fun a0_ a1_ a2_ h0_ h1_ h2_ z_ => ih a0_ a1_ a2_ h0_ h1_ h2_ (by omega)) h_M h_x1 (inr_w32 _) h_v2_ (by omega))
theorem sf_WF_stay {x1 : Int} {M : Mem}   (h_M : IM M) (h_x1 : InR x1)  : Ok (fun r => IM r.1 ∧ InR r.2) (t_WF_stay M x1) := by
  unfold t_WF_stay
  refine ok_ite (fun c_1 => ?_) (fun c_1 => ?_)
  · refine ok_bind (Q := fun r => IM r) (sf_Laws_tryVotes  h_M (h_M _ _) ) (fun q4 h_q4 => ?_)
    exact (sf_WF_stay_L36  h_x1 _ _ _ _ h_q4 h_x1 (inr_c rfl) (fu_up (inr_c rfl)))
  · exact ok_some ⟨h_M, (inr_c rfl)⟩
theorem sf_WF_treatySum_L4 {x1 : Int}   (h_x1 : InR x1) : ∀ (fu : Nat) (M : Mem) (v2_ : Int) (v3_ : Int), IM M → InR v2_ → InR v3_ → 2147483648 - v3_ < (fu : Int) → Ok (fun r => IM r.1 ∧ InR r.2) (t_WF_treatySum_L4 x1 fu M v2_ v3_) := by
  intro fu
  induction fu with
  | zero => intro M v2_ v3_ h_M h_v2_ h_v3_ hf; have r_ := (h_v3_ : InR v3_); unfold InR at r_; exact absurd hf (by omega)
  | succ fu ih =>
    intro M v2_ v3_ h_M h_v2_ h_v3_ hf
    rw [t_WF_treatySum_L4]
    have r_v3_ : -2147483648 ≤ v3_ ∧ v3_ ≤ 2147483647 := h_v3_
    refine ok_ite (fun c_1 => ?_) (fun c_1 => ?_)
    · exact ok_some ⟨h_M, h_v2_⟩
    · have f_2 : v3_ ≤ 2147483646 := by have b_ : (M.1 ((M.1 0 4).toNat) 14) ≤ 2147483647 := ((h_M _ _)).2; omega
      refine ok_let (fun q4 e_q4 => ?_)
      have h_q4 : (fun r => InR r) q4 := by rw [e_q4]; exact (sf_Laws_joyBy  h_M h_v3_ h_x1 )
      clear e_q4
      refine ok_bind (Q := fun r => IM r.1 ∧ InR r.2) (sf_Laws_joyOf  h_M h_v3_ (h_M _ _) ) (fun q8 h_q8 => ?_)
      refine ok_ite (fun c_3 => ?_) (fun c_3 => ?_)
      · have w_4 : (w32 (v3_ + 1)) = v3_ + (1) := w32_id (by unfold InR; omega)
        exact (ih _ _ _ h_q8.1 (inr_w32 _) (inr_w32 _) (by omega))
      · exact ok_some ⟨h_q8.1, (inr_c rfl)⟩
theorem sf_WF_treatySum {x1 : Int} {M : Mem}   (h_M : IM M) (h_x1 : InR x1)  : Ok (fun r => IM r.1 ∧ InR r.2) (t_WF_treatySum M x1) := by
  unfold t_WF_treatySum
  exact (sf_WF_treatySum_L4  h_x1 _ _ _ _ h_M (inr_c rfl) (inr_c rfl) (fu_up (inr_c rfl)))
theorem sf_WF_treaty_L110 {x1 : Int} {bk61 : Mem → Int → Int → Int → Option (Mem × Int)} {v2_ : Int} {v3_ : Int} {v4_ : Int} {M : Mem} {c_bk61 : Int} (hbk61 : ∀ (a0_ : Mem) (a1_ : Int) (a2_ : Int) (a3_ : Int), IM a0_ → InR a1_ → InR a2_ → InR a3_ → c_bk61 < a3_ → Ok (fun r => IM r.1 ∧ InR r.2) (bk61 a0_ a1_ a2_ a3_)) (h_M : IM M) (h_x1 : InR x1) (h_v2_ : InR v2_) (h_v3_ : InR v3_) (h_v4_ : InR v4_) (g_0 : c_bk61 ≤ v4_ ∧ v4_ ≤ 2147483646) : Ok (fun r => IM r.1 ∧ InR r.2) (t_WF_treaty_L110 x1 bk61 M v2_ v3_ v4_) := by
  unfold t_WF_treaty_L110
  have r_v4_ : -2147483648 ≤ v4_ ∧ v4_ ≤ 2147483647 := h_v4_
  have w_1 : (w32 (v4_ + 1)) = v4_ + (1) := w32_id (by unfold InR; omega)
  exact hbk61 _ _ _ _  h_M h_v2_ h_v3_ (inr_w32 _) (by omega)
theorem sf_WF_treaty_L96 {x1 : Int} {bk61 : Mem → Int → Int → Int → Option (Mem × Int)} {v2_ : Int} {v3_ : Int} {v4_ : Int} {v5_ : Int} {M : Mem} {c_bk61 : Int} (hbk61 : ∀ (a0_ : Mem) (a1_ : Int) (a2_ : Int) (a3_ : Int), IM a0_ → InR a1_ → InR a2_ → InR a3_ → c_bk61 < a3_ → Ok (fun r => IM r.1 ∧ InR r.2) (bk61 a0_ a1_ a2_ a3_)) (h_M : IM M) (h_x1 : InR x1) (h_v2_ : InR v2_) (h_v3_ : InR v3_) (h_v4_ : InR v4_) (h_v5_ : InR v5_) (g_0 : c_bk61 ≤ v4_ ∧ v4_ ≤ 2147483646) : Ok (fun r => IM r.1 ∧ InR r.2) (t_WF_treaty_L96 x1 bk61 M v2_ v3_ v4_ v5_) := by
  unfold t_WF_treaty_L96
  have r_v4_ : -2147483648 ≤ v4_ ∧ v4_ ≤ 2147483647 := h_v4_
  refine ok_ite (fun c_1 => ?_) (fun c_1 => ?_)
  · exact (sf_WF_treaty_L110 (c_bk61 := c_bk61) (fun a0_ a1_ a2_ a3_ h0_ h1_ h2_ h3_ z_ => hbk61 a0_ a1_ a2_ a3_ h0_ h1_ h2_ h3_ (by omega)) h_M h_x1 h_v2_ h_v3_ h_v4_ (by omega))
  · exact (sf_WF_treaty_L110 (c_bk61 := c_bk61) (fun a0_ a1_ a2_ a3_ h0_ h1_ h2_ h3_ z_ => hbk61 a0_ a1_ a2_ a3_ h0_ h1_ h2_ h3_ (by omega)) h_M h_x1 h_v4_ h_v5_ h_v4_ (by omega))
theorem sf_WF_treaty_L61 {x1 : Int}   (h_x1 : InR x1) : ∀ (fu : Nat) (M : Mem) (v2_ : Int) (v3_ : Int) (v4_ : Int), IM M → InR v2_ → InR v3_ → InR v4_ → 2147483648 - v4_ < (fu : Int) → Ok (fun r => IM r.1 ∧ InR r.2) (t_WF_treaty_L61 x1 fu M v2_ v3_ v4_) := by
  intro fu
  induction fu with
  | zero => intro M v2_ v3_ v4_ h_M h_v2_ h_v3_ h_v4_ hf; have r_ := (h_v4_ : InR v4_); unfold InR at r_; exact absurd hf (by omega)
  | succ fu ih =>
    intro M v2_ v3_ v4_ h_M h_v2_ h_v3_ h_v4_ hf
    rw [t_WF_treaty_L61]
    have r_v4_ : -2147483648 ≤ v4_ ∧ v4_ ≤ 2147483647 := h_v4_
    refine ok_ite (fun c_1 => ?_) (fun c_1 => ?_)
    · refine ok_ite (fun c_2 => ?_) (fun c_2 => ?_)
      · exact ok_some ⟨h_M, h_v3_⟩
      · exact ok_some ⟨h_M, h_v2_⟩
    · have f_3 : v4_ ≤ 2147483646 := by have b_ : (M.1 177 7) ≤ 2147483647 := ((h_M _ _)).2; omega
      refine ok_bind (Q := fun r => InR r) (sf_Laws_isStay  h_M h_v4_ ) (fun q13 h_q13 => ?_)
      refine ok_ite (fun c_4 => ?_) (fun c_4 => ?_)
      · exact (sf_WF_treaty_L96 (c_bk61 := v4_) (fun a0_ a1_ a2_ a3_ h0_ h1_ h2_ h3_ z_ => ih a0_ a1_ a2_ a3_ h0_ h1_ h2_ h3_ (by omega)) h_M h_x1 h_v2_ h_v3_ h_v4_ (inr_c rfl) (by omega))
      · refine ok_bind (Q := fun r => IM r.1 ∧ InR r.2) (sf_WF_treatySum  h_M h_v4_ ) (fun q16 h_q16 => ?_)
        exact (sf_WF_treaty_L96 (c_bk61 := v4_) (fun a0_ a1_ a2_ a3_ h0_ h1_ h2_ h3_ z_ => ih a0_ a1_ a2_ a3_ h0_ h1_ h2_ h3_ (by omega)) h_q16.1 h_x1 h_v2_ h_v3_ h_v4_ h_q16.2 (by omega))
theorem sf_WF_treaty {x1 : Int} {M : Mem}   (h_M : IM M) (h_x1 : InR x1)  : Ok (fun r => IM r.1 ∧ InR r.2) (t_WF_treaty M x1) := by
  unfold t_WF_treaty
  refine ok_ite (fun c_1 => ?_) (fun c_1 => ?_)
  · exact ok_some ⟨h_M, (inr_c rfl)⟩
  · refine ok_ite (fun c_2 => ?_) (fun c_2 => ?_)
    · refine ok_bind (Q := fun r => IM r) (sf_Laws_tryVotes  h_M (h_M _ _) ) (fun q5 h_q5 => ?_)
      refine ok_bind (Q := fun r => IM r) (sf_Laws_measure  h_q5  ) (fun q8 h_q8 => ?_)
      exact (sf_WF_treaty_L61  h_x1 _ _ _ _ _ h_q8 (inr_c rfl) (inr_c rfl) (inr_c rfl) (fu_up (inr_c rfl)))
    · exact ok_some ⟨h_M, (inr_c rfl)⟩
theorem sf_WF_moves_L61 {x1 : Int} {x2 : Int}   (h_x1 : InR x1) (h_x2 : InR x2) : ∀ (fu : Nat) (M : Mem) (v2_ : Int) (v3_ : Int), IM M → InR v2_ → InR v3_ → 2147483648 - v3_ < (fu : Int) → Ok (fun r => IM r.1 ∧ InR r.2) (t_WF_moves_L61 x1 x2 fu M v2_ v3_) := by
  intro fu
  induction fu with
  | zero => intro M v2_ v3_ h_M h_v2_ h_v3_ hf; have r_ := (h_v3_ : InR v3_); unfold InR at r_; exact absurd hf (by omega)
  | succ fu ih =>
    intro M v2_ v3_ h_M h_v2_ h_v3_ hf
    rw [t_WF_moves_L61]
    have r_v3_ : -2147483648 ≤ v3_ ∧ v3_ ≤ 2147483647 := h_v3_
    refine ok_ite (fun c_1 => ?_) (fun c_1 => ?_)
    · exact ok_some ⟨h_M, (inr_c rfl)⟩
    · have f_2 : v3_ ≤ 2147483646 := by omega
      refine ok_bind (Q := fun r => InR r) (sf_Laws_moved  h_M h_v2_ ) (fun q12 h_q12 => ?_)
      refine ok_ite (fun c_3 => ?_) (fun c_3 => ?_)
      · refine ok_ite (fun c_4 => ?_) (fun c_4 => ?_)
        · exact ok_some ⟨h_M, h_v3_⟩
        · exact ok_some ⟨h_M, h_v2_⟩
      · have w_5 : (w32 (v3_ + 1)) = v3_ + (1) := w32_id (by unfold InR; omega)
        exact (ih _ _ _ h_M h_q12 (inr_w32 _) (by omega))
theorem sf_WF_moves {x1 : Int} {x2 : Int} {M : Mem}   (h_M : IM M) (h_x1 : InR x1) (h_x2 : InR x2)  : Ok (fun r => IM r.1 ∧ InR r.2) (t_WF_moves M x1 x2) := by
  unfold t_WF_moves
  refine ok_ite (fun c_1 => ?_) (fun c_1 => ?_)
  · exact ok_some ⟨h_M, (inr_c rfl)⟩
  · refine ok_ite (fun c_2 => ?_) (fun c_2 => ?_)
    · exact ok_some ⟨h_M, (inr_c rfl)⟩
    · refine ok_ite (fun c_3 => ?_) (fun c_3 => ?_)
      · exact ok_some ⟨h_M, (inr_c rfl)⟩
      · refine ok_ite (fun c_4 => ?_) (fun c_4 => ?_)
        · refine ok_bind (Q := fun r => IM r) (sf_Laws_tryVotes  h_M (h_M _ _) ) (fun q9 h_q9 => ?_)
          exact (sf_WF_moves_L61  h_x1 h_x2 _ _ _ _ h_q9 h_x1 (inr_c rfl) (fu_up (inr_c rfl)))
        · exact ok_some ⟨h_M, (inr_c rfl)⟩
theorem sf_Notes_add {x1 : Int} {x2 : Int} {x3 : Int} {M : Mem} (h_M : IM M) (h_x1 : InR x1) (h_x2 : InR x2) (h_x3 : InR x3) : (fun r => IM r.1 ∧ InR r.2) (t_Notes_add M x1 x2 x3) := by
  show Pl (fun r => IM r.1 ∧ InR r.2) (t_Notes_add M x1 x2 x3)
  unfold t_Notes_add
  refine pl_ite (fun c_1 => ?_) (fun c_1 => ?_)
  · refine pl_let (fun q4 e_q4 => ?_)
    have h_q4 : (fun r => IM r) q4 := by rw [e_q4]; exact (sf_WF_put  h_M (h_M _ _) h_x1 )
    clear e_q4
    refine pl_let (fun q7 e_q7 => ?_)
    have h_q7 : (fun r => IM r) q7 := by rw [e_q7]; exact (sf_WF_put  h_q4 (h_q4 _ _) h_x2 )
    clear e_q7
    refine pl_let (fun q10 e_q10 => ?_)
    have h_q10 : (fun r => IM r) q10 := by rw [e_q10]; exact (sf_WF_put  h_q7 (h_q7 _ _) h_x3 )
    clear e_q10
    refine pl_let (fun M13 e_M13 => ?_)
    have h_M13 : IM M13 := by rw [e_M13]; exact IM.setI h_q10 (inr_w32 _)
    clear e_M13
    exact ⟨h_M13, (inr_w32 _)⟩
  · exact ⟨h_M, (inr_c rfl)⟩
theorem sf_WF_note_L23 {x1 : Int} {x2 : Int} {M : Mem} (h_M : IM M) (h_x1 : InR x1) (h_x2 : InR x2) : (fun r => IM r.1 ∧ InR r.2) (t_WF_note_L23 x1 x2 M) := by
  show Pl (fun r => IM r.1 ∧ InR r.2) (t_WF_note_L23 x1 x2 M)
  unfold t_WF_note_L23
  refine pl_let (fun q8 e_q8 => ?_)
  have h_q8 : (fun r => IM r.1 ∧ InR r.2) q8 := by rw [e_q8]; exact (sf_Notes_add  h_M h_x1 h_x2 (inr_c rfl) )
  clear e_q8
  exact ⟨h_q8.1, h_q8.2⟩
theorem sf_WF_note {x1 : Int} {x2 : Int} {M : Mem} (h_M : IM M) (h_x1 : InR x1) (h_x2 : InR x2) : (fun r => IM r.1 ∧ InR r.2) (t_WF_note M x1 x2) := by
  show Pl (fun r => IM r.1 ∧ InR r.2) (t_WF_note M x1 x2)
  unfold t_WF_note
  refine pl_let (fun q1 e_q1 => ?_)
  have h_q1 : (fun r => InR r) q1 := by rw [e_q1]; exact (sf_WF_isFree  h_M h_x1 )
  clear e_q1
  refine pl_ite (fun c_1 => ?_) (fun c_1 => ?_)
  · exact ⟨h_M, (inr_c rfl)⟩
  · refine pl_ite (fun c_2 => ?_) (fun c_2 => ?_)
    · exact (sf_WF_note_L23  h_M h_x1 h_x2 )
    · refine pl_let (fun q5 e_q5 => ?_)
      have h_q5 : (fun r => InR r) q5 := by rw [e_q5]; exact (sf_WF_isFree  h_M h_x2 )
      clear e_q5
      refine pl_ite (fun c_3 => ?_) (fun c_3 => ?_)
      · exact ⟨h_M, (inr_c rfl)⟩
      · exact (sf_WF_note_L23  h_M h_x1 h_x2 )
theorem sf_WF_strike {x1 : Int} {M : Mem} (h_M : IM M) (h_x1 : InR x1) : (fun r => IM r.1 ∧ InR r.2) (t_WF_strike M x1) := by
  show Pl (fun r => IM r.1 ∧ InR r.2) (t_WF_strike M x1)
  unfold t_WF_strike
  refine pl_ite (fun c_1 => ?_) (fun c_1 => ?_)
  · exact ⟨h_M, (inr_c rfl)⟩
  · refine pl_ite (fun c_2 => ?_) (fun c_2 => ?_)
    · refine pl_let (fun q4 e_q4 => ?_)
      have h_q4 : (fun r => IM r.1 ∧ InR r.2) q4 := by rw [e_q4]; exact (sf_Notes_add  h_M (inr_c rfl) (inr_c rfl) h_x1 )
      clear e_q4
      exact ⟨h_q4.1, h_q4.2⟩
    · exact ⟨h_M, (inr_c rfl)⟩
theorem sf_WF_known {x1 : Int} {M : Mem} (h_M : IM M) (h_x1 : InR x1) : (fun r => IM r.1 ∧ InR r.2) (t_WF_known M x1) := by
  show Pl (fun r => IM r.1 ∧ InR r.2) (t_WF_known M x1)
  unfold t_WF_known
  refine pl_ite (fun c_1 => ?_) (fun c_1 => ?_)
  · exact ⟨h_M, (inr_c rfl)⟩
  · refine pl_ite (fun c_2 => ?_) (fun c_2 => ?_)
    · refine pl_let (fun M4 e_M4 => ?_)
      have h_M4 : IM M4 := by rw [e_M4]; exact IM.setI h_M h_x1
      clear e_M4
      exact ⟨h_M4, (inr_c rfl)⟩
    · exact ⟨h_M, (inr_c rfl)⟩
theorem sf_Notes_knownBy  {M : Mem} (h_M : IM M)  : (fun r => InR r) (t_Notes_knownBy M) := by
  show Pl (fun r => InR r) (t_Notes_knownBy M)
  unfold t_Notes_knownBy
  refine pl_ite (fun c_1 => ?_) (fun c_1 => ?_)
  · exact (h_M _ _)
  · exact (h_M _ _)
theorem sf_Notes_knownBits_L55 {bk11 : Mem → Int → Int → Int → Option (Int)} {v1_ : Int} {v2_ : Int} {v3_ : Int} {M : Mem} {c_bk11 : Int} (hbk11 : ∀ (a0_ : Mem) (a1_ : Int) (a2_ : Int) (a3_ : Int), IM a0_ → InR a1_ → InR a2_ → InR a3_ → a3_ < c_bk11 → Ok (fun r => InR r) (bk11 a0_ a1_ a2_ a3_)) (h_M : IM M) (h_v1_ : InR v1_) (h_v2_ : InR v2_) (h_v3_ : InR v3_) (g_0 : v3_ ≤ c_bk11 ∧ -2147483640 ≤ v3_) : Ok (fun r => InR r) (t_Notes_knownBits_L55 bk11 M v1_ v2_ v3_) := by
  unfold t_Notes_knownBits_L55
  have r_v3_ : -2147483648 ≤ v3_ ∧ v3_ ≤ 2147483647 := h_v3_
  have w_1 : (w32 (v3_ + (-1))) = v3_ + (-1) := w32_id (by unfold InR; omega)
  exact hbk11 _ _ _ _  h_M h_v1_ h_v2_ (inr_w32 _) (by omega)
theorem sf_Notes_knownBits_L11     : ∀ (fu : Nat) (M : Mem) (v1_ : Int) (v2_ : Int) (v3_ : Int), IM M → InR v1_ → InR v2_ → InR v3_ → v3_ + 2147483649 < (fu : Int) → Ok (fun r => InR r) (t_Notes_knownBits_L11  fu M v1_ v2_ v3_) := by
  intro fu
  induction fu with
  | zero => intro M v1_ v2_ v3_ h_M h_v1_ h_v2_ h_v3_ hf; have r_ := (h_v3_ : InR v3_); unfold InR at r_; exact absurd hf (by omega)
  | succ fu ih =>
    intro M v1_ v2_ v3_ h_M h_v1_ h_v2_ h_v3_ hf
    rw [t_Notes_knownBits_L11]
    have r_v3_ : -2147483648 ≤ v3_ ∧ v3_ ≤ 2147483647 := h_v3_
    refine ok_ite (fun c_1 => ?_) (fun c_1 => ?_)
    · exact ok_some h_v2_
    · have f_2 : 0 ≤ v3_ := by omega
      refine ok_let (fun q4 e_q4 => ?_)
      have h_q4 : (fun r => InR r) q4 := by rw [e_q4]; exact (sf_WF_bitOf  h_M h_v3_ )
      clear e_q4
      refine ok_ite (fun c_3 => ?_) (fun c_3 => ?_)
      · refine ok_let (fun q7 e_q7 => ?_)
        have h_q7 : (fun r => InR r) q7 := by rw [e_q7]; exact (sf_WF_look  h_M h_v3_ )
        clear e_q7
        refine ok_ite (fun c_4 => ?_) (fun c_4 => ?_)
        · exact (sf_Notes_knownBits_L55 (c_bk11 := v3_) (fun a0_ a1_ a2_ a3_ h0_ h1_ h2_ h3_ z_ => ih a0_ a1_ a2_ a3_ h0_ h1_ h2_ h3_ (by omega)) h_M (inrq_or) h_v2_ h_v3_ (by omega))
        · exact (sf_Notes_knownBits_L55 (c_bk11 := v3_) (fun a0_ a1_ a2_ a3_ h0_ h1_ h2_ h3_ z_ => ih a0_ a1_ a2_ a3_ h0_ h1_ h2_ h3_ (by omega)) h_M h_v1_ (inrq_or) h_v3_ (by omega))
      · exact (sf_Notes_knownBits_L55 (c_bk11 := v3_) (fun a0_ a1_ a2_ a3_ h0_ h1_ h2_ h3_ z_ => ih a0_ a1_ a2_ a3_ h0_ h1_ h2_ h3_ (by omega)) h_M h_v1_ h_v2_ h_v3_ (by omega))
theorem sf_Notes_knownBits  {M : Mem}   (h_M : IM M)   : Ok (fun r => InR r) (t_Notes_knownBits M) := by
  unfold t_Notes_knownBits
  refine ok_let (fun q1 e_q1 => ?_)
  have h_q1 : (fun r => InR r) q1 := by rw [e_q1]; exact (sf_Notes_knownBy  h_M  )
  clear e_q1
  exact (sf_Notes_knownBits_L11   _ _ _ _ _ h_M (inr_c rfl) (inr_c rfl) (inr_w32 _) (fu_dn (inr_w32 _)))
theorem sf_Notes_setDowns_L5 {k1 : Nat} {k2 : Nat} {x3 : Int}   (h_x3 : InR x3) : ∀ (fu : Nat) (M : Mem) (v2_ : Int) (v3_ : Int), IM M → InR v2_ → InR v3_ → 2147483648 - v3_ < (fu : Int) → Ok (fun r => IM r) (t_Notes_setDowns_L5 k1 k2 x3 fu M v2_ v3_) := by
  intro fu
  induction fu with
  | zero => intro M v2_ v3_ h_M h_v2_ h_v3_ hf; have r_ := (h_v3_ : InR v3_); unfold InR at r_; exact absurd hf (by omega)
  | succ fu ih =>
    intro M v2_ v3_ h_M h_v2_ h_v3_ hf
    rw [t_Notes_setDowns_L5]
    have r_v3_ : -2147483648 ≤ v3_ ∧ v3_ ≤ 2147483647 := h_v3_
    refine ok_ite (fun c_1 => ?_) (fun c_1 => ?_)
    · exact ok_some h_M
    · have f_2 : v3_ ≤ 2147483646 := by have b_ : (M.1 k1 14) ≤ 2147483647 := ((h_M _ _)).2; omega
      refine ok_let (fun q3 e_q3 => ?_)
      have h_q3 : (fun r => IM r) q3 := by rw [e_q3]; exact (sf_WF_put  h_M h_v3_ (inrq_rem) )
      clear e_q3
      have w_3 : (w32 (v3_ + 1)) = v3_ + (1) := w32_id (by unfold InR; omega)
      exact (ih _ _ _ h_q3 (inrq_div) (inr_w32 _) (by omega))
theorem sf_Notes_setDowns {k1 : Nat} {k2 : Nat} {x3 : Int} {M : Mem}   (h_M : IM M) (h_x3 : InR x3)  : Ok (fun r => IM r) (t_Notes_setDowns M k1 k2 x3) := by
  unfold t_Notes_setDowns
  exact (sf_Notes_setDowns_L5  h_x3 _ _ _ _ h_M h_x3 (inr_c rfl) (fu_up (inr_c rfl)))
theorem sf_Notes_areSo_L72 {x1 : Int} {k2 : Nat} {k3 : Nat} {k4 : Nat} {bk3 : Mem → Int → Option (Mem × Int)} {v5_ : Int} {M : Mem} {c_bk3 : Int} (hbk3 : ∀ (a0_ : Mem) (a1_ : Int), IM a0_ → InR a1_ → c_bk3 < a1_ → Ok (fun r => IM r.1 ∧ InR r.2) (bk3 a0_ a1_)) (h_M : IM M) (h_x1 : InR x1) (h_v5_ : InR v5_) (g_0 : c_bk3 ≤ v5_ ∧ v5_ ≤ 2147483646) : Ok (fun r => IM r.1 ∧ InR r.2) (t_Notes_areSo_L72 x1 k2 k3 k4 bk3 M v5_) := by
  unfold t_Notes_areSo_L72
  have r_v5_ : -2147483648 ≤ v5_ ∧ v5_ ≤ 2147483647 := h_v5_
  have w_1 : (w32 (v5_ + 1)) = v5_ + (1) := w32_id (by unfold InR; omega)
  exact hbk3 _ _  h_M (inr_w32 _) (by omega)
theorem sf_Notes_areSo_L67 {x1 : Int} {k2 : Nat} {k3 : Nat} {k4 : Nat} {bk3 : Mem → Int → Option (Mem × Int)} {v5_ : Int} {v6_ : Int} {v7_ : Int} {M : Mem} {c_bk3 : Int} (hbk3 : ∀ (a0_ : Mem) (a1_ : Int), IM a0_ → InR a1_ → c_bk3 < a1_ → Ok (fun r => IM r.1 ∧ InR r.2) (bk3 a0_ a1_)) (h_M : IM M) (h_x1 : InR x1) (h_v5_ : InR v5_) (h_v6_ : InR v6_) (h_v7_ : InR v7_) (g_0 : c_bk3 ≤ v5_ ∧ v5_ ≤ 2147483646) : Ok (fun r => IM r.1 ∧ InR r.2) (t_Notes_areSo_L67 x1 k2 k3 k4 bk3 M v5_ v6_ v7_) := by
  unfold t_Notes_areSo_L67
  have r_v5_ : -2147483648 ≤ v5_ ∧ v5_ ≤ 2147483647 := h_v5_
  refine ok_ite (fun c_1 => ?_) (fun c_1 => ?_)
  · exact (sf_Notes_areSo_L72 (c_bk3 := c_bk3) (fun a0_ a1_ h0_ h1_ z_ => hbk3 a0_ a1_ h0_ h1_ (by omega)) h_M h_x1 h_v5_ (by omega))
  · exact ok_some ⟨h_M, (inr_c rfl)⟩
theorem sf_Notes_areSo_L3 {x1 : Int} {k2 : Nat} {k3 : Nat} {k4 : Nat}   (h_x1 : InR x1) : ∀ (fu : Nat) (M : Mem) (v5_ : Int), IM M → InR v5_ → 2147483648 - v5_ < (fu : Int) → Ok (fun r => IM r.1 ∧ InR r.2) (t_Notes_areSo_L3 x1 k2 k3 k4 fu M v5_) := by
  intro fu
  induction fu with
  | zero => intro M v5_ h_M h_v5_ hf; have r_ := (h_v5_ : InR v5_); unfold InR at r_; exact absurd hf (by omega)
  | succ fu ih =>
    intro M v5_ h_M h_v5_ hf
    rw [t_Notes_areSo_L3]
    have r_v5_ : -2147483648 ≤ v5_ ∧ v5_ ≤ 2147483647 := h_v5_
    refine ok_ite (fun c_1 => ?_) (fun c_1 => ?_)
    · exact ok_some ⟨h_M, (inr_c rfl)⟩
    · have f_2 : v5_ ≤ 2147483646 := by have b_ : (M.1 172 5) ≤ 2147483647 := ((h_M _ _)).2; omega
      refine ok_let (fun q3 e_q3 => ?_)
      have h_q3 : (fun r => InR r) q3 := by rw [e_q3]; exact (sf_WF_bitOf  h_M h_v5_ )
      clear e_q3
      refine ok_ite (fun c_3 => ?_) (fun c_3 => ?_)
      · refine ok_let (fun q6 e_q6 => ?_)
        have h_q6 : (fun r => InR r) q6 := by rw [e_q6]; exact (sf_WF_look  h_M h_v5_ )
        clear e_q6
        refine ok_bind (Q := fun r => IM r) (sf_Trail_follow  h_M h_q6 ) (fun q8 h_q8 => ?_)
        refine ok_let (fun q10 e_q10 => ?_)
        have h_q10 : (fun r => InR r) q10 := by rw [e_q10]; exact (sf_WF_look  h_q8 h_v5_ )
        clear e_q10
        refine ok_let (fun q12 e_q12 => ?_)
        have h_q12 : (fun r => InR r) q12 := by rw [e_q12]; exact (sf_Trail_end  h_q8  )
        clear e_q12
        refine ok_ite (fun c_4 => ?_) (fun c_4 => ?_)
        · exact (sf_Notes_areSo_L67 (c_bk3 := v5_) (fun a0_ a1_ h0_ h1_ z_ => ih a0_ a1_ h0_ h1_ (by omega)) h_q8 h_x1 h_v5_ h_q12 h_q10 (by omega))
        · exact (sf_Notes_areSo_L67 (c_bk3 := v5_) (fun a0_ a1_ h0_ h1_ z_ => ih a0_ a1_ h0_ h1_ (by omega)) h_q8 h_x1 h_v5_ h_q12 (inr_c rfl) (by omega))
      · exact (sf_Notes_areSo_L72 (c_bk3 := v5_) (fun a0_ a1_ h0_ h1_ z_ => ih a0_ a1_ h0_ h1_ (by omega)) h_M h_x1 h_v5_ (by omega))
theorem sf_Notes_areSo {x1 : Int} {k2 : Nat} {k3 : Nat} {k4 : Nat} {M : Mem}   (h_M : IM M) (h_x1 : InR x1)  : Ok (fun r => IM r.1 ∧ InR r.2) (t_Notes_areSo M x1 k2 k3 k4) := by
  unfold t_Notes_areSo
  exact (sf_Notes_areSo_L3  h_x1 _ _ _ h_M (inr_c rfl) (fu_up (inr_c rfl)))
theorem sf_Notes_findFits_L139 {k1 : Nat} {k2 : Nat} {k3 : Nat} {k4 : Nat} {bk54 : Mem → Int → Int → Int → Option (Mem)} {v4_ : Int} {v5_ : Int} {v6_ : Int} {M : Mem} {c_bk54 : Int} (hbk54 : ∀ (a0_ : Mem) (a1_ : Int) (a2_ : Int) (a3_ : Int), IM a0_ → InR a1_ → InR a2_ → InR a3_ → c_bk54 < a3_ → Ok (fun r => IM r) (bk54 a0_ a1_ a2_ a3_)) (h_M : IM M) (h_v4_ : InR v4_) (h_v5_ : InR v5_) (h_v6_ : InR v6_) (g_0 : c_bk54 ≤ v6_ ∧ v6_ ≤ 2147483646) : Ok (fun r => IM r) (t_Notes_findFits_L139 k1 k2 k3 k4 bk54 M v4_ v5_ v6_) := by
  unfold t_Notes_findFits_L139
  have r_v6_ : -2147483648 ≤ v6_ ∧ v6_ ≤ 2147483647 := h_v6_
  have w_1 : (w32 (v6_ + 1)) = v6_ + (1) := w32_id (by unfold InR; omega)
  exact hbk54 _ _ _ _  h_M h_v4_ h_v5_ (inr_w32 _) (by omega)
theorem sf_Notes_findFits_L94 {k1 : Nat} {k2 : Nat} {k3 : Nat} {k4 : Nat} {bk54 : Mem → Int → Int → Int → Option (Mem)} {c_bk54 : Int} (hbk54 : ∀ (a0_ : Mem) (a1_ : Int) (a2_ : Int) (a3_ : Int), IM a0_ → InR a1_ → InR a2_ → InR a3_ → c_bk54 < a3_ → Ok (fun r => IM r) (bk54 a0_ a1_ a2_ a3_))  : ∀ (fu : Nat) (M : Mem) (v4_ : Int) (v5_ : Int) (v6_ : Int) (v7_ : Int), IM M → InR v4_ → InR v5_ → InR v6_ → InR v7_ → c_bk54 ≤ v6_ ∧ v6_ ≤ 2147483646 → 2147483648 - v7_ < (fu : Int) → Ok (fun r => IM r) (t_Notes_findFits_L94 k1 k2 k3 k4 bk54 fu M v4_ v5_ v6_ v7_) := by
  intro fu
  induction fu with
  | zero => intro M v4_ v5_ v6_ v7_ h_M h_v4_ h_v5_ h_v6_ h_v7_ g_0 hf; have r_ := (h_v7_ : InR v7_); unfold InR at r_; exact absurd hf (by omega)
  | succ fu ih =>
    intro M v4_ v5_ v6_ v7_ h_M h_v4_ h_v5_ h_v6_ h_v7_ g_0 hf
    rw [t_Notes_findFits_L94]
    have r_v6_ : -2147483648 ≤ v6_ ∧ v6_ ≤ 2147483647 := h_v6_
    have r_v7_ : -2147483648 ≤ v7_ ∧ v7_ ≤ 2147483647 := h_v7_
    refine ok_ite (fun c_1 => ?_) (fun c_1 => ?_)
    · exact (sf_Notes_findFits_L139 (c_bk54 := c_bk54) (fun a0_ a1_ a2_ a3_ h0_ h1_ h2_ h3_ z_ => hbk54 a0_ a1_ a2_ a3_ h0_ h1_ h2_ h3_ (by omega)) h_M h_v4_ h_v5_ h_v6_ (by omega))
    · have f_2 : v7_ ≤ 2147483646 := by have b_ : (M.1 k1 14) ≤ 2147483647 := ((h_M _ _)).2; omega
      refine ok_let (fun q20 e_q20 => ?_)
      have h_q20 : (fun r => InR r) q20 := by rw [e_q20]; exact (sf_WF_look  h_M h_v7_ )
      clear e_q20
      refine ok_let (fun q22 e_q22 => ?_)
      have h_q22 : (fun r => InR r) q22 := by rw [e_q22]; exact (sf_WF_look  h_M h_v7_ )
      clear e_q22
      refine ok_let (fun q24 e_q24 => ?_)
      have h_q24 : (fun r => IM r) q24 := by rw [e_q24]; exact (sf_WF_put  h_M h_v7_ (inrq_or) )
      clear e_q24
      have w_3 : (w32 (v7_ + 1)) = v7_ + (1) := w32_id (by unfold InR; omega)
      exact (ih _ _ _ _ _ h_q24 h_v4_ h_v5_ h_v6_ (inr_w32 _) (by omega) (by omega))
theorem sf_Notes_findFits_L54 {k1 : Nat} {k2 : Nat} {k3 : Nat} {k4 : Nat}    : ∀ (fu : Nat) (M : Mem) (v4_ : Int) (v5_ : Int) (v6_ : Int), IM M → InR v4_ → InR v5_ → InR v6_ → 2147483648 - v6_ < (fu : Int) → Ok (fun r => IM r) (t_Notes_findFits_L54 k1 k2 k3 k4 fu M v4_ v5_ v6_) := by
  intro fu
  induction fu with
  | zero => intro M v4_ v5_ v6_ h_M h_v4_ h_v5_ h_v6_ hf; have r_ := (h_v6_ : InR v6_); unfold InR at r_; exact absurd hf (by omega)
  | succ fu ih =>
    intro M v4_ v5_ v6_ h_M h_v4_ h_v5_ h_v6_ hf
    rw [t_Notes_findFits_L54]
    have r_v6_ : -2147483648 ≤ v6_ ∧ v6_ ≤ 2147483647 := h_v6_
    refine ok_ite (fun c_1 => ?_) (fun c_1 => ?_)
    · exact ok_some h_M
    · have f_2 : v6_ ≤ 2147483646 := by have b_ : v5_ ≤ 2147483647 := (h_v5_).2; omega
      refine ok_bind (Q := fun r => IM r) (sf_Notes_setDowns  h_M h_v6_ ) (fun q11 h_q11 => ?_)
      refine ok_bind (Q := fun r => IM r.1 ∧ InR r.2) (sf_Notes_areSo  h_q11 h_v4_ ) (fun q13 h_q13 => ?_)
      refine ok_ite (fun c_3 => ?_) (fun c_3 => ?_)
      · exact (sf_Notes_findFits_L139 (c_bk54 := v6_) (fun a0_ a1_ a2_ a3_ h0_ h1_ h2_ h3_ z_ => ih a0_ a1_ a2_ a3_ h0_ h1_ h2_ h3_ (by omega)) h_q13.1 h_v4_ h_v5_ h_v6_ (by omega))
      · refine ok_let (fun M17 e_M17 => ?_)
        have h_M17 : IM M17 := by rw [e_M17]; exact IM.setI h_q13.1 (inr_w32 _)
        clear e_M17
        exact (sf_Notes_findFits_L94 (c_bk54 := v6_) (fun a0_ a1_ a2_ a3_ h0_ h1_ h2_ h3_ z_ => ih a0_ a1_ a2_ a3_ h0_ h1_ h2_ h3_ (by omega))  _ _ _ _ _ _ h_M17 h_v4_ h_v5_ h_v6_ (inr_c rfl) (by omega) (fu_up (inr_c rfl)))
theorem sf_Notes_findFits_L17 {k1 : Nat} {k2 : Nat} {k3 : Nat} {k4 : Nat}    : ∀ (fu : Nat) (M : Mem) (v4_ : Int) (v5_ : Int) (v6_ : Int), IM M → InR v4_ → InR v5_ → InR v6_ → 2147483648 - v6_ < (fu : Int) → Ok (fun r => IM r) (t_Notes_findFits_L17 k1 k2 k3 k4 fu M v4_ v5_ v6_) := by
  intro fu
  induction fu with
  | zero => intro M v4_ v5_ v6_ h_M h_v4_ h_v5_ h_v6_ hf; have r_ := (h_v6_ : InR v6_); unfold InR at r_; exact absurd hf (by omega)
  | succ fu ih =>
    intro M v4_ v5_ v6_ h_M h_v4_ h_v5_ h_v6_ hf
    rw [t_Notes_findFits_L17]
    have r_v6_ : -2147483648 ≤ v6_ ∧ v6_ ≤ 2147483647 := h_v6_
    refine ok_ite (fun c_1 => ?_) (fun c_1 => ?_)
    · refine ok_let (fun M7 e_M7 => ?_)
      have h_M7 : IM M7 := by rw [e_M7]; exact IM.setI h_M (inr_c rfl)
      clear e_M7
      refine ok_bind (Q := fun r => IM r) (sf_Arrays_fill (by decide) h_M7 (inr_c rfl) ) (fun q8 h_q8 => ?_)
      exact (sf_Notes_findFits_L54   _ _ _ _ _ h_q8 h_v4_ h_v5_ (inr_c rfl) (fu_up (inr_c rfl)))
    · have f_2 : v6_ ≤ 2147483646 := by have b_ : (M.1 k1 14) ≤ 2147483647 := ((h_M _ _)).2; omega
      have w_3 : (w32 (v6_ + 1)) = v6_ + (1) := w32_id (by unfold InR; omega)
      exact (ih _ _ _ _ h_M h_v4_ (inr_w32 _) (inr_w32 _) (by omega))
theorem sf_Notes_findFits {k1 : Nat} {k2 : Nat} {k3 : Nat} {k4 : Nat} {M : Mem}   (h_M : IM M)   : Ok (fun r => IM r) (t_Notes_findFits M k1 k2 k3 k4) := by
  unfold t_Notes_findFits
  refine ok_let (fun q1 e_q1 => ?_)
  have h_q1 : (fun r => IM r) q1 := by rw [e_q1]; exact (sf_Scene_copy  h_M  )
  clear e_q1
  refine ok_bind (Q := fun r => InR r) (sf_Notes_knownBits  h_q1  ) (fun q3 h_q3 => ?_)
  exact (sf_Notes_findFits_L17   _ _ _ _ _ h_q1 h_q3 (inr_c rfl) (inr_c rfl) (fu_up (inr_c rfl)))
theorem sf_WF_fits  {M : Mem}   (h_M : IM M)   : Ok (fun r => IM r.1 ∧ InR r.2) (t_WF_fits M) := by
  unfold t_WF_fits
  refine ok_bind (Q := fun r => IM r) (sf_Notes_findFits  h_M  ) (fun q2 h_q2 => ?_)
  exact ok_some ⟨h_q2, (h_q2 _ _)⟩
end
