section
/-! ints in range: the reference -/
theorem im_MO_isPushed {x1 : Int} {x2 : Int} {M : Mem}  (h_M : IM M) (h_x1 : InR x1) (h_x2 : InR x2) : Post (fun r => IM r.1 ∧ InR r.2) (t_MO_isPushed M x1 x2) := by
  unfold t_MO_isPushed
  refine post_bind (Q := fun r => InR r) (im_MO_beside  h_M h_x1 h_x2) (fun q1 h_q1 => ?_)
  refine post_ite (fun c_1 => ?_) (fun c_1 => ?_)
  · exact post_some ⟨h_M, (inr_c rfl)⟩
  · refine post_guard (fun c_2 => ?_)
    refine post_ite (fun c_3 => ?_) (fun c_3 => ?_)
    · refine post_guard (fun c_4 => ?_)
      refine post_guard (fun c_5 => ?_)
      refine post_ite (fun c_6 => ?_) (fun c_6 => ?_)
      · refine post_guard (fun c_7 => ?_)
        refine post_bind (Q := fun r => IM r.1 ∧ InR r.2) (im_MO_pushOf  h_M h_x1 h_x2) (fun q14 h_q14 => ?_)
        refine post_guard (fun c_8 => ?_)
        refine post_ite (fun c_9 => ?_) (fun c_9 => ?_)
        · exact post_some ⟨h_q14.1, (inr_c rfl)⟩
        · exact post_some ⟨h_q14.1, (inr_c rfl)⟩
      · exact post_some ⟨h_M, (inr_c rfl)⟩
    · exact post_some ⟨h_M, (inr_c rfl)⟩
theorem im_MO_pushed_L72 {x1 : Int} {x2 : Int} {x3 : Int} {bk63 : Mem → Int → Int → Option (Mem × Int)} (hbk63 : ∀ (a0_ : Mem) (a1_ : Int) (a2_ : Int), IM a0_ → InR a1_ → InR a2_ → Post (fun r => IM r.1 ∧ InR r.2) (bk63 a0_ a1_ a2_)) (h_x1 : InR x1) (h_x2 : InR x2) (h_x3 : InR x3) : ∀ (fu : Nat) (M : Mem) (v2_ : Int) (v3_ : Int) (v4_ : Int), IM M → InR v2_ → InR v3_ → InR v4_ → Post (fun r => IM r.1 ∧ InR r.2) (t_MO_pushed_L72 x1 x2 x3 bk63 fu M v2_ v3_ v4_) := by
  intro fu
  induction fu with
  | zero => intro M v2_ v3_ v4_ h_M h_v2_ h_v3_ h_v4_; exact post_none
  | succ fu ih =>
    intro M v2_ v3_ v4_ h_M h_v2_ h_v3_ h_v4_
    rw [t_MO_pushed_L72]
    refine post_bind (Q := fun r => IM r.1 ∧ InR r.2) (im_MO_isPushed  h_M h_v2_ h_v4_) (fun q18 h_q18 => ?_)
    refine post_ite (fun c_1 => ?_) (fun c_1 => ?_)
    · exact (ih _ _ _ _ h_q18.1 h_v2_ h_v3_ (inr_w32 _))
    · refine post_bind (Q := fun r => InR r) (im_MO_beside  h_q18.1 h_v2_ h_v4_) (fun q21 h_q21 => ?_)
      exact hbk63 _ _ _  h_q18.1 h_q21 (inr_w32 _)
theorem im_MO_pushed_L63 {x1 : Int} {x2 : Int} {x3 : Int}  (h_x1 : InR x1) (h_x2 : InR x2) (h_x3 : InR x3) : ∀ (fu : Nat) (M : Mem) (v2_ : Int) (v3_ : Int), IM M → InR v2_ → InR v3_ → Post (fun r => IM r.1 ∧ InR r.2) (t_MO_pushed_L63 x1 x2 x3 fu M v2_ v3_) := by
  intro fu
  induction fu with
  | zero => intro M v2_ v3_ h_M h_v2_ h_v3_; exact post_none
  | succ fu ih =>
    intro M v2_ v3_ h_M h_v2_ h_v3_
    rw [t_MO_pushed_L63]
    refine post_ite (fun c_1 => ?_) (fun c_1 => ?_)
    · exact post_some ⟨h_M, h_v2_⟩
    · exact (im_MO_pushed_L72 (fun a0_ a1_ a2_ h0_ h1_ h2_ => ih a0_ a1_ a2_ h0_ h1_ h2_) h_x1 h_x2 h_x3 _ _ _ _ _ h_M h_v2_ h_v3_ (inr_c rfl))
theorem im_MO_pushed {x1 : Int} {x2 : Int} {x3 : Int} {M : Mem}  (h_M : IM M) (h_x1 : InR x1) (h_x2 : InR x2) (h_x3 : InR x3) : Post (fun r => IM r.1 ∧ InR r.2) (t_MO_pushed M x1 x2 x3) := by
  unfold t_MO_pushed
  refine post_let (fun M1 e_M1 => ?_)
  have h_M1 : IM M1 := by rw [e_M1]; exact IM.setI h_M (inr_c rfl)
  clear e_M1
  refine post_bind (Q := fun r => InR r) (im_MO_isOpen  h_M1 h_x1) (fun q2 h_q2 => ?_)
  refine post_ite (fun c_1 => ?_) (fun c_1 => ?_)
  · exact post_some ⟨h_M1, (inr_c rfl)⟩
  · refine post_bind (Q := fun r => InR r) (im_MO_isOpen  h_M1 h_x2) (fun q5 h_q5 => ?_)
    refine post_ite (fun c_2 => ?_) (fun c_2 => ?_)
    · exact post_some ⟨h_M1, (inr_c rfl)⟩
    · refine post_ite (fun c_3 => ?_) (fun c_3 => ?_)
      · refine post_bind (Q := fun r => IM r) (im_MO_layPush  h_M1 h_x2) (fun q9 h_q9 => ?_)
        refine post_guard (fun c_4 => ?_)
        refine post_ite (fun c_5 => ?_) (fun c_5 => ?_)
        · exact post_some ⟨h_q9, (inr_c rfl)⟩
        · refine post_guard (fun c_6 => ?_)
          refine post_ite (fun c_7 => ?_) (fun c_7 => ?_)
          · exact (im_MO_pushed_L63  h_x1 h_x2 h_x3 _ _ _ _ h_q9 h_x1 (inr_c rfl))
          · exact post_some ⟨h_q9, (inr_c rfl)⟩
      · exact post_some ⟨h_M1, (inr_c rfl)⟩
theorem im_MO_war_L100 {x1 : Int} {x2 : Int} {bk33 : Mem → Int → Int → Option (Mem × Int)} {v3_ : Int} {v4_ : Int} {M : Mem} (hbk33 : ∀ (a0_ : Mem) (a1_ : Int) (a2_ : Int), IM a0_ → InR a1_ → InR a2_ → Post (fun r => IM r.1 ∧ InR r.2) (bk33 a0_ a1_ a2_)) (h_M : IM M) (h_x1 : InR x1) (h_x2 : InR x2) (h_v3_ : InR v3_) (h_v4_ : InR v4_) : Post (fun r => IM r.1 ∧ InR r.2) (t_MO_war_L100 x1 x2 bk33 M v3_ v4_) := by
  unfold t_MO_war_L100
  exact hbk33 _ _ _  h_M h_v3_ (inr_w32 _)
theorem im_MO_war_L98 {x1 : Int} {x2 : Int} {bk33 : Mem → Int → Int → Option (Mem × Int)} {v3_ : Int} {v4_ : Int} {v5_ : Int} {M : Mem} (hbk33 : ∀ (a0_ : Mem) (a1_ : Int) (a2_ : Int), IM a0_ → InR a1_ → InR a2_ → Post (fun r => IM r.1 ∧ InR r.2) (bk33 a0_ a1_ a2_)) (h_M : IM M) (h_x1 : InR x1) (h_x2 : InR x2) (h_v3_ : InR v3_) (h_v4_ : InR v4_) (h_v5_ : InR v5_) : Post (fun r => IM r.1 ∧ InR r.2) (t_MO_war_L98 x1 x2 bk33 M v3_ v4_ v5_) := by
  unfold t_MO_war_L98
  exact (im_MO_war_L100 hbk33 h_M h_x1 h_x2 (inr_w32 _) h_v3_)
theorem im_MO_war_L97 {x1 : Int} {x2 : Int} {bk33 : Mem → Int → Int → Option (Mem × Int)} {v3_ : Int} {v4_ : Int} {M : Mem} (hbk33 : ∀ (a0_ : Mem) (a1_ : Int) (a2_ : Int), IM a0_ → InR a1_ → InR a2_ → Post (fun r => IM r.1 ∧ InR r.2) (bk33 a0_ a1_ a2_)) (h_M : IM M) (h_x1 : InR x1) (h_x2 : InR x2) (h_v3_ : InR v3_) (h_v4_ : InR v4_) : Post (fun r => IM r.1 ∧ InR r.2) (t_MO_war_L97 x1 x2 bk33 M v3_ v4_) := by
  unfold t_MO_war_L97
  exact (im_MO_war_L98 hbk33 h_M h_x1 h_x2 h_v3_ h_v4_ (inr_c rfl))
theorem im_MO_war_L33 {x1 : Int} {x2 : Int}  (h_x1 : InR x1) (h_x2 : InR x2) : ∀ (fu : Nat) (M : Mem) (v3_ : Int) (v4_ : Int), IM M → InR v3_ → InR v4_ → Post (fun r => IM r.1 ∧ InR r.2) (t_MO_war_L33 x1 x2 fu M v3_ v4_) := by
  intro fu
  induction fu with
  | zero => intro M v3_ v4_ h_M h_v3_ h_v4_; exact post_none
  | succ fu ih =>
    intro M v3_ v4_ h_M h_v3_ h_v4_
    rw [t_MO_war_L33]
    refine post_let (fun q9 e_q9 => ?_)
    have h_q9 : (fun r => InR r) q9 := by rw [e_q9]; exact (im_MO_cells  h_M )
    clear e_q9
    refine post_ite (fun c_1 => ?_) (fun c_1 => ?_)
    · exact post_some ⟨h_M, h_v3_⟩
    · refine post_guard (fun c_2 => ?_)
      refine post_ite (fun c_3 => ?_) (fun c_3 => ?_)
      · refine post_guard (fun c_4 => ?_)
        refine post_ite (fun c_5 => ?_) (fun c_5 => ?_)
        · refine post_bind (Q := fun r => IM r) (im_MO_goesFrom  h_M (inr_c rfl) h_v4_) (fun q18 h_q18 => ?_)
          refine post_ite (fun c_6 => ?_) (fun c_6 => ?_)
          · exact (im_MO_war_L97 (fun a0_ a1_ a2_ h0_ h1_ h2_ => ih a0_ a1_ a2_ h0_ h1_ h2_) h_q18 h_x1 h_x2 h_v4_ h_v3_)
          · refine post_ite (fun c_7 => ?_) (fun c_7 => ?_)
            · exact (im_MO_war_L98 (fun a0_ a1_ a2_ h0_ h1_ h2_ => ih a0_ a1_ a2_ h0_ h1_ h2_) h_q18 h_x1 h_x2 h_v4_ h_v3_ (inr_c rfl))
            · exact (im_MO_war_L97 (fun a0_ a1_ a2_ h0_ h1_ h2_ => ih a0_ a1_ a2_ h0_ h1_ h2_) h_q18 h_x1 h_x2 h_v4_ h_v3_)
        · exact (im_MO_war_L100 (fun a0_ a1_ a2_ h0_ h1_ h2_ => ih a0_ a1_ a2_ h0_ h1_ h2_) h_M h_x1 h_x2 h_v3_ h_v4_)
      · exact (im_MO_war_L100 (fun a0_ a1_ a2_ h0_ h1_ h2_ => ih a0_ a1_ a2_ h0_ h1_ h2_) h_M h_x1 h_x2 h_v3_ h_v4_)
theorem im_MO_war {x1 : Int} {x2 : Int} {M : Mem}  (h_M : IM M) (h_x1 : InR x1) (h_x2 : InR x2) : Post (fun r => IM r.1 ∧ InR r.2) (t_MO_war M x1 x2) := by
  unfold t_MO_war
  refine post_let (fun M1 e_M1 => ?_)
  have h_M1 : IM M1 := by rw [e_M1]; exact IM.setI h_M (inr_c rfl)
  clear e_M1
  refine post_let (fun q2 e_q2 => ?_)
  have h_q2 : (fun r => InR r) q2 := by rw [e_q2]; exact (im_MO_isWard  h_M1 h_x1)
  clear e_q2
  refine post_ite (fun c_1 => ?_) (fun c_1 => ?_)
  · exact post_some ⟨h_M1, (inr_c rfl)⟩
  · refine post_let (fun q5 e_q5 => ?_)
    have h_q5 : (fun r => InR r) q5 := by rw [e_q5]; exact (im_MO_isWard  h_M1 h_x2)
    clear e_q5
    refine post_ite (fun c_2 => ?_) (fun c_2 => ?_)
    · exact post_some ⟨h_M1, (inr_c rfl)⟩
    · refine post_ite (fun c_3 => ?_) (fun c_3 => ?_)
      · exact post_some ⟨h_M1, (inr_c rfl)⟩
      · exact (im_MO_war_L33  h_x1 h_x2 _ _ _ _ h_M1 (inr_c rfl) (inr_c rfl))
theorem im_MO_nets_L59 {bk9 : Mem → Int64 → Int → Option (Mem × Int64)} {v1_ : Int64} {v2_ : Int} {M : Mem} (hbk9 : ∀ (a0_ : Mem) (a1_ : Int64) (a2_ : Int), IM a0_ → InR a2_ → Post (fun r => IM r.1) (bk9 a0_ a1_ a2_)) (h_M : IM M) (h_v2_ : InR v2_) : Post (fun r => IM r.1) (t_MO_nets_L59 bk9 M v1_ v2_) := by
  unfold t_MO_nets_L59
  exact hbk9 _ _ _  h_M (inr_w32 _)
theorem im_MO_nets_L9    : ∀ (fu : Nat) (M : Mem) (v1_ : Int64) (v2_ : Int), IM M → InR v2_ → Post (fun r => IM r.1) (t_MO_nets_L9  fu M v1_ v2_) := by
  intro fu
  induction fu with
  | zero => intro M v1_ v2_ h_M h_v2_; exact post_none
  | succ fu ih =>
    intro M v1_ v2_ h_M h_v2_
    rw [t_MO_nets_L9]
    refine post_let (fun q2 e_q2 => ?_)
    have h_q2 : (fun r => InR r) q2 := by rw [e_q2]; exact (im_MO_cells  h_M )
    clear e_q2
    refine post_ite (fun c_1 => ?_) (fun c_1 => ?_)
    · exact post_some h_M
    · refine post_guard (fun c_2 => ?_)
      refine post_ite (fun c_3 => ?_) (fun c_3 => ?_)
      · refine post_bind (Q := fun r => InR r) (im_MO_nextOf  h_M (inr_c rfl) h_v2_) (fun q8 h_q8 => ?_)
        refine post_ite (fun c_4 => ?_) (fun c_4 => ?_)
        · exact (im_MO_nets_L59 (fun a0_ a1_ a2_ h0_ h2_ => ih a0_ a1_ a2_ h0_ h2_) h_M h_v2_)
        · refine post_bind (Q := fun r => InR r) (im_MO_isLine  h_M h_v2_ h_q8) (fun q11 h_q11 => ?_)
          refine post_ite (fun c_5 => ?_) (fun c_5 => ?_)
          · exact (im_MO_nets_L59 (fun a0_ a1_ a2_ h0_ h2_ => ih a0_ a1_ a2_ h0_ h2_) h_M h_v2_)
          · exact (im_MO_nets_L59 (fun a0_ a1_ a2_ h0_ h2_ => ih a0_ a1_ a2_ h0_ h2_) h_M h_v2_)
      · exact (im_MO_nets_L59 (fun a0_ a1_ a2_ h0_ h2_ => ih a0_ a1_ a2_ h0_ h2_) h_M h_v2_)
theorem im_MO_nets  {M : Mem}  (h_M : IM M)  : Post (fun r => IM r.1) (t_MO_nets M) := by
  unfold t_MO_nets
  refine post_let (fun M1 e_M1 => ?_)
  have h_M1 : IM M1 := by rw [e_M1]; exact IM.setI h_M (inr_c rfl)
  clear e_M1
  exact (im_MO_nets_L9   _ _ _ _ h_M1 (inr_c rfl))
theorem im_MO_longest_L63 {x1 : Int} {bk9 : Mem → Int → Int → Option (Mem × Int)} {v2_ : Int} {v3_ : Int} {M : Mem} (hbk9 : ∀ (a0_ : Mem) (a1_ : Int) (a2_ : Int), IM a0_ → InR a1_ → InR a2_ → Post (fun r => IM r.1 ∧ InR r.2) (bk9 a0_ a1_ a2_)) (h_M : IM M) (h_x1 : InR x1) (h_v2_ : InR v2_) (h_v3_ : InR v3_) : Post (fun r => IM r.1 ∧ InR r.2) (t_MO_longest_L63 x1 bk9 M v2_ v3_) := by
  unfold t_MO_longest_L63
  exact hbk9 _ _ _  h_M h_v2_ (inr_w32 _)
theorem im_MO_longest_L9 {x1 : Int}  (h_x1 : InR x1) : ∀ (fu : Nat) (M : Mem) (v2_ : Int) (v3_ : Int), IM M → InR v2_ → InR v3_ → Post (fun r => IM r.1 ∧ InR r.2) (t_MO_longest_L9 x1 fu M v2_ v3_) := by
  intro fu
  induction fu with
  | zero => intro M v2_ v3_ h_M h_v2_ h_v3_; exact post_none
  | succ fu ih =>
    intro M v2_ v3_ h_M h_v2_ h_v3_
    rw [t_MO_longest_L9]
    refine post_let (fun q2 e_q2 => ?_)
    have h_q2 : (fun r => InR r) q2 := by rw [e_q2]; exact (im_MO_cells  h_M )
    clear e_q2
    refine post_ite (fun c_1 => ?_) (fun c_1 => ?_)
    · exact post_some ⟨h_M, h_v2_⟩
    · refine post_guard (fun c_2 => ?_)
      refine post_ite (fun c_3 => ?_) (fun c_3 => ?_)
      · refine post_bind (Q := fun r => IM r) (im_MO_goesFrom  h_M h_x1 h_v3_) (fun q8 h_q8 => ?_)
        refine post_ite (fun c_4 => ?_) (fun c_4 => ?_)
        · exact (im_MO_longest_L63 (fun a0_ a1_ a2_ h0_ h1_ h2_ => ih a0_ a1_ a2_ h0_ h1_ h2_) h_q8 h_x1 h_v2_ h_v3_)
        · refine post_ite (fun c_5 => ?_) (fun c_5 => ?_)
          · refine post_let (fun M15 e_M15 => ?_)
            have h_M15 : IM M15 := by rw [e_M15]; exact IM.setI h_q8 h_v3_
            clear e_M15
            exact (im_MO_longest_L63 (fun a0_ a1_ a2_ h0_ h1_ h2_ => ih a0_ a1_ a2_ h0_ h1_ h2_) h_M15 h_x1 (h_q8 _ _) h_v3_)
          · exact (im_MO_longest_L63 (fun a0_ a1_ a2_ h0_ h1_ h2_ => ih a0_ a1_ a2_ h0_ h1_ h2_) h_q8 h_x1 h_v2_ h_v3_)
      · exact (im_MO_longest_L63 (fun a0_ a1_ a2_ h0_ h1_ h2_ => ih a0_ a1_ a2_ h0_ h1_ h2_) h_M h_x1 h_v2_ h_v3_)
theorem im_MO_longest {x1 : Int} {M : Mem}  (h_M : IM M) (h_x1 : InR x1) : Post (fun r => IM r.1 ∧ InR r.2) (t_MO_longest M x1) := by
  unfold t_MO_longest
  refine post_let (fun M1 e_M1 => ?_)
  have h_M1 : IM M1 := by rw [e_M1]; exact IM.setI h_M (inr_c rfl)
  clear e_M1
  exact (im_MO_longest_L9  h_x1 _ _ _ _ h_M1 (inr_c rfl) (inr_c rfl))
theorem im_MO_clock_L120 {x1 : Int} {bk36 : Mem → Int → Int → Int → Int → Int → Option (Mem × Int)} {bk50 : Mem → Int → Int → Int → Int → Int → Int → Option (Mem × Int)} {v2_ : Int} {v3_ : Int} {v4_ : Int} {v5_ : Int} {v6_ : Int} {v7_ : Int} {M : Mem} (hbk36 : ∀ (a0_ : Mem) (a1_ : Int) (a2_ : Int) (a3_ : Int) (a4_ : Int) (a5_ : Int), IM a0_ → InR a1_ → InR a2_ → InR a3_ → InR a4_ → InR a5_ → Post (fun r => IM r.1 ∧ InR r.2) (bk36 a0_ a1_ a2_ a3_ a4_ a5_)) (hbk50 : ∀ (a0_ : Mem) (a1_ : Int) (a2_ : Int) (a3_ : Int) (a4_ : Int) (a5_ : Int) (a6_ : Int), IM a0_ → InR a1_ → InR a2_ → InR a3_ → InR a4_ → InR a5_ → InR a6_ → Post (fun r => IM r.1 ∧ InR r.2) (bk50 a0_ a1_ a2_ a3_ a4_ a5_ a6_)) (h_M : IM M) (h_x1 : InR x1) (h_v2_ : InR v2_) (h_v3_ : InR v3_) (h_v4_ : InR v4_) (h_v5_ : InR v5_) (h_v6_ : InR v6_) (h_v7_ : InR v7_) : Post (fun r => IM r.1 ∧ InR r.2) (t_MO_clock_L120 x1 bk36 bk50 M v2_ v3_ v4_ v5_ v6_ v7_) := by
  unfold t_MO_clock_L120
  exact hbk50 _ _ _ _ _ _ _  h_M h_v2_ h_v3_ h_v4_ h_v5_ h_v6_ (inr_w32 _)
theorem im_MO_clock_L50 {x1 : Int} {bk36 : Mem → Int → Int → Int → Int → Int → Option (Mem × Int)} (hbk36 : ∀ (a0_ : Mem) (a1_ : Int) (a2_ : Int) (a3_ : Int) (a4_ : Int) (a5_ : Int), IM a0_ → InR a1_ → InR a2_ → InR a3_ → InR a4_ → InR a5_ → Post (fun r => IM r.1 ∧ InR r.2) (bk36 a0_ a1_ a2_ a3_ a4_ a5_)) (h_x1 : InR x1) : ∀ (fu : Nat) (M : Mem) (v2_ : Int) (v3_ : Int) (v4_ : Int) (v5_ : Int) (v6_ : Int) (v7_ : Int), IM M → InR v2_ → InR v3_ → InR v4_ → InR v5_ → InR v6_ → InR v7_ → Post (fun r => IM r.1 ∧ InR r.2) (t_MO_clock_L50 x1 bk36 fu M v2_ v3_ v4_ v5_ v6_ v7_) := by
  intro fu
  induction fu with
  | zero => intro M v2_ v3_ v4_ v5_ v6_ v7_ h_M h_v2_ h_v3_ h_v4_ h_v5_ h_v6_ h_v7_; exact post_none
  | succ fu ih =>
    intro M v2_ v3_ v4_ v5_ v6_ v7_ h_M h_v2_ h_v3_ h_v4_ h_v5_ h_v6_ h_v7_
    rw [t_MO_clock_L50]
    refine post_ite (fun c_1 => ?_) (fun c_1 => ?_)
    · exact hbk36 _ _ _ _ _ _  h_M h_v2_ h_v3_ h_v4_ h_v5_ (inr_w32 _)
    · refine post_guard (fun c_2 => ?_)
      refine post_ite (fun c_3 => ?_) (fun c_3 => ?_)
      · exact (im_MO_clock_L120 hbk36 (fun a0_ a1_ a2_ a3_ a4_ a5_ a6_ h0_ h1_ h2_ h3_ h4_ h5_ h6_ => ih a0_ a1_ a2_ a3_ a4_ a5_ a6_ h0_ h1_ h2_ h3_ h4_ h5_ h6_) h_M h_x1 h_v2_ h_v3_ h_v4_ h_v5_ h_v6_ h_v7_)
      · refine post_bind (Q := fun r => IM r) (im_MO_copies  h_M (inr_c rfl) (inr_c rfl)) (fun q16 h_q16 => ?_)
        refine post_guard (fun c_4 => ?_)
        refine post_let (fun M19 e_M19 => ?_)
        have h_M19 : IM M19 := by rw [e_M19]; exact IM.setI h_q16 h_v7_
        clear e_M19
        refine post_bind (Q := fun r => IM r.1 ∧ InR r.2) (im_MO_longest  h_M19 (inr_c rfl)) (fun q20 h_q20 => ?_)
        refine post_ite (fun c_5 => ?_) (fun c_5 => ?_)
        · exact (im_MO_clock_L120 hbk36 (fun a0_ a1_ a2_ a3_ a4_ a5_ a6_ h0_ h1_ h2_ h3_ h4_ h5_ h6_ => ih a0_ a1_ a2_ a3_ a4_ a5_ a6_ h0_ h1_ h2_ h3_ h4_ h5_ h6_) h_q20.1 h_x1 h_q20.2 h_v6_ h_v7_ (h_q20.1 _ _) h_v6_ h_v7_)
        · exact (im_MO_clock_L120 hbk36 (fun a0_ a1_ a2_ a3_ a4_ a5_ a6_ h0_ h1_ h2_ h3_ h4_ h5_ h6_ => ih a0_ a1_ a2_ a3_ a4_ a5_ a6_ h0_ h1_ h2_ h3_ h4_ h5_ h6_) h_q20.1 h_x1 h_v2_ h_v3_ h_v4_ h_v5_ h_v6_ h_v7_)
theorem im_MO_clock_L36 {x1 : Int}  (h_x1 : InR x1) : ∀ (fu : Nat) (M : Mem) (v2_ : Int) (v3_ : Int) (v4_ : Int) (v5_ : Int) (v6_ : Int), IM M → InR v2_ → InR v3_ → InR v4_ → InR v5_ → InR v6_ → Post (fun r => IM r.1 ∧ InR r.2) (t_MO_clock_L36 x1 fu M v2_ v3_ v4_ v5_ v6_) := by
  intro fu
  induction fu with
  | zero => intro M v2_ v3_ v4_ v5_ v6_ h_M h_v2_ h_v3_ h_v4_ h_v5_ h_v6_; exact post_none
  | succ fu ih =>
    intro M v2_ v3_ v4_ v5_ v6_ h_M h_v2_ h_v3_ h_v4_ h_v5_ h_v6_
    rw [t_MO_clock_L36]
    refine post_ite (fun c_1 => ?_) (fun c_1 => ?_)
    · refine post_ite (fun c_2 => ?_) (fun c_2 => ?_)
      · exact post_some ⟨h_M, h_v2_⟩
      · refine post_ite (fun c_3 => ?_) (fun c_3 => ?_)
        · exact post_some ⟨h_M, h_v3_⟩
        · refine post_ite (fun c_4 => ?_) (fun c_4 => ?_)
          · exact post_some ⟨h_M, h_v4_⟩
          · exact post_some ⟨h_M, h_v5_⟩
    · exact (im_MO_clock_L50 (fun a0_ a1_ a2_ a3_ a4_ a5_ h0_ h1_ h2_ h3_ h4_ h5_ => ih a0_ a1_ a2_ a3_ a4_ a5_ h0_ h1_ h2_ h3_ h4_ h5_) h_x1 _ _ _ _ _ _ _ _ h_M h_v2_ h_v3_ h_v4_ h_v5_ h_v6_ (inr_c rfl))
theorem im_MO_clock {x1 : Int} {M : Mem}  (h_M : IM M) (h_x1 : InR x1) : Post (fun r => IM r.1 ∧ InR r.2) (t_MO_clock M x1) := by
  unfold t_MO_clock
  refine post_let (fun M1 e_M1 => ?_)
  have h_M1 : IM M1 := by rw [e_M1]; exact IM.setI h_M (inr_c rfl)
  clear e_M1
  refine post_ite (fun c_1 => ?_) (fun c_1 => ?_)
  · exact post_some ⟨h_M1, (inr_c rfl)⟩
  · refine post_ite (fun c_2 => ?_) (fun c_2 => ?_)
    · refine post_bind (Q := fun r => IM r.1 ∧ InR r.2) (im_MO_longest  h_M1 (inr_c rfl)) (fun q4 h_q4 => ?_)
      exact (im_MO_clock_L36  h_x1 _ _ _ _ _ _ _ h_q4.1 h_q4.2 (inr_c rfl) (inr_c rfl) (h_q4.1 _ _) (inr_c rfl))
    · exact post_some ⟨h_M1, (inr_c rfl)⟩
theorem im_MO_votes  {M : Mem} (h_M : IM M)  : (fun r => InR r) (t_MO_votes M) := by
  show Pl (fun r => InR r) (t_MO_votes M)
  unfold t_MO_votes
  exact (inrq_shl)
theorem im_MO_layJoys_L51 {bk8 : Mem → Int → Option (Mem)} (hbk8 : ∀ (a0_ : Mem) (a1_ : Int), IM a0_ → InR a1_ → Post (fun r => IM r) (bk8 a0_ a1_))  : ∀ (fu : Nat) (M : Mem) (v1_ : Int) (v2_ : Int), IM M → InR v1_ → InR v2_ → Post (fun r => IM r) (t_MO_layJoys_L51 bk8 fu M v1_ v2_) := by
  intro fu
  induction fu with
  | zero => intro M v1_ v2_ h_M h_v1_ h_v2_; exact post_none
  | succ fu ih =>
    intro M v1_ v2_ h_M h_v1_ h_v2_
    rw [t_MO_layJoys_L51]
    refine post_ite (fun c_1 => ?_) (fun c_1 => ?_)
    · exact hbk8 _ _  h_M (inr_w32 _)
    · refine post_bind (Q := fun r => IM r.1 ∧ InR r.2) (im_MO_joyOf  h_M (inr_c rfl) h_v2_) (fun q12 h_q12 => ?_)
      refine post_guard (fun c_2 => ?_)
      refine post_let (fun M15 e_M15 => ?_)
      have h_M15 : IM M15 := by rw [e_M15]; exact IM.setI h_q12.1 h_q12.2
      clear e_M15
      exact (ih _ _ _ h_M15 h_v1_ (inr_w32 _))
theorem im_MO_layJoys_L18 {bk8 : Mem → Int → Option (Mem)} (hbk8 : ∀ (a0_ : Mem) (a1_ : Int), IM a0_ → InR a1_ → Post (fun r => IM r) (bk8 a0_ a1_))  : ∀ (fu : Nat) (M : Mem) (v1_ : Int) (v2_ : Int), IM M → InR v1_ → InR v2_ → Post (fun r => IM r) (t_MO_layJoys_L18 bk8 fu M v1_ v2_) := by
  intro fu
  induction fu with
  | zero => intro M v1_ v2_ h_M h_v1_ h_v2_; exact post_none
  | succ fu ih =>
    intro M v1_ v2_ h_M h_v1_ h_v2_
    rw [t_MO_layJoys_L18]
    refine post_ite (fun c_1 => ?_) (fun c_1 => ?_)
    · exact (im_MO_layJoys_L51 hbk8  _ _ _ _ h_M h_v1_ (inr_c rfl))
    · refine post_guard (fun c_2 => ?_)
      refine post_let (fun M9 e_M9 => ?_)
      have h_M9 : IM M9 := by rw [e_M9]; exact IM.setI h_M (inrq_and)
      clear e_M9
      exact (ih _ _ _ h_M9 h_v1_ (inr_w32 _))
theorem im_MO_layJoys_L8    : ∀ (fu : Nat) (M : Mem) (v1_ : Int), IM M → InR v1_ → Post (fun r => IM r) (t_MO_layJoys_L8  fu M v1_) := by
  intro fu
  induction fu with
  | zero => intro M v1_ h_M h_v1_; exact post_none
  | succ fu ih =>
    intro M v1_ h_M h_v1_
    rw [t_MO_layJoys_L8]
    refine post_let (fun q3 e_q3 => ?_)
    have h_q3 : (fun r => InR r) q3 := by rw [e_q3]; exact (im_MO_votes  h_M )
    clear e_q3
    refine post_ite (fun c_1 => ?_) (fun c_1 => ?_)
    · exact post_some h_M
    · exact (im_MO_layJoys_L18 (fun a0_ a1_ h0_ h1_ => ih a0_ a1_ h0_ h1_)  _ _ _ _ h_M h_v1_ (inr_c rfl))
theorem im_MO_layJoys  {M : Mem}  (h_M : IM M)  : Post (fun r => IM r) (t_MO_layJoys M) := by
  unfold t_MO_layJoys
  refine post_bind (Q := fun r => IM r) (im_MO_copies  h_M (inr_c rfl) (inr_c rfl)) (fun q1 h_q1 => ?_)
  exact (im_MO_layJoys_L8   _ _ _ h_q1 (inr_c rfl))
theorem im_MO_with {x1 : Int} {x2 : Int} {x3 : Int} {M : Mem} (h_M : IM M) (h_x1 : InR x1) (h_x2 : InR x2) (h_x3 : InR x3) : (fun r => InR r) (t_MO_with M x1 x2 x3) := by
  show Pl (fun r => InR r) (t_MO_with M x1 x2 x3)
  unfold t_MO_with
  exact (inrq_or)
theorem im_MO_isStay_L14 {x1 : Int} {bk2 : Mem → Int → Option (Int)} (hbk2 : ∀ (a0_ : Mem) (a1_ : Int), IM a0_ → InR a1_ → Post (fun r => InR r) (bk2 a0_ a1_)) (h_x1 : InR x1) : ∀ (fu : Nat) (M : Mem) (v2_ : Int) (v3_ : Int), IM M → InR v2_ → InR v3_ → Post (fun r => InR r) (t_MO_isStay_L14 x1 bk2 fu M v2_ v3_) := by
  intro fu
  induction fu with
  | zero => intro M v2_ v3_ h_M h_v2_ h_v3_; exact post_none
  | succ fu ih =>
    intro M v2_ v3_ h_M h_v2_ h_v3_
    rw [t_MO_isStay_L14]
    refine post_ite (fun c_1 => ?_) (fun c_1 => ?_)
    · exact hbk2 _ _  h_M (inr_w32 _)
    · refine post_let (fun q4 e_q4 => ?_)
      have h_q4 : (fun r => InR r) q4 := by rw [e_q4]; exact (im_MO_with  h_M h_x1 h_v2_ h_v3_)
      clear e_q4
      refine post_guard (fun c_2 => ?_)
      refine post_guard (fun c_3 => ?_)
      refine post_ite (fun c_4 => ?_) (fun c_4 => ?_)
      · exact (ih _ _ _ h_M h_v2_ (inr_w32 _))
      · exact post_some (inr_c rfl)
theorem im_MO_isStay_L2 {x1 : Int}  (h_x1 : InR x1) : ∀ (fu : Nat) (M : Mem) (v2_ : Int), IM M → InR v2_ → Post (fun r => InR r) (t_MO_isStay_L2 x1 fu M v2_) := by
  intro fu
  induction fu with
  | zero => intro M v2_ h_M h_v2_; exact post_none
  | succ fu ih =>
    intro M v2_ h_M h_v2_
    rw [t_MO_isStay_L2]
    refine post_ite (fun c_1 => ?_) (fun c_1 => ?_)
    · exact post_some (inr_c rfl)
    · exact (im_MO_isStay_L14 (fun a0_ a1_ h0_ h1_ => ih a0_ a1_ h0_ h1_) h_x1 _ _ _ _ h_M h_v2_ (inr_c rfl))
theorem im_MO_isStay {x1 : Int} {M : Mem}  (h_M : IM M) (h_x1 : InR x1) : Post (fun r => InR r) (t_MO_isStay M x1) := by
  unfold t_MO_isStay
  exact (im_MO_isStay_L2  h_x1 _ _ _ h_M (inr_c rfl))
theorem im_MO_stayOf_L37 {x1 : Int} {bk8 : Mem → Int → Int → Option (Mem × Int)} {v2_ : Int} {v3_ : Int} {M : Mem} (hbk8 : ∀ (a0_ : Mem) (a1_ : Int) (a2_ : Int), IM a0_ → InR a1_ → InR a2_ → Post (fun r => IM r.1 ∧ InR r.2) (bk8 a0_ a1_ a2_)) (h_M : IM M) (h_x1 : InR x1) (h_v2_ : InR v2_) (h_v3_ : InR v3_) : Post (fun r => IM r.1 ∧ InR r.2) (t_MO_stayOf_L37 x1 bk8 M v2_ v3_) := by
  unfold t_MO_stayOf_L37
  exact hbk8 _ _ _  h_M h_v2_ (inr_w32 _)
theorem im_MO_stayOf_L8 {x1 : Int}  (h_x1 : InR x1) : ∀ (fu : Nat) (M : Mem) (v2_ : Int) (v3_ : Int), IM M → InR v2_ → InR v3_ → Post (fun r => IM r.1 ∧ InR r.2) (t_MO_stayOf_L8 x1 fu M v2_ v3_) := by
  intro fu
  induction fu with
  | zero => intro M v2_ v3_ h_M h_v2_ h_v3_; exact post_none
  | succ fu ih =>
    intro M v2_ v3_ h_M h_v2_ h_v3_
    rw [t_MO_stayOf_L8]
    refine post_let (fun q3 e_q3 => ?_)
    have h_q3 : (fun r => InR r) q3 := by rw [e_q3]; exact (im_MO_votes  h_M )
    clear e_q3
    refine post_ite (fun c_1 => ?_) (fun c_1 => ?_)
    · refine post_ite (fun c_2 => ?_) (fun c_2 => ?_)
      · exact post_some ⟨h_M, h_v2_⟩
      · exact post_some ⟨h_M, (inr_c rfl)⟩
    · refine post_bind (Q := fun r => InR r) (im_MO_isStay  h_M h_v3_) (fun q7 h_q7 => ?_)
      refine post_ite (fun c_3 => ?_) (fun c_3 => ?_)
      · exact (im_MO_stayOf_L37 (fun a0_ a1_ a2_ h0_ h1_ h2_ => ih a0_ a1_ a2_ h0_ h1_ h2_) h_M h_x1 h_v2_ h_v3_)
      · refine post_ite (fun c_4 => ?_) (fun c_4 => ?_)
        · exact post_some ⟨h_M, h_v3_⟩
        · exact (im_MO_stayOf_L37 (fun a0_ a1_ a2_ h0_ h1_ h2_ => ih a0_ a1_ a2_ h0_ h1_ h2_) h_M h_x1 (inr_w32 _) h_v3_)
theorem im_MO_stayOf {x1 : Int} {M : Mem}  (h_M : IM M) (h_x1 : InR x1) : Post (fun r => IM r.1 ∧ InR r.2) (t_MO_stayOf M x1) := by
  unfold t_MO_stayOf
  refine post_bind (Q := fun r => IM r) (im_MO_layJoys  h_M ) (fun q1 h_q1 => ?_)
  exact (im_MO_stayOf_L8  h_x1 _ _ _ _ h_q1 (inr_c rfl) (inr_c rfl))
theorem im_MO_stays  {M : Mem}  (h_M : IM M)  : Post (fun r => IM r.1 ∧ InR r.2) (t_MO_stays M) := by
  unfold t_MO_stays
  refine post_let (fun M1 e_M1 => ?_)
  have h_M1 : IM M1 := by rw [e_M1]; exact IM.setI h_M (inr_c rfl)
  clear e_M1
  refine post_bind (Q := fun r => IM r.1 ∧ InR r.2) (im_MO_stayOf  h_M1 (inr_c rfl)) (fun q2 h_q2 => ?_)
  exact post_some ⟨h_q2.1, h_q2.2⟩
theorem im_MO_stay {x1 : Int} {M : Mem}  (h_M : IM M) (h_x1 : InR x1) : Post (fun r => IM r.1 ∧ InR r.2) (t_MO_stay M x1) := by
  unfold t_MO_stay
  refine post_let (fun M1 e_M1 => ?_)
  have h_M1 : IM M1 := by rw [e_M1]; exact IM.setI h_M (inr_c rfl)
  clear e_M1
  refine post_ite (fun c_1 => ?_) (fun c_1 => ?_)
  · refine post_bind (Q := fun r => IM r.1 ∧ InR r.2) (im_MO_stayOf  h_M1 h_x1) (fun q3 h_q3 => ?_)
    exact post_some ⟨h_q3.1, h_q3.2⟩
  · exact post_some ⟨h_M1, (inr_c rfl)⟩
theorem im_MO_treaty_L120 {x1 : Int} {bk57 : Mem → Int → Int → Int → Option (Mem × Int)} {bk80 : Mem → Int → Int → Int → Int → Int → Int → Option (Mem × Int)} {v2_ : Int} {v3_ : Int} {v4_ : Int} {v5_ : Int} {v6_ : Int} {v7_ : Int} {v8_ : Int} {M : Mem} (hbk57 : ∀ (a0_ : Mem) (a1_ : Int) (a2_ : Int) (a3_ : Int), IM a0_ → InR a1_ → InR a2_ → InR a3_ → Post (fun r => IM r.1 ∧ InR r.2) (bk57 a0_ a1_ a2_ a3_)) (hbk80 : ∀ (a0_ : Mem) (a1_ : Int) (a2_ : Int) (a3_ : Int) (a4_ : Int) (a5_ : Int) (a6_ : Int), IM a0_ → InR a1_ → InR a2_ → InR a3_ → InR a4_ → InR a5_ → InR a6_ → Post (fun r => IM r.1 ∧ InR r.2) (bk80 a0_ a1_ a2_ a3_ a4_ a5_ a6_)) (h_M : IM M) (h_x1 : InR x1) (h_v2_ : InR v2_) (h_v3_ : InR v3_) (h_v4_ : InR v4_) (h_v5_ : InR v5_) (h_v6_ : InR v6_) (h_v7_ : InR v7_) (h_v8_ : InR v8_) : Post (fun r => IM r.1 ∧ InR r.2) (t_MO_treaty_L120 x1 bk57 bk80 M v2_ v3_ v4_ v5_ v6_ v7_ v8_) := by
  unfold t_MO_treaty_L120
  refine post_guard (fun c_1 => ?_)
  exact hbk80 _ _ _ _ _ _ _  h_M h_v2_ h_v3_ h_v4_ (inrq_and) (inr_w32 _) (inr_w32 _)
theorem im_MO_treaty_L171 {x1 : Int} {bk57 : Mem → Int → Int → Int → Option (Mem × Int)} {v2_ : Int} {v3_ : Int} {v4_ : Int} {M : Mem} (hbk57 : ∀ (a0_ : Mem) (a1_ : Int) (a2_ : Int) (a3_ : Int), IM a0_ → InR a1_ → InR a2_ → InR a3_ → Post (fun r => IM r.1 ∧ InR r.2) (bk57 a0_ a1_ a2_ a3_)) (h_M : IM M) (h_x1 : InR x1) (h_v2_ : InR v2_) (h_v3_ : InR v3_) (h_v4_ : InR v4_) : Post (fun r => IM r.1 ∧ InR r.2) (t_MO_treaty_L171 x1 bk57 M v2_ v3_ v4_) := by
  unfold t_MO_treaty_L171
  exact hbk57 _ _ _ _  h_M h_v2_ h_v3_ (inr_w32 _)
theorem im_MO_treaty_L165 {x1 : Int} {bk57 : Mem → Int → Int → Int → Option (Mem × Int)} {v2_ : Int} {v3_ : Int} {M : Mem} (hbk57 : ∀ (a0_ : Mem) (a1_ : Int) (a2_ : Int) (a3_ : Int), IM a0_ → InR a1_ → InR a2_ → InR a3_ → Post (fun r => IM r.1 ∧ InR r.2) (bk57 a0_ a1_ a2_ a3_)) (h_M : IM M) (h_x1 : InR x1) (h_v2_ : InR v2_) (h_v3_ : InR v3_) : Post (fun r => IM r.1 ∧ InR r.2) (t_MO_treaty_L165 x1 bk57 M v2_ v3_) := by
  unfold t_MO_treaty_L165
  exact (im_MO_treaty_L171 hbk57 h_M h_x1 h_v2_ h_v3_ h_v2_)
theorem im_MO_treaty_L80 {x1 : Int} {bk57 : Mem → Int → Int → Int → Option (Mem × Int)} (hbk57 : ∀ (a0_ : Mem) (a1_ : Int) (a2_ : Int) (a3_ : Int), IM a0_ → InR a1_ → InR a2_ → InR a3_ → Post (fun r => IM r.1 ∧ InR r.2) (bk57 a0_ a1_ a2_ a3_)) (h_x1 : InR x1) : ∀ (fu : Nat) (M : Mem) (v2_ : Int) (v3_ : Int) (v4_ : Int) (v5_ : Int) (v6_ : Int) (v7_ : Int), IM M → InR v2_ → InR v3_ → InR v4_ → InR v5_ → InR v6_ → InR v7_ → Post (fun r => IM r.1 ∧ InR r.2) (t_MO_treaty_L80 x1 bk57 fu M v2_ v3_ v4_ v5_ v6_ v7_) := by
  intro fu
  induction fu with
  | zero => intro M v2_ v3_ v4_ v5_ v6_ v7_ h_M h_v2_ h_v3_ h_v4_ h_v5_ h_v6_ h_v7_; exact post_none
  | succ fu ih =>
    intro M v2_ v3_ v4_ v5_ v6_ v7_ h_M h_v2_ h_v3_ h_v4_ h_v5_ h_v6_ h_v7_
    rw [t_MO_treaty_L80]
    refine post_ite (fun c_1 => ?_) (fun c_1 => ?_)
    · refine post_ite (fun c_2 => ?_) (fun c_2 => ?_)
      · exact (im_MO_treaty_L171 hbk57 h_M h_x1 h_v2_ h_v3_ h_v4_)
      · refine post_ite (fun c_3 => ?_) (fun c_3 => ?_)
        · exact (im_MO_treaty_L165 hbk57 h_M h_x1 h_v4_ h_v6_)
        · refine post_ite (fun c_4 => ?_) (fun c_4 => ?_)
          · exact (im_MO_treaty_L165 hbk57 h_M h_x1 h_v4_ h_v6_)
          · exact (im_MO_treaty_L171 hbk57 h_M h_x1 h_v2_ h_v3_ h_v4_)
    · refine post_guard (fun c_5 => ?_)
      refine post_guard (fun c_6 => ?_)
      refine post_ite (fun c_7 => ?_) (fun c_7 => ?_)
      · exact (im_MO_treaty_L120 hbk57 (fun a0_ a1_ a2_ a3_ a4_ a5_ a6_ h0_ h1_ h2_ h3_ h4_ h5_ h6_ => ih a0_ a1_ a2_ a3_ a4_ a5_ a6_ h0_ h1_ h2_ h3_ h4_ h5_ h6_) h_M h_x1 h_v2_ h_v3_ h_v4_ h_v6_ h_v7_ h_v5_ (inr_c rfl))
      · exact (im_MO_treaty_L120 hbk57 (fun a0_ a1_ a2_ a3_ a4_ a5_ a6_ h0_ h1_ h2_ h3_ h4_ h5_ h6_ => ih a0_ a1_ a2_ a3_ a4_ a5_ a6_ h0_ h1_ h2_ h3_ h4_ h5_ h6_) h_M h_x1 h_v2_ h_v3_ h_v4_ h_v6_ h_v7_ h_v5_ (inr_c rfl))
theorem im_MO_treaty_L57 {x1 : Int}  (h_x1 : InR x1) : ∀ (fu : Nat) (M : Mem) (v2_ : Int) (v3_ : Int) (v4_ : Int), IM M → InR v2_ → InR v3_ → InR v4_ → Post (fun r => IM r.1 ∧ InR r.2) (t_MO_treaty_L57 x1 fu M v2_ v3_ v4_) := by
  intro fu
  induction fu with
  | zero => intro M v2_ v3_ v4_ h_M h_v2_ h_v3_ h_v4_; exact post_none
  | succ fu ih =>
    intro M v2_ v3_ v4_ h_M h_v2_ h_v3_ h_v4_
    rw [t_MO_treaty_L57]
    refine post_let (fun q12 e_q12 => ?_)
    have h_q12 : (fun r => InR r) q12 := by rw [e_q12]; exact (im_MO_votes  h_M )
    clear e_q12
    refine post_ite (fun c_1 => ?_) (fun c_1 => ?_)
    · refine post_ite (fun c_2 => ?_) (fun c_2 => ?_)
      · exact post_some ⟨h_M, (inr_c rfl)⟩
      · refine post_ite (fun c_3 => ?_) (fun c_3 => ?_)
        · exact post_some ⟨h_M, h_v3_⟩
        · exact post_some ⟨h_M, h_v2_⟩
    · refine post_bind (Q := fun r => InR r) (im_MO_isStay  h_M h_v4_) (fun q17 h_q17 => ?_)
      exact (im_MO_treaty_L80 (fun a0_ a1_ a2_ a3_ h0_ h1_ h2_ h3_ => ih a0_ a1_ a2_ a3_ h0_ h1_ h2_ h3_) h_x1 _ _ _ _ _ _ _ _ h_M h_v2_ h_v3_ h_v4_ h_q17 (inr_c rfl) (inr_c rfl))
theorem im_MO_treaty_L18 {x1 : Int}  (h_x1 : InR x1) : ∀ (fu : Nat) (M : Mem) (v2_ : Int), IM M → InR v2_ → Post (fun r => IM r.1 ∧ InR r.2) (t_MO_treaty_L18 x1 fu M v2_) := by
  intro fu
  induction fu with
  | zero => intro M v2_ h_M h_v2_; exact post_none
  | succ fu ih =>
    intro M v2_ h_M h_v2_
    rw [t_MO_treaty_L18]
    refine post_ite (fun c_1 => ?_) (fun c_1 => ?_)
    · refine post_bind (Q := fun r => IM r) (im_MO_layJoys  h_M ) (fun q6 h_q6 => ?_)
      exact (im_MO_treaty_L57  h_x1 _ _ _ _ _ h_q6 (inr_c rfl) (inr_c rfl) (inr_c rfl))
    · refine post_bind (Q := fun r => IM r.1 ∧ InR r.2) (im_MO_joyOf  h_M (inr_c rfl) h_v2_) (fun q8 h_q8 => ?_)
      refine post_guard (fun c_2 => ?_)
      refine post_let (fun M11 e_M11 => ?_)
      have h_M11 : IM M11 := by rw [e_M11]; exact IM.setI h_q8.1 h_q8.2
      clear e_M11
      exact (ih _ _ h_M11 (inr_w32 _))
theorem im_MO_treaty {x1 : Int} {M : Mem}  (h_M : IM M) (h_x1 : InR x1) : Post (fun r => IM r.1 ∧ InR r.2) (t_MO_treaty M x1) := by
  unfold t_MO_treaty
  refine post_let (fun M1 e_M1 => ?_)
  have h_M1 : IM M1 := by rw [e_M1]; exact IM.setI h_M (inr_c rfl)
  clear e_M1
  refine post_ite (fun c_1 => ?_) (fun c_1 => ?_)
  · exact post_some ⟨h_M1, (inr_c rfl)⟩
  · refine post_ite (fun c_2 => ?_) (fun c_2 => ?_)
    · exact (im_MO_treaty_L18  h_x1 _ _ _ h_M1 (inr_c rfl))
    · exact post_some ⟨h_M1, (inr_c rfl)⟩
theorem im_MO_moved_L84 {x1 : Int} {bk2 : Mem → Int → Option (Int)} {bk17 : Mem → Int → Int → Int → Option (Int)} {v2_ : Int} {v3_ : Int} {v4_ : Int} {M : Mem} (hbk2 : ∀ (a0_ : Mem) (a1_ : Int), IM a0_ → InR a1_ → Post (fun r => InR r) (bk2 a0_ a1_)) (hbk17 : ∀ (a0_ : Mem) (a1_ : Int) (a2_ : Int) (a3_ : Int), IM a0_ → InR a1_ → InR a2_ → InR a3_ → Post (fun r => InR r) (bk17 a0_ a1_ a2_ a3_)) (h_M : IM M) (h_x1 : InR x1) (h_v2_ : InR v2_) (h_v3_ : InR v3_) (h_v4_ : InR v4_) : Post (fun r => InR r) (t_MO_moved_L84 x1 bk2 bk17 M v2_ v3_ v4_) := by
  unfold t_MO_moved_L84
  exact hbk17 _ _ _ _  h_M h_v2_ h_v3_ (inr_w32 _)
theorem im_MO_moved_L81 {x1 : Int} {bk2 : Mem → Int → Option (Int)} {bk17 : Mem → Int → Int → Int → Option (Int)} {v2_ : Int} {v3_ : Int} {M : Mem} (hbk2 : ∀ (a0_ : Mem) (a1_ : Int), IM a0_ → InR a1_ → Post (fun r => InR r) (bk2 a0_ a1_)) (hbk17 : ∀ (a0_ : Mem) (a1_ : Int) (a2_ : Int) (a3_ : Int), IM a0_ → InR a1_ → InR a2_ → InR a3_ → Post (fun r => InR r) (bk17 a0_ a1_ a2_ a3_)) (h_M : IM M) (h_x1 : InR x1) (h_v2_ : InR v2_) (h_v3_ : InR v3_) : Post (fun r => InR r) (t_MO_moved_L81 x1 bk2 bk17 M v2_ v3_) := by
  unfold t_MO_moved_L81
  exact (im_MO_moved_L84 hbk2 hbk17 h_M h_x1 h_v2_ h_v3_ h_v3_)
theorem im_MO_moved_L17 {x1 : Int} {bk2 : Mem → Int → Option (Int)} (hbk2 : ∀ (a0_ : Mem) (a1_ : Int), IM a0_ → InR a1_ → Post (fun r => InR r) (bk2 a0_ a1_)) (h_x1 : InR x1) : ∀ (fu : Nat) (M : Mem) (v2_ : Int) (v3_ : Int) (v4_ : Int), IM M → InR v2_ → InR v3_ → InR v4_ → Post (fun r => InR r) (t_MO_moved_L17 x1 bk2 fu M v2_ v3_ v4_) := by
  intro fu
  induction fu with
  | zero => intro M v2_ v3_ v4_ h_M h_v2_ h_v3_ h_v4_; exact post_none
  | succ fu ih =>
    intro M v2_ v3_ v4_ h_M h_v2_ h_v3_ h_v4_
    rw [t_MO_moved_L17]
    refine post_ite (fun c_1 => ?_) (fun c_1 => ?_)
    · refine post_ite (fun c_2 => ?_) (fun c_2 => ?_)
      · exact hbk2 _ _  h_M (inr_w32 _)
      · refine post_let (fun q5 e_q5 => ?_)
        have h_q5 : (fun r => InR r) q5 := by rw [e_q5]; exact (im_MO_with  h_M h_x1 h_v2_ h_v3_)
        clear e_q5
        exact post_some h_q5
    · refine post_let (fun q7 e_q7 => ?_)
      have h_q7 : (fun r => InR r) q7 := by rw [e_q7]; exact (im_MO_with  h_M h_x1 h_v2_ h_v4_)
      clear e_q7
      refine post_guard (fun c_3 => ?_)
      refine post_guard (fun c_4 => ?_)
      refine post_ite (fun c_5 => ?_) (fun c_5 => ?_)
      · exact (im_MO_moved_L84 hbk2 (fun a0_ a1_ a2_ a3_ h0_ h1_ h2_ h3_ => ih a0_ a1_ a2_ a3_ h0_ h1_ h2_ h3_) h_M h_x1 h_v2_ h_v3_ h_v4_)
      · refine post_ite (fun c_6 => ?_) (fun c_6 => ?_)
        · exact (im_MO_moved_L81 hbk2 (fun a0_ a1_ a2_ a3_ h0_ h1_ h2_ h3_ => ih a0_ a1_ a2_ a3_ h0_ h1_ h2_ h3_) h_M h_x1 h_v2_ h_v4_)
        · refine post_let (fun q15 e_q15 => ?_)
          have h_q15 : (fun r => InR r) q15 := by rw [e_q15]; exact (im_MO_with  h_M h_x1 h_v2_ h_v3_)
          clear e_q15
          refine post_guard (fun c_7 => ?_)
          refine post_ite (fun c_8 => ?_) (fun c_8 => ?_)
          · exact (im_MO_moved_L84 hbk2 (fun a0_ a1_ a2_ a3_ h0_ h1_ h2_ h3_ => ih a0_ a1_ a2_ a3_ h0_ h1_ h2_ h3_) h_M h_x1 h_v2_ h_v3_ h_v4_)
          · exact (im_MO_moved_L81 hbk2 (fun a0_ a1_ a2_ a3_ h0_ h1_ h2_ h3_ => ih a0_ a1_ a2_ a3_ h0_ h1_ h2_ h3_) h_M h_x1 h_v2_ h_v4_)
theorem im_MO_moved_L2 {x1 : Int}  (h_x1 : InR x1) : ∀ (fu : Nat) (M : Mem) (v2_ : Int), IM M → InR v2_ → Post (fun r => InR r) (t_MO_moved_L2 x1 fu M v2_) := by
  intro fu
  induction fu with
  | zero => intro M v2_ h_M h_v2_; exact post_none
  | succ fu ih =>
    intro M v2_ h_M h_v2_
    rw [t_MO_moved_L2]
    refine post_ite (fun c_1 => ?_) (fun c_1 => ?_)
    · exact post_some h_x1
    · exact (im_MO_moved_L17 (fun a0_ a1_ h0_ h1_ => ih a0_ a1_ h0_ h1_) h_x1 _ _ _ _ _ h_M h_v2_ (inr_c rfl) (inr_c rfl))
theorem im_MO_moved {x1 : Int} {M : Mem}  (h_M : IM M) (h_x1 : InR x1) : Post (fun r => InR r) (t_MO_moved M x1) := by
  unfold t_MO_moved
  exact (im_MO_moved_L2  h_x1 _ _ _ h_M (inr_c rfl))
theorem im_MO_moves_L37 {x1 : Int} {x2 : Int}  (h_x1 : InR x1) (h_x2 : InR x2) : ∀ (fu : Nat) (M : Mem) (v2_ : Int) (v3_ : Int), IM M → InR v2_ → InR v3_ → Post (fun r => IM r.1 ∧ InR r.2) (t_MO_moves_L37 x1 x2 fu M v2_ v3_) := by
  intro fu
  induction fu with
  | zero => intro M v2_ v3_ h_M h_v2_ h_v3_; exact post_none
  | succ fu ih =>
    intro M v2_ v3_ h_M h_v2_ h_v3_
    rw [t_MO_moves_L37]
    refine post_bind (Q := fun r => InR r) (im_MO_moved  h_M h_v2_) (fun q10 h_q10 => ?_)
    refine post_ite (fun c_1 => ?_) (fun c_1 => ?_)
    · refine post_ite (fun c_2 => ?_) (fun c_2 => ?_)
      · exact post_some ⟨h_M, h_v3_⟩
      · exact post_some ⟨h_M, h_v2_⟩
    · refine post_ite (fun c_3 => ?_) (fun c_3 => ?_)
      · exact post_some ⟨h_M, (inr_c rfl)⟩
      · refine post_bind (Q := fun r => InR r) (im_MO_moved  h_M h_v2_) (fun q15 h_q15 => ?_)
        exact (ih _ _ _ h_M h_q15 (inr_w32 _))
theorem im_MO_moves {x1 : Int} {x2 : Int} {M : Mem}  (h_M : IM M) (h_x1 : InR x1) (h_x2 : InR x2) : Post (fun r => IM r.1 ∧ InR r.2) (t_MO_moves M x1 x2) := by
  unfold t_MO_moves
  refine post_let (fun M1 e_M1 => ?_)
  have h_M1 : IM M1 := by rw [e_M1]; exact IM.setI h_M (inr_c rfl)
  clear e_M1
  refine post_ite (fun c_1 => ?_) (fun c_1 => ?_)
  · exact post_some ⟨h_M1, (inr_c rfl)⟩
  · refine post_let (fun q3 e_q3 => ?_)
    have h_q3 : (fun r => InR r) q3 := by rw [e_q3]; exact (im_MO_votes  h_M1 )
    clear e_q3
    refine post_ite (fun c_2 => ?_) (fun c_2 => ?_)
    · exact post_some ⟨h_M1, (inr_c rfl)⟩
    · refine post_ite (fun c_3 => ?_) (fun c_3 => ?_)
      · exact post_some ⟨h_M1, (inr_c rfl)⟩
      · refine post_ite (fun c_4 => ?_) (fun c_4 => ?_)
        · refine post_bind (Q := fun r => IM r) (im_MO_layJoys  h_M1 ) (fun q8 h_q8 => ?_)
          exact (im_MO_moves_L37  h_x1 h_x2 _ _ _ _ h_q8 h_x1 (inr_c rfl))
        · exact post_some ⟨h_M1, (inr_c rfl)⟩
theorem im_MO_note_L26 {x1 : Int} {x2 : Int} {M : Mem}  (h_M : IM M) (h_x1 : InR x1) (h_x2 : InR x2) : Post (fun r => IM r.1 ∧ InR r.2) (t_MO_note_L26 x1 x2 M) := by
  unfold t_MO_note_L26
  refine post_ite (fun c_1 => ?_) (fun c_1 => ?_)
  · exact post_some ⟨h_M, (inr_c rfl)⟩
  · refine post_guard (fun c_2 => ?_)
    refine post_let (fun M13 e_M13 => ?_)
    have h_M13 : IM M13 := by rw [e_M13]; exact IM.setI h_M h_x1
    clear e_M13
    refine post_guard (fun c_3 => ?_)
    refine post_let (fun M16 e_M16 => ?_)
    have h_M16 : IM M16 := by rw [e_M16]; exact IM.setI h_M13 h_x2
    clear e_M16
    refine post_guard (fun c_4 => ?_)
    refine post_let (fun M19 e_M19 => ?_)
    have h_M19 : IM M19 := by rw [e_M19]; exact IM.setI h_M16 (inr_c rfl)
    clear e_M19
    refine post_let (fun M21 e_M21 => ?_)
    have h_M21 : IM M21 := by rw [e_M21]; exact IM.setI h_M19 (inr_w32 _)
    clear e_M21
    exact post_some ⟨h_M21, (inr_w32 _)⟩
theorem im_MO_note {x1 : Int} {x2 : Int} {M : Mem}  (h_M : IM M) (h_x1 : InR x1) (h_x2 : InR x2) : Post (fun r => IM r.1 ∧ InR r.2) (t_MO_note M x1 x2) := by
  unfold t_MO_note
  refine post_let (fun M1 e_M1 => ?_)
  have h_M1 : IM M1 := by rw [e_M1]; exact IM.setI h_M (inr_c rfl)
  clear e_M1
  refine post_bind (Q := fun r => InR r) (im_MO_isOpen  h_M1 h_x1) (fun q2 h_q2 => ?_)
  refine post_ite (fun c_1 => ?_) (fun c_1 => ?_)
  · exact post_some ⟨h_M1, (inr_c rfl)⟩
  · refine post_ite (fun c_2 => ?_) (fun c_2 => ?_)
    · exact (im_MO_note_L26  h_M1 h_x1 h_x2)
    · refine post_bind (Q := fun r => InR r) (im_MO_isOpen  h_M1 h_x2) (fun q6 h_q6 => ?_)
      refine post_ite (fun c_3 => ?_) (fun c_3 => ?_)
      · exact post_some ⟨h_M1, (inr_c rfl)⟩
      · exact (im_MO_note_L26  h_M1 h_x1 h_x2)
theorem im_MO_strike {x1 : Int} {M : Mem}  (h_M : IM M) (h_x1 : InR x1) : Post (fun r => IM r.1 ∧ InR r.2) (t_MO_strike M x1) := by
  unfold t_MO_strike
  refine post_let (fun M1 e_M1 => ?_)
  have h_M1 : IM M1 := by rw [e_M1]; exact IM.setI h_M (inr_c rfl)
  clear e_M1
  refine post_ite (fun c_1 => ?_) (fun c_1 => ?_)
  · exact post_some ⟨h_M1, (inr_c rfl)⟩
  · refine post_ite (fun c_2 => ?_) (fun c_2 => ?_)
    · exact post_some ⟨h_M1, (inr_c rfl)⟩
    · refine post_ite (fun c_3 => ?_) (fun c_3 => ?_)
      · exact post_some ⟨h_M1, (inr_c rfl)⟩
      · refine post_guard (fun c_4 => ?_)
        refine post_let (fun M9 e_M9 => ?_)
        have h_M9 : IM M9 := by rw [e_M9]; exact IM.setI h_M1 h_x1
        clear e_M9
        refine post_guard (fun c_5 => ?_)
        refine post_let (fun M12 e_M12 => ?_)
        have h_M12 : IM M12 := by rw [e_M12]; exact IM.setI h_M9 (inr_c rfl)
        clear e_M12
        refine post_let (fun M14 e_M14 => ?_)
        have h_M14 : IM M14 := by rw [e_M14]; exact IM.setI h_M12 (inr_w32 _)
        clear e_M14
        exact post_some ⟨h_M14, (inr_w32 _)⟩
theorem im_MO_known {x1 : Int} {M : Mem} (h_M : IM M) (h_x1 : InR x1) : (fun r => IM r.1 ∧ InR r.2) (t_MO_known M x1) := by
  show Pl (fun r => IM r.1 ∧ InR r.2) (t_MO_known M x1)
  unfold t_MO_known
  refine pl_let (fun M1 e_M1 => ?_)
  have h_M1 : IM M1 := by rw [e_M1]; exact IM.setI h_M (inr_c rfl)
  clear e_M1
  refine pl_ite (fun c_1 => ?_) (fun c_1 => ?_)
  · exact ⟨h_M1, (inr_c rfl)⟩
  · refine pl_ite (fun c_2 => ?_) (fun c_2 => ?_)
    · refine pl_let (fun M5 e_M5 => ?_)
      have h_M5 : IM M5 := by rw [e_M5]; exact IM.setI h_M1 h_x1
      clear e_M5
      exact ⟨h_M5, (inr_c rfl)⟩
    · exact ⟨h_M1, (inr_c rfl)⟩
theorem im_MO_knownMany  {M : Mem} (h_M : IM M)  : (fun r => InR r) (t_MO_knownMany M) := by
  show Pl (fun r => InR r) (t_MO_knownMany M)
  unfold t_MO_knownMany
  refine pl_ite (fun c_1 => ?_) (fun c_1 => ?_)
  · exact (h_M _ _)
  · exact (h_M _ _)
theorem im_MO_fitsBy_L84 {x1 : Int} {bk2 : Mem → Int → Option (Mem × Int)} {v2_ : Int} {M : Mem} (hbk2 : ∀ (a0_ : Mem) (a1_ : Int), IM a0_ → InR a1_ → Post (fun r => IM r.1 ∧ InR r.2) (bk2 a0_ a1_)) (h_M : IM M) (h_x1 : InR x1) (h_v2_ : InR v2_) : Post (fun r => IM r.1 ∧ InR r.2) (t_MO_fitsBy_L84 x1 bk2 M v2_) := by
  unfold t_MO_fitsBy_L84
  exact hbk2 _ _  h_M (inr_w32 _)
theorem im_MO_fitsBy_L2 {x1 : Int}  (h_x1 : InR x1) : ∀ (fu : Nat) (M : Mem) (v2_ : Int), IM M → InR v2_ → Post (fun r => IM r.1 ∧ InR r.2) (t_MO_fitsBy_L2 x1 fu M v2_) := by
  intro fu
  induction fu with
  | zero => intro M v2_ h_M h_v2_; exact post_none
  | succ fu ih =>
    intro M v2_ h_M h_v2_
    rw [t_MO_fitsBy_L2]
    refine post_let (fun q1 e_q1 => ?_)
    have h_q1 : (fun r => InR r) q1 := by rw [e_q1]; exact (im_MO_knownMany  h_M )
    clear e_q1
    refine post_ite (fun c_1 => ?_) (fun c_1 => ?_)
    · exact post_some ⟨h_M, (inr_c rfl)⟩
    · refine post_guard (fun c_2 => ?_)
      refine post_ite (fun c_3 => ?_) (fun c_3 => ?_)
      · refine post_guard (fun c_4 => ?_)
        refine post_ite (fun c_5 => ?_) (fun c_5 => ?_)
        · refine post_guard (fun c_6 => ?_)
          refine post_bind (Q := fun r => IM r) (im_MO_goesFrom  h_M h_x1 (h_M _ _)) (fun q12 h_q12 => ?_)
          refine post_guard (fun c_7 => ?_)
          refine post_ite (fun c_8 => ?_) (fun c_8 => ?_)
          · refine post_ite (fun c_9 => ?_) (fun c_9 => ?_)
            · exact post_some ⟨h_q12, (inr_c rfl)⟩
            · exact (im_MO_fitsBy_L84 (fun a0_ a1_ h0_ h1_ => ih a0_ a1_ h0_ h1_) h_q12 h_x1 h_v2_)
          · refine post_ite (fun c_10 => ?_) (fun c_10 => ?_)
            · exact post_some ⟨h_q12, (inr_c rfl)⟩
            · refine post_guard (fun c_11 => ?_)
              refine post_ite (fun c_12 => ?_) (fun c_12 => ?_)
              · exact (im_MO_fitsBy_L84 (fun a0_ a1_ h0_ h1_ => ih a0_ a1_ h0_ h1_) h_q12 h_x1 h_v2_)
              · exact post_some ⟨h_q12, (inr_c rfl)⟩
        · exact (im_MO_fitsBy_L84 (fun a0_ a1_ h0_ h1_ => ih a0_ a1_ h0_ h1_) h_M h_x1 h_v2_)
      · exact (im_MO_fitsBy_L84 (fun a0_ a1_ h0_ h1_ => ih a0_ a1_ h0_ h1_) h_M h_x1 h_v2_)
theorem im_MO_fitsBy {x1 : Int} {M : Mem}  (h_M : IM M) (h_x1 : InR x1) : Post (fun r => IM r.1 ∧ InR r.2) (t_MO_fitsBy M x1) := by
  unfold t_MO_fitsBy
  exact (im_MO_fitsBy_L2  h_x1 _ _ _ h_M (inr_c rfl))
theorem im_MO_layFits_L64 {bk30 : Mem → Int → Option (Mem)} {v1_ : Int} {M : Mem} (hbk30 : ∀ (a0_ : Mem) (a1_ : Int), IM a0_ → InR a1_ → Post (fun r => IM r) (bk30 a0_ a1_)) (h_M : IM M) (h_v1_ : InR v1_) : Post (fun r => IM r) (t_MO_layFits_L64 bk30 M v1_) := by
  unfold t_MO_layFits_L64
  exact hbk30 _ _  h_M (inr_w32 _)
theorem im_MO_layFits_L219 {bk114 : Mem → Int → Int → Option (Mem)} {v1_ : Int} {v2_ : Int} {M : Mem} (hbk114 : ∀ (a0_ : Mem) (a1_ : Int) (a2_ : Int), IM a0_ → InR a1_ → InR a2_ → Post (fun r => IM r) (bk114 a0_ a1_ a2_)) (h_M : IM M) (h_v1_ : InR v1_) (h_v2_ : InR v2_) : Post (fun r => IM r) (t_MO_layFits_L219 bk114 M v1_ v2_) := by
  unfold t_MO_layFits_L219
  exact hbk114 _ _ _  h_M h_v1_ (inr_w32 _)
theorem im_MO_layFits_L181 {bk114 : Mem → Int → Int → Option (Mem)} (hbk114 : ∀ (a0_ : Mem) (a1_ : Int) (a2_ : Int), IM a0_ → InR a1_ → InR a2_ → Post (fun r => IM r) (bk114 a0_ a1_ a2_))  : ∀ (fu : Nat) (M : Mem) (v1_ : Int) (v2_ : Int) (v3_ : Int), IM M → InR v1_ → InR v2_ → InR v3_ → Post (fun r => IM r) (t_MO_layFits_L181 bk114 fu M v1_ v2_ v3_) := by
  intro fu
  induction fu with
  | zero => intro M v1_ v2_ v3_ h_M h_v1_ h_v2_ h_v3_; exact post_none
  | succ fu ih =>
    intro M v1_ v2_ v3_ h_M h_v1_ h_v2_ h_v3_
    rw [t_MO_layFits_L181]
    refine post_ite (fun c_1 => ?_) (fun c_1 => ?_)
    · exact (im_MO_layFits_L219 hbk114 h_M h_v1_ h_v2_)
    · refine post_guard (fun c_2 => ?_)
      refine post_guard (fun c_3 => ?_)
      refine post_guard (fun c_4 => ?_)
      refine post_let (fun M43 e_M43 => ?_)
      have h_M43 : IM M43 := by rw [e_M43]; exact IM.setI h_M (inrq_or)
      clear e_M43
      exact (ih _ _ _ _ h_M43 h_v1_ h_v2_ (inr_w32 _))
theorem im_MO_layFits_L124 {bk114 : Mem → Int → Int → Option (Mem)} (hbk114 : ∀ (a0_ : Mem) (a1_ : Int) (a2_ : Int), IM a0_ → InR a1_ → InR a2_ → Post (fun r => IM r) (bk114 a0_ a1_ a2_))  : ∀ (fu : Nat) (M : Mem) (v1_ : Int) (v2_ : Int) (v3_ : Int) (v4_ : Int), IM M → InR v1_ → InR v2_ → InR v3_ → InR v4_ → Post (fun r => IM r) (t_MO_layFits_L124 bk114 fu M v1_ v2_ v3_ v4_) := by
  intro fu
  induction fu with
  | zero => intro M v1_ v2_ v3_ v4_ h_M h_v1_ h_v2_ h_v3_ h_v4_; exact post_none
  | succ fu ih =>
    intro M v1_ v2_ v3_ v4_ h_M h_v1_ h_v2_ h_v3_ h_v4_
    rw [t_MO_layFits_L124]
    refine post_ite (fun c_1 => ?_) (fun c_1 => ?_)
    · refine post_bind (Q := fun r => IM r.1 ∧ InR r.2) (im_MO_fitsBy  h_M (inr_c rfl)) (fun q29 h_q29 => ?_)
      refine post_ite (fun c_2 => ?_) (fun c_2 => ?_)
      · exact (im_MO_layFits_L219 hbk114 h_q29.1 h_v1_ h_v2_)
      · refine post_let (fun M33 e_M33 => ?_)
        have h_M33 : IM M33 := by rw [e_M33]; exact IM.setI h_q29.1 (inr_w32 _)
        clear e_M33
        exact (im_MO_layFits_L181 hbk114  _ _ _ _ _ h_M33 h_v1_ h_v2_ (inr_c rfl))
    · refine post_guard (fun c_3 => ?_)
      refine post_let (fun M35 e_M35 => ?_)
      have h_M35 : IM M35 := by rw [e_M35]; exact IM.setI h_M (inrq_rem)
      clear e_M35
      exact (ih _ _ _ _ _ h_M35 h_v1_ h_v2_ (inrq_div) (inr_w32 _))
theorem im_MO_layFits_L114    : ∀ (fu : Nat) (M : Mem) (v1_ : Int) (v2_ : Int), IM M → InR v1_ → InR v2_ → Post (fun r => IM r) (t_MO_layFits_L114  fu M v1_ v2_) := by
  intro fu
  induction fu with
  | zero => intro M v1_ v2_ h_M h_v1_ h_v2_; exact post_none
  | succ fu ih =>
    intro M v1_ v2_ h_M h_v1_ h_v2_
    rw [t_MO_layFits_L114]
    refine post_ite (fun c_1 => ?_) (fun c_1 => ?_)
    · exact post_some h_M
    · exact (im_MO_layFits_L124 (fun a0_ a1_ a2_ h0_ h1_ h2_ => ih a0_ a1_ a2_ h0_ h1_ h2_)  _ _ _ _ _ _ h_M h_v1_ h_v2_ h_v2_ (inr_c rfl))
theorem im_MO_layFits_L85    : ∀ (fu : Nat) (M : Mem) (v1_ : Int) (v2_ : Int), IM M → InR v1_ → InR v2_ → Post (fun r => IM r) (t_MO_layFits_L85  fu M v1_ v2_) := by
  intro fu
  induction fu with
  | zero => intro M v1_ v2_ h_M h_v1_ h_v2_; exact post_none
  | succ fu ih =>
    intro M v1_ v2_ h_M h_v1_ h_v2_
    rw [t_MO_layFits_L85]
    refine post_ite (fun c_1 => ?_) (fun c_1 => ?_)
    · exact (im_MO_layFits_L114   _ _ _ _ h_M h_v1_ (inr_c rfl))
    · refine post_guard (fun c_2 => ?_)
      refine post_let (fun M25 e_M25 => ?_)
      have h_M25 : IM M25 := by rw [e_M25]; exact IM.setI h_M (inr_c rfl)
      clear e_M25
      exact (ih _ _ _ h_M25 (inr_w32 _) (inr_w32 _))
theorem im_MO_layFits_L30    : ∀ (fu : Nat) (M : Mem) (v1_ : Int), IM M → InR v1_ → Post (fun r => IM r) (t_MO_layFits_L30  fu M v1_) := by
  intro fu
  induction fu with
  | zero => intro M v1_ h_M h_v1_; exact post_none
  | succ fu ih =>
    intro M v1_ h_M h_v1_
    rw [t_MO_layFits_L30]
    refine post_ite (fun c_1 => ?_) (fun c_1 => ?_)
    · refine post_bind (Q := fun r => IM r) (im_MO_copies  h_M (inr_c rfl) (inr_c rfl)) (fun q9 h_q9 => ?_)
      refine post_let (fun M11 e_M11 => ?_)
      have h_M11 : IM M11 := by rw [e_M11]; exact IM.setI h_q9 (inr_c rfl)
      clear e_M11
      exact (im_MO_layFits_L85   _ _ _ _ h_M11 (inr_c rfl) (inr_c rfl))
    · refine post_guard (fun c_2 => ?_)
      refine post_ite (fun c_3 => ?_) (fun c_3 => ?_)
      · refine post_guard (fun c_4 => ?_)
        refine post_ite (fun c_5 => ?_) (fun c_5 => ?_)
        · exact (im_MO_layFits_L64 (fun a0_ a1_ h0_ h1_ => ih a0_ a1_ h0_ h1_) h_M h_v1_)
        · refine post_guard (fun c_6 => ?_)
          refine post_guard (fun c_7 => ?_)
          refine post_let (fun M21 e_M21 => ?_)
          have h_M21 : IM M21 := by rw [e_M21]; exact IM.setI h_M (inr_c rfl)
          clear e_M21
          exact (im_MO_layFits_L64 (fun a0_ a1_ h0_ h1_ => ih a0_ a1_ h0_ h1_) h_M21 h_v1_)
      · exact (im_MO_layFits_L64 (fun a0_ a1_ h0_ h1_ => ih a0_ a1_ h0_ h1_) h_M h_v1_)
theorem im_MO_layFits_L2    : ∀ (fu : Nat) (M : Mem) (v1_ : Int), IM M → InR v1_ → Post (fun r => IM r) (t_MO_layFits_L2  fu M v1_) := by
  intro fu
  induction fu with
  | zero => intro M v1_ h_M h_v1_; exact post_none
  | succ fu ih =>
    intro M v1_ h_M h_v1_
    rw [t_MO_layFits_L2]
    refine post_let (fun q1 e_q1 => ?_)
    have h_q1 : (fun r => InR r) q1 := by rw [e_q1]; exact (im_MO_knownMany  h_M )
    clear e_q1
    refine post_ite (fun c_1 => ?_) (fun c_1 => ?_)
    · refine post_let (fun q4 e_q4 => ?_)
      have h_q4 : (fun r => InR r) q4 := by rw [e_q4]; exact (im_MO_knownMany  h_M )
      clear e_q4
      exact (im_MO_layFits_L30   _ _ _ h_M (inr_w32 _))
    · refine post_guard (fun c_2 => ?_)
      refine post_let (fun M7 e_M7 => ?_)
      have h_M7 : IM M7 := by rw [e_M7]; exact IM.setI h_M (inr_c rfl)
      clear e_M7
      exact (ih _ _ h_M7 (inr_w32 _))
theorem im_MO_layFits  {M : Mem}  (h_M : IM M)  : Post (fun r => IM r) (t_MO_layFits M) := by
  unfold t_MO_layFits
  exact (im_MO_layFits_L2   _ _ _ h_M (inr_c rfl))
theorem im_MO_fits  {M : Mem}  (h_M : IM M)  : Post (fun r => IM r.1 ∧ InR r.2) (t_MO_fits M) := by
  unfold t_MO_fits
  refine post_let (fun M1 e_M1 => ?_)
  have h_M1 : IM M1 := by rw [e_M1]; exact IM.setI h_M (inr_c rfl)
  clear e_M1
  refine post_bind (Q := fun r => IM r) (im_MO_layFits  h_M1 ) (fun q2 h_q2 => ?_)
  exact post_some ⟨h_q2, (h_q2 _ _)⟩
theorem im_MO_may {x1 : Int} {M : Mem}  (h_M : IM M) (h_x1 : InR x1) : Post (fun r => IM r.1 ∧ InR r.2) (t_MO_may M x1) := by
  unfold t_MO_may
  refine post_let (fun M1 e_M1 => ?_)
  have h_M1 : IM M1 := by rw [e_M1]; exact IM.setI h_M (inr_c rfl)
  clear e_M1
  refine post_let (fun q2 e_q2 => ?_)
  have h_q2 : (fun r => InR r) q2 := by rw [e_q2]; exact (im_MO_isWard  h_M1 h_x1)
  clear e_q2
  refine post_ite (fun c_1 => ?_) (fun c_1 => ?_)
  · exact post_some ⟨h_M1, (inr_c rfl)⟩
  · refine post_bind (Q := fun r => IM r) (im_MO_layFits  h_M1 ) (fun q5 h_q5 => ?_)
    refine post_guard (fun c_2 => ?_)
    exact post_some ⟨h_q5, (h_q5 _ _)⟩
theorem im_MO_draw {x1 : Int} {M : Mem}  (h_M : IM M) (h_x1 : InR x1) : Post (fun r => IM r.1 ∧ InR r.2) (t_MO_draw M x1) := by
  unfold t_MO_draw
  refine post_let (fun M2 e_M2 => ?_)
  have h_M2 : IM M2 := by rw [e_M2]; exact IM.setI h_M (inrq_and)
  clear e_M2
  refine post_ite (fun c_1 => ?_) (fun c_1 => ?_)
  · exact post_none
  · exact post_some ⟨h_M2, (inrq_rem)⟩
theorem im_MO_years_L149 {x1 : Int} {bk41 : Mem → Int → Option (Mem × Int)} {v2_ : Int} {M : Mem} (hbk41 : ∀ (a0_ : Mem) (a1_ : Int), IM a0_ → InR a1_ → Post (fun r => IM r.1 ∧ InR r.2) (bk41 a0_ a1_)) (h_M : IM M) (h_x1 : InR x1) (h_v2_ : InR v2_) : Post (fun r => IM r.1 ∧ InR r.2) (t_MO_years_L149 x1 bk41 M v2_) := by
  unfold t_MO_years_L149
  refine post_let (fun M39 e_M39 => ?_)
  have h_M39 : IM M39 := by rw [e_M39]; exact IM.setI h_M (inr_w32 _)
  clear e_M39
  exact hbk41 _ _  h_M39 (inr_w32 _)
theorem im_MO_years_L41 {x1 : Int}  (h_x1 : InR x1) : ∀ (fu : Nat) (M : Mem) (v2_ : Int), IM M → InR v2_ → Post (fun r => IM r.1 ∧ InR r.2) (t_MO_years_L41 x1 fu M v2_) := by
  intro fu
  induction fu with
  | zero => intro M v2_ h_M h_v2_; exact post_none
  | succ fu ih =>
    intro M v2_ h_M h_v2_
    rw [t_MO_years_L41]
    refine post_ite (fun c_1 => ?_) (fun c_1 => ?_)
    · exact post_some ⟨h_M, (h_M _ _)⟩
    · refine post_guard (fun c_2 => ?_)
      refine post_let (fun M12 e_M12 => ?_)
      have h_M12 : IM M12 := by rw [e_M12]; exact IM.setI h_M (inr_c rfl)
      clear e_M12
      refine post_guard (fun c_3 => ?_)
      refine post_let (fun M14 e_M14 => ?_)
      have h_M14 : IM M14 := by rw [e_M14]; exact IM.setI h_M12 (inr_c rfl)
      clear e_M14
      refine post_guard (fun c_4 => ?_)
      refine post_let (fun M16 e_M16 => ?_)
      have h_M16 : IM M16 := by rw [e_M16]; exact IM.setI h_M14 (inr_c rfl)
      clear e_M16
      refine post_ite (fun c_5 => ?_) (fun c_5 => ?_)
      · exact (im_MO_years_L149 (fun a0_ a1_ h0_ h1_ => ih a0_ a1_ h0_ h1_) h_M16 h_x1 h_v2_)
      · refine post_bind (Q := fun r => IM r.1 ∧ InR r.2) (im_MO_draw  h_M16 (h_M16 _ _)) (fun q20 h_q20 => ?_)
        refine post_guard (fun c_6 => ?_)
        refine post_let (fun M23 e_M23 => ?_)
        have h_M23 : IM M23 := by rw [e_M23]; exact IM.setI h_q20.1 h_q20.2
        clear e_M23
        refine post_guard (fun c_7 => ?_)
        refine post_guard (fun c_8 => ?_)
        refine post_let (fun M27 e_M27 => ?_)
        have h_M27 : IM M27 := by rw [e_M27]; exact IM.setI h_M23 (h_M23 _ _)
        clear e_M27
        refine post_bind (Q := fun r => IM r.1 ∧ InR r.2) (im_MO_draw  h_M27 (inr_c rfl)) (fun q28 h_q28 => ?_)
        refine post_guard (fun c_9 => ?_)
        refine post_let (fun M31 e_M31 => ?_)
        have h_M31 : IM M31 := by rw [e_M31]; exact IM.setI h_q28.1 h_q28.2
        clear e_M31
        refine post_guard (fun c_10 => ?_)
        refine post_guard (fun c_11 => ?_)
        refine post_let (fun M35 e_M35 => ?_)
        have h_M35 : IM M35 := by rw [e_M35]; exact IM.setI h_M31 (h_M31 _ _)
        clear e_M35
        refine post_bind (Q := fun r => IM r) (im_MO_floods  h_M35 (inr_c rfl)) (fun q36 h_q36 => ?_)
        exact (im_MO_years_L149 (fun a0_ a1_ h0_ h1_ => ih a0_ a1_ h0_ h1_) h_q36 h_x1 h_v2_)
theorem im_MO_years_L39 {x1 : Int} {M : Mem}  (h_M : IM M) (h_x1 : InR x1) : Post (fun r => IM r.1 ∧ InR r.2) (t_MO_years_L39 x1 M) := by
  unfold t_MO_years_L39
  exact (im_MO_years_L41  h_x1 _ _ _ h_M (inr_c rfl))
theorem im_MO_years {x1 : Int} {M : Mem}  (h_M : IM M) (h_x1 : InR x1) : Post (fun r => IM r.1 ∧ InR r.2) (t_MO_years M x1) := by
  unfold t_MO_years
  refine post_let (fun M1 e_M1 => ?_)
  have h_M1 : IM M1 := by rw [e_M1]; exact IM.setI h_M (inr_c rfl)
  clear e_M1
  refine post_ite (fun c_1 => ?_) (fun c_1 => ?_)
  · exact post_some ⟨h_M1, (inr_c rfl)⟩
  · refine post_ite (fun c_2 => ?_) (fun c_2 => ?_)
    · exact post_some ⟨h_M1, (inr_c rfl)⟩
    · refine post_ite (fun c_3 => ?_) (fun c_3 => ?_)
      · refine post_ite (fun c_4 => ?_) (fun c_4 => ?_)
        · exact (im_MO_years_L39  h_M1 h_x1)
        · refine post_let (fun M7 e_M7 => ?_)
          have h_M7 : IM M7 := by rw [e_M7]; exact IM.setI h_M1 (inr_c rfl)
          clear e_M7
          exact (im_MO_years_L39  h_M7 h_x1)
      · exact post_some ⟨h_M1, (inr_c rfl)⟩
theorem im_MO_voted {x1 : Int} {x2 : Int} {M : Mem}  (h_M : IM M) (h_x1 : InR x1) (h_x2 : InR x2) : Post (fun r => IM r.1 ∧ InR r.2) (t_MO_voted M x1 x2) := by
  unfold t_MO_voted
  refine post_let (fun M1 e_M1 => ?_)
  have h_M1 : IM M1 := by rw [e_M1]; exact IM.setI h_M (inr_c rfl)
  clear e_M1
  refine post_ite (fun c_1 => ?_) (fun c_1 => ?_)
  · exact post_some ⟨h_M1, (inr_c rfl)⟩
  · refine post_ite (fun c_2 => ?_) (fun c_2 => ?_)
    · refine post_ite (fun c_3 => ?_) (fun c_3 => ?_)
      · refine post_guard (fun c_4 => ?_)
        exact post_some ⟨h_M1, (h_M1 _ _)⟩
      · refine post_ite (fun c_5 => ?_) (fun c_5 => ?_)
        · refine post_guard (fun c_6 => ?_)
          exact post_some ⟨h_M1, (h_M1 _ _)⟩
        · refine post_ite (fun c_7 => ?_) (fun c_7 => ?_)
          · refine post_guard (fun c_8 => ?_)
            exact post_some ⟨h_M1, (h_M1 _ _)⟩
          · exact post_some ⟨h_M1, (inr_c rfl)⟩
    · exact post_some ⟨h_M1, (inr_c rfl)⟩
theorem im_MO_tried_L91 {x1 : Int} {x2 : Int} {x3 : Int}  (h_x1 : InR x1) (h_x2 : InR x2) (h_x3 : InR x3) : ∀ (fu : Nat) (M : Mem) (v2_ : Int) (v3_ : Int), IM M → InR v2_ → InR v3_ → Post (fun r => IM r.1 ∧ InR r.2) (t_MO_tried_L91 x1 x2 x3 fu M v2_ v3_) := by
  intro fu
  induction fu with
  | zero => intro M v2_ v3_ h_M h_v2_ h_v3_; exact post_none
  | succ fu ih =>
    intro M v2_ v3_ h_M h_v2_ h_v3_
    rw [t_MO_tried_L91]
    refine post_ite (fun c_1 => ?_) (fun c_1 => ?_)
    · refine post_let (fun M19 e_M19 => ?_)
      have h_M19 : IM M19 := by rw [e_M19]; exact IM.setI h_M (inr_c rfl)
      clear e_M19
      refine post_let (fun M20 e_M20 => ?_)
      have h_M20 : IM M20 := by rw [e_M20]; exact IM.setI h_M19 (inr_c rfl)
      clear e_M20
      exact post_some ⟨h_M20, h_v2_⟩
    · refine post_bind (Q := fun r => IM r.1 ∧ InR r.2) (im_MO_beat  h_M (inr_c rfl)) (fun q21 h_q21 => ?_)
      exact (ih _ _ _ h_q21.1 (inr_w32 _) (inr_w32 _))
theorem im_MO_tried_L49 {x1 : Int} {x2 : Int} {x3 : Int} {v4_ : Int} {M : Mem}  (h_M : IM M) (h_x1 : InR x1) (h_x2 : InR x2) (h_x3 : InR x3) (h_v4_ : InR v4_) : Post (fun r => IM r.1 ∧ InR r.2) (t_MO_tried_L49 x1 x2 x3 M v4_) := by
  unfold t_MO_tried_L49
  refine post_ite (fun c_1 => ?_) (fun c_1 => ?_)
  · exact post_some ⟨h_M, (inr_c rfl)⟩
  · refine post_ite (fun c_2 => ?_) (fun c_2 => ?_)
    · exact post_some ⟨h_M, (inr_c rfl)⟩
    · refine post_ite (fun c_3 => ?_) (fun c_3 => ?_)
      · refine post_bind (Q := fun r => IM r) (im_MO_copies  h_M (inr_c rfl) (inr_c rfl)) (fun q14 h_q14 => ?_)
        refine post_let (fun M16 e_M16 => ?_)
        have h_M16 : IM M16 := by rw [e_M16]; exact IM.setI h_q14 h_x1
        clear e_M16
        refine post_let (fun M17 e_M17 => ?_)
        have h_M17 : IM M17 := by rw [e_M17]; exact IM.setI h_M16 h_x2
        clear e_M17
        exact (im_MO_tried_L91  h_x1 h_x2 h_x3 _ _ _ _ h_M17 (inr_c rfl) (inr_c rfl))
      · exact post_some ⟨h_M, (inr_c rfl)⟩
theorem im_MO_tried_L48 {x1 : Int} {x2 : Int} {x3 : Int} {M : Mem}  (h_M : IM M) (h_x1 : InR x1) (h_x2 : InR x2) (h_x3 : InR x3) : Post (fun r => IM r.1 ∧ InR r.2) (t_MO_tried_L48 x1 x2 x3 M) := by
  unfold t_MO_tried_L48
  exact (im_MO_tried_L49  h_M h_x1 h_x2 h_x3 (inr_c rfl))
theorem im_MO_tried {x1 : Int} {x2 : Int} {x3 : Int} {M : Mem}  (h_M : IM M) (h_x1 : InR x1) (h_x2 : InR x2) (h_x3 : InR x3) : Post (fun r => IM r.1 ∧ InR r.2) (t_MO_tried M x1 x2 x3) := by
  unfold t_MO_tried
  refine post_let (fun M1 e_M1 => ?_)
  have h_M1 : IM M1 := by rw [e_M1]; exact IM.setI h_M (inr_c rfl)
  clear e_M1
  refine post_ite (fun c_1 => ?_) (fun c_1 => ?_)
  · refine post_let (fun q9 e_q9 => ?_)
    have h_q9 : (fun r => InR r) q9 := by rw [e_q9]; exact (im_MO_isWard  h_M1 h_x2)
    clear e_q9
    exact (im_MO_tried_L49  h_M1 h_x1 h_x2 h_x3 h_q9)
  · refine post_ite (fun c_2 => ?_) (fun c_2 => ?_)
    · refine post_let (fun q7 e_q7 => ?_)
      have h_q7 : (fun r => InR r) q7 := by rw [e_q7]; exact (im_MO_isThing  h_M1 h_x2)
      clear e_q7
      exact (im_MO_tried_L49  h_M1 h_x1 h_x2 h_x3 h_q7)
    · refine post_ite (fun c_3 => ?_) (fun c_3 => ?_)
      · exact (im_MO_tried_L48  h_M1 h_x1 h_x2 h_x3)
      · refine post_ite (fun c_4 => ?_) (fun c_4 => ?_)
        · exact (im_MO_tried_L48  h_M1 h_x1 h_x2 h_x3)
        · refine post_ite (fun c_5 => ?_) (fun c_5 => ?_)
          · exact (im_MO_tried_L49  h_M1 h_x1 h_x2 h_x3 (inr_c rfl))
          · exact (im_MO_tried_L48  h_M1 h_x1 h_x2 h_x3)
theorem im_MO_undo  {M : Mem}  (h_M : IM M)  : Post (fun r => IM r.1 ∧ InR r.2) (t_MO_undo M) := by
  unfold t_MO_undo
  refine post_let (fun M1 e_M1 => ?_)
  have h_M1 : IM M1 := by rw [e_M1]; exact IM.setI h_M (inr_c rfl)
  clear e_M1
  refine post_ite (fun c_1 => ?_) (fun c_1 => ?_)
  · exact post_some ⟨h_M1, (inr_c rfl)⟩
  · refine post_let (fun M5 e_M5 => ?_)
    have h_M5 : IM M5 := by rw [e_M5]; exact IM.setI h_M1 (inr_w32 _)
    clear e_M5
    refine post_bind (Q := fun r => IM r) (im_MO_copies  h_M5 (inr_c rfl) (inr_w32 _)) (fun q7 h_q7 => ?_)
    exact post_some ⟨h_q7, (h_q7 _ _)⟩
theorem im_MO_keep  {M : Mem}  (h_M : IM M)  : Post (fun r => IM r.1 ∧ InR r.2) (t_MO_keep M) := by
  unfold t_MO_keep
  refine post_let (fun M1 e_M1 => ?_)
  have h_M1 : IM M1 := by rw [e_M1]; exact IM.setI h_M (inr_c rfl)
  clear e_M1
  refine post_bind (Q := fun r => IM r) (im_MO_copies  h_M1 (inr_c rfl) (inr_c rfl)) (fun q2 h_q2 => ?_)
  refine post_bind (Q := fun r => IM r) (im_MO_copiesLog  h_q2 (inr_c rfl) (inr_c rfl)) (fun q4 h_q4 => ?_)
  refine post_let (fun M6 e_M6 => ?_)
  have h_M6 : IM M6 := by rw [e_M6]; exact IM.setI h_q4 (inr_c rfl)
  clear e_M6
  exact post_some ⟨h_M6, (h_M6 _ _)⟩
theorem im_MO_back  {M : Mem}  (h_M : IM M)  : Post (fun r => IM r.1 ∧ InR r.2) (t_MO_back M) := by
  unfold t_MO_back
  refine post_let (fun M1 e_M1 => ?_)
  have h_M1 : IM M1 := by rw [e_M1]; exact IM.setI h_M (inr_c rfl)
  clear e_M1
  refine post_ite (fun c_1 => ?_) (fun c_1 => ?_)
  · exact post_some ⟨h_M1, (inr_c rfl)⟩
  · refine post_bind (Q := fun r => IM r) (im_MO_copies  h_M1 (inr_c rfl) (inr_c rfl)) (fun q4 h_q4 => ?_)
    refine post_bind (Q := fun r => IM r) (im_MO_copiesLog  h_q4 (inr_c rfl) (inr_c rfl)) (fun q6 h_q6 => ?_)
    refine post_let (fun M8 e_M8 => ?_)
    have h_M8 : IM M8 := by rw [e_M8]; exact IM.setI h_q6 (inr_c rfl)
    clear e_M8
    exact post_some ⟨h_M8, (h_M8 _ _)⟩
theorem im_MO_count_L196 {x1 : Int} {bk164 : Mem → Int → Int → Option (Mem × Int)} {v1_ : Int} {v2_ : Int} {v3_ : Int} {M : Mem} (hbk164 : ∀ (a0_ : Mem) (a1_ : Int) (a2_ : Int), IM a0_ → InR a1_ → InR a2_ → Post (fun r => IM r.1 ∧ InR r.2) (bk164 a0_ a1_ a2_)) (h_M : IM M) (h_x1 : InR x1) (h_v1_ : InR v1_) (h_v2_ : InR v2_) (h_v3_ : InR v3_) : Post (fun r => IM r.1 ∧ InR r.2) (t_MO_count_L196 x1 bk164 M v1_ v2_ v3_) := by
  unfold t_MO_count_L196
  exact hbk164 _ _ _  h_M (inr_w32 _) (inr_w32 _)
theorem im_MO_count_L164 {x1 : Int}  (h_x1 : InR x1) : ∀ (fu : Nat) (M : Mem) (v1_ : Int) (v2_ : Int), IM M → InR v1_ → InR v2_ → Post (fun r => IM r.1 ∧ InR r.2) (t_MO_count_L164 x1 fu M v1_ v2_) := by
  intro fu
  induction fu with
  | zero => intro M v1_ v2_ h_M h_v1_ h_v2_; exact post_none
  | succ fu ih =>
    intro M v1_ v2_ h_M h_v1_ h_v2_
    rw [t_MO_count_L164]
    refine post_ite (fun c_1 => ?_) (fun c_1 => ?_)
    · exact post_some ⟨h_M, h_v1_⟩
    · refine post_guard (fun c_2 => ?_)
      refine post_bind (Q := fun r => InR r) (im_MO_nextOf  h_M (inr_c rfl) (h_M _ _)) (fun q34 h_q34 => ?_)
      refine post_ite (fun c_3 => ?_) (fun c_3 => ?_)
      · exact (im_MO_count_L196 (fun a0_ a1_ a2_ h0_ h1_ h2_ => ih a0_ a1_ a2_ h0_ h1_ h2_) h_M h_x1 h_v2_ h_v1_ (inr_c rfl))
      · exact (im_MO_count_L196 (fun a0_ a1_ a2_ h0_ h1_ h2_ => ih a0_ a1_ a2_ h0_ h1_ h2_) h_M h_x1 h_v2_ h_v1_ (inr_c rfl))
end
section
/-! ints in range: the reference -/
theorem im_MO_count {x1 : Int} {M : Mem}  (h_M : IM M) (h_x1 : InR x1) : Post (fun r => IM r.1 ∧ InR r.2) (t_MO_count M x1) := by
  unfold t_MO_count
  refine post_let (fun M1 e_M1 => ?_)
  have h_M1 : IM M1 := by rw [e_M1]; exact IM.setI h_M (inr_c rfl)
  clear e_M1
  refine post_ite (fun c_1 => ?_) (fun c_1 => ?_)
  · exact post_some ⟨h_M1, (h_M1 _ _)⟩
  · refine post_ite (fun c_2 => ?_) (fun c_2 => ?_)
    · exact post_some ⟨h_M1, (h_M1 _ _)⟩
    · refine post_ite (fun c_3 => ?_) (fun c_3 => ?_)
      · exact post_some ⟨h_M1, (h_M1 _ _)⟩
      · refine post_ite (fun c_4 => ?_) (fun c_4 => ?_)
        · exact post_some ⟨h_M1, (h_M1 _ _)⟩
        · refine post_ite (fun c_5 => ?_) (fun c_5 => ?_)
          · exact post_some ⟨h_M1, (h_M1 _ _)⟩
          · refine post_ite (fun c_6 => ?_) (fun c_6 => ?_)
            · exact post_some ⟨h_M1, (h_M1 _ _)⟩
            · refine post_ite (fun c_7 => ?_) (fun c_7 => ?_)
              · exact post_some ⟨h_M1, (h_M1 _ _)⟩
              · refine post_ite (fun c_8 => ?_) (fun c_8 => ?_)
                · exact post_some ⟨h_M1, (h_M1 _ _)⟩
                · refine post_ite (fun c_9 => ?_) (fun c_9 => ?_)
                  · refine post_let (fun q19 e_q19 => ?_)
                    have h_q19 : (fun r => InR r) q19 := by rw [e_q19]; exact (im_MO_knownMany  h_M1 )
                    clear e_q19
                    exact post_some ⟨h_M1, h_q19⟩
                  · refine post_ite (fun c_10 => ?_) (fun c_10 => ?_)
                    · exact post_some ⟨h_M1, (h_M1 _ _)⟩
                    · refine post_ite (fun c_11 => ?_) (fun c_11 => ?_)
                      · refine post_bind (Q := fun r => InR r) (im_MO_bitsOf  h_M1 ) (fun q24 h_q24 => ?_)
                        exact post_some ⟨h_M1, h_q24⟩
                      · refine post_ite (fun c_12 => ?_) (fun c_12 => ?_)
                        · refine post_bind (Q := fun r => InR r) (im_MO_bitsOf  h_M1 ) (fun q27 h_q27 => ?_)
                          exact post_some ⟨h_M1, h_q27⟩
                        · refine post_ite (fun c_13 => ?_) (fun c_13 => ?_)
                          · exact (im_MO_count_L164  h_x1 _ _ _ _ h_M1 (inr_c rfl) (inr_c rfl))
                          · exact post_some ⟨h_M1, (inr_c rfl)⟩
theorem im_MO_init  {M : Mem}  (h_M : IM M)  : Post (fun r => IM r) (t_MO_init M) := by
  unfold t_MO_init
  refine post_let (fun M1 e_M1 => ?_)
  have h_M1 : IM M1 := by rw [e_M1]; exact IM.setI h_M (inr_c rfl)
  clear e_M1
  refine post_let (fun M2 e_M2 => ?_)
  have h_M2 : IM M2 := by rw [e_M2]; exact IM.setI h_M1 (inr_c rfl)
  clear e_M2
  refine post_let (fun M3 e_M3 => ?_)
  have h_M3 : IM M3 := by rw [e_M3]; exact IM.setI h_M2 (inr_c rfl)
  clear e_M3
  refine post_let (fun M4 e_M4 => ?_)
  have h_M4 : IM M4 := by rw [e_M4]; exact IM.setI h_M3 (inr_c rfl)
  clear e_M4
  refine post_let (fun M5 e_M5 => ?_)
  have h_M5 : IM M5 := by rw [e_M5]; exact IM.setI h_M4 (inr_c rfl)
  clear e_M5
  refine post_let (fun M6 e_M6 => ?_)
  have h_M6 : IM M6 := by rw [e_M6]; exact IM.setI h_M5 (inr_c rfl)
  clear e_M6
  refine post_let (fun M7 e_M7 => ?_)
  have h_M7 : IM M7 := by rw [e_M7]; exact IM.setI h_M6 (inr_c rfl)
  clear e_M7
  refine post_let (fun M8 e_M8 => ?_)
  have h_M8 : IM M8 := by rw [e_M8]; exact IM.setI h_M7 (inr_c rfl)
  clear e_M8
  refine post_let (fun M9 e_M9 => ?_)
  have h_M9 : IM M9 := by rw [e_M9]; exact IM.setI h_M8 (inr_c rfl)
  clear e_M9
  refine post_let (fun M10 e_M10 => ?_)
  have h_M10 : IM M10 := by rw [e_M10]; exact IM.setI h_M9 (inr_c rfl)
  clear e_M10
  refine post_let (fun M11 e_M11 => ?_)
  have h_M11 : IM M11 := by rw [e_M11]; exact IM.setI h_M10 (inr_c rfl)
  clear e_M11
  refine post_let (fun M12 e_M12 => ?_)
  have h_M12 : IM M12 := by rw [e_M12]; exact IM.setI h_M11 (inr_c rfl)
  clear e_M12
  refine post_let (fun M13 e_M13 => ?_)
  have h_M13 : IM M13 := by rw [e_M13]; exact IM.setI h_M12 (inr_c rfl)
  clear e_M13
  refine post_let (fun M14 e_M14 => ?_)
  have h_M14 : IM M14 := by rw [e_M14]; exact IM.setI h_M13 (inr_c rfl)
  clear e_M14
  refine post_let (fun M15 e_M15 => ?_)
  have h_M15 : IM M15 := by rw [e_M15]; exact IM.setI h_M14 (inr_c rfl)
  clear e_M15
  refine post_let (fun M16 e_M16 => ?_)
  have h_M16 : IM M16 := by rw [e_M16]; exact IM.setI h_M15 (inr_c rfl)
  clear e_M16
  refine post_let (fun M17 e_M17 => ?_)
  have h_M17 : IM M17 := by rw [e_M17]; exact IM.setI h_M16 (inr_c rfl)
  clear e_M17
  refine post_let (fun M18 e_M18 => ?_)
  have h_M18 : IM M18 := by rw [e_M18]; exact IM.setI h_M17 (inr_c rfl)
  clear e_M18
  refine post_let (fun M19 e_M19 => ?_)
  have h_M19 : IM M19 := by rw [e_M19]; exact IM.setI h_M18 (inr_c rfl)
  clear e_M19
  refine post_let (fun M20 e_M20 => ?_)
  have h_M20 : IM M20 := by rw [e_M20]; exact IM.setI h_M19 (inr_c rfl)
  clear e_M20
  refine post_let (fun M21 e_M21 => ?_)
  have h_M21 : IM M21 := by rw [e_M21]; exact IM.setI h_M20 (inr_c rfl)
  clear e_M21
  refine post_let (fun M22 e_M22 => ?_)
  have h_M22 : IM M22 := by rw [e_M22]; exact IM.setI h_M21 (inr_c rfl)
  clear e_M22
  refine post_bind (Q := fun r => IM r) (im_MO_begins  h_M22 ) (fun q501 h_q501 => ?_)
  exact post_some h_q501
end
section
/-! ===== tokens: what is to come out ===== -/
def ltB (c : Int) : Bool := decide (97 ≤ c ∧ c ≤ 122)
def dgB (c : Int) : Bool := decide (48 ≤ c ∧ c ≤ 57)
def blB (c : Int) : Bool := decide (c = 10 ∨ c = 32)
def rnS (p : Int → Bool) (B : Int → Int) (n : Int) : Nat → Int → Int
  | 0, a => a
  | f + 1, a => if a < n ∧ p (B a) = true then rnS p B n f (a + 1) else a
def rnE (p : Int → Bool) (B : Int → Int) (n a : Int) : Int := rnS p B n 1000 a
theorem rn_facts {p : Int → Bool} {B : Int → Int} {n : Int} : ∀ (f : Nat) (a : Int), a ≤ n → n - a ≤ (f : Int) → (a ≤ rnS p B n f a ∧ rnS p B n f a ≤ n) ∧ (∀ x, a ≤ x → x < rnS p B n f a → p (B x) = true) ∧ (rnS p B n f a < n → p (B (rnS p B n f a)) = false) := by
  intro f
  induction f with
  | zero =>
    intro a h1 h2
    rw [rnS]
    exact ⟨⟨by omega, h1⟩, fun x a b => by omega, fun q => by omega⟩
  | succ f ih =>
    intro a h1 h2
    rw [rnS]
    by_cases c : a < n ∧ p (B a) = true
    · rw [if_pos c]
      obtain ⟨g1, g2, g3⟩ := ih (a + 1) (by omega) (by omega)
      refine ⟨⟨by omega, g1.2⟩, fun x x0 x1 => ?_, g3⟩
      by_cases e : x = a
      · rw [e]; exact c.2
      · exact g2 x (by omega) x1
    · rw [if_neg c]
      refine ⟨⟨by omega, h1⟩, fun x a b => by omega, fun q => ?_⟩
      cases e : p (B a) with
      | false => rfl
      | true => exact absurd ⟨q, e⟩ c
theorem rnE_facts {p : Int → Bool} {B : Int → Int} {n a : Int} (h0 : 0 ≤ a) (h1 : a ≤ n) (hn : n ≤ 700) : (a ≤ rnE p B n a ∧ rnE p B n a ≤ n) ∧ (∀ x, a ≤ x → x < rnE p B n a → p (B x) = true) ∧ (rnE p B n a < n → p (B (rnE p B n a)) = false) := rn_facts 1000 a h1 (by omega)
/-- a run's end is determined -/
theorem rnE_eq {p : Int → Bool} {B : Int → Int} {n a e : Int} (h0 : 0 ≤ a) (hn : n ≤ 700) (h1 : a ≤ e) (h2 : e ≤ n) (h3 : ∀ x, a ≤ x → x < e → p (B x) = true) (h4 : e < n → p (B e) = false) : rnE p B n a = e := by
  obtain ⟨g1, g2, g3⟩ := rnE_facts (p := p) (B := B) (n := n) (a := a) h0 (by omega) hn
  by_cases c : rnE p B n a < e
  · have := h3 _ g1.1 c
    rw [g3 (by omega)] at this
    cases this
  · by_cases c2 : e < rnE p B n a
    · have := g2 e h1 c2
      rw [h4 (by omega)] at this
      cases this
    · omega
/-! words -/
def nsS : Nat → Int → Int
  | 0, i => i
  | f + 1, i => if chW i = 32 then i else nsS f (i + 1)
def nxW (i : Int) : Int := nsS 126 i
theorem nx_all : ∀ i : Nat, i < 126 → ((i : Int) ≤ nxW i ∧ nxW i < 126 ∧ chW (nxW i) = 32) := by decide +kernel
theorem nx_bet : ∀ i : Nat, i < 126 → ∀ j : Nat, j < 8 → (i : Int) + (j : Int) < nxW i → chW ((i : Int) + (j : Int)) ≠ 32 := by decide +kernel
def stW : Nat → Int
  | 0 => 0
  | k + 1 => nxW (stW k) + 1
theorem st_all : ∀ k : Nat, k < 25 → (0 ≤ stW k ∧ stW k < 126 ∧ nxW (stW k) - stW k ≤ 7 ∧ 1 ≤ nxW (stW k) - stW k) := by decide +kernel
theorem st_end : stW 25 = 126 := by decide +kernel
def mtS (B : Int → Int) (p s : Int) : Nat → Bool
  | 0 => true
  | k + 1 => mtS B p s k && decide (B (p + (k : Int)) = chW (s + (k : Int)))
theorem mtS_mono {B : Int → Int} {p s : Int} : ∀ {k m : Nat}, k ≤ m → mtS B p s k = false → mtS B p s m = false := by
  intro k m h e
  induction m with
  | zero => rw [show k = 0 by omega] at e; exact e
  | succ m ih =>
    by_cases q : k = m + 1
    · rw [← q]; exact e
    · rw [mtS, ih (by omega)]; rfl
/-- the k-th word or one behind it: m more are looked at -/
def wdS (B : Int → Int) (p len : Int) : Nat → Nat → Int
  | 0, _ => -1
  | m + 1, k => if nxW (stW k) - stW k = len ∧ mtS B p (stW k) len.toNat = true then (k : Int) else wdS B p len m (k + 1)
def wordS (B : Int → Int) (p len : Int) : Int := wdS B p len 25 0
theorem wd_rng (B : Int → Int) (p len : Int) : ∀ (m k : Nat), m + k = 25 → -1 ≤ wdS B p len m k ∧ wdS B p len m k ≤ 24 := by
  intro m
  induction m with
  | zero => intro k _; rw [wdS]; omega
  | succ m ih =>
    intro k h
    rw [wdS]
    split
    · omega
    · exact ih (k + 1) (by omega)
/-! names, numbers, signs -/
def nlS (B : Int → Int) (p e : Int) (k : Int) : Int := if p + k < e then B (p + k) - 96 else 0
def nvS (B : Int → Int) (p e : Int) : Nat → Int
  | 0 => 0
  | k + 1 => nvS B p e k * 32 + nlS B p e (k : Int)
def dvS (B : Int → Int) (p : Int) : Nat → Int
  | 0 => 0
  | k + 1 => q_min (dvS B p k * 10 + (B (p + (k : Int)) - 48)) 1000000
def nvR (r v : Int) : Prop := (0 ≤ r ∧ r ≤ 9999999) ∧ (0 ≤ v ∧ v ≤ 1000000) ∧ (r = v ∨ (99999 < r ∧ 99999 < v))
def sgK (c c2 : Int) : Int := if c = 59 then 40 else if c = 40 then 41 else if c = 41 then 42 else if c = 43 then 43 else if c = 45 then 44 else if c = 42 then 45 else if c = 47 then 46 else if c = 60 then (if c2 = 61 then 48 else if c2 = 62 then 50 else 47) else if c = 61 then 49 else if c = 62 then (if c2 = 61 then 51 else 52) else 33
def sgV (k : Int) : Int := if k = 40 then 59 else if k = 41 then 40 else if k = 42 then 41 else if k = 43 then 43 else if k = 44 then 45 else if k = 45 then 42 else if k = 46 then 47 else if k = 47 then 60 else if k = 48 then 256 else if k = 49 then 61 else if k = 50 then 257 else if k = 51 then 258 else 62
def sgL (k : Int) : Int := if k = 48 ∨ k = 50 ∨ k = 51 then 2 else 1
/-- one token: kind, value, place, what comes behind it -/
def tkS (B : Int → Int) (n a : Int) : Int × Int × Int × Int :=
  if n ≤ rnE blB B n a then (32, 0, rnE blB B n a, rnE blB B n a)
  else if ltB (B (rnE blB B n a)) = true then
    (if 0 ≤ wordS B (rnE blB B n a) (rnE ltB B n (rnE blB B n a) - rnE blB B n a) then (wordS B (rnE blB B n a) (rnE ltB B n (rnE blB B n a) - rnE blB B n a), 0, rnE blB B n a, rnE ltB B n (rnE blB B n a))
     else if rnE ltB B n (rnE blB B n a) - rnE blB B n a ≤ 6 then (30, nvS B (rnE blB B n a) (rnE ltB B n (rnE blB B n a)) 6, rnE blB B n a, rnE ltB B n (rnE blB B n a))
     else (33, 0, rnE blB B n a, rnE ltB B n (rnE blB B n a)))
  else if dgB (B (rnE blB B n a)) = true then (31, dvS B (rnE blB B n a) (rnE dgB B n (rnE blB B n a) - rnE blB B n a).toNat, rnE blB B n a, rnE dgB B n (rnE blB B n a))
  else (sgK (B (rnE blB B n a)) (if rnE blB B n a + 1 < n then B (rnE blB B n a + 1) else -1), 0, rnE blB B n a, rnE blB B n a + sgL (sgK (B (rnE blB B n a)) (if rnE blB B n a + 1 < n then B (rnE blB B n a + 1) else -1)))
theorem sgK_rng (c c2 : Int) : sgK c c2 = 33 ∨ (40 ≤ sgK c c2 ∧ sgK c c2 ≤ 52) := by
  unfold sgK
  repeat (first | omega | split)
abbrev kOK (k : Int) : Prop := (0 ≤ k ∧ k ≤ 24) ∨ (30 ≤ k ∧ k ≤ 33) ∨ (40 ≤ k ∧ k ≤ 52)
theorem sgK_two {c c2 : Int} (h : sgK c c2 = 48 ∨ sgK c c2 = 50 ∨ sgK c c2 = 51) : c2 = 61 ∨ c2 = 62 := by
  unfold sgK at h
  repeat (first | omega | split at h)
theorem tok_facts {B : Int → Int} {n a : Int} (h0 : 0 ≤ a) (h1 : a ≤ n) (hn : n ≤ 700) : kOK (tkS B n a).1 ∧ (a ≤ (tkS B n a).2.2.1 ∧ (tkS B n a).2.2.1 ≤ n) ∧ (tkS B n a).2.2.2 ≤ n ∧ (((tkS B n a).1 = 32 ∧ (tkS B n a).2.2.1 = n ∧ (tkS B n a).2.2.2 = n) ∨ ((tkS B n a).1 ≠ 32 ∧ (tkS B n a).2.2.1 < (tkS B n a).2.2.2)) := by
  obtain ⟨g1, g2, g3⟩ := rnE_facts (p := blB) (B := B) h0 h1 hn
  unfold tkS
  generalize rnE blB B n a = p at *
  by_cases c1 : n ≤ p
  · rw [if_pos c1]; exact ⟨by show kOK 32; omega, by show a ≤ p ∧ p ≤ n; omega, g1.2, Or.inl ⟨rfl, by show p = n; omega, by show p = n; omega⟩⟩
  · rw [if_neg c1]
    by_cases c2 : ltB (B p) = true
    · rw [if_pos c2]
      obtain ⟨l1, l2, l3⟩ := rnE_facts (p := ltB) (B := B) (n := n) (a := p) (by omega) (by omega) hn
      have lt : p < rnE ltB B n p := by
        by_cases q : rnE ltB B n p = p
        · have := l3 (by omega)
          rw [q, c2] at this
          cases this
        · omega
      have hw := wd_rng B p (rnE ltB B n p - p) 25 0 rfl
      by_cases c3 : 0 ≤ wordS B p (rnE ltB B n p - p)
      · rw [if_pos c3]
        change -1 ≤ wordS B p (rnE ltB B n p - p) ∧ wordS B p (rnE ltB B n p - p) ≤ 24 at hw
        refine ⟨?_, ?_, l1.2, Or.inr ⟨?_, lt⟩⟩
        · show kOK (wordS B p (rnE ltB B n p - p)); unfold kOK; omega
        · show a ≤ p ∧ p ≤ n; omega
        · show wordS B p (rnE ltB B n p - p) ≠ 32; omega
      · rw [if_neg c3]
        by_cases c4 : rnE ltB B n p - p ≤ 6
        · rw [if_pos c4]; exact ⟨by show kOK 30; omega, by show a ≤ p ∧ p ≤ n; omega, l1.2, Or.inr ⟨by show (30 : Int) ≠ 32; decide, lt⟩⟩
        · rw [if_neg c4]; exact ⟨by show kOK 33; omega, by show a ≤ p ∧ p ≤ n; omega, l1.2, Or.inr ⟨by show (33 : Int) ≠ 32; decide, lt⟩⟩
    · rw [if_neg c2]
      by_cases c3 : dgB (B p) = true
      · rw [if_pos c3]
        obtain ⟨l1, l2, l3⟩ := rnE_facts (p := dgB) (B := B) (n := n) (a := p) (by omega) (by omega) hn
        have lt : p < rnE dgB B n p := by
          by_cases q : rnE dgB B n p = p
          · have := l3 (by omega)
            rw [q, c3] at this
            cases this
          · omega
        exact ⟨by show kOK 31; omega, by show a ≤ p ∧ p ≤ n; omega, l1.2, Or.inr ⟨by show (31 : Int) ≠ 32; decide, lt⟩⟩
      · rw [if_neg c3]
        have hs := sgK_rng (B p) (if p + 1 < n then B (p + 1) else -1)
        have ht := @sgK_two (B p) (if p + 1 < n then B (p + 1) else -1)
        have hc2 : (if p + 1 < n then B (p + 1) else (-1 : Int)) = 61 ∨ (if p + 1 < n then B (p + 1) else (-1 : Int)) = 62 → p + 1 < n := by
          intro q
          split at q
          · assumption
          · omega
        generalize sgK (B p) (if p + 1 < n then B (p + 1) else -1) = k at *
        refine ⟨?_, by show a ≤ p ∧ p ≤ n; omega, ?_, Or.inr ⟨by show k ≠ 32; omega, ?_⟩⟩
        · show kOK k; unfold kOK; omega
        · show p + sgL k ≤ n
          unfold sgL
          split
          · rename_i q; have := hc2 (ht q); omega
          · omega
        · show p < p + sgL k
          unfold sgL
          split <;> omega
/-- the stream -/
def tkA (B : Int → Int) (n : Int) : Nat → Int
  | 0 => 0
  | i + 1 => (tkS B n (tkA B n i)).2.2.2
def tK (B : Int → Int) (n : Int) (i : Nat) : Int := (tkS B n (tkA B n i)).1
def tW (B : Int → Int) (n : Int) (i : Nat) : Int := (tkS B n (tkA B n i)).2.1
def tP (B : Int → Int) (n : Int) (i : Nat) : Int := (tkS B n (tkA B n i)).2.2.1
theorem tA_rng {B : Int → Int} {n : Int} (h0 : 0 ≤ n) (hn : n ≤ 700) : ∀ i : Nat, (0 ≤ tkA B n i ∧ tkA B n i ≤ n) ∧ ((i : Int) ≤ tkA B n i ∨ tkA B n i = n) := by
  intro i
  induction i with
  | zero => exact ⟨⟨Int.le_refl _, h0⟩, Or.inl (Int.le_refl _)⟩
  | succ i ih =>
    have t := tok_facts (B := B) ih.1.1 ih.1.2 hn
    rw [tkA]
    refine ⟨⟨by omega, t.2.2.1⟩, ?_⟩
    rcases t.2.2.2 with q | q
    · right; exact q.2.2
    · rcases ih.2 with z | z
      · left; omega
      · right; omega
theorem tK_ok {B : Int → Int} {n : Int} (h0 : 0 ≤ n) (hn : n ≤ 700) (i : Nat) : kOK (tK B n i) := (tok_facts (tA_rng h0 hn i).1.1 (tA_rng h0 hn i).1.2 hn).1
theorem tK_end {B : Int → Int} {n : Int} (h0 : 0 ≤ n) (hn : n ≤ 700) {i : Nat} (hi : n ≤ (i : Int)) : tK B n i = 32 := by
  have a := tA_rng (B := B) h0 hn i
  have t := tok_facts (B := B) a.1.1 a.1.2 hn
  rcases t.2.2.2 with q | q
  · exact q.1
  · omega
theorem tK_stay {B : Int → Int} {n : Int} (h0 : 0 ≤ n) (hn : n ≤ 700) {i : Nat} (h : tK B n i = 32) : tK B n (i + 1) = 32 := by
  have a := tA_rng (B := B) h0 hn i
  have t := tok_facts (B := B) a.1.1 a.1.2 hn
  have a2 := tA_rng (B := B) h0 hn (i + 1)
  have t2 := tok_facts (B := B) a2.1.1 a2.1.2 hn
  have e : tkA B n (i + 1) = (tkS B n (tkA B n i)).2.2.2 := rfl
  rcases t.2.2.2 with q | q
  · rcases t2.2.2.2 with q2 | q2
    · exact q2.1
    · omega
  · exact absurd h q.1
end
