section
/-! ints in range: the reference -/
theorem im_MO_begins_L73 {bk43 : Mem → Int → Option (Mem)} {v1_ : Int} {v3_ : Int} {v4_ : Int} {M : Mem} (hbk43 : ∀ (a0_ : Mem) (a1_ : Int), IM a0_ → InR a1_ → Post (fun r => IM r) (bk43 a0_ a1_)) (h_M : IM M) (h_v1_ : InR v1_) (h_v3_ : InR v3_) (h_v4_ : InR v4_) : Post (fun r => IM r) (t_MO_begins_L73 bk43 M v1_ v3_ v4_) := by
  unfold t_MO_begins_L73
  refine post_guard (fun c_1 => ?_)
  refine post_let (fun M18 e_M18 => ?_)
  have h_M18 : IM M18 := by rw [e_M18]; exact IM.setI h_M h_v4_
  clear e_M18
  exact hbk43 _ _  h_M18 (inr_w32 _)
theorem im_MO_begins_L114 {bk82 : Mem → Int → Option (Mem)} {v1_ : Int} {v3_ : Int} {v4_ : Int} {M : Mem} (hbk82 : ∀ (a0_ : Mem) (a1_ : Int), IM a0_ → InR a1_ → Post (fun r => IM r) (bk82 a0_ a1_)) (h_M : IM M) (h_v1_ : InR v1_) (h_v3_ : InR v3_) (h_v4_ : InR v4_) : Post (fun r => IM r) (t_MO_begins_L114 bk82 M v1_ v3_ v4_) := by
  unfold t_MO_begins_L114
  refine post_guard (fun c_1 => ?_)
  refine post_let (fun M20 e_M20 => ?_)
  have h_M20 : IM M20 := by rw [e_M20]; exact IM.setI h_M h_v4_
  clear e_M20
  refine post_guard (fun c_2 => ?_)
  refine post_let (fun M22 e_M22 => ?_)
  have h_M22 : IM M22 := by rw [e_M22]; exact IM.setI h_M20 (inr_c rfl)
  clear e_M22
  refine post_guard (fun c_3 => ?_)
  refine post_let (fun M24 e_M24 => ?_)
  have h_M24 : IM M24 := by rw [e_M24]; exact IM.setI h_M22 (inr_c rfl)
  clear e_M24
  exact hbk82 _ _  h_M24 (inr_w32 _)
theorem im_MO_begins_L82    : ∀ (fu : Nat) (M : Mem) (v1_ : Int), IM M → InR v1_ → Post (fun r => IM r) (t_MO_begins_L82  fu M v1_) := by
  intro fu
  induction fu with
  | zero => intro M v1_ h_M h_v1_; exact post_none
  | succ fu ih =>
    intro M v1_ h_M h_v1_
    rw [t_MO_begins_L82]
    refine post_ite (fun c_1 => ?_) (fun c_1 => ?_)
    · exact post_some h_M
    · refine post_ite (fun c_2 => ?_) (fun c_2 => ?_)
      · exact (im_MO_begins_L114 (fun a0_ a1_ h0_ h1_ => ih a0_ a1_ h0_ h1_) h_M h_v1_ h_v1_ (inr_c rfl))
      · refine post_guard (fun c_3 => ?_)
        exact (im_MO_begins_L114 (fun a0_ a1_ h0_ h1_ => ih a0_ a1_ h0_ h1_) h_M h_v1_ h_v1_ (h_M _ _))
theorem im_MO_begins_L43    : ∀ (fu : Nat) (M : Mem) (v1_ : Int), IM M → InR v1_ → Post (fun r => IM r) (t_MO_begins_L43  fu M v1_) := by
  intro fu
  induction fu with
  | zero => intro M v1_ h_M h_v1_; exact post_none
  | succ fu ih =>
    intro M v1_ h_M h_v1_
    rw [t_MO_begins_L43]
    refine post_ite (fun c_1 => ?_) (fun c_1 => ?_)
    · exact (im_MO_begins_L82   _ _ _ h_M (inr_c rfl))
    · refine post_ite (fun c_2 => ?_) (fun c_2 => ?_)
      · exact (im_MO_begins_L73 (fun a0_ a1_ h0_ h1_ => ih a0_ a1_ h0_ h1_) h_M h_v1_ h_v1_ (inr_c rfl))
      · refine post_guard (fun c_3 => ?_)
        exact (im_MO_begins_L73 (fun a0_ a1_ h0_ h1_ => ih a0_ a1_ h0_ h1_) h_M h_v1_ h_v1_ (h_M _ _))
theorem im_MO_begins  {M : Mem}  (h_M : IM M)  : Post (fun r => IM r) (t_MO_begins M) := by
  unfold t_MO_begins
  refine post_let (fun M1 e_M1 => ?_)
  have h_M1 : IM M1 := by rw [e_M1]; exact IM.setI h_M (inr_c rfl)
  clear e_M1
  refine post_let (fun M2 e_M2 => ?_)
  have h_M2 : IM M2 := by rw [e_M2]; exact IM.setI h_M1 (inr_c rfl)
  clear e_M2
  refine post_let (fun M4 e_M4 => ?_)
  have h_M4 : IM M4 := by rw [e_M4]; exact IM.setI h_M2 (h_M2 _ _)
  clear e_M4
  refine post_let (fun M5 e_M5 => ?_)
  have h_M5 : IM M5 := by rw [e_M5]; exact IM.setL h_M4
  clear e_M5
  refine post_let (fun M6 e_M6 => ?_)
  have h_M6 : IM M6 := by rw [e_M6]; exact IM.setL h_M5
  clear e_M6
  exact (im_MO_begins_L43   _ _ _ h_M6 (inr_c rfl))
theorem im_MO_feed_L73 {x1 : Int} {x2 : Int} {x3 : Int} {x4 : Int} {x5 : Int} {bk20 : Mem → Int → Option (Mem × Int)} {v6_ : Int} {v7_ : Int} {M : Mem} (hbk20 : ∀ (a0_ : Mem) (a1_ : Int), IM a0_ → InR a1_ → Post (fun r => IM r.1 ∧ InR r.2) (bk20 a0_ a1_)) (h_M : IM M) (h_x1 : InR x1) (h_x2 : InR x2) (h_x3 : InR x3) (h_x4 : InR x4) (h_x5 : InR x5) (h_v6_ : InR v6_) (h_v7_ : InR v7_) : Post (fun r => IM r.1 ∧ InR r.2) (t_MO_feed_L73 x1 x2 x3 x4 x5 bk20 M v6_ v7_) := by
  unfold t_MO_feed_L73
  refine post_guard (fun c_1 => ?_)
  refine post_let (fun M14 e_M14 => ?_)
  have h_M14 : IM M14 := by rw [e_M14]; exact IM.setI h_M (inrq_and)
  clear e_M14
  exact hbk20 _ _  h_M14 (inr_w32 _)
theorem im_MO_feed_L20 {x1 : Int} {x2 : Int} {x3 : Int} {x4 : Int} {x5 : Int}  (h_x1 : InR x1) (h_x2 : InR x2) (h_x3 : InR x3) (h_x4 : InR x4) (h_x5 : InR x5) : ∀ (fu : Nat) (M : Mem) (v6_ : Int), IM M → InR v6_ → Post (fun r => IM r.1 ∧ InR r.2) (t_MO_feed_L20 x1 x2 x3 x4 x5 fu M v6_) := by
  intro fu
  induction fu with
  | zero => intro M v6_ h_M h_v6_; exact post_none
  | succ fu ih =>
    intro M v6_ h_M h_v6_
    rw [t_MO_feed_L20]
    refine post_ite (fun c_1 => ?_) (fun c_1 => ?_)
    · refine post_let (fun M6 e_M6 => ?_)
      have h_M6 : IM M6 := by rw [e_M6]; exact IM.setI h_M (inr_w32 _)
      clear e_M6
      exact post_some ⟨h_M6, (h_M6 _ _)⟩
    · refine post_ite (fun c_2 => ?_) (fun c_2 => ?_)
      · refine post_ite (fun c_3 => ?_) (fun c_3 => ?_)
        · refine post_ite (fun c_4 => ?_) (fun c_4 => ?_)
          · refine post_ite (fun c_5 => ?_) (fun c_5 => ?_)
            · exact (im_MO_feed_L73 (fun a0_ a1_ h0_ h1_ => ih a0_ a1_ h0_ h1_) h_M h_x1 h_x2 h_x3 h_x4 h_x5 h_v6_ h_x5)
            · exact (im_MO_feed_L73 (fun a0_ a1_ h0_ h1_ => ih a0_ a1_ h0_ h1_) h_M h_x1 h_x2 h_x3 h_x4 h_x5 h_v6_ h_x4)
          · exact (im_MO_feed_L73 (fun a0_ a1_ h0_ h1_ => ih a0_ a1_ h0_ h1_) h_M h_x1 h_x2 h_x3 h_x4 h_x5 h_v6_ h_x3)
        · exact (im_MO_feed_L73 (fun a0_ a1_ h0_ h1_ => ih a0_ a1_ h0_ h1_) h_M h_x1 h_x2 h_x3 h_x4 h_x5 h_v6_ h_x2)
      · exact (im_MO_feed_L73 (fun a0_ a1_ h0_ h1_ => ih a0_ a1_ h0_ h1_) h_M h_x1 h_x2 h_x3 h_x4 h_x5 h_v6_ h_x1)
theorem im_MO_feed {x1 : Int} {x2 : Int} {x3 : Int} {x4 : Int} {x5 : Int} {M : Mem}  (h_M : IM M) (h_x1 : InR x1) (h_x2 : InR x2) (h_x3 : InR x3) (h_x4 : InR x4) (h_x5 : InR x5) : Post (fun r => IM r.1 ∧ InR r.2) (t_MO_feed M x1 x2 x3 x4 x5) := by
  unfold t_MO_feed
  refine post_let (fun M1 e_M1 => ?_)
  have h_M1 : IM M1 := by rw [e_M1]; exact IM.setI h_M (inr_c rfl)
  clear e_M1
  refine post_ite (fun c_1 => ?_) (fun c_1 => ?_)
  · exact (im_MO_feed_L20  h_x1 h_x2 h_x3 h_x4 h_x5 _ _ _ h_M1 (inr_c rfl))
  · exact post_some ⟨h_M1, (inr_c rfl)⟩
theorem im_MO_here  {M : Mem}  (h_M : IM M)  : Post (fun r => InR r) (t_MO_here M) := by
  unfold t_MO_here
  refine post_ite (fun c_1 => ?_) (fun c_1 => ?_)
  · exact post_some (inr_c rfl)
  · refine post_guard (fun c_2 => ?_)
    exact post_some (h_M _ _)
theorem im_MO_isSmall {x1 : Int} {M : Mem} (h_M : IM M) (h_x1 : InR x1) : (fun r => InR r) (t_MO_isSmall M x1) := by
  show Pl (fun r => InR r) (t_MO_isSmall M x1)
  unfold t_MO_isSmall
  refine pl_ite (fun c_1 => ?_) (fun c_1 => ?_)
  · exact (inr_c rfl)
  · refine pl_ite (fun c_2 => ?_) (fun c_2 => ?_)
    · exact (inr_c rfl)
    · exact (inr_c rfl)
theorem im_MO_isDigit {x1 : Int} {M : Mem} (h_M : IM M) (h_x1 : InR x1) : (fun r => InR r) (t_MO_isDigit M x1) := by
  show Pl (fun r => InR r) (t_MO_isDigit M x1)
  unfold t_MO_isDigit
  refine pl_ite (fun c_1 => ?_) (fun c_1 => ?_)
  · exact (inr_c rfl)
  · refine pl_ite (fun c_2 => ?_) (fun c_2 => ?_)
    · exact (inr_c rfl)
    · exact (inr_c rfl)
theorem im_MO_word_L97 {bk4 : Mem → Int → Int → Option (Int)} (hbk4 : ∀ (a0_ : Mem) (a1_ : Int) (a2_ : Int), IM a0_ → InR a1_ → InR a2_ → Post (fun r => InR r) (bk4 a0_ a1_ a2_))  : ∀ (fu : Nat) (M : Mem) (v1_ : Int) (v2_ : Int), IM M → InR v1_ → InR v2_ → Post (fun r => InR r) (t_MO_word_L97 bk4 fu M v1_ v2_) := by
  intro fu
  induction fu with
  | zero => intro M v1_ v2_ h_M h_v1_ h_v2_; exact post_none
  | succ fu ih =>
    intro M v1_ v2_ h_M h_v1_ h_v2_
    rw [t_MO_word_L97]
    refine post_guard (fun c_1 => ?_)
    refine post_ite (fun c_2 => ?_) (fun c_2 => ?_)
    · exact hbk4 _ _ _  h_M (inr_w32 _) (inr_w32 _)
    · exact (ih _ _ _ h_M h_v1_ (inr_w32 _))
theorem im_MO_word_L69 {bk4 : Mem → Int → Int → Option (Int)} {v1_ : Int} {v2_ : Int} {v3_ : Int} {M : Mem} (hbk4 : ∀ (a0_ : Mem) (a1_ : Int) (a2_ : Int), IM a0_ → InR a1_ → InR a2_ → Post (fun r => InR r) (bk4 a0_ a1_ a2_)) (h_M : IM M) (h_v1_ : InR v1_) (h_v2_ : InR v2_) (h_v3_ : InR v3_) : Post (fun r => InR r) (t_MO_word_L69 bk4 M v1_ v2_ v3_) := by
  unfold t_MO_word_L69
  refine post_guard (fun c_1 => ?_)
  refine post_ite (fun c_2 => ?_) (fun c_2 => ?_)
  · refine post_ite (fun c_3 => ?_) (fun c_3 => ?_)
    · exact post_some h_v1_
    · exact (im_MO_word_L97 hbk4  _ _ _ _ h_M h_v1_ h_v2_)
  · exact (im_MO_word_L97 hbk4  _ _ _ _ h_M h_v1_ h_v2_)
theorem im_MO_word_L15 {bk4 : Mem → Int → Int → Option (Int)} (hbk4 : ∀ (a0_ : Mem) (a1_ : Int) (a2_ : Int), IM a0_ → InR a1_ → InR a2_ → Post (fun r => InR r) (bk4 a0_ a1_ a2_))  : ∀ (fu : Nat) (M : Mem) (v1_ : Int) (v2_ : Int) (v3_ : Int), IM M → InR v1_ → InR v2_ → InR v3_ → Post (fun r => InR r) (t_MO_word_L15 bk4 fu M v1_ v2_ v3_) := by
  intro fu
  induction fu with
  | zero => intro M v1_ v2_ v3_ h_M h_v1_ h_v2_ h_v3_; exact post_none
  | succ fu ih =>
    intro M v1_ v2_ v3_ h_M h_v1_ h_v2_ h_v3_
    rw [t_MO_word_L15]
    refine post_guard (fun c_1 => ?_)
    refine post_ite (fun c_2 => ?_) (fun c_2 => ?_)
    · exact (im_MO_word_L69 hbk4 h_M h_v1_ h_v2_ h_v3_)
    · refine post_ite (fun c_3 => ?_) (fun c_3 => ?_)
      · exact (im_MO_word_L69 hbk4 h_M h_v1_ h_v2_ h_v3_)
      · refine post_guard (fun c_4 => ?_)
        refine post_guard (fun c_5 => ?_)
        refine post_ite (fun c_6 => ?_) (fun c_6 => ?_)
        · exact (ih _ _ _ _ h_M h_v1_ h_v2_ (inr_w32 _))
        · exact (im_MO_word_L69 hbk4 h_M h_v1_ h_v2_ h_v3_)
theorem im_MO_word_L4    : ∀ (fu : Nat) (M : Mem) (v1_ : Int) (v2_ : Int), IM M → InR v1_ → InR v2_ → Post (fun r => InR r) (t_MO_word_L4  fu M v1_ v2_) := by
  intro fu
  induction fu with
  | zero => intro M v1_ v2_ h_M h_v1_ h_v2_; exact post_none
  | succ fu ih =>
    intro M v1_ v2_ h_M h_v1_ h_v2_
    rw [t_MO_word_L4]
    refine post_ite (fun c_1 => ?_) (fun c_1 => ?_)
    · exact post_some (inr_c rfl)
    · exact (im_MO_word_L15 (fun a0_ a1_ a2_ h0_ h1_ h2_ => ih a0_ a1_ a2_ h0_ h1_ h2_)  _ _ _ _ _ h_M h_v1_ h_v2_ (inr_c rfl))
theorem im_MO_word  {M : Mem}  (h_M : IM M)  : Post (fun r => InR r) (t_MO_word M) := by
  unfold t_MO_word
  exact (im_MO_word_L4   _ _ _ _ h_M (inr_c rfl) (inr_c rfl))
theorem im_MO_name_L53 {bk7 : Mem → Int → Option (Mem)} {v1_ : Int} {v3_ : Int} {v4_ : Int} {M : Mem} (hbk7 : ∀ (a0_ : Mem) (a1_ : Int), IM a0_ → InR a1_ → Post (fun r => IM r) (bk7 a0_ a1_)) (h_M : IM M) (h_v1_ : InR v1_) (h_v3_ : InR v3_) (h_v4_ : InR v4_) : Post (fun r => IM r) (t_MO_name_L53 bk7 M v1_ v3_ v4_) := by
  unfold t_MO_name_L53
  refine post_let (fun M10 e_M10 => ?_)
  have h_M10 : IM M10 := by rw [e_M10]; exact IM.setI h_M (inrq_or)
  clear e_M10
  exact hbk7 _ _  h_M10 (inr_w32 _)
theorem im_MO_name_L7    : ∀ (fu : Nat) (M : Mem) (v1_ : Int), IM M → InR v1_ → Post (fun r => IM r) (t_MO_name_L7  fu M v1_) := by
  intro fu
  induction fu with
  | zero => intro M v1_ h_M h_v1_; exact post_none
  | succ fu ih =>
    intro M v1_ h_M h_v1_
    rw [t_MO_name_L7]
    refine post_ite (fun c_1 => ?_) (fun c_1 => ?_)
    · exact post_some h_M
    · refine post_ite (fun c_2 => ?_) (fun c_2 => ?_)
      · exact (im_MO_name_L53 (fun a0_ a1_ h0_ h1_ => ih a0_ a1_ h0_ h1_) h_M h_v1_ (inrq_shl) (inr_c rfl))
      · refine post_guard (fun c_3 => ?_)
        exact (im_MO_name_L53 (fun a0_ a1_ h0_ h1_ => ih a0_ a1_ h0_ h1_) h_M h_v1_ (inrq_shl) (inr_w32 _))
theorem im_MO_name  {M : Mem}  (h_M : IM M)  : Post (fun r => IM r) (t_MO_name M) := by
  unfold t_MO_name
  refine post_let (fun M1 e_M1 => ?_)
  have h_M1 : IM M1 := by rw [e_M1]; exact IM.setI h_M (inr_c rfl)
  clear e_M1
  exact (im_MO_name_L7   _ _ _ h_M1 (inr_c rfl))
theorem im_MO_sign_L150 {x1 : Int} {M : Mem}  (h_M : IM M) (h_x1 : InR x1) : Post (fun r => IM r) (t_MO_sign_L150 x1 M) := by
  unfold t_MO_sign_L150
  refine post_ite (fun c_1 => ?_) (fun c_1 => ?_)
  · exact post_some h_M
  · refine post_let (fun M33 e_M33 => ?_)
    have h_M33 : IM M33 := by rw [e_M33]; exact IM.setI h_M (inr_w32 _)
    clear e_M33
    exact post_some h_M33
theorem im_MO_sign_L128 {x1 : Int} {M : Mem}  (h_M : IM M) (h_x1 : InR x1) : Post (fun r => IM r) (t_MO_sign_L128 x1 M) := by
  unfold t_MO_sign_L128
  refine post_ite (fun c_1 => ?_) (fun c_1 => ?_)
  · refine post_bind (Q := fun r => InR r) (im_MO_here  h_M ) (fun q26 h_q26 => ?_)
    refine post_ite (fun c_2 => ?_) (fun c_2 => ?_)
    · refine post_let (fun M29 e_M29 => ?_)
      have h_M29 : IM M29 := by rw [e_M29]; exact IM.setI h_M (inr_c rfl)
      clear e_M29
      exact (im_MO_sign_L150  h_M29 h_x1)
    · exact (im_MO_sign_L150  h_M h_x1)
  · exact (im_MO_sign_L150  h_M h_x1)
theorem im_MO_sign_L106 {x1 : Int} {M : Mem}  (h_M : IM M) (h_x1 : InR x1) : Post (fun r => IM r) (t_MO_sign_L106 x1 M) := by
  unfold t_MO_sign_L106
  refine post_ite (fun c_1 => ?_) (fun c_1 => ?_)
  · refine post_bind (Q := fun r => InR r) (im_MO_here  h_M ) (fun q21 h_q21 => ?_)
    refine post_ite (fun c_2 => ?_) (fun c_2 => ?_)
    · refine post_let (fun M24 e_M24 => ?_)
      have h_M24 : IM M24 := by rw [e_M24]; exact IM.setI h_M (inr_c rfl)
      clear e_M24
      exact (im_MO_sign_L128  h_M24 h_x1)
    · exact (im_MO_sign_L128  h_M h_x1)
  · exact (im_MO_sign_L128  h_M h_x1)
theorem im_MO_sign_L76 {x1 : Int} {v3_ : Int} {M : Mem}  (h_M : IM M) (h_x1 : InR x1) (h_v3_ : InR v3_) : Post (fun r => IM r) (t_MO_sign_L76 x1 M v3_) := by
  unfold t_MO_sign_L76
  refine post_let (fun M13 e_M13 => ?_)
  have h_M13 : IM M13 := by rw [e_M13]; exact IM.setI h_M h_v3_
  clear e_M13
  refine post_let (fun M14 e_M14 => ?_)
  have h_M14 : IM M14 := by rw [e_M14]; exact IM.setI h_M13 h_x1
  clear e_M14
  refine post_ite (fun c_1 => ?_) (fun c_1 => ?_)
  · refine post_bind (Q := fun r => InR r) (im_MO_here  h_M14 ) (fun q16 h_q16 => ?_)
    refine post_ite (fun c_2 => ?_) (fun c_2 => ?_)
    · refine post_let (fun M19 e_M19 => ?_)
      have h_M19 : IM M19 := by rw [e_M19]; exact IM.setI h_M14 (inr_c rfl)
      clear e_M19
      exact (im_MO_sign_L106  h_M19 h_x1)
    · exact (im_MO_sign_L106  h_M14 h_x1)
  · exact (im_MO_sign_L106  h_M14 h_x1)
theorem im_MO_sign_L71 {x1 : Int} {M : Mem}  (h_M : IM M) (h_x1 : InR x1) : Post (fun r => IM r) (t_MO_sign_L71 x1 M) := by
  unfold t_MO_sign_L71
  exact (im_MO_sign_L76  h_M h_x1 (inr_c rfl))
theorem im_MO_sign {x1 : Int} {M : Mem}  (h_M : IM M) (h_x1 : InR x1) : Post (fun r => IM r) (t_MO_sign M x1) := by
  unfold t_MO_sign
  refine post_let (fun M2 e_M2 => ?_)
  have h_M2 : IM M2 := by rw [e_M2]; exact IM.setI h_M (inr_w32 _)
  clear e_M2
  refine post_ite (fun c_1 => ?_) (fun c_1 => ?_)
  · exact (im_MO_sign_L71  h_M2 h_x1)
  · refine post_ite (fun c_2 => ?_) (fun c_2 => ?_)
    · exact (im_MO_sign_L71  h_M2 h_x1)
    · refine post_ite (fun c_3 => ?_) (fun c_3 => ?_)
      · exact (im_MO_sign_L71  h_M2 h_x1)
      · refine post_ite (fun c_4 => ?_) (fun c_4 => ?_)
        · exact (im_MO_sign_L71  h_M2 h_x1)
        · refine post_ite (fun c_5 => ?_) (fun c_5 => ?_)
          · exact (im_MO_sign_L71  h_M2 h_x1)
          · refine post_ite (fun c_6 => ?_) (fun c_6 => ?_)
            · exact (im_MO_sign_L71  h_M2 h_x1)
            · refine post_ite (fun c_7 => ?_) (fun c_7 => ?_)
              · exact (im_MO_sign_L71  h_M2 h_x1)
              · refine post_ite (fun c_8 => ?_) (fun c_8 => ?_)
                · exact (im_MO_sign_L71  h_M2 h_x1)
                · refine post_ite (fun c_9 => ?_) (fun c_9 => ?_)
                  · exact (im_MO_sign_L71  h_M2 h_x1)
                  · refine post_ite (fun c_10 => ?_) (fun c_10 => ?_)
                    · exact (im_MO_sign_L71  h_M2 h_x1)
                    · exact (im_MO_sign_L76  h_M2 h_x1 (inr_c rfl))
theorem im_MO_token_L18 {bk0 : Mem → Option (Mem)} {M : Mem} (hbk0 : ∀ (a0_ : Mem), IM a0_ → Post (fun r => IM r) (bk0 a0_)) (h_M : IM M)  : Post (fun r => IM r) (t_MO_token_L18 bk0 M) := by
  unfold t_MO_token_L18
  refine post_let (fun M24 e_M24 => ?_)
  have h_M24 : IM M24 := by rw [e_M24]; exact IM.setI h_M (inr_w32 _)
  clear e_M24
  exact hbk0 _  h_M24
theorem im_MO_token_L127 {v2_ : Int} {M : Mem}  (h_M : IM M) (h_v2_ : InR v2_) : Post (fun r => IM r) (t_MO_token_L127 M v2_) := by
  unfold t_MO_token_L127
  refine post_let (fun M54 e_M54 => ?_)
  have h_M54 : IM M54 := by rw [e_M54]; exact IM.setI h_M h_v2_
  clear e_M54
  refine post_ite (fun c_1 => ?_) (fun c_1 => ?_)
  · refine post_bind (Q := fun r => IM r) (im_MO_name  h_M54 ) (fun q57 h_q57 => ?_)
    exact post_some h_q57
  · exact post_some h_M54
theorem im_MO_token_L64    : ∀ (fu : Nat) (M : Mem) , IM M → Post (fun r => IM r) (t_MO_token_L64  fu M ) := by
  intro fu
  induction fu with
  | zero => intro M  h_M; exact post_none
  | succ fu ih =>
    intro M  h_M
    rw [t_MO_token_L64]
    refine post_bind (Q := fun r => InR r) (im_MO_here  h_M ) (fun q36 h_q36 => ?_)
    refine post_let (fun q38 e_q38 => ?_)
    have h_q38 : (fun r => InR r) q38 := by rw [e_q38]; exact (im_MO_isSmall  h_M h_q36)
    clear e_q38
    refine post_ite (fun c_1 => ?_) (fun c_1 => ?_)
    · refine post_bind (Q := fun r => InR r) (im_MO_word  h_M ) (fun q41 h_q41 => ?_)
      refine post_let (fun M43 e_M43 => ?_)
      have h_M43 : IM M43 := by rw [e_M43]; exact IM.setI h_M h_q41
      clear e_M43
      refine post_ite (fun c_2 => ?_) (fun c_2 => ?_)
      · refine post_ite (fun c_3 => ?_) (fun c_3 => ?_)
        · exact (im_MO_token_L127  h_M43 (inr_c rfl))
        · exact (im_MO_token_L127  h_M43 (inr_c rfl))
      · exact (im_MO_token_L127  h_M43 (inr_c rfl))
    · refine post_let (fun M50 e_M50 => ?_)
      have h_M50 : IM M50 := by rw [e_M50]; exact IM.setI h_M (inr_w32 _)
      clear e_M50
      exact (ih _ h_M50 )
theorem im_MO_token_L204 {bk162 : Mem → Option (Mem)} {v2_ : Int} {M : Mem} (hbk162 : ∀ (a0_ : Mem), IM a0_ → Post (fun r => IM r) (bk162 a0_)) (h_M : IM M) (h_v2_ : InR v2_) : Post (fun r => IM r) (t_MO_token_L204 bk162 M v2_) := by
  unfold t_MO_token_L204
  refine post_let (fun M51 e_M51 => ?_)
  have h_M51 : IM M51 := by rw [e_M51]; exact IM.setI h_M h_v2_
  clear e_M51
  refine post_let (fun M53 e_M53 => ?_)
  have h_M53 : IM M53 := by rw [e_M53]; exact IM.setI h_M51 (inr_w32 _)
  clear e_M53
  exact hbk162 _  h_M53
theorem im_MO_token_L162    : ∀ (fu : Nat) (M : Mem) , IM M → Post (fun r => IM r) (t_MO_token_L162  fu M ) := by
  intro fu
  induction fu with
  | zero => intro M  h_M; exact post_none
  | succ fu ih =>
    intro M  h_M
    rw [t_MO_token_L162]
    refine post_bind (Q := fun r => InR r) (im_MO_here  h_M ) (fun q25 h_q25 => ?_)
    refine post_let (fun q27 e_q27 => ?_)
    have h_q27 : (fun r => InR r) q27 := by rw [e_q27]; exact (im_MO_isDigit  h_M h_q25)
    clear e_q27
    refine post_ite (fun c_1 => ?_) (fun c_1 => ?_)
    · exact post_some h_M
    · refine post_ite (fun c_2 => ?_) (fun c_2 => ?_)
      · refine post_bind (Q := fun r => InR r) (im_MO_here  h_M ) (fun q33 h_q33 => ?_)
        exact (im_MO_token_L204 (fun a0_ h0_ => ih a0_ h0_) h_M (inr_w32 _))
      · exact (im_MO_token_L204 (fun a0_ h0_ => ih a0_ h0_) h_M (h_M _ _))
theorem im_MO_token_L0    : ∀ (fu : Nat) (M : Mem) , IM M → Post (fun r => IM r) (t_MO_token_L0  fu M ) := by
  intro fu
  induction fu with
  | zero => intro M  h_M; exact post_none
  | succ fu ih =>
    intro M  h_M
    rw [t_MO_token_L0]
    refine post_bind (Q := fun r => InR r) (im_MO_here  h_M ) (fun q1 h_q1 => ?_)
    refine post_ite (fun c_1 => ?_) (fun c_1 => ?_)
    · exact (im_MO_token_L18 (fun a0_ h0_ => ih a0_ h0_) h_M )
    · refine post_bind (Q := fun r => InR r) (im_MO_here  h_M ) (fun q4 h_q4 => ?_)
      refine post_ite (fun c_2 => ?_) (fun c_2 => ?_)
      · exact (im_MO_token_L18 (fun a0_ h0_ => ih a0_ h0_) h_M )
      · refine post_let (fun M8 e_M8 => ?_)
        have h_M8 : IM M8 := by rw [e_M8]; exact IM.setI h_M (h_M _ _)
        clear e_M8
        refine post_bind (Q := fun r => InR r) (im_MO_here  h_M8 ) (fun q9 h_q9 => ?_)
        refine post_ite (fun c_3 => ?_) (fun c_3 => ?_)
        · refine post_let (fun M22 e_M22 => ?_)
          have h_M22 : IM M22 := by rw [e_M22]; exact IM.setI h_M8 (inr_c rfl)
          clear e_M22
          exact post_some h_M22
        · refine post_let (fun q12 e_q12 => ?_)
          have h_q12 : (fun r => InR r) q12 := by rw [e_q12]; exact (im_MO_isSmall  h_M8 h_q9)
          clear e_q12
          refine post_ite (fun c_4 => ?_) (fun c_4 => ?_)
          · refine post_let (fun q15 e_q15 => ?_)
            have h_q15 : (fun r => InR r) q15 := by rw [e_q15]; exact (im_MO_isDigit  h_M8 h_q9)
            clear e_q15
            refine post_ite (fun c_5 => ?_) (fun c_5 => ?_)
            · refine post_bind (Q := fun r => IM r) (im_MO_sign  h_M8 h_q9) (fun q18 h_q18 => ?_)
              exact post_some h_q18
            · refine post_let (fun M20 e_M20 => ?_)
              have h_M20 : IM M20 := by rw [e_M20]; exact IM.setI h_M8 (inr_c rfl)
              clear e_M20
              refine post_let (fun M21 e_M21 => ?_)
              have h_M21 : IM M21 := by rw [e_M21]; exact IM.setI h_M20 (inr_c rfl)
              clear e_M21
              exact (im_MO_token_L162   _ _ h_M21 )
          · exact (im_MO_token_L64   _ _ h_M8 )
theorem im_MO_token  {M : Mem}  (h_M : IM M)  : Post (fun r => IM r) (t_MO_token M) := by
  unfold t_MO_token
  exact (im_MO_token_L0   _ _ h_M )
theorem im_MO_wrong {x1 : Int} {M : Mem} (h_M : IM M) (h_x1 : InR x1) : (fun r => IM r) (t_MO_wrong M x1) := by
  show Pl (fun r => IM r) (t_MO_wrong M x1)
  unfold t_MO_wrong
  refine pl_ite (fun c_1 => ?_) (fun c_1 => ?_)
  · refine pl_let (fun M3 e_M3 => ?_)
    have h_M3 : IM M3 := by rw [e_M3]; exact IM.setI h_M h_x1
    clear e_M3
    refine pl_let (fun M5 e_M5 => ?_)
    have h_M5 : IM M5 := by rw [e_M5]; exact IM.setI h_M3 (h_M3 _ _)
    clear e_M5
    exact h_M5
  · exact h_M
theorem im_MO_isWord {x1 : Int} {M : Mem} (h_M : IM M) (h_x1 : InR x1) : (fun r => InR r) (t_MO_isWord M x1) := by
  show Pl (fun r => InR r) (t_MO_isWord M x1)
  unfold t_MO_isWord
  refine pl_ite (fun c_1 => ?_) (fun c_1 => ?_)
  · refine pl_ite (fun c_2 => ?_) (fun c_2 => ?_)
    · refine pl_ite (fun c_3 => ?_) (fun c_3 => ?_)
      · exact (inr_c rfl)
      · exact (inr_c rfl)
    · exact (inr_c rfl)
  · exact (inr_c rfl)
theorem im_MO_isSign {x1 : Int} {M : Mem} (h_M : IM M) (h_x1 : InR x1) : (fun r => InR r) (t_MO_isSign M x1) := by
  show Pl (fun r => InR r) (t_MO_isSign M x1)
  unfold t_MO_isSign
  refine pl_ite (fun c_1 => ?_) (fun c_1 => ?_)
  · refine pl_ite (fun c_2 => ?_) (fun c_2 => ?_)
    · refine pl_ite (fun c_3 => ?_) (fun c_3 => ?_)
      · exact (inr_c rfl)
      · exact (inr_c rfl)
    · exact (inr_c rfl)
  · exact (inr_c rfl)
theorem im_MO_goOn  {M : Mem}  (h_M : IM M)  : Post (fun r => IM r) (t_MO_goOn M) := by
  unfold t_MO_goOn
  refine post_ite (fun c_1 => ?_) (fun c_1 => ?_)
  · refine post_bind (Q := fun r => IM r) (im_MO_token  h_M ) (fun q3 h_q3 => ?_)
    exact post_some h_q3
  · exact post_some h_M
theorem im_MO_numeralAtHand_L46 {x1 : Int} {x2 : Int} {M : Mem} (h_M : IM M) (h_x1 : InR x1) (h_x2 : InR x2) : (fun r => IM r.1 ∧ InR r.2) (t_MO_numeralAtHand_L46 x1 x2 M) := by
  show Pl (fun r => IM r.1 ∧ InR r.2) (t_MO_numeralAtHand_L46 x1 x2 M)
  unfold t_MO_numeralAtHand_L46
  refine pl_ite (fun c_1 => ?_) (fun c_1 => ?_)
  · exact ⟨h_M, (h_M _ _)⟩
  · exact ⟨h_M, h_x1⟩
theorem im_MO_numeralAtHand_L41 {x1 : Int} {x2 : Int} {M : Mem} (h_M : IM M) (h_x1 : InR x1) (h_x2 : InR x2) : (fun r => IM r.1 ∧ InR r.2) (t_MO_numeralAtHand_L41 x1 x2 M) := by
  show Pl (fun r => IM r.1 ∧ InR r.2) (t_MO_numeralAtHand_L41 x1 x2 M)
  unfold t_MO_numeralAtHand_L41
  refine pl_let (fun q11 e_q11 => ?_)
  have h_q11 : (fun r => IM r) q11 := by rw [e_q11]; exact (im_MO_wrong  h_M (inr_c rfl))
  clear e_q11
  exact (im_MO_numeralAtHand_L46  h_q11 h_x1 h_x2)
theorem im_MO_numeralAtHand {x1 : Int} {x2 : Int} {M : Mem} (h_M : IM M) (h_x1 : InR x1) (h_x2 : InR x2) : (fun r => IM r.1 ∧ InR r.2) (t_MO_numeralAtHand M x1 x2) := by
  show Pl (fun r => IM r.1 ∧ InR r.2) (t_MO_numeralAtHand M x1 x2)
  unfold t_MO_numeralAtHand
  refine pl_ite (fun c_1 => ?_) (fun c_1 => ?_)
  · refine pl_ite (fun c_2 => ?_) (fun c_2 => ?_)
    · refine pl_ite (fun c_3 => ?_) (fun c_3 => ?_)
      · exact (im_MO_numeralAtHand_L41  h_M h_x1 h_x2)
      · refine pl_ite (fun c_4 => ?_) (fun c_4 => ?_)
        · exact (im_MO_numeralAtHand_L46  h_M h_x1 h_x2)
        · exact (im_MO_numeralAtHand_L41  h_M h_x1 h_x2)
    · refine pl_let (fun q9 e_q9 => ?_)
      have h_q9 : (fun r => IM r) q9 := by rw [e_q9]; exact (im_MO_wrong  h_M (inr_c rfl))
      clear e_q9
      exact (im_MO_numeralAtHand_L46  h_q9 h_x1 h_x2)
  · exact ⟨h_M, h_x1⟩
theorem im_MO_numeral {x1 : Int} {x2 : Int} {M : Mem}  (h_M : IM M) (h_x1 : InR x1) (h_x2 : InR x2) : Post (fun r => IM r.1 ∧ InR r.2) (t_MO_numeral M x1 x2) := by
  unfold t_MO_numeral
  refine post_let (fun q1 e_q1 => ?_)
  have h_q1 : (fun r => IM r.1 ∧ InR r.2) q1 := by rw [e_q1]; exact (im_MO_numeralAtHand  h_M h_x1 h_x2)
  clear e_q1
  refine post_bind (Q := fun r => IM r) (im_MO_goOn  h_q1.1 ) (fun q3 h_q3 => ?_)
  exact post_some ⟨h_q3, h_q1.2⟩
theorem im_MO_found_L3 {r1 : Nat} {N1 : Nat} {x2 : Int} {x3 : Int} {x4 : Int}  (h_x2 : InR x2) (h_x3 : InR x3) (h_x4 : InR x4) : ∀ (fu : Nat) (M : Mem) (v4_ : Int), IM M → InR v4_ → Post (fun r => InR r) (t_MO_found_L3 r1 N1 x2 x3 x4 fu M v4_) := by
  intro fu
  induction fu with
  | zero => intro M v4_ h_M h_v4_; exact post_none
  | succ fu ih =>
    intro M v4_ h_M h_v4_
    rw [t_MO_found_L3]
    refine post_ite (fun c_1 => ?_) (fun c_1 => ?_)
    · exact post_some (inr_c rfl)
    · refine post_guard (fun c_2 => ?_)
      refine post_ite (fun c_3 => ?_) (fun c_3 => ?_)
      · exact post_some h_v4_
      · exact (ih _ _ h_M (inr_w32 _))
theorem im_MO_found {r1 : Nat} {N1 : Nat} {x2 : Int} {x3 : Int} {x4 : Int} {M : Mem}  (h_M : IM M) (h_x2 : InR x2) (h_x3 : InR x3) (h_x4 : InR x4) : Post (fun r => InR r) (t_MO_found M r1 N1 x2 x3 x4) := by
  unfold t_MO_found
  exact (im_MO_found_L3  h_x2 h_x3 h_x4 _ _ _ h_M (inr_c rfl))
theorem im_MO_fresh_L44 {r1 : Nat} {N1 : Nat} {x2 : Int} {x3 : Int} {M : Mem}  (h_M : IM M) (h_x2 : InR x2) (h_x3 : InR x3) : Post (fun r => IM r.1 ∧ InR r.2) (t_MO_fresh_L44 r1 N1 x2 x3 M) := by
  unfold t_MO_fresh_L44
  refine post_ite (fun c_1 => ?_) (fun c_1 => ?_)
  · refine post_bind (Q := fun r => IM r) (im_MO_token  h_M ) (fun q16 h_q16 => ?_)
    exact post_some ⟨h_q16, (h_M _ _)⟩
  · exact post_some ⟨h_M, (inr_c rfl)⟩
theorem im_MO_fresh {r1 : Nat} {N1 : Nat} {x2 : Int} {x3 : Int} {M : Mem}  (h_M : IM M) (h_x2 : InR x2) (h_x3 : InR x3) : Post (fun r => IM r.1 ∧ InR r.2) (t_MO_fresh M r1 N1 x2 x3) := by
  unfold t_MO_fresh
  refine post_ite (fun c_1 => ?_) (fun c_1 => ?_)
  · refine post_ite (fun c_2 => ?_) (fun c_2 => ?_)
    · refine post_bind (Q := fun r => InR r) (im_MO_found  h_M h_x2 h_x3 (h_M _ _)) (fun q6 h_q6 => ?_)
      refine post_ite (fun c_3 => ?_) (fun c_3 => ?_)
      · exact (im_MO_fresh_L44  h_M h_x2 h_x3)
      · refine post_let (fun q9 e_q9 => ?_)
        have h_q9 : (fun r => IM r) q9 := by rw [e_q9]; exact (im_MO_wrong  h_M (inr_c rfl))
        clear e_q9
        exact (im_MO_fresh_L44  h_q9 h_x2 h_x3)
    · refine post_let (fun q11 e_q11 => ?_)
      have h_q11 : (fun r => IM r) q11 := by rw [e_q11]; exact (im_MO_wrong  h_M (inr_c rfl))
      clear e_q11
      exact (im_MO_fresh_L44  h_q11 h_x2 h_x3)
  · exact post_some ⟨h_M, (inr_c rfl)⟩
theorem im_MO_fresher {x1 : Int} {M : Mem}  (h_M : IM M) (h_x1 : InR x1) : Post (fun r => InR r) (t_MO_fresher M x1) := by
  unfold t_MO_fresher
  refine post_guard (fun c_1 => ?_)
  exact post_some (h_M _ _)
theorem im_MO_cellAtHand  {M : Mem}  (h_M : IM M)  : Post (fun r => IM r.1 ∧ InR r.2) (t_MO_cellAtHand M) := by
  unfold t_MO_cellAtHand
  refine post_bind (Q := fun r => InR r) (im_MO_fresher  h_M (inr_c rfl)) (fun q1 h_q1 => ?_)
  refine post_bind (Q := fun r => IM r.1 ∧ InR r.2) (im_MO_numeral  h_M (inr_c rfl) (inr_w32 _)) (fun q3 h_q3 => ?_)
  refine post_bind (Q := fun r => InR r) (im_MO_fresher  h_q3.1 (inr_c rfl)) (fun q5 h_q5 => ?_)
  refine post_let (fun q7 e_q7 => ?_)
  have h_q7 : (fun r => IM r.1 ∧ InR r.2) q7 := by rw [e_q7]; exact (im_MO_numeralAtHand  h_q3.1 (inr_c rfl) (inr_w32 _))
  clear e_q7
  refine post_bind (Q := fun r => InR r) (im_MO_fresher  h_q7.1 (inr_c rfl)) (fun q9 h_q9 => ?_)
  exact post_some ⟨h_q7.1, (inr_w32 _)⟩
theorem im_MO_reads {x1 : Int} {x2 : Int} {M : Mem}  (h_M : IM M) (h_x1 : InR x1) (h_x2 : InR x2) : Post (fun r => IM r) (t_MO_reads M x1 x2) := by
  unfold t_MO_reads
  refine post_guard (fun c_1 => ?_)
  refine post_let (fun M2 e_M2 => ?_)
  have h_M2 : IM M2 := by rw [e_M2]; exact IM.setI h_M h_x2
  clear e_M2
  exact post_some h_M2
theorem im_MO_isFull_L59 {x1 : Int} {M : Mem}  (h_M : IM M) (h_x1 : InR x1) : Post (fun r => InR r) (t_MO_isFull_L59 x1 M) := by
  unfold t_MO_isFull_L59
  refine post_ite (fun c_1 => ?_) (fun c_1 => ?_)
  · refine post_bind (Q := fun r => InR r) (im_MO_fresher  h_M (inr_c rfl)) (fun q18 h_q18 => ?_)
    refine post_ite (fun c_2 => ?_) (fun c_2 => ?_)
    · exact post_some (inr_c rfl)
    · exact post_some (inr_c rfl)
  · exact post_some (inr_c rfl)
theorem im_MO_isFull_L44 {x1 : Int} {M : Mem}  (h_M : IM M) (h_x1 : InR x1) : Post (fun r => InR r) (t_MO_isFull_L44 x1 M) := by
  unfold t_MO_isFull_L44
  refine post_ite (fun c_1 => ?_) (fun c_1 => ?_)
  · refine post_bind (Q := fun r => InR r) (im_MO_fresher  h_M (inr_c rfl)) (fun q14 h_q14 => ?_)
    refine post_ite (fun c_2 => ?_) (fun c_2 => ?_)
    · exact post_some (inr_c rfl)
    · exact (im_MO_isFull_L59  h_M h_x1)
  · exact (im_MO_isFull_L59  h_M h_x1)
theorem im_MO_isFull_L29 {x1 : Int} {M : Mem}  (h_M : IM M) (h_x1 : InR x1) : Post (fun r => InR r) (t_MO_isFull_L29 x1 M) := by
  unfold t_MO_isFull_L29
  refine post_ite (fun c_1 => ?_) (fun c_1 => ?_)
  · refine post_bind (Q := fun r => InR r) (im_MO_fresher  h_M (inr_c rfl)) (fun q10 h_q10 => ?_)
    refine post_ite (fun c_2 => ?_) (fun c_2 => ?_)
    · exact post_some (inr_c rfl)
    · exact (im_MO_isFull_L44  h_M h_x1)
  · exact (im_MO_isFull_L44  h_M h_x1)
theorem im_MO_isFull_L14 {x1 : Int} {M : Mem}  (h_M : IM M) (h_x1 : InR x1) : Post (fun r => InR r) (t_MO_isFull_L14 x1 M) := by
  unfold t_MO_isFull_L14
  refine post_ite (fun c_1 => ?_) (fun c_1 => ?_)
  · refine post_bind (Q := fun r => InR r) (im_MO_fresher  h_M (inr_c rfl)) (fun q6 h_q6 => ?_)
    refine post_ite (fun c_2 => ?_) (fun c_2 => ?_)
    · exact post_some (inr_c rfl)
    · exact (im_MO_isFull_L29  h_M h_x1)
  · exact (im_MO_isFull_L29  h_M h_x1)
theorem im_MO_isFull {x1 : Int} {M : Mem}  (h_M : IM M) (h_x1 : InR x1) : Post (fun r => InR r) (t_MO_isFull M x1) := by
  unfold t_MO_isFull
  refine post_ite (fun c_1 => ?_) (fun c_1 => ?_)
  · refine post_bind (Q := fun r => InR r) (im_MO_fresher  h_M (inr_c rfl)) (fun q2 h_q2 => ?_)
    refine post_ite (fun c_2 => ?_) (fun c_2 => ?_)
    · exact post_some (inr_c rfl)
    · exact (im_MO_isFull_L14  h_M h_x1)
  · exact (im_MO_isFull_L14  h_M h_x1)
theorem im_MO_isTold {x1 : Int} {M : Mem} (h_M : IM M) (h_x1 : InR x1) : (fun r => InR r) (t_MO_isTold M x1) := by
  show Pl (fun r => InR r) (t_MO_isTold M x1)
  unfold t_MO_isTold
  refine pl_ite (fun c_1 => ?_) (fun c_1 => ?_)
  · exact (inr_c rfl)
  · exact (inr_c rfl)
theorem im_MO_wardLine_L57 {x1 : Int} {M : Mem}  (h_M : IM M) (h_x1 : InR x1) : Post (fun r => IM r) (t_MO_wardLine_L57 x1 M) := by
  unfold t_MO_wardLine_L57
  refine post_ite (fun c_1 => ?_) (fun c_1 => ?_)
  · refine post_guard (fun c_2 => ?_)
    refine post_let (fun M19 e_M19 => ?_)
    have h_M19 : IM M19 := by rw [e_M19]; exact IM.setI h_M (inr_w32 _)
    clear e_M19
    refine post_bind (Q := fun r => IM r) (im_MO_token  h_M19 ) (fun q20 h_q20 => ?_)
    refine post_bind (Q := fun r => IM r.1 ∧ InR r.2) (im_MO_numeral  h_q20 (inr_c rfl) (inr_c rfl)) (fun q22 h_q22 => ?_)
    refine post_guard (fun c_3 => ?_)
    refine post_let (fun M25 e_M25 => ?_)
    have h_M25 : IM M25 := by rw [e_M25]; exact IM.setI h_q22.1 h_q22.2
    clear e_M25
    refine post_bind (Q := fun r => InR r) (im_MO_fresher  h_M25 (inr_c rfl)) (fun q26 h_q26 => ?_)
    refine post_bind (Q := fun r => IM r) (im_MO_reads  h_M25 (inr_c rfl) (inr_w32 _)) (fun q28 h_q28 => ?_)
    exact post_some h_q28
  · exact post_some h_M
theorem im_MO_wardLine_L52 {x1 : Int} {M : Mem}  (h_M : IM M) (h_x1 : InR x1) : Post (fun r => IM r) (t_MO_wardLine_L52 x1 M) := by
  unfold t_MO_wardLine_L52
  refine post_let (fun q30 e_q30 => ?_)
  have h_q30 : (fun r => IM r) q30 := by rw [e_q30]; exact (im_MO_wrong  h_M (inr_c rfl))
  clear e_q30
  exact (im_MO_wardLine_L57  h_q30 h_x1)
theorem im_MO_wardLine {x1 : Int} {M : Mem}  (h_M : IM M) (h_x1 : InR x1) : Post (fun r => IM r) (t_MO_wardLine M x1) := by
  unfold t_MO_wardLine
  refine post_bind (Q := fun r => InR r) (im_MO_fresher  h_M (inr_c rfl)) (fun q1 h_q1 => ?_)
  refine post_bind (Q := fun r => IM r.1 ∧ InR r.2) (im_MO_fresh  h_M (inr_c rfl) h_q1) (fun q3 h_q3 => ?_)
  refine post_guard (fun c_1 => ?_)
  refine post_let (fun M6 e_M6 => ?_)
  have h_M6 : IM M6 := by rw [e_M6]; exact IM.setI h_q3.1 h_q3.2
  clear e_M6
  refine post_ite (fun c_2 => ?_) (fun c_2 => ?_)
  · refine post_ite (fun c_3 => ?_) (fun c_3 => ?_)
    · refine post_ite (fun c_4 => ?_) (fun c_4 => ?_)
      · exact (im_MO_wardLine_L52  h_M6 h_x1)
      · refine post_ite (fun c_5 => ?_) (fun c_5 => ?_)
        · exact (im_MO_wardLine_L57  h_M6 h_x1)
        · exact (im_MO_wardLine_L52  h_M6 h_x1)
    · exact (im_MO_wardLine_L52  h_M6 h_x1)
  · exact (im_MO_wardLine_L57  h_M6 h_x1)
theorem im_MO_partLine_L147 {bk137 : Mem → Int → Int → Int → Int → Int → Option (Mem)} (hbk137 : ∀ (a0_ : Mem) (a1_ : Int) (a2_ : Int) (a3_ : Int) (a4_ : Int) (a5_ : Int), IM a0_ → InR a1_ → InR a2_ → InR a3_ → InR a4_ → InR a5_ → Post (fun r => IM r) (bk137 a0_ a1_ a2_ a3_ a4_ a5_))  : ∀ (fu : Nat) (M : Mem) (v1_ : Int) (v2_ : Int) (v3_ : Int) (v4_ : Int) (v5_ : Int) (v6_ : Int), IM M → InR v1_ → InR v2_ → InR v3_ → InR v4_ → InR v5_ → InR v6_ → Post (fun r => IM r) (t_MO_partLine_L147 bk137 fu M v1_ v2_ v3_ v4_ v5_ v6_) := by
  intro fu
  induction fu with
  | zero => intro M v1_ v2_ v3_ v4_ v5_ v6_ h_M h_v1_ h_v2_ h_v3_ h_v4_ h_v5_ h_v6_; exact post_none
  | succ fu ih =>
    intro M v1_ v2_ v3_ v4_ v5_ v6_ h_M h_v1_ h_v2_ h_v3_ h_v4_ h_v5_ h_v6_
    rw [t_MO_partLine_L147]
    refine post_ite (fun c_1 => ?_) (fun c_1 => ?_)
    · exact hbk137 _ _ _ _ _ _  h_M h_v1_ h_v2_ h_v3_ h_v4_ (inr_w32 _)
    · refine post_bind (Q := fun r => InR r) (im_MO_fresher  h_M (inr_c rfl)) (fun q46 h_q46 => ?_)
      refine post_guard (fun c_2 => ?_)
      refine post_let (fun M49 e_M49 => ?_)
      have h_M49 : IM M49 := by rw [e_M49]; exact IM.setI h_M (inr_w32 _)
      clear e_M49
      exact (ih _ _ _ _ _ _ _ h_M49 h_v1_ h_v2_ h_v3_ h_v4_ h_v5_ (inr_w32 _))
theorem im_MO_partLine_L137    : ∀ (fu : Nat) (M : Mem) (v1_ : Int) (v2_ : Int) (v3_ : Int) (v4_ : Int) (v5_ : Int), IM M → InR v1_ → InR v2_ → InR v3_ → InR v4_ → InR v5_ → Post (fun r => IM r) (t_MO_partLine_L137  fu M v1_ v2_ v3_ v4_ v5_) := by
  intro fu
  induction fu with
  | zero => intro M v1_ v2_ v3_ v4_ v5_ h_M h_v1_ h_v2_ h_v3_ h_v4_ h_v5_; exact post_none
  | succ fu ih =>
    intro M v1_ v2_ v3_ v4_ v5_ h_M h_v1_ h_v2_ h_v3_ h_v4_ h_v5_
    rw [t_MO_partLine_L137]
    refine post_ite (fun c_1 => ?_) (fun c_1 => ?_)
    · refine post_bind (Q := fun r => InR r) (im_MO_fresher  h_M (inr_c rfl)) (fun q41 h_q41 => ?_)
      refine post_bind (Q := fun r => IM r) (im_MO_reads  h_M (inr_c rfl) (inr_w32 _)) (fun q43 h_q43 => ?_)
      exact post_some h_q43
    · exact (im_MO_partLine_L147 (fun a0_ a1_ a2_ a3_ a4_ a5_ h0_ h1_ h2_ h3_ h4_ h5_ => ih a0_ a1_ a2_ a3_ a4_ a5_ h0_ h1_ h2_ h3_ h4_ h5_)  _ _ _ _ _ _ _ _ h_M h_v1_ h_v2_ h_v3_ h_v4_ h_v5_ h_v2_)
theorem im_MO_partLine_L42  {M : Mem}  (h_M : IM M)  : Post (fun r => IM r) (t_MO_partLine_L42 M) := by
  unfold t_MO_partLine_L42
  refine post_ite (fun c_1 => ?_) (fun c_1 => ?_)
  · refine post_bind (Q := fun r => InR r) (im_MO_fresher  h_M (inr_c rfl)) (fun q15 h_q15 => ?_)
    refine post_bind (Q := fun r => InR r) (im_MO_found  h_M (inr_c rfl) h_q15 (h_M _ _)) (fun q18 h_q18 => ?_)
    refine post_bind (Q := fun r => IM r) (im_MO_token  h_M ) (fun q20 h_q20 => ?_)
    refine post_bind (Q := fun r => InR r) (im_MO_fresher  h_q20 (inr_c rfl)) (fun q22 h_q22 => ?_)
    refine post_bind (Q := fun r => IM r.1 ∧ InR r.2) (im_MO_numeral  h_q20 (inr_c rfl) (inr_w32 _)) (fun q24 h_q24 => ?_)
    refine post_bind (Q := fun r => InR r) (im_MO_fresher  h_q24.1 (inr_c rfl)) (fun q26 h_q26 => ?_)
    refine post_bind (Q := fun r => IM r.1 ∧ InR r.2) (im_MO_numeral  h_q24.1 (inr_c rfl) (inr_w32 _)) (fun q28 h_q28 => ?_)
    refine post_bind (Q := fun r => InR r) (im_MO_fresher  h_q28.1 (inr_c rfl)) (fun q30 h_q30 => ?_)
    refine post_bind (Q := fun r => IM r.1 ∧ InR r.2) (im_MO_numeral  h_q28.1 h_q24.2 (inr_w32 _)) (fun q32 h_q32 => ?_)
    refine post_bind (Q := fun r => InR r) (im_MO_fresher  h_q32.1 (inr_c rfl)) (fun q34 h_q34 => ?_)
    refine post_bind (Q := fun r => IM r.1 ∧ InR r.2) (im_MO_numeral  h_q32.1 h_q28.2 (inr_w32 _)) (fun q36 h_q36 => ?_)
    refine post_ite (fun c_2 => ?_) (fun c_2 => ?_)
    · exact (im_MO_partLine_L137   _ _ _ _ _ _ _ h_q36.1 h_q18 h_q24.2 h_q32.2 h_q36.2 h_q28.2)
    · exact post_some h_q36.1
  · exact post_some h_M
theorem im_MO_partLine  {M : Mem}  (h_M : IM M)  : Post (fun r => IM r) (t_MO_partLine M) := by
  unfold t_MO_partLine
  refine post_ite (fun c_1 => ?_) (fun c_1 => ?_)
  · refine post_bind (Q := fun r => InR r) (im_MO_fresher  h_M (inr_c rfl)) (fun q3 h_q3 => ?_)
    refine post_bind (Q := fun r => InR r) (im_MO_found  h_M (inr_c rfl) h_q3 (h_M _ _)) (fun q6 h_q6 => ?_)
    refine post_ite (fun c_2 => ?_) (fun c_2 => ?_)
    · refine post_let (fun q9 e_q9 => ?_)
      have h_q9 : (fun r => IM r) q9 := by rw [e_q9]; exact (im_MO_wrong  h_M (inr_c rfl))
      clear e_q9
      exact (im_MO_partLine_L42  h_q9 )
    · exact (im_MO_partLine_L42  h_M )
  · refine post_let (fun q11 e_q11 => ?_)
    have h_q11 : (fun r => IM r) q11 := by rw [e_q11]; exact (im_MO_wrong  h_M (inr_c rfl))
    clear e_q11
    exact (im_MO_partLine_L42  h_q11 )
theorem im_MO_hasThing_L2 {x1 : Int}  (h_x1 : InR x1) : ∀ (fu : Nat) (M : Mem) (v2_ : Int), IM M → InR v2_ → Post (fun r => InR r) (t_MO_hasThing_L2 x1 fu M v2_) := by
  intro fu
  induction fu with
  | zero => intro M v2_ h_M h_v2_; exact post_none
  | succ fu ih =>
    intro M v2_ h_M h_v2_
    rw [t_MO_hasThing_L2]
    refine post_bind (Q := fun r => InR r) (im_MO_fresher  h_M (inr_c rfl)) (fun q1 h_q1 => ?_)
    refine post_ite (fun c_1 => ?_) (fun c_1 => ?_)
    · exact post_some (inr_c rfl)
    · refine post_guard (fun c_2 => ?_)
      refine post_ite (fun c_3 => ?_) (fun c_3 => ?_)
      · exact post_some (inr_c rfl)
      · exact (ih _ _ h_M (inr_w32 _))
theorem im_MO_hasThing {x1 : Int} {M : Mem}  (h_M : IM M) (h_x1 : InR x1) : Post (fun r => InR r) (t_MO_hasThing M x1) := by
  unfold t_MO_hasThing
  exact (im_MO_hasThing_L2  h_x1 _ _ _ h_M (inr_c rfl))
theorem im_MO_wallLine_L61 {v1_ : Int} {M : Mem}  (h_M : IM M) (h_v1_ : InR v1_) : Post (fun r => IM r) (t_MO_wallLine_L61 M v1_) := by
  unfold t_MO_wallLine_L61
  refine post_ite (fun c_1 => ?_) (fun c_1 => ?_)
  · refine post_guard (fun c_2 => ?_)
    refine post_let (fun M21 e_M21 => ?_)
    have h_M21 : IM M21 := by rw [e_M21]; exact IM.setI h_M (inr_c rfl)
    clear e_M21
    refine post_bind (Q := fun r => InR r) (im_MO_fresher  h_M21 (inr_c rfl)) (fun q22 h_q22 => ?_)
    refine post_bind (Q := fun r => IM r) (im_MO_reads  h_M21 (inr_c rfl) (inr_w32 _)) (fun q24 h_q24 => ?_)
    refine post_bind (Q := fun r => IM r) (im_MO_token  h_q24 ) (fun q26 h_q26 => ?_)
    exact post_some h_q26
  · exact post_some h_M
theorem im_MO_wallLine_L56 {v1_ : Int} {M : Mem}  (h_M : IM M) (h_v1_ : InR v1_) : Post (fun r => IM r) (t_MO_wallLine_L56 M v1_) := by
  unfold t_MO_wallLine_L56
  refine post_let (fun q28 e_q28 => ?_)
  have h_q28 : (fun r => IM r) q28 := by rw [e_q28]; exact (im_MO_wrong  h_M (inr_c rfl))
  clear e_q28
  exact (im_MO_wallLine_L61  h_q28 h_v1_)
theorem im_MO_wallLine_L29 {v1_ : Int} {M : Mem}  (h_M : IM M) (h_v1_ : InR v1_) : Post (fun r => IM r) (t_MO_wallLine_L29 M v1_) := by
  unfold t_MO_wallLine_L29
  refine post_ite (fun c_1 => ?_) (fun c_1 => ?_)
  · refine post_guard (fun c_2 => ?_)
    refine post_ite (fun c_3 => ?_) (fun c_3 => ?_)
    · refine post_bind (Q := fun r => InR r) (im_MO_hasThing  h_M h_v1_) (fun q15 h_q15 => ?_)
      refine post_ite (fun c_4 => ?_) (fun c_4 => ?_)
      · exact (im_MO_wallLine_L61  h_M h_v1_)
      · exact (im_MO_wallLine_L56  h_M h_v1_)
    · exact (im_MO_wallLine_L56  h_M h_v1_)
  · exact (im_MO_wallLine_L61  h_M h_v1_)
theorem im_MO_wallLine  {M : Mem}  (h_M : IM M)  : Post (fun r => IM r) (t_MO_wallLine M) := by
  unfold t_MO_wallLine
  refine post_bind (Q := fun r => IM r.1 ∧ InR r.2) (im_MO_cellAtHand  h_M ) (fun q1 h_q1 => ?_)
  refine post_ite (fun c_1 => ?_) (fun c_1 => ?_)
  · refine post_guard (fun c_2 => ?_)
    refine post_ite (fun c_3 => ?_) (fun c_3 => ?_)
    · exact (im_MO_wallLine_L29  h_q1.1 h_q1.2)
    · refine post_let (fun q8 e_q8 => ?_)
      have h_q8 : (fun r => IM r) q8 := by rw [e_q8]; exact (im_MO_wrong  h_q1.1 (inr_c rfl))
      clear e_q8
      exact (im_MO_wallLine_L29  h_q8 h_q1.2)
  · exact (im_MO_wallLine_L29  h_q1.1 h_q1.2)
theorem im_MO_stairLine_L53 {v1_ : Int} {M : Mem}  (h_M : IM M) (h_v1_ : InR v1_) : Post (fun r => IM r) (t_MO_stairLine_L53 M v1_) := by
  unfold t_MO_stairLine_L53
  refine post_ite (fun c_1 => ?_) (fun c_1 => ?_)
  · refine post_guard (fun c_2 => ?_)
    refine post_let (fun M20 e_M20 => ?_)
    have h_M20 : IM M20 := by rw [e_M20]; exact IM.setI h_M (inr_c rfl)
    clear e_M20
    refine post_bind (Q := fun r => InR r) (im_MO_fresher  h_M20 (inr_c rfl)) (fun q21 h_q21 => ?_)
    refine post_bind (Q := fun r => IM r) (im_MO_reads  h_M20 (inr_c rfl) (inr_w32 _)) (fun q23 h_q23 => ?_)
    refine post_bind (Q := fun r => IM r) (im_MO_token  h_q23 ) (fun q25 h_q25 => ?_)
    exact post_some h_q25
  · exact post_some h_M
theorem im_MO_stairLine_L29 {v1_ : Int} {M : Mem}  (h_M : IM M) (h_v1_ : InR v1_) : Post (fun r => IM r) (t_MO_stairLine_L29 M v1_) := by
  unfold t_MO_stairLine_L29
  refine post_ite (fun c_1 => ?_) (fun c_1 => ?_)
  · refine post_guard (fun c_2 => ?_)
    refine post_ite (fun c_3 => ?_) (fun c_3 => ?_)
    · exact (im_MO_stairLine_L53  h_M h_v1_)
    · refine post_let (fun q15 e_q15 => ?_)
      have h_q15 : (fun r => IM r) q15 := by rw [e_q15]; exact (im_MO_wrong  h_M (inr_c rfl))
      clear e_q15
      exact (im_MO_stairLine_L53  h_q15 h_v1_)
  · exact (im_MO_stairLine_L53  h_M h_v1_)
theorem im_MO_stairLine  {M : Mem}  (h_M : IM M)  : Post (fun r => IM r) (t_MO_stairLine M) := by
  unfold t_MO_stairLine
  refine post_bind (Q := fun r => IM r.1 ∧ InR r.2) (im_MO_cellAtHand  h_M ) (fun q1 h_q1 => ?_)
  refine post_ite (fun c_1 => ?_) (fun c_1 => ?_)
  · refine post_guard (fun c_2 => ?_)
    refine post_ite (fun c_3 => ?_) (fun c_3 => ?_)
    · exact (im_MO_stairLine_L29  h_q1.1 h_q1.2)
    · refine post_let (fun q8 e_q8 => ?_)
      have h_q8 : (fun r => IM r) q8 := by rw [e_q8]; exact (im_MO_wrong  h_q1.1 (inr_c rfl))
      clear e_q8
      exact (im_MO_stairLine_L29  h_q8 h_q1.2)
  · exact (im_MO_stairLine_L29  h_q1.1 h_q1.2)
theorem im_MO_thingLine_L72 {x1 : Int} {v2_ : Int} {M : Mem}  (h_M : IM M) (h_x1 : InR x1) (h_v2_ : InR v2_) : Post (fun r => IM r) (t_MO_thingLine_L72 x1 M v2_) := by
  unfold t_MO_thingLine_L72
  refine post_ite (fun c_1 => ?_) (fun c_1 => ?_)
  · refine post_guard (fun c_2 => ?_)
    refine post_let (fun M24 e_M24 => ?_)
    have h_M24 : IM M24 := by rw [e_M24]; exact IM.setI h_M h_v2_
    clear e_M24
    refine post_bind (Q := fun r => InR r) (im_MO_fresher  h_M24 (inr_c rfl)) (fun q25 h_q25 => ?_)
    refine post_bind (Q := fun r => IM r) (im_MO_reads  h_M24 (inr_c rfl) (inr_w32 _)) (fun q27 h_q27 => ?_)
    refine post_bind (Q := fun r => IM r) (im_MO_token  h_q27 ) (fun q29 h_q29 => ?_)
    exact post_some h_q29
  · exact post_some h_M
theorem im_MO_thingLine_L67 {x1 : Int} {v2_ : Int} {M : Mem}  (h_M : IM M) (h_x1 : InR x1) (h_v2_ : InR v2_) : Post (fun r => IM r) (t_MO_thingLine_L67 x1 M v2_) := by
  unfold t_MO_thingLine_L67
  refine post_let (fun q31 e_q31 => ?_)
  have h_q31 : (fun r => IM r) q31 := by rw [e_q31]; exact (im_MO_wrong  h_M (inr_c rfl))
  clear e_q31
  exact (im_MO_thingLine_L72  h_q31 h_x1 h_v2_)
theorem im_MO_thingLine {x1 : Int} {M : Mem}  (h_M : IM M) (h_x1 : InR x1) : Post (fun r => IM r) (t_MO_thingLine M x1) := by
  unfold t_MO_thingLine
  refine post_bind (Q := fun r => InR r) (im_MO_fresher  h_M (inr_c rfl)) (fun q1 h_q1 => ?_)
  refine post_bind (Q := fun r => IM r.1 ∧ InR r.2) (im_MO_fresh  h_M (inr_c rfl) h_q1) (fun q3 h_q3 => ?_)
  refine post_guard (fun c_1 => ?_)
  refine post_let (fun M6 e_M6 => ?_)
  have h_M6 : IM M6 := by rw [e_M6]; exact IM.setI h_q3.1 h_q3.2
  clear e_M6
  refine post_bind (Q := fun r => IM r.1 ∧ InR r.2) (im_MO_numeral  h_M6 (inr_c rfl) (inr_c rfl)) (fun q7 h_q7 => ?_)
  refine post_guard (fun c_2 => ?_)
  refine post_let (fun M10 e_M10 => ?_)
  have h_M10 : IM M10 := by rw [e_M10]; exact IM.setI h_q7.1 h_q7.2
  clear e_M10
  refine post_bind (Q := fun r => IM r.1 ∧ InR r.2) (im_MO_cellAtHand  h_M10 ) (fun q11 h_q11 => ?_)
  refine post_ite (fun c_3 => ?_) (fun c_3 => ?_)
  · refine post_guard (fun c_4 => ?_)
    refine post_ite (fun c_5 => ?_) (fun c_5 => ?_)
    · refine post_bind (Q := fun r => InR r) (im_MO_hasThing  h_q11.1 h_q11.2) (fun q18 h_q18 => ?_)
      refine post_ite (fun c_6 => ?_) (fun c_6 => ?_)
      · exact (im_MO_thingLine_L72  h_q11.1 h_x1 h_q11.2)
      · exact (im_MO_thingLine_L67  h_q11.1 h_x1 h_q11.2)
    · exact (im_MO_thingLine_L67  h_q11.1 h_x1 h_q11.2)
  · exact (im_MO_thingLine_L72  h_q11.1 h_x1 h_q11.2)
theorem im_MO_knot  {M : Mem} (h_M : IM M)  : (fun r => IM r) (t_MO_knot M) := by
  show Pl (fun r => IM r) (t_MO_knot M)
  unfold t_MO_knot
  refine pl_ite (fun c_1 => ?_) (fun c_1 => ?_)
  · refine pl_ite (fun c_2 => ?_) (fun c_2 => ?_)
    · refine pl_let (fun q7 e_q7 => ?_)
      have h_q7 : (fun r => IM r) q7 := by rw [e_q7]; exact (im_MO_wrong  h_M (inr_c rfl))
      clear e_q7
      exact h_q7
    · refine pl_let (fun M6 e_M6 => ?_)
      have h_M6 : IM M6 := by rw [e_M6]; exact IM.setI h_M (inr_w32 _)
      clear e_M6
      exact h_M6
  · exact h_M
theorem im_MO_puts {x1 : Int} {x2 : Int} {M : Mem}  (h_M : IM M) (h_x1 : InR x1) (h_x2 : InR x2) : Post (fun r => IM r) (t_MO_puts M x1 x2) := by
  unfold t_MO_puts
  refine post_ite (fun c_1 => ?_) (fun c_1 => ?_)
  · refine post_bind (Q := fun r => InR r) (im_MO_fresher  h_M (inr_c rfl)) (fun q3 h_q3 => ?_)
    refine post_guard (fun c_2 => ?_)
    refine post_let (fun M6 e_M6 => ?_)
    have h_M6 : IM M6 := by rw [e_M6]; exact IM.setI h_M h_x1
    clear e_M6
    refine post_bind (Q := fun r => InR r) (im_MO_fresher  h_M6 (inr_c rfl)) (fun q7 h_q7 => ?_)
    refine post_guard (fun c_3 => ?_)
    refine post_let (fun M10 e_M10 => ?_)
    have h_M10 : IM M10 := by rw [e_M10]; exact IM.setI h_M6 h_x2
    clear e_M10
    refine post_bind (Q := fun r => InR r) (im_MO_fresher  h_M10 (inr_c rfl)) (fun q11 h_q11 => ?_)
    refine post_bind (Q := fun r => IM r) (im_MO_reads  h_M10 (inr_c rfl) (inr_w32 _)) (fun q13 h_q13 => ?_)
    exact post_some h_q13
  · exact post_some h_M
theorem im_MO_primary_L78 {rc : Nat → Mem → Option Mem} {M : Mem} (hrc : ∀ (i_ : Nat) (M_ : Mem), IM M_ → Post (fun r => IM r) (rc i_ M_)) (h_M : IM M)  : Post (fun r => IM r) (t_MO_primary_L78 rc M) := by
  unfold t_MO_primary_L78
  refine post_ite (fun c_1 => ?_) (fun c_1 => ?_)
  · refine post_let (fun M43 e_M43 => ?_)
    have h_M43 : IM M43 := by rw [e_M43]; exact IM.setI h_M (inr_w32 _)
    clear e_M43
    refine post_bind (Q := fun r => IM r) (im_MO_token  h_M43 ) (fun q44 h_q44 => ?_)
    exact post_some h_q44
  · exact post_some h_M
theorem im_MO_primary_L31 {rc : Nat → Mem → Option Mem} {M : Mem} (hrc : ∀ (i_ : Nat) (M_ : Mem), IM M_ → Post (fun r => IM r) (rc i_ M_)) (h_M : IM M)  : Post (fun r => IM r) (t_MO_primary_L31 rc M) := by
  unfold t_MO_primary_L31
  refine post_ite (fun c_1 => ?_) (fun c_1 => ?_)
  · refine post_let (fun M20 e_M20 => ?_)
    have h_M20 : IM M20 := by rw [e_M20]; exact IM.setI h_M (inr_w32 _)
    clear e_M20
    refine post_bind (Q := fun r => IM r) (im_MO_token  h_M20 ) (fun q21 h_q21 => ?_)
    refine post_bind (Q := fun r => IM r) (hrc _ _ h_q21) (fun q23 h_q23 => ?_)
    refine post_ite (fun c_2 => ?_) (fun c_2 => ?_)
    · refine post_let (fun q27 e_q27 => ?_)
      have h_q27 : (fun r => InR r) q27 := by rw [e_q27]; exact (im_MO_isSign  h_q23 (inr_c rfl))
      clear e_q27
      refine post_ite (fun c_3 => ?_) (fun c_3 => ?_)
      · refine post_let (fun q30 e_q30 => ?_)
        have h_q30 : (fun r => IM r) q30 := by rw [e_q30]; exact (im_MO_wrong  h_q23 (inr_c rfl))
        clear e_q30
        exact (im_MO_primary_L78 hrc h_q30 )
      · exact (im_MO_primary_L78 hrc h_q23 )
    · exact (im_MO_primary_L78 hrc h_q23 )
  · exact post_some h_M
theorem im_MO_primary_L194 {rc : Nat → Mem → Option Mem} {v2_ : Int} {v3_ : Int} {M : Mem} (hrc : ∀ (i_ : Nat) (M_ : Mem), IM M_ → Post (fun r => IM r) (rc i_ M_)) (h_M : IM M) (h_v2_ : InR v2_) (h_v3_ : InR v3_) : Post (fun r => IM r) (t_MO_primary_L194 rc M v2_ v3_) := by
  unfold t_MO_primary_L194
  refine post_bind (Q := fun r => IM r) (im_MO_puts  h_M h_v2_ h_v3_) (fun q51 h_q51 => ?_)
  refine post_bind (Q := fun r => IM r) (im_MO_goOn  h_q51 ) (fun q53 h_q53 => ?_)
  exact post_some h_q53
theorem im_MO_primary_L176 {rc : Nat → Mem → Option Mem} {v1_ : Int} {v3_ : Int} {M : Mem} (hrc : ∀ (i_ : Nat) (M_ : Mem), IM M_ → Post (fun r => IM r) (rc i_ M_)) (h_M : IM M) (h_v1_ : InR v1_) (h_v3_ : InR v3_) : Post (fun r => IM r) (t_MO_primary_L176 rc M v1_ v3_) := by
  unfold t_MO_primary_L176
  refine post_ite (fun c_1 => ?_) (fun c_1 => ?_)
  · exact (im_MO_primary_L194 hrc h_M h_v3_ (inr_w32 _))
  · exact (im_MO_primary_L194 hrc h_M h_v3_ (h_M _ _))
theorem im_MO_primary_L162 {rc : Nat → Mem → Option Mem} {v1_ : Int} {M : Mem} (hrc : ∀ (i_ : Nat) (M_ : Mem), IM M_ → Post (fun r => IM r) (rc i_ M_)) (h_M : IM M) (h_v1_ : InR v1_) : Post (fun r => IM r) (t_MO_primary_L162 rc M v1_) := by
  unfold t_MO_primary_L162
  refine post_let (fun q37 e_q37 => ?_)
  have h_q37 : (fun r => IM r) q37 := by rw [e_q37]; exact (im_MO_knot  h_M )
  clear e_q37
  refine post_ite (fun c_1 => ?_) (fun c_1 => ?_)
  · exact (im_MO_primary_L176 hrc h_q37 h_v1_ (inr_c rfl))
  · exact (im_MO_primary_L176 hrc h_q37 h_v1_ (inr_c rfl))
theorem im_MO_primary_L157 {rc : Nat → Mem → Option Mem} {v1_ : Int} {M : Mem} (hrc : ∀ (i_ : Nat) (M_ : Mem), IM M_ → Post (fun r => IM r) (rc i_ M_)) (h_M : IM M) (h_v1_ : InR v1_) : Post (fun r => IM r) (t_MO_primary_L157 rc M v1_) := by
  unfold t_MO_primary_L157
  refine post_let (fun q46 e_q46 => ?_)
  have h_q46 : (fun r => IM r) q46 := by rw [e_q46]; exact (im_MO_wrong  h_M (inr_c rfl))
  clear e_q46
  exact (im_MO_primary_L162 hrc h_q46 h_v1_)
theorem im_MO_primary_L137 {rc : Nat → Mem → Option Mem} {v1_ : Int} {M : Mem} (hrc : ∀ (i_ : Nat) (M_ : Mem), IM M_ → Post (fun r => IM r) (rc i_ M_)) (h_M : IM M) (h_v1_ : InR v1_) : Post (fun r => IM r) (t_MO_primary_L137 rc M v1_) := by
  unfold t_MO_primary_L137
  refine post_ite (fun c_1 => ?_) (fun c_1 => ?_)
  · refine post_ite (fun c_2 => ?_) (fun c_2 => ?_)
    · refine post_ite (fun c_3 => ?_) (fun c_3 => ?_)
      · exact (im_MO_primary_L162 hrc h_M h_v1_)
      · exact (im_MO_primary_L157 hrc h_M h_v1_)
    · exact (im_MO_primary_L157 hrc h_M h_v1_)
  · exact (im_MO_primary_L162 hrc h_M h_v1_)
theorem im_MO_primary_L114 {rc : Nat → Mem → Option Mem} {v1_ : Int} {M : Mem} (hrc : ∀ (i_ : Nat) (M_ : Mem), IM M_ → Post (fun r => IM r) (rc i_ M_)) (h_M : IM M) (h_v1_ : InR v1_) : Post (fun r => IM r) (t_MO_primary_L114 rc M v1_) := by
  unfold t_MO_primary_L114
  refine post_ite (fun c_1 => ?_) (fun c_1 => ?_)
  · exact (im_MO_primary_L137 hrc h_M h_v1_)
  · refine post_ite (fun c_2 => ?_) (fun c_2 => ?_)
    · exact (im_MO_primary_L137 hrc h_M h_v1_)
    · refine post_let (fun q15 e_q15 => ?_)
      have h_q15 : (fun r => IM r) q15 := by rw [e_q15]; exact (im_MO_wrong  h_M (inr_c rfl))
      clear e_q15
      exact (im_MO_primary_L162 hrc h_q15 h_v1_)
theorem im_MO_primary_B {rc : Nat → Mem → Option Mem} {M : Mem} (hrc : ∀ (i_ : Nat) (M_ : Mem), IM M_ → Post (fun r => IM r) (rc i_ M_)) (h_M : IM M)  : Post (fun r => IM r) (t_MO_primary_B M rc) := by
  unfold t_MO_primary_B
  refine post_ite (fun c_1 => ?_) (fun c_1 => ?_)
  · refine post_let (fun q3 e_q3 => ?_)
    have h_q3 : (fun r => InR r) q3 := by rw [e_q3]; exact (im_MO_isSign  h_M (inr_c rfl))
    clear e_q3
    refine post_ite (fun c_2 => ?_) (fun c_2 => ?_)
    · refine post_ite (fun c_3 => ?_) (fun c_3 => ?_)
      · exact (im_MO_primary_L114 hrc h_M (inr_c rfl))
      · exact (im_MO_primary_L114 hrc h_M (inr_c rfl))
    · refine post_ite (fun c_4 => ?_) (fun c_4 => ?_)
      · refine post_let (fun q10 e_q10 => ?_)
        have h_q10 : (fun r => IM r) q10 := by rw [e_q10]; exact (im_MO_wrong  h_M (inr_c rfl))
        clear e_q10
        exact (im_MO_primary_L31 hrc h_q10 )
      · exact (im_MO_primary_L31 hrc h_M )
  · exact post_some h_M
theorem im_MO_product_L22 {rc : Nat → Mem → Option Mem} {bk4 : Mem → Option (Mem)} {M : Mem} (hrc : ∀ (i_ : Nat) (M_ : Mem), IM M_ → Post (fun r => IM r) (rc i_ M_)) (hbk4 : ∀ (a0_ : Mem), IM a0_ → Post (fun r => IM r) (bk4 a0_)) (h_M : IM M)  : Post (fun r => IM r) (t_MO_product_L22 rc bk4 M) := by
  unfold t_MO_product_L22
  refine post_let (fun q10 e_q10 => ?_)
  have h_q10 : (fun r => IM r) q10 := by rw [e_q10]; exact (im_MO_knot  h_M )
  clear e_q10
  refine post_bind (Q := fun r => IM r) (im_MO_goOn  h_q10 ) (fun q12 h_q12 => ?_)
  refine post_bind (Q := fun r => IM r) (hrc _ _ h_q12) (fun q14 h_q14 => ?_)
  refine post_bind (Q := fun r => IM r) (im_MO_puts  h_q14 (inr_c rfl) (h_M _ _)) (fun q16 h_q16 => ?_)
  exact hbk4 _  h_q16
theorem im_MO_product_L4 {rc : Nat → Mem → Option Mem} (hrc : ∀ (i_ : Nat) (M_ : Mem), IM M_ → Post (fun r => IM r) (rc i_ M_))  : ∀ (fu : Nat) (M : Mem) , IM M → Post (fun r => IM r) (t_MO_product_L4 rc fu M ) := by
  intro fu
  induction fu with
  | zero => intro M  h_M; exact post_none
  | succ fu ih =>
    intro M  h_M
    rw [t_MO_product_L4]
    refine post_let (fun q3 e_q3 => ?_)
    have h_q3 : (fun r => InR r) q3 := by rw [e_q3]; exact (im_MO_isSign  h_M (inr_c rfl))
    clear e_q3
    refine post_ite (fun c_1 => ?_) (fun c_1 => ?_)
    · refine post_let (fun q6 e_q6 => ?_)
      have h_q6 : (fun r => InR r) q6 := by rw [e_q6]; exact (im_MO_isSign  h_M (inr_c rfl))
      clear e_q6
      refine post_ite (fun c_2 => ?_) (fun c_2 => ?_)
      · exact post_some h_M
      · exact (im_MO_product_L22 hrc (fun a0_ h0_ => ih a0_ h0_) h_M )
    · exact (im_MO_product_L22 hrc (fun a0_ h0_ => ih a0_ h0_) h_M )
theorem im_MO_product_B {rc : Nat → Mem → Option Mem} {M : Mem} (hrc : ∀ (i_ : Nat) (M_ : Mem), IM M_ → Post (fun r => IM r) (rc i_ M_)) (h_M : IM M)  : Post (fun r => IM r) (t_MO_product_B M rc) := by
  unfold t_MO_product_B
  refine post_bind (Q := fun r => IM r) (hrc _ _ h_M) (fun q1 h_q1 => ?_)
  exact (im_MO_product_L4 hrc  _ _ h_q1 )
theorem im_MO_sum_L22 {rc : Nat → Mem → Option Mem} {bk4 : Mem → Option (Mem)} {M : Mem} (hrc : ∀ (i_ : Nat) (M_ : Mem), IM M_ → Post (fun r => IM r) (rc i_ M_)) (hbk4 : ∀ (a0_ : Mem), IM a0_ → Post (fun r => IM r) (bk4 a0_)) (h_M : IM M)  : Post (fun r => IM r) (t_MO_sum_L22 rc bk4 M) := by
  unfold t_MO_sum_L22
  refine post_let (fun q10 e_q10 => ?_)
  have h_q10 : (fun r => IM r) q10 := by rw [e_q10]; exact (im_MO_knot  h_M )
  clear e_q10
  refine post_bind (Q := fun r => IM r) (im_MO_goOn  h_q10 ) (fun q12 h_q12 => ?_)
  refine post_bind (Q := fun r => IM r) (hrc _ _ h_q12) (fun q14 h_q14 => ?_)
  refine post_bind (Q := fun r => IM r) (im_MO_puts  h_q14 (inr_c rfl) (h_M _ _)) (fun q16 h_q16 => ?_)
  exact hbk4 _  h_q16
theorem im_MO_sum_L4 {rc : Nat → Mem → Option Mem} (hrc : ∀ (i_ : Nat) (M_ : Mem), IM M_ → Post (fun r => IM r) (rc i_ M_))  : ∀ (fu : Nat) (M : Mem) , IM M → Post (fun r => IM r) (t_MO_sum_L4 rc fu M ) := by
  intro fu
  induction fu with
  | zero => intro M  h_M; exact post_none
  | succ fu ih =>
    intro M  h_M
    rw [t_MO_sum_L4]
    refine post_let (fun q3 e_q3 => ?_)
    have h_q3 : (fun r => InR r) q3 := by rw [e_q3]; exact (im_MO_isSign  h_M (inr_c rfl))
    clear e_q3
    refine post_ite (fun c_1 => ?_) (fun c_1 => ?_)
    · refine post_let (fun q6 e_q6 => ?_)
      have h_q6 : (fun r => InR r) q6 := by rw [e_q6]; exact (im_MO_isSign  h_M (inr_c rfl))
      clear e_q6
      refine post_ite (fun c_2 => ?_) (fun c_2 => ?_)
      · exact post_some h_M
      · exact (im_MO_sum_L22 hrc (fun a0_ h0_ => ih a0_ h0_) h_M )
    · exact (im_MO_sum_L22 hrc (fun a0_ h0_ => ih a0_ h0_) h_M )
theorem im_MO_sum_B {rc : Nat → Mem → Option Mem} {M : Mem} (hrc : ∀ (i_ : Nat) (M_ : Mem), IM M_ → Post (fun r => IM r) (rc i_ M_)) (h_M : IM M)  : Post (fun r => IM r) (t_MO_sum_B M rc) := by
  unfold t_MO_sum_B
  refine post_bind (Q := fun r => IM r) (hrc _ _ h_M) (fun q1 h_q1 => ?_)
  exact (im_MO_sum_L4 hrc  _ _ h_q1 )
theorem im_MO_negation_L87 {rc : Nat → Mem → Option Mem} {M : Mem} (hrc : ∀ (i_ : Nat) (M_ : Mem), IM M_ → Post (fun r => IM r) (rc i_ M_)) (h_M : IM M)  : Post (fun r => IM r) (t_MO_negation_L87 rc M) := by
  unfold t_MO_negation_L87
  refine post_let (fun q27 e_q27 => ?_)
  have h_q27 : (fun r => IM r) q27 := by rw [e_q27]; exact (im_MO_knot  h_M )
  clear e_q27
  refine post_bind (Q := fun r => IM r) (im_MO_goOn  h_q27 ) (fun q29 h_q29 => ?_)
  refine post_bind (Q := fun r => IM r) (hrc _ _ h_q29) (fun q31 h_q31 => ?_)
  refine post_bind (Q := fun r => IM r) (im_MO_puts  h_q31 (inr_c rfl) (h_M _ _)) (fun q33 h_q33 => ?_)
  exact post_some h_q33
end
