section
/-! ints in range: the reference -/
theorem im_MO_works_L397 {x1 : Int} {M : Mem}  (h_M : IM M) (h_x1 : InR x1) : Post (fun r => IM r.1 ∧ InR r.2) (t_MO_works_L397 x1 M) := by
  unfold t_MO_works_L397
  exact (im_MO_works_L402  h_M h_x1 (inr_c rfl))
theorem im_MO_works {x1 : Int} {M : Mem}  (h_M : IM M) (h_x1 : InR x1) : Post (fun r => IM r.1 ∧ InR r.2) (t_MO_works M x1) := by
  unfold t_MO_works
  refine post_guard (fun c_1 => ?_)
  refine post_ite (fun c_2 => ?_) (fun c_2 => ?_)
  · refine post_ite (fun c_3 => ?_) (fun c_3 => ?_)
    · exact (im_MO_works_L40  h_M h_x1 (inr_w32 _) (inr_c rfl))
    · exact (im_MO_works_L40  h_M h_x1 (inr_w32 _) (inr_c rfl))
  · refine post_guard (fun c_4 => ?_)
    refine post_let (fun M7 e_M7 => ?_)
    have h_M7 : IM M7 := by rw [e_M7]; exact IM.setI h_M (inr_w32 _)
    clear e_M7
    refine post_ite (fun c_5 => ?_) (fun c_5 => ?_)
    · refine post_ite (fun c_6 => ?_) (fun c_6 => ?_)
      · exact (im_MO_works_L212  h_M7 h_x1)
      · refine post_ite (fun c_7 => ?_) (fun c_7 => ?_)
        · exact post_none
        · refine post_ite (fun c_8 => ?_) (fun c_8 => ?_)
          · exact (im_MO_works_L212  h_M7 h_x1)
          · exact post_some ⟨h_M7, (inr_c rfl)⟩
    · refine post_ite (fun c_9 => ?_) (fun c_9 => ?_)
      · exact (im_MO_works_L407  h_M7 h_x1)
      · refine post_ite (fun c_10 => ?_) (fun c_10 => ?_)
        · exact (im_MO_works_L407  h_M7 h_x1)
        · refine post_ite (fun c_11 => ?_) (fun c_11 => ?_)
          · refine post_ite (fun c_12 => ?_) (fun c_12 => ?_)
            · exact post_some ⟨h_M7, (inr_c rfl)⟩
            · exact (im_MO_works_L407  h_M7 h_x1)
          · refine post_ite (fun c_13 => ?_) (fun c_13 => ?_)
            · refine post_ite (fun c_14 => ?_) (fun c_14 => ?_)
              · exact (im_MO_works_L250  h_M7 h_x1 (inr_c rfl))
              · exact (im_MO_works_L250  h_M7 h_x1 (inr_c rfl))
            · refine post_ite (fun c_15 => ?_) (fun c_15 => ?_)
              · refine post_ite (fun c_16 => ?_) (fun c_16 => ?_)
                · exact (im_MO_works_L290  h_M7 h_x1 (inr_c rfl))
                · exact (im_MO_works_L290  h_M7 h_x1 (inr_c rfl))
              · refine post_ite (fun c_17 => ?_) (fun c_17 => ?_)
                · refine post_ite (fun c_18 => ?_) (fun c_18 => ?_)
                  · exact (im_MO_works_L270  h_M7 h_x1 (inr_c rfl))
                  · exact (im_MO_works_L270  h_M7 h_x1 (inr_c rfl))
                · refine post_ite (fun c_19 => ?_) (fun c_19 => ?_)
                  · refine post_ite (fun c_20 => ?_) (fun c_20 => ?_)
                    · exact (im_MO_works_L310  h_M7 h_x1 (inr_c rfl))
                    · exact (im_MO_works_L310  h_M7 h_x1 (inr_c rfl))
                  · refine post_ite (fun c_21 => ?_) (fun c_21 => ?_)
                    · refine post_ite (fun c_22 => ?_) (fun c_22 => ?_)
                      · exact (im_MO_works_L350  h_M7 h_x1 (inr_c rfl))
                      · exact (im_MO_works_L350  h_M7 h_x1 (inr_c rfl))
                    · refine post_ite (fun c_23 => ?_) (fun c_23 => ?_)
                      · refine post_ite (fun c_24 => ?_) (fun c_24 => ?_)
                        · exact (im_MO_works_L330  h_M7 h_x1 (inr_c rfl))
                        · exact (im_MO_works_L330  h_M7 h_x1 (inr_c rfl))
                      · refine post_ite (fun c_25 => ?_) (fun c_25 => ?_)
                        · refine post_ite (fun c_26 => ?_) (fun c_26 => ?_)
                          · exact (im_MO_works_L375  h_M7 h_x1)
                          · refine post_ite (fun c_27 => ?_) (fun c_27 => ?_)
                            · exact (im_MO_works_L375  h_M7 h_x1)
                            · exact (im_MO_works_L376  h_M7 h_x1 (inr_c rfl))
                        · refine post_ite (fun c_28 => ?_) (fun c_28 => ?_)
                          · refine post_ite (fun c_29 => ?_) (fun c_29 => ?_)
                            · exact (im_MO_works_L402  h_M7 h_x1 (inr_c rfl))
                            · exact (im_MO_works_L397  h_M7 h_x1)
                          · exact (im_MO_works_L397  h_M7 h_x1)
theorem im_MO_goes_L96 {x1 : Int} {bk12 : Mem → Int → Option (Mem × Int)} {v2_ : Int} {M : Mem} (hbk12 : ∀ (a0_ : Mem) (a1_ : Int), IM a0_ → InR a1_ → Post (fun r => IM r.1 ∧ InR r.2) (bk12 a0_ a1_)) (h_M : IM M) (h_x1 : InR x1) (h_v2_ : InR v2_) : Post (fun r => IM r.1 ∧ InR r.2) (t_MO_goes_L96 x1 bk12 M v2_) := by
  unfold t_MO_goes_L96
  exact hbk12 _ _  h_M (inr_w32 _)
theorem im_MO_goes_L85 {x1 : Int} {bk12 : Mem → Int → Option (Mem × Int)} {v2_ : Int} {v4_ : Int} {v5_ : Int64} {M : Mem} (hbk12 : ∀ (a0_ : Mem) (a1_ : Int), IM a0_ → InR a1_ → Post (fun r => IM r.1 ∧ InR r.2) (bk12 a0_ a1_)) (h_M : IM M) (h_x1 : InR x1) (h_v2_ : InR v2_) (h_v4_ : InR v4_) : Post (fun r => IM r.1 ∧ InR r.2) (t_MO_goes_L85 x1 bk12 M v2_ v4_ v5_) := by
  unfold t_MO_goes_L85
  refine post_guard (fun c_1 => ?_)
  refine post_let (fun M25 e_M25 => ?_)
  have h_M25 : IM M25 := by rw [e_M25]; exact IM.setL h_M
  clear e_M25
  refine post_let (fun M27 e_M27 => ?_)
  have h_M27 : IM M27 := by rw [e_M27]; exact IM.setI h_M25 (inr_w32 _)
  clear e_M27
  exact (im_MO_goes_L96 hbk12 h_M27 h_x1 h_v2_)
theorem im_MO_goes_L12 {x1 : Int}  (h_x1 : InR x1) : ∀ (fu : Nat) (M : Mem) (v2_ : Int), IM M → InR v2_ → Post (fun r => IM r.1 ∧ InR r.2) (t_MO_goes_L12 x1 fu M v2_) := by
  intro fu
  induction fu with
  | zero => intro M v2_ h_M h_v2_; exact post_none
  | succ fu ih =>
    intro M v2_ h_M h_v2_
    rw [t_MO_goes_L12]
    refine post_guard (fun c_1 => ?_)
    refine post_ite (fun c_2 => ?_) (fun c_2 => ?_)
    · exact post_some ⟨h_M, (inr_c rfl)⟩
    · refine post_guard (fun c_3 => ?_)
      refine post_ite (fun c_4 => ?_) (fun c_4 => ?_)
      · refine post_guard (fun c_5 => ?_)
        refine post_bind (Q := fun r => IM r.1 ∧ InR r.2) (im_MO_works  h_M (h_M _ _)) (fun q21 h_q21 => ?_)
        refine post_ite (fun c_6 => ?_) (fun c_6 => ?_)
        · exact post_some ⟨h_q21.1, (inr_c rfl)⟩
        · exact (im_MO_goes_L96 (fun a0_ a1_ h0_ h1_ => ih a0_ a1_ h0_ h1_) h_q21.1 h_x1 h_v2_)
      · refine post_guard (fun c_7 => ?_)
        refine post_ite (fun c_8 => ?_) (fun c_8 => ?_)
        · refine post_guard (fun c_9 => ?_)
          exact (im_MO_goes_L85 (fun a0_ a1_ h0_ h1_ => ih a0_ a1_ h0_ h1_) h_M h_x1 h_v2_ (h_M _ _))
        · refine post_guard (fun c_10 => ?_)
          refine post_guard (fun c_11 => ?_)
          exact (im_MO_goes_L85 (fun a0_ a1_ h0_ h1_ => ih a0_ a1_ h0_ h1_) h_M h_x1 h_v2_ (h_M _ _))
theorem im_MO_goes {x1 : Int} {M : Mem}  (h_M : IM M) (h_x1 : InR x1) : Post (fun r => IM r.1 ∧ InR r.2) (t_MO_goes M x1) := by
  unfold t_MO_goes
  refine post_let (fun M1 e_M1 => ?_)
  have h_M1 : IM M1 := by rw [e_M1]; exact IM.setI h_M (inr_c rfl)
  clear e_M1
  refine post_guard (fun c_1 => ?_)
  exact (im_MO_goes_L12  h_x1 _ _ _ h_M1 (h_M1 _ _))
theorem im_MO_within {x1 : Int} {x2 : Int} {x3 : Int} {M : Mem}  (h_M : IM M) (h_x1 : InR x1) (h_x2 : InR x2) (h_x3 : InR x3) : Post (fun r => IM r.1 ∧ InR r.2) (t_MO_within M x1 x2 x3) := by
  unfold t_MO_within
  refine post_bind (Q := fun r => InR r) (im_MO_hasLaw  h_M h_x1) (fun q1 h_q1 => ?_)
  refine post_ite (fun c_1 => ?_) (fun c_1 => ?_)
  · exact post_some ⟨h_M, h_x3⟩
  · refine post_bind (Q := fun r => IM r.1 ∧ InR r.2) (im_MO_goes  h_M h_x1) (fun q4 h_q4 => ?_)
    refine post_ite (fun c_2 => ?_) (fun c_2 => ?_)
    · exact post_some ⟨h_q4.1, h_x3⟩
    · exact post_some ⟨h_q4.1, (inrq_l2i)⟩
theorem im_MO_joyOf {x1 : Int} {x2 : Int} {M : Mem}  (h_M : IM M) (h_x1 : InR x1) (h_x2 : InR x2) : Post (fun r => IM r.1 ∧ InR r.2) (t_MO_joyOf M x1 x2) := by
  unfold t_MO_joyOf
  refine post_bind (Q := fun r => IM r) (im_MO_callsJoy  h_M h_x1 h_x2) (fun q1 h_q1 => ?_)
  refine post_bind (Q := fun r => IM r.1 ∧ InR r.2) (im_MO_within  h_q1 (inr_c rfl) (inr_c rfl) (inrq_l2i)) (fun q3 h_q3 => ?_)
  exact post_some ⟨h_q3.1, h_q3.2⟩
theorem im_MO_ward {x1 : Int} {x2 : Int} {M : Mem}  (h_M : IM M) (h_x1 : InR x1) (h_x2 : InR x2) : Post (fun r => IM r.1 ∧ InR r.2) (t_MO_ward M x1 x2) := by
  unfold t_MO_ward
  refine post_let (fun M1 e_M1 => ?_)
  have h_M1 : IM M1 := by rw [e_M1]; exact IM.setI h_M (inr_c rfl)
  clear e_M1
  refine post_let (fun q2 e_q2 => ?_)
  have h_q2 : (fun r => InR r) q2 := by rw [e_q2]; exact (im_MO_isWard  h_M1 h_x1)
  clear e_q2
  refine post_ite (fun c_1 => ?_) (fun c_1 => ?_)
  · exact post_some ⟨h_M1, (inr_c rfl)⟩
  · refine post_ite (fun c_2 => ?_) (fun c_2 => ?_)
    · refine post_guard (fun c_3 => ?_)
      exact post_some ⟨h_M1, (h_M1 _ _)⟩
    · refine post_ite (fun c_4 => ?_) (fun c_4 => ?_)
      · refine post_guard (fun c_5 => ?_)
        exact post_some ⟨h_M1, (h_M1 _ _)⟩
      · refine post_ite (fun c_6 => ?_) (fun c_6 => ?_)
        · refine post_bind (Q := fun r => InR r) (im_MO_sizeOf  h_M1 h_x1) (fun q12 h_q12 => ?_)
          exact post_some ⟨h_M1, h_q12⟩
        · refine post_ite (fun c_7 => ?_) (fun c_7 => ?_)
          · refine post_bind (Q := fun r => IM r.1 ∧ InR r.2) (im_MO_joyOf  h_M1 (inr_c rfl) h_x1) (fun q15 h_q15 => ?_)
            exact post_some ⟨h_q15.1, h_q15.2⟩
          · exact post_some ⟨h_M1, (inr_c rfl)⟩
theorem im_MO_thing {x1 : Int} {x2 : Int} {M : Mem}  (h_M : IM M) (h_x1 : InR x1) (h_x2 : InR x2) : Post (fun r => IM r.1 ∧ InR r.2) (t_MO_thing M x1 x2) := by
  unfold t_MO_thing
  refine post_let (fun M1 e_M1 => ?_)
  have h_M1 : IM M1 := by rw [e_M1]; exact IM.setI h_M (inr_c rfl)
  clear e_M1
  refine post_let (fun q2 e_q2 => ?_)
  have h_q2 : (fun r => InR r) q2 := by rw [e_q2]; exact (im_MO_isThing  h_M1 h_x1)
  clear e_q2
  refine post_ite (fun c_1 => ?_) (fun c_1 => ?_)
  · exact post_some ⟨h_M1, (inr_c rfl)⟩
  · refine post_ite (fun c_2 => ?_) (fun c_2 => ?_)
    · refine post_guard (fun c_3 => ?_)
      exact post_some ⟨h_M1, (h_M1 _ _)⟩
    · refine post_ite (fun c_4 => ?_) (fun c_4 => ?_)
      · refine post_guard (fun c_5 => ?_)
        exact post_some ⟨h_M1, (h_M1 _ _)⟩
      · refine post_ite (fun c_6 => ?_) (fun c_6 => ?_)
        · refine post_guard (fun c_7 => ?_)
          exact post_some ⟨h_M1, (h_M1 _ _)⟩
        · refine post_ite (fun c_8 => ?_) (fun c_8 => ?_)
          · refine post_guard (fun c_9 => ?_)
            exact post_some ⟨h_M1, (h_M1 _ _)⟩
          · exact post_some ⟨h_M1, (inr_c rfl)⟩
theorem im_MO_callsPush_L165 {x1 : Int} {x2 : Int} {v2_ : Int} {v3_ : Int} {M : Mem}  (h_M : IM M) (h_x1 : InR x1) (h_x2 : InR x2) (h_v2_ : InR v2_) (h_v3_ : InR v3_) : Post (fun r => IM r) (t_MO_callsPush_L165 x1 x2 M v2_ v3_) := by
  unfold t_MO_callsPush_L165
  refine post_let (fun q36 _ => ?_)
  refine post_guard (fun c_1 => ?_)
  refine post_let (fun M39 e_M39 => ?_)
  have h_M39 : IM M39 := by rw [e_M39]; exact IM.setL h_M
  clear e_M39
  refine post_let (fun M41 e_M41 => ?_)
  have h_M41 : IM M41 := by rw [e_M41]; exact IM.setL h_M39
  clear e_M41
  exact post_some h_M41
theorem im_MO_callsPush_L164 {x1 : Int} {x2 : Int} {v2_ : Int} {M : Mem}  (h_M : IM M) (h_x1 : InR x1) (h_x2 : InR x2) (h_v2_ : InR v2_) : Post (fun r => IM r) (t_MO_callsPush_L164 x1 x2 M v2_) := by
  unfold t_MO_callsPush_L164
  exact (im_MO_callsPush_L165  h_M h_x1 h_x2 h_v2_ (inr_c rfl))
theorem im_MO_callsPush_L115 {x1 : Int} {x2 : Int} {v3_ : Int} {v5_ : Int} {v6_ : Int64} {M : Mem}  (h_M : IM M) (h_x1 : InR x1) (h_x2 : InR x2) (h_v3_ : InR v3_) (h_v5_ : InR v5_) : Post (fun r => IM r) (t_MO_callsPush_L115 x1 x2 M v3_ v5_ v6_) := by
  unfold t_MO_callsPush_L115
  refine post_guard (fun c_1 => ?_)
  refine post_let (fun M26 e_M26 => ?_)
  have h_M26 : IM M26 := by rw [e_M26]; exact IM.setL h_M
  clear e_M26
  refine post_bind (Q := fun r => InR r) (im_MO_isLine  h_M26 h_x1 h_v3_) (fun q27 h_q27 => ?_)
  refine post_let (fun q29 _ => ?_)
  refine post_let (fun M31 e_M31 => ?_)
  have h_M31 : IM M31 := by rw [e_M31]; exact IM.setL h_M26
  clear e_M31
  refine post_bind (Q := fun r => InR r) (im_MO_downOf  h_M31 (inr_c rfl) h_x1) (fun q32 h_q32 => ?_)
  refine post_ite (fun c_2 => ?_) (fun c_2 => ?_)
  · exact (im_MO_callsPush_L164  h_M31 h_x1 h_x2 (inr_c rfl))
  · refine post_ite (fun c_3 => ?_) (fun c_3 => ?_)
    · exact (im_MO_callsPush_L165  h_M31 h_x1 h_x2 (inr_c rfl) (inr_c rfl))
    · exact (im_MO_callsPush_L164  h_M31 h_x1 h_x2 (inr_c rfl))
theorem im_MO_callsPush_L88 {x1 : Int} {x2 : Int} {v3_ : Int} {v4_ : Int} {v6_ : Int} {v7_ : Int} {M : Mem}  (h_M : IM M) (h_x1 : InR x1) (h_x2 : InR x2) (h_v3_ : InR v3_) (h_v4_ : InR v4_) (h_v6_ : InR v6_) (h_v7_ : InR v7_) : Post (fun r => IM r) (t_MO_callsPush_L88 x1 x2 M v3_ v4_ v6_ v7_) := by
  unfold t_MO_callsPush_L88
  refine post_let (fun q18 _ => ?_)
  refine post_guard (fun c_1 => ?_)
  refine post_let (fun M21 e_M21 => ?_)
  have h_M21 : IM M21 := by rw [e_M21]; exact IM.setL h_M
  clear e_M21
  refine post_ite (fun c_2 => ?_) (fun c_2 => ?_)
  · exact (im_MO_callsPush_L115  h_M21 h_x1 h_x2 h_v3_ (inr_c rfl))
  · refine post_guard (fun c_3 => ?_)
    exact (im_MO_callsPush_L115  h_M21 h_x1 h_x2 h_v3_ (inr_c rfl))
theorem im_MO_callsPush_L63 {x1 : Int} {x2 : Int} {v3_ : Int} {v5_ : Int} {v6_ : Int64} {M : Mem}  (h_M : IM M) (h_x1 : InR x1) (h_x2 : InR x2) (h_v3_ : InR v3_) (h_v5_ : InR v5_) : Post (fun r => IM r) (t_MO_callsPush_L63 x1 x2 M v3_ v5_ v6_) := by
  unfold t_MO_callsPush_L63
  refine post_guard (fun c_1 => ?_)
  refine post_let (fun M14 e_M14 => ?_)
  have h_M14 : IM M14 := by rw [e_M14]; exact IM.setL h_M
  clear e_M14
  refine post_bind (Q := fun r => InR r) (im_MO_thingIn  h_M14 (inr_c rfl) h_v3_) (fun q15 h_q15 => ?_)
  refine post_ite (fun c_2 => ?_) (fun c_2 => ?_)
  · exact (im_MO_callsPush_L88  h_M14 h_x1 h_x2 h_v3_ h_q15 (inr_c rfl) (inr_c rfl))
  · exact (im_MO_callsPush_L88  h_M14 h_x1 h_x2 h_v3_ h_q15 (inr_c rfl) (inr_c rfl))
theorem im_MO_callsPush_L40 {x1 : Int} {x2 : Int} {v3_ : Int} {v4_ : Int} {v6_ : Int} {v7_ : Int64} {M : Mem}  (h_M : IM M) (h_x1 : InR x1) (h_x2 : InR x2) (h_v3_ : InR v3_) (h_v4_ : InR v4_) (h_v6_ : InR v6_) : Post (fun r => IM r) (t_MO_callsPush_L40 x1 x2 M v3_ v4_ v6_ v7_) := by
  unfold t_MO_callsPush_L40
  refine post_guard (fun c_1 => ?_)
  refine post_let (fun M9 e_M9 => ?_)
  have h_M9 : IM M9 := by rw [e_M9]; exact IM.setL h_M
  clear e_M9
  refine post_ite (fun c_2 => ?_) (fun c_2 => ?_)
  · exact (im_MO_callsPush_L63  h_M9 h_x1 h_x2 h_v3_ (inr_c rfl))
  · refine post_bind (Q := fun r => InR r) (im_MO_sizeOf  h_M9 h_v4_) (fun q11 h_q11 => ?_)
    exact (im_MO_callsPush_L63  h_M9 h_x1 h_x2 h_v3_ (inr_c rfl))
theorem im_MO_callsPush {x1 : Int} {x2 : Int} {M : Mem}  (h_M : IM M) (h_x1 : InR x1) (h_x2 : InR x2) : Post (fun r => IM r) (t_MO_callsPush M x1 x2) := by
  unfold t_MO_callsPush
  refine post_bind (Q := fun r => InR r) (im_MO_beside  h_M h_x1 h_x2) (fun q1 h_q1 => ?_)
  refine post_guard (fun c_1 => ?_)
  refine post_ite (fun c_2 => ?_) (fun c_2 => ?_)
  · exact (im_MO_callsPush_L40  h_M h_x1 h_x2 h_q1 (inr_w32 _) (inr_c rfl))
  · refine post_guard (fun c_3 => ?_)
    exact (im_MO_callsPush_L40  h_M h_x1 h_x2 h_q1 (inr_w32 _) (inr_c rfl))
theorem im_MO_law_L92 {x1 : Int} {x2 : Int} {x3 : Int} {M : Mem}  (h_M : IM M) (h_x1 : InR x1) (h_x2 : InR x2) (h_x3 : InR x3) : Post (fun r => IM r.1) (t_MO_law_L92 x1 x2 x3 M) := by
  unfold t_MO_law_L92
  refine post_bind (Q := fun r => IM r.1 ∧ InR r.2) (im_MO_goes  h_M h_x1) (fun q25 h_q25 => ?_)
  refine post_ite (fun c_1 => ?_) (fun c_1 => ?_)
  · exact post_some h_q25.1
  · exact post_some h_q25.1
theorem im_MO_law {x1 : Int} {x2 : Int} {x3 : Int} {M : Mem}  (h_M : IM M) (h_x1 : InR x1) (h_x2 : InR x2) (h_x3 : InR x3) : Post (fun r => IM r.1) (t_MO_law M x1 x2 x3) := by
  unfold t_MO_law
  refine post_let (fun M1 e_M1 => ?_)
  have h_M1 : IM M1 := by rw [e_M1]; exact IM.setI h_M (inr_c rfl)
  clear e_M1
  refine post_ite (fun c_1 => ?_) (fun c_1 => ?_)
  · exact post_some h_M1
  · refine post_ite (fun c_2 => ?_) (fun c_2 => ?_)
    · exact post_some h_M1
    · refine post_bind (Q := fun r => InR r) (im_MO_hasLaw  h_M1 h_x1) (fun q4 h_q4 => ?_)
      refine post_ite (fun c_3 => ?_) (fun c_3 => ?_)
      · exact post_some h_M1
      · refine post_ite (fun c_4 => ?_) (fun c_4 => ?_)
        · refine post_let (fun q20 e_q20 => ?_)
          have h_q20 : (fun r => InR r) q20 := by rw [e_q20]; exact (im_MO_isWard  h_M1 h_x2)
          clear e_q20
          refine post_ite (fun c_5 => ?_) (fun c_5 => ?_)
          · exact post_some h_M1
          · refine post_bind (Q := fun r => IM r) (im_MO_callsJoy  h_M1 (inr_c rfl) h_x2) (fun q23 h_q23 => ?_)
            exact (im_MO_law_L92  h_q23 h_x1 h_x2 h_x3)
        · refine post_bind (Q := fun r => InR r) (im_MO_isOpen  h_M1 h_x2) (fun q8 h_q8 => ?_)
          refine post_ite (fun c_6 => ?_) (fun c_6 => ?_)
          · exact post_some h_M1
          · refine post_ite (fun c_7 => ?_) (fun c_7 => ?_)
            · exact post_some h_M1
            · refine post_ite (fun c_8 => ?_) (fun c_8 => ?_)
              · exact post_some h_M1
              · refine post_bind (Q := fun r => InR r) (im_MO_beside  h_M1 h_x2 h_x3) (fun q13 h_q13 => ?_)
                refine post_bind (Q := fun r => InR r) (im_MO_isOpen  h_M1 h_q13) (fun q15 h_q15 => ?_)
                refine post_ite (fun c_9 => ?_) (fun c_9 => ?_)
                · exact post_some h_M1
                · refine post_bind (Q := fun r => IM r) (im_MO_callsPush  h_M1 h_x2 h_x3) (fun q18 h_q18 => ?_)
                  exact (im_MO_law_L92  h_q18 h_x1 h_x2 h_x3)
theorem im_MO_rest {x1 : Int} {M : Mem}  (h_M : IM M) (h_x1 : InR x1) : Post (fun r => IM r.1 ∧ InR r.2) (t_MO_rest M x1) := by
  unfold t_MO_rest
  refine post_let (fun M1 e_M1 => ?_)
  have h_M1 : IM M1 := by rw [e_M1]; exact IM.setI h_M (inr_c rfl)
  clear e_M1
  refine post_bind (Q := fun r => InR r) (im_MO_isOpen  h_M1 h_x1) (fun q2 h_q2 => ?_)
  refine post_ite (fun c_1 => ?_) (fun c_1 => ?_)
  · exact post_some ⟨h_M1, (inr_c rfl)⟩
  · refine post_bind (Q := fun r => IM r) (im_MO_goesFrom  h_M1 (inr_c rfl) h_x1) (fun q5 h_q5 => ?_)
    refine post_ite (fun c_2 => ?_) (fun c_2 => ?_)
    · exact post_some ⟨h_q5, (h_q5 _ _)⟩
    · exact post_some ⟨h_q5, (inr_c rfl)⟩
theorem im_MO_way_L68 {x1 : Int} {x2 : Int}  (h_x1 : InR x1) (h_x2 : InR x2) : ∀ (fu : Nat) (M : Mem) (v1_ : Int) (v2_ : Int) (v3_ : Int), IM M → InR v1_ → InR v2_ → InR v3_ → Post (fun r => IM r.1 ∧ InR r.2) (t_MO_way_L68 x1 x2 fu M v1_ v2_ v3_) := by
  intro fu
  induction fu with
  | zero => intro M v1_ v2_ v3_ h_M h_v1_ h_v2_ h_v3_; exact post_none
  | succ fu ih =>
    intro M v1_ v2_ v3_ h_M h_v1_ h_v2_ h_v3_
    rw [t_MO_way_L68]
    refine post_ite (fun c_1 => ?_) (fun c_1 => ?_)
    · exact post_some ⟨h_M, h_v2_⟩
    · refine post_bind (Q := fun r => InR r) (im_MO_nextOf  h_M (inr_c rfl) h_v2_) (fun q17 h_q17 => ?_)
      exact (ih _ _ _ _ h_M h_v1_ h_q17 (inr_w32 _))
theorem im_MO_way_L62 {x1 : Int} {x2 : Int} {v2_ : Int} {M : Mem}  (h_M : IM M) (h_x1 : InR x1) (h_x2 : InR x2) (h_v2_ : InR v2_) : Post (fun r => IM r.1 ∧ InR r.2) (t_MO_way_L62 x1 x2 M v2_) := by
  unfold t_MO_way_L62
  exact (im_MO_way_L68  h_x1 h_x2 _ _ _ _ _ h_M h_v2_ h_x1 (inr_c rfl))
theorem im_MO_way {x1 : Int} {x2 : Int} {M : Mem}  (h_M : IM M) (h_x1 : InR x1) (h_x2 : InR x2) : Post (fun r => IM r.1 ∧ InR r.2) (t_MO_way M x1 x2) := by
  unfold t_MO_way
  refine post_let (fun M1 e_M1 => ?_)
  have h_M1 : IM M1 := by rw [e_M1]; exact IM.setI h_M (inr_c rfl)
  clear e_M1
  refine post_bind (Q := fun r => InR r) (im_MO_isOpen  h_M1 h_x1) (fun q2 h_q2 => ?_)
  refine post_ite (fun c_1 => ?_) (fun c_1 => ?_)
  · exact post_some ⟨h_M1, (inr_c rfl)⟩
  · refine post_ite (fun c_2 => ?_) (fun c_2 => ?_)
    · refine post_bind (Q := fun r => IM r) (im_MO_goesFrom  h_M1 (inr_c rfl) h_x1) (fun q6 h_q6 => ?_)
      refine post_ite (fun c_3 => ?_) (fun c_3 => ?_)
      · exact (im_MO_way_L62  h_q6 h_x1 h_x2 h_x2)
      · refine post_ite (fun c_4 => ?_) (fun c_4 => ?_)
        · exact post_some ⟨h_q6, (inr_c rfl)⟩
        · refine post_ite (fun c_5 => ?_) (fun c_5 => ?_)
          · exact post_none
          · exact (im_MO_way_L62  h_q6 h_x1 h_x2 (inr_w32 _))
    · exact post_some ⟨h_M1, (inr_c rfl)⟩
theorem im_MO_falls {x1 : Int} {x2 : Int} {M : Mem}  (h_M : IM M) (h_x1 : InR x1) (h_x2 : InR x2) : Post (fun r => IM r.1 ∧ InR r.2) (t_MO_falls M x1 x2) := by
  unfold t_MO_falls
  refine post_let (fun M1 e_M1 => ?_)
  have h_M1 : IM M1 := by rw [e_M1]; exact IM.setI h_M (inr_c rfl)
  clear e_M1
  refine post_bind (Q := fun r => InR r) (im_MO_isOpen  h_M1 h_x1) (fun q2 h_q2 => ?_)
  refine post_ite (fun c_1 => ?_) (fun c_1 => ?_)
  · exact post_some ⟨h_M1, (inr_c rfl)⟩
  · refine post_ite (fun c_2 => ?_) (fun c_2 => ?_)
    · exact post_some ⟨h_M1, (inr_c rfl)⟩
    · refine post_ite (fun c_3 => ?_) (fun c_3 => ?_)
      · refine post_bind (Q := fun r => IM r) (im_MO_goesFrom  h_M1 (inr_c rfl) h_x1) (fun q7 h_q7 => ?_)
        refine post_ite (fun c_4 => ?_) (fun c_4 => ?_)
        · exact post_some ⟨h_q7, (h_q7 _ _)⟩
        · refine post_ite (fun c_5 => ?_) (fun c_5 => ?_)
          · exact post_some ⟨h_q7, (h_q7 _ _)⟩
          · refine post_ite (fun c_6 => ?_) (fun c_6 => ?_)
            · exact post_some ⟨h_q7, (h_q7 _ _)⟩
            · exact post_some ⟨h_q7, (inr_c rfl)⟩
      · exact post_some ⟨h_M1, (inr_c rfl)⟩
theorem im_MO_beat_L138 {x1 : Int} {bk4 : Mem → Int → Int → Option (Mem × Int)} {v2_ : Int} {v3_ : Int} {M : Mem} (hbk4 : ∀ (a0_ : Mem) (a1_ : Int) (a2_ : Int), IM a0_ → InR a1_ → InR a2_ → Post (fun r => IM r.1 ∧ InR r.2) (bk4 a0_ a1_ a2_)) (h_M : IM M) (h_x1 : InR x1) (h_v2_ : InR v2_) (h_v3_ : InR v3_) : Post (fun r => IM r.1 ∧ InR r.2) (t_MO_beat_L138 x1 bk4 M v2_ v3_) := by
  unfold t_MO_beat_L138
  exact hbk4 _ _ _  h_M h_v2_ (inr_w32 _)
theorem im_MO_beat_L113 {x1 : Int} {bk4 : Mem → Int → Int → Option (Mem × Int)} {v2_ : Int} {v3_ : Int} {v4_ : Int} {v5_ : Int} {v7_ : Int} {v8_ : Int} {v9_ : Int} {M : Mem} (hbk4 : ∀ (a0_ : Mem) (a1_ : Int) (a2_ : Int), IM a0_ → InR a1_ → InR a2_ → Post (fun r => IM r.1 ∧ InR r.2) (bk4 a0_ a1_ a2_)) (h_M : IM M) (h_x1 : InR x1) (h_v2_ : InR v2_) (h_v3_ : InR v3_) (h_v4_ : InR v4_) (h_v5_ : InR v5_) (h_v7_ : InR v7_) (h_v8_ : InR v8_) (h_v9_ : InR v9_) : Post (fun r => IM r.1 ∧ InR r.2) (t_MO_beat_L113 x1 bk4 M v2_ v3_ v4_ v5_ v7_ v8_ v9_) := by
  unfold t_MO_beat_L113
  refine post_guard (fun c_1 => ?_)
  refine post_let (fun M29 e_M29 => ?_)
  have h_M29 : IM M29 := by rw [e_M29]; exact IM.setI h_M (inr_w32 _)
  clear e_M29
  refine post_guard (fun c_2 => ?_)
  refine post_guard (fun c_3 => ?_)
  refine post_let (fun M33 e_M33 => ?_)
  have h_M33 : IM M33 := by rw [e_M33]; exact IM.setI h_M29 (inr_w32 _)
  clear e_M33
  refine post_guard (fun c_4 => ?_)
  refine post_let (fun M35 e_M35 => ?_)
  have h_M35 : IM M35 := by rw [e_M35]; exact IM.setI h_M33 h_v5_
  clear e_M35
  exact (im_MO_beat_L138 hbk4 h_M35 h_x1 (inr_w32 _) h_v3_)
theorem im_MO_beat_L84 {x1 : Int} {bk4 : Mem → Int → Int → Option (Mem × Int)} {v2_ : Int} {v3_ : Int} {v4_ : Int} {v5_ : Int} {M : Mem} (hbk4 : ∀ (a0_ : Mem) (a1_ : Int) (a2_ : Int), IM a0_ → InR a1_ → InR a2_ → Post (fun r => IM r.1 ∧ InR r.2) (bk4 a0_ a1_ a2_)) (h_M : IM M) (h_x1 : InR x1) (h_v2_ : InR v2_) (h_v3_ : InR v3_) (h_v4_ : InR v4_) (h_v5_ : InR v5_) : Post (fun r => IM r.1 ∧ InR r.2) (t_MO_beat_L84 x1 bk4 M v2_ v3_ v4_ v5_) := by
  unfold t_MO_beat_L84
  refine post_guard (fun c_1 => ?_)
  refine post_guard (fun c_2 => ?_)
  refine post_bind (Q := fun r => InR r) (im_MO_isLine  h_M (h_M _ _) h_v5_) (fun q25 h_q25 => ?_)
  refine post_ite (fun c_3 => ?_) (fun c_3 => ?_)
  · exact (im_MO_beat_L113 hbk4 h_M h_x1 h_v2_ h_v3_ h_v4_ h_v5_ h_v4_ (h_M _ _) (inr_c rfl))
  · exact (im_MO_beat_L113 hbk4 h_M h_x1 h_v2_ h_v3_ h_v4_ h_v5_ h_v4_ (h_M _ _) (inr_c rfl))
theorem im_MO_beat_L34 {x1 : Int} {bk4 : Mem → Int → Int → Option (Mem × Int)} {v2_ : Int} {v3_ : Int} {M : Mem} (hbk4 : ∀ (a0_ : Mem) (a1_ : Int) (a2_ : Int), IM a0_ → InR a1_ → InR a2_ → Post (fun r => IM r.1 ∧ InR r.2) (bk4 a0_ a1_ a2_)) (h_M : IM M) (h_x1 : InR x1) (h_v2_ : InR v2_) (h_v3_ : InR v3_) : Post (fun r => IM r.1 ∧ InR r.2) (t_MO_beat_L34 x1 bk4 M v2_ v3_) := by
  unfold t_MO_beat_L34
  refine post_guard (fun c_1 => ?_)
  refine post_bind (Q := fun r => InR r) (im_MO_nextOf  h_M h_x1 (h_M _ _)) (fun q13 h_q13 => ?_)
  refine post_ite (fun c_2 => ?_) (fun c_2 => ?_)
  · exact (im_MO_beat_L138 hbk4 h_M h_x1 h_v2_ h_v3_)
  · refine post_ite (fun c_3 => ?_) (fun c_3 => ?_)
    · exact (im_MO_beat_L84 hbk4 h_M h_x1 h_v2_ h_v3_ (inr_w32 _) h_q13)
    · refine post_bind (Q := fun r => InR r) (im_MO_thingIn  h_M h_x1 h_q13) (fun q18 h_q18 => ?_)
      refine post_ite (fun c_4 => ?_) (fun c_4 => ?_)
      · exact (im_MO_beat_L84 hbk4 h_M h_x1 h_v2_ h_v3_ (inr_w32 _) h_q13)
      · exact (im_MO_beat_L138 hbk4 h_M h_x1 h_v2_ h_v3_)
theorem im_MO_beat_L4 {x1 : Int}  (h_x1 : InR x1) : ∀ (fu : Nat) (M : Mem) (v2_ : Int) (v3_ : Int), IM M → InR v2_ → InR v3_ → Post (fun r => IM r.1 ∧ InR r.2) (t_MO_beat_L4 x1 fu M v2_ v3_) := by
  intro fu
  induction fu with
  | zero => intro M v2_ v3_ h_M h_v2_ h_v3_; exact post_none
  | succ fu ih =>
    intro M v2_ v3_ h_M h_v2_ h_v3_
    rw [t_MO_beat_L4]
    refine post_ite (fun c_1 => ?_) (fun c_1 => ?_)
    · refine post_guard (fun c_2 => ?_)
      refine post_guard (fun c_3 => ?_)
      refine post_let (fun M6 e_M6 => ?_)
      have h_M6 : IM M6 := by rw [e_M6]; exact IM.setI h_M (inr_w32 _)
      clear e_M6
      exact post_some ⟨h_M6, h_v2_⟩
    · refine post_ite (fun c_4 => ?_) (fun c_4 => ?_)
      · refine post_ite (fun c_5 => ?_) (fun c_5 => ?_)
        · exact (im_MO_beat_L138 (fun a0_ a1_ a2_ h0_ h1_ h2_ => ih a0_ a1_ a2_ h0_ h1_ h2_) h_M h_x1 h_v2_ h_v3_)
        · exact (im_MO_beat_L34 (fun a0_ a1_ a2_ h0_ h1_ h2_ => ih a0_ a1_ a2_ h0_ h1_ h2_) h_M h_x1 h_v2_ h_v3_)
      · exact (im_MO_beat_L34 (fun a0_ a1_ a2_ h0_ h1_ h2_ => ih a0_ a1_ a2_ h0_ h1_ h2_) h_M h_x1 h_v2_ h_v3_)
theorem im_MO_beat {x1 : Int} {M : Mem}  (h_M : IM M) (h_x1 : InR x1) : Post (fun r => IM r.1 ∧ InR r.2) (t_MO_beat M x1) := by
  unfold t_MO_beat
  exact (im_MO_beat_L4  h_x1 _ _ _ _ h_M (inr_c rfl) (inr_c rfl))
theorem im_MO_beats_L31 {x1 : Int}  (h_x1 : InR x1) : ∀ (fu : Nat) (M : Mem) (v2_ : Int) (v3_ : Int), IM M → InR v2_ → InR v3_ → Post (fun r => IM r.1 ∧ InR r.2) (t_MO_beats_L31 x1 fu M v2_ v3_) := by
  intro fu
  induction fu with
  | zero => intro M v2_ v3_ h_M h_v2_ h_v3_; exact post_none
  | succ fu ih =>
    intro M v2_ v3_ h_M h_v2_ h_v3_
    rw [t_MO_beats_L31]
    refine post_ite (fun c_1 => ?_) (fun c_1 => ?_)
    · exact post_some ⟨h_M, h_v2_⟩
    · refine post_bind (Q := fun r => IM r.1 ∧ InR r.2) (im_MO_beat  h_M (inr_c rfl)) (fun q7 h_q7 => ?_)
      exact (ih _ _ _ h_q7.1 (inr_w32 _) (inr_w32 _))
theorem im_MO_beats_L27 {x1 : Int} {M : Mem}  (h_M : IM M) (h_x1 : InR x1) : Post (fun r => IM r.1 ∧ InR r.2) (t_MO_beats_L27 x1 M) := by
  unfold t_MO_beats_L27
  exact (im_MO_beats_L31  h_x1 _ _ _ _ h_M (inr_c rfl) (inr_c rfl))
theorem im_MO_beats {x1 : Int} {M : Mem}  (h_M : IM M) (h_x1 : InR x1) : Post (fun r => IM r.1 ∧ InR r.2) (t_MO_beats M x1) := by
  unfold t_MO_beats
  refine post_let (fun M1 e_M1 => ?_)
  have h_M1 : IM M1 := by rw [e_M1]; exact IM.setI h_M (inr_c rfl)
  clear e_M1
  refine post_ite (fun c_1 => ?_) (fun c_1 => ?_)
  · exact post_some ⟨h_M1, (inr_c rfl)⟩
  · refine post_ite (fun c_2 => ?_) (fun c_2 => ?_)
    · refine post_ite (fun c_3 => ?_) (fun c_3 => ?_)
      · exact (im_MO_beats_L27  h_M1 h_x1)
      · refine post_let (fun M5 e_M5 => ?_)
        have h_M5 : IM M5 := by rw [e_M5]; exact IM.setI h_M1 (inr_c rfl)
        clear e_M5
        exact (im_MO_beats_L27  h_M5 h_x1)
    · exact post_some ⟨h_M1, (inr_c rfl)⟩
theorem im_MO_keepNow_L45  {M : Mem}  (h_M : IM M)  : Post (fun r => IM r) (t_MO_keepNow_L45 M) := by
  unfold t_MO_keepNow_L45
  refine post_bind (Q := fun r => IM r) (im_MO_copies  h_M (inr_w32 _) (inr_c rfl)) (fun q4 h_q4 => ?_)
  refine post_let (fun M7 e_M7 => ?_)
  have h_M7 : IM M7 := by rw [e_M7]; exact IM.setI h_q4 (inr_w32 _)
  clear e_M7
  exact post_some h_M7
theorem im_MO_keepNow_L11    : ∀ (fu : Nat) (M : Mem) (v1_ : Int), IM M → InR v1_ → Post (fun r => IM r) (t_MO_keepNow_L11  fu M v1_) := by
  intro fu
  induction fu with
  | zero => intro M v1_ h_M h_v1_; exact post_none
  | succ fu ih =>
    intro M v1_ h_M h_v1_
    rw [t_MO_keepNow_L11]
    refine post_ite (fun c_1 => ?_) (fun c_1 => ?_)
    · refine post_let (fun M10 e_M10 => ?_)
      have h_M10 : IM M10 := by rw [e_M10]; exact IM.setI h_M (inr_w32 _)
      clear e_M10
      exact (im_MO_keepNow_L45  h_M10 )
    · refine post_bind (Q := fun r => IM r) (im_MO_copies  h_M (inr_w32 _) (inr_w32 _)) (fun q11 h_q11 => ?_)
      exact (ih _ _ h_q11 (inr_w32 _))
theorem im_MO_keepNow  {M : Mem}  (h_M : IM M)  : Post (fun r => IM r) (t_MO_keepNow M) := by
  unfold t_MO_keepNow
  refine post_ite (fun c_1 => ?_) (fun c_1 => ?_)
  · exact (im_MO_keepNow_L11   _ _ _ h_M (inr_c rfl))
  · exact (im_MO_keepNow_L45  h_M )
theorem im_MO_isDown {x1 : Int} {M : Mem} (h_M : IM M) (h_x1 : InR x1) : (fun r => InR r) (t_MO_isDown M x1) := by
  show Pl (fun r => InR r) (t_MO_isDown M x1)
  unfold t_MO_isDown
  refine pl_ite (fun c_1 => ?_) (fun c_1 => ?_)
  · exact (inr_c rfl)
  · refine pl_ite (fun c_2 => ?_) (fun c_2 => ?_)
    · exact (inr_c rfl)
    · exact (inr_c rfl)
theorem im_MO_pours_L42 {x1 : Int} {x2 : Int} {v2_ : Int} {M : Mem}  (h_M : IM M) (h_x1 : InR x1) (h_x2 : InR x2) (h_v2_ : InR v2_) : Post (fun r => IM r.1 ∧ InR r.2) (t_MO_pours_L42 x1 x2 M v2_) := by
  unfold t_MO_pours_L42
  refine post_guard (fun c_1 => ?_)
  refine post_ite (fun c_2 => ?_) (fun c_2 => ?_)
  · exact post_some ⟨h_M, (inr_c rfl)⟩
  · refine post_guard (fun c_3 => ?_)
    refine post_guard (fun c_4 => ?_)
    refine post_let (fun M11 e_M11 => ?_)
    have h_M11 : IM M11 := by rw [e_M11]; exact IM.setL h_M
    clear e_M11
    exact post_some ⟨h_M11, (inr_c rfl)⟩
theorem im_MO_pours_L5 {x1 : Int} {x2 : Int}  (h_x1 : InR x1) (h_x2 : InR x2) : ∀ (fu : Nat) (M : Mem) (v2_ : Int) (v3_ : Int), IM M → InR v2_ → InR v3_ → Post (fun r => IM r.1 ∧ InR r.2) (t_MO_pours_L5 x1 x2 fu M v2_ v3_) := by
  intro fu
  induction fu with
  | zero => intro M v2_ v3_ h_M h_v2_ h_v3_; exact post_none
  | succ fu ih =>
    intro M v2_ v3_ h_M h_v2_ h_v3_
    rw [t_MO_pours_L5]
    refine post_ite (fun c_1 => ?_) (fun c_1 => ?_)
    · exact post_some ⟨h_M, (inr_c rfl)⟩
    · refine post_bind (Q := fun r => InR r) (im_MO_nextOf  h_M h_x1 h_v2_) (fun q2 h_q2 => ?_)
      refine post_ite (fun c_2 => ?_) (fun c_2 => ?_)
      · exact (im_MO_pours_L42  h_M h_x1 h_x2 h_v2_)
      · refine post_guard (fun c_3 => ?_)
        refine post_ite (fun c_4 => ?_) (fun c_4 => ?_)
        · exact (im_MO_pours_L42  h_M h_x1 h_x2 h_v2_)
        · exact (ih _ _ _ h_M h_q2 (inr_w32 _))
theorem im_MO_pours {x1 : Int} {x2 : Int} {M : Mem}  (h_M : IM M) (h_x1 : InR x1) (h_x2 : InR x2) : Post (fun r => IM r.1 ∧ InR r.2) (t_MO_pours M x1 x2) := by
  unfold t_MO_pours
  exact (im_MO_pours_L5  h_x1 h_x2 _ _ _ _ h_M h_x2 (inr_c rfl))
theorem im_MO_floods_L45 {x1 : Int} {bk17 : Mem → Int64 → Int → Option (Mem)} {v2_ : Int64} {v3_ : Int} {M : Mem} (hbk17 : ∀ (a0_ : Mem) (a1_ : Int64) (a2_ : Int), IM a0_ → InR a2_ → Post (fun r => IM r) (bk17 a0_ a1_ a2_)) (h_M : IM M) (h_x1 : InR x1) (h_v3_ : InR v3_) : Post (fun r => IM r) (t_MO_floods_L45 x1 bk17 M v2_ v3_) := by
  unfold t_MO_floods_L45
  exact hbk17 _ _ _  h_M (inr_w32 _)
theorem im_MO_floods_L17 {x1 : Int}  (h_x1 : InR x1) : ∀ (fu : Nat) (M : Mem) (v2_ : Int64) (v3_ : Int), IM M → InR v3_ → Post (fun r => IM r) (t_MO_floods_L17 x1 fu M v2_ v3_) := by
  intro fu
  induction fu with
  | zero => intro M v2_ v3_ h_M h_v3_; exact post_none
  | succ fu ih =>
    intro M v2_ v3_ h_M h_v3_
    rw [t_MO_floods_L17]
    refine post_let (fun q4 e_q4 => ?_)
    have h_q4 : (fun r => InR r) q4 := by rw [e_q4]; exact (im_MO_cells  h_M )
    clear e_q4
    refine post_ite (fun c_1 => ?_) (fun c_1 => ?_)
    · exact post_some h_M
    · refine post_ite (fun c_2 => ?_) (fun c_2 => ?_)
      · refine post_bind (Q := fun r => IM r.1 ∧ InR r.2) (im_MO_pours  h_M h_x1 h_v3_) (fun q8 h_q8 => ?_)
        exact (im_MO_floods_L45 (fun a0_ a1_ a2_ h0_ h2_ => ih a0_ a1_ a2_ h0_ h2_) h_q8.1 h_x1 h_v3_)
      · exact (im_MO_floods_L45 (fun a0_ a1_ a2_ h0_ h2_ => ih a0_ a1_ a2_ h0_ h2_) h_M h_x1 h_v3_)
theorem im_MO_floods {x1 : Int} {M : Mem}  (h_M : IM M) (h_x1 : InR x1) : Post (fun r => IM r) (t_MO_floods M x1) := by
  unfold t_MO_floods
  refine post_guard (fun c_1 => ?_)
  refine post_guard (fun c_2 => ?_)
  refine post_let (fun M3 e_M3 => ?_)
  have h_M3 : IM M3 := by rw [e_M3]; exact IM.setL h_M
  clear e_M3
  exact (im_MO_floods_L17  h_x1 _ _ _ _ h_M3 (inr_c rfl))
theorem im_MO_vote {x1 : Int} {x2 : Int} {M : Mem}  (h_M : IM M) (h_x1 : InR x1) (h_x2 : InR x2) : Post (fun r => IM r.1 ∧ InR r.2) (t_MO_vote M x1 x2) := by
  unfold t_MO_vote
  refine post_let (fun M1 e_M1 => ?_)
  have h_M1 : IM M1 := by rw [e_M1]; exact IM.setI h_M (inr_c rfl)
  clear e_M1
  refine post_let (fun q2 e_q2 => ?_)
  have h_q2 : (fun r => InR r) q2 := by rw [e_q2]; exact (im_MO_isWard  h_M1 h_x1)
  clear e_q2
  refine post_ite (fun c_1 => ?_) (fun c_1 => ?_)
  · exact post_some ⟨h_M1, (inr_c rfl)⟩
  · refine post_let (fun q5 e_q5 => ?_)
    have h_q5 : (fun r => InR r) q5 := by rw [e_q5]; exact (im_MO_isDown  h_M1 h_x2)
    clear e_q5
    refine post_ite (fun c_2 => ?_) (fun c_2 => ?_)
    · exact post_some ⟨h_M1, (inr_c rfl)⟩
    · refine post_guard (fun c_3 => ?_)
      refine post_ite (fun c_4 => ?_) (fun c_4 => ?_)
      · exact post_some ⟨h_M1, (inr_c rfl)⟩
      · refine post_bind (Q := fun r => IM r) (im_MO_keepNow  h_M1 ) (fun q11 h_q11 => ?_)
        refine post_guard (fun c_5 => ?_)
        refine post_let (fun M14 e_M14 => ?_)
        have h_M14 : IM M14 := by rw [e_M14]; exact IM.setI h_q11 h_x2
        clear e_M14
        refine post_bind (Q := fun r => IM r) (im_MO_floods  h_M14 (inr_c rfl)) (fun q15 h_q15 => ?_)
        exact post_some ⟨h_q15, (inr_c rfl)⟩
theorem im_MO_net_L33 {x1 : Int} {x2 : Int} {v3_ : Int} {M : Mem}  (h_M : IM M) (h_x1 : InR x1) (h_x2 : InR x2) (h_v3_ : InR v3_) : Post (fun r => IM r.1 ∧ InR r.2) (t_MO_net_L33 x1 x2 M v3_) := by
  unfold t_MO_net_L33
  refine post_ite (fun c_1 => ?_) (fun c_1 => ?_)
  · exact post_some ⟨h_M, (inr_c rfl)⟩
  · refine post_bind (Q := fun r => IM r) (im_MO_keepNow  h_M ) (fun q7 h_q7 => ?_)
    refine post_let (fun M9 e_M9 => ?_)
    have h_M9 : IM M9 := by rw [e_M9]; exact IM.setL h_q7
    clear e_M9
    exact post_some ⟨h_M9, (inr_c rfl)⟩
theorem im_MO_net {x1 : Int} {x2 : Int} {M : Mem}  (h_M : IM M) (h_x1 : InR x1) (h_x2 : InR x2) : Post (fun r => IM r.1 ∧ InR r.2) (t_MO_net M x1 x2) := by
  unfold t_MO_net
  refine post_let (fun M1 e_M1 => ?_)
  have h_M1 : IM M1 := by rw [e_M1]; exact IM.setI h_M (inr_c rfl)
  clear e_M1
  refine post_bind (Q := fun r => InR r) (im_MO_isOpen  h_M1 h_x1) (fun q2 h_q2 => ?_)
  refine post_ite (fun c_1 => ?_) (fun c_1 => ?_)
  · exact post_some ⟨h_M1, (inr_c rfl)⟩
  · refine post_ite (fun c_2 => ?_) (fun c_2 => ?_)
    · exact (im_MO_net_L33  h_M1 h_x1 h_x2 (inr_c rfl))
    · exact (im_MO_net_L33  h_M1 h_x1 h_x2 (inr_c rfl))
theorem im_MO_lay {x1 : Int} {x2 : Int} {M : Mem}  (h_M : IM M) (h_x1 : InR x1) (h_x2 : InR x2) : Post (fun r => IM r.1 ∧ InR r.2) (t_MO_lay M x1 x2) := by
  unfold t_MO_lay
  refine post_let (fun M1 e_M1 => ?_)
  have h_M1 : IM M1 := by rw [e_M1]; exact IM.setI h_M (inr_c rfl)
  clear e_M1
  refine post_let (fun q2 e_q2 => ?_)
  have h_q2 : (fun r => InR r) q2 := by rw [e_q2]; exact (im_MO_isThing  h_M1 h_x1)
  clear e_q2
  refine post_ite (fun c_1 => ?_) (fun c_1 => ?_)
  · exact post_some ⟨h_M1, (inr_c rfl)⟩
  · refine post_bind (Q := fun r => InR r) (im_MO_isOpen  h_M1 h_x2) (fun q5 h_q5 => ?_)
    refine post_ite (fun c_2 => ?_) (fun c_2 => ?_)
    · exact post_some ⟨h_M1, (inr_c rfl)⟩
    · refine post_bind (Q := fun r => InR r) (im_MO_thingIn  h_M1 (inr_c rfl) h_x2) (fun q8 h_q8 => ?_)
      refine post_ite (fun c_3 => ?_) (fun c_3 => ?_)
      · refine post_bind (Q := fun r => IM r) (im_MO_keepNow  h_M1 ) (fun q11 h_q11 => ?_)
        refine post_guard (fun c_4 => ?_)
        refine post_let (fun M14 e_M14 => ?_)
        have h_M14 : IM M14 := by rw [e_M14]; exact IM.setI h_q11 h_x2
        clear e_M14
        exact post_some ⟨h_M14, (inr_c rfl)⟩
      · exact post_some ⟨h_M1, (inr_c rfl)⟩
theorem im_MO_pour_L58 {x1 : Int} {x2 : Int} {bk37 : Mem → Int → Int → Option (Mem × Int)} {v3_ : Int} {v4_ : Int} {v5_ : Int} {M : Mem} (hbk37 : ∀ (a0_ : Mem) (a1_ : Int) (a2_ : Int), IM a0_ → InR a1_ → InR a2_ → Post (fun r => IM r.1 ∧ InR r.2) (bk37 a0_ a1_ a2_)) (h_M : IM M) (h_x1 : InR x1) (h_x2 : InR x2) (h_v3_ : InR v3_) (h_v4_ : InR v4_) (h_v5_ : InR v5_) : Post (fun r => IM r.1 ∧ InR r.2) (t_MO_pour_L58 x1 x2 bk37 M v3_ v4_ v5_) := by
  unfold t_MO_pour_L58
  exact hbk37 _ _ _  h_M (inr_w32 _) (inr_w32 _)
theorem im_MO_pour_L37 {x1 : Int} {x2 : Int}  (h_x1 : InR x1) (h_x2 : InR x2) : ∀ (fu : Nat) (M : Mem) (v3_ : Int) (v4_ : Int), IM M → InR v3_ → InR v4_ → Post (fun r => IM r.1 ∧ InR r.2) (t_MO_pour_L37 x1 x2 fu M v3_ v4_) := by
  intro fu
  induction fu with
  | zero => intro M v3_ v4_ h_M h_v3_ h_v4_; exact post_none
  | succ fu ih =>
    intro M v3_ v4_ h_M h_v3_ h_v4_
    rw [t_MO_pour_L37]
    refine post_ite (fun c_1 => ?_) (fun c_1 => ?_)
    · refine post_ite (fun c_2 => ?_) (fun c_2 => ?_)
      · exact post_some ⟨h_M, (inr_c rfl)⟩
      · refine post_bind (Q := fun r => IM r) (im_MO_keepNow  h_M ) (fun q11 h_q11 => ?_)
        refine post_let (fun M13 e_M13 => ?_)
        have h_M13 : IM M13 := by rw [e_M13]; exact IM.setL h_q11
        clear e_M13
        exact post_some ⟨h_M13, h_v3_⟩
    · refine post_bind (Q := fun r => IM r.1 ∧ InR r.2) (im_MO_pours  h_M (inr_c rfl) h_x1) (fun q14 h_q14 => ?_)
      refine post_ite (fun c_3 => ?_) (fun c_3 => ?_)
      · exact (im_MO_pour_L58 (fun a0_ a1_ a2_ h0_ h1_ h2_ => ih a0_ a1_ a2_ h0_ h1_ h2_) h_q14.1 h_x1 h_x2 h_v4_ h_v3_ (inr_c rfl))
      · exact (im_MO_pour_L58 (fun a0_ a1_ a2_ h0_ h1_ h2_ => ih a0_ a1_ a2_ h0_ h1_ h2_) h_q14.1 h_x1 h_x2 h_v4_ h_v3_ (inr_c rfl))
theorem im_MO_pour {x1 : Int} {x2 : Int} {M : Mem}  (h_M : IM M) (h_x1 : InR x1) (h_x2 : InR x2) : Post (fun r => IM r.1 ∧ InR r.2) (t_MO_pour M x1 x2) := by
  unfold t_MO_pour
  refine post_let (fun M1 e_M1 => ?_)
  have h_M1 : IM M1 := by rw [e_M1]; exact IM.setI h_M (inr_c rfl)
  clear e_M1
  refine post_bind (Q := fun r => InR r) (im_MO_isOpen  h_M1 h_x1) (fun q2 h_q2 => ?_)
  refine post_ite (fun c_1 => ?_) (fun c_1 => ?_)
  · exact post_some ⟨h_M1, (inr_c rfl)⟩
  · refine post_ite (fun c_2 => ?_) (fun c_2 => ?_)
    · exact post_some ⟨h_M1, (inr_c rfl)⟩
    · refine post_ite (fun c_3 => ?_) (fun c_3 => ?_)
      · refine post_bind (Q := fun r => IM r) (im_MO_copies  h_M1 (inr_c rfl) (inr_c rfl)) (fun q7 h_q7 => ?_)
        exact (im_MO_pour_L37  h_x1 h_x2 _ _ _ _ h_q7 (inr_c rfl) (inr_c rfl))
      · exact post_some ⟨h_M1, (inr_c rfl)⟩
theorem im_MO_bitsOf_L4 {x1 : Int64}   : ∀ (fu : Nat) (M : Mem) (v1_ : Int) (v2_ : Int), IM M → InR v1_ → InR v2_ → Post (fun r => InR r) (t_MO_bitsOf_L4 x1 fu M v1_ v2_) := by
  intro fu
  induction fu with
  | zero => intro M v1_ v2_ h_M h_v1_ h_v2_; exact post_none
  | succ fu ih =>
    intro M v1_ v2_ h_M h_v1_ h_v2_
    rw [t_MO_bitsOf_L4]
    refine post_ite (fun c_1 => ?_) (fun c_1 => ?_)
    · exact post_some h_v1_
    · exact (ih _ _ _ h_M (inr_w32 _) (inr_w32 _))
theorem im_MO_bitsOf {x1 : Int64} {M : Mem}  (h_M : IM M)  : Post (fun r => InR r) (t_MO_bitsOf M x1) := by
  unfold t_MO_bitsOf
  exact (im_MO_bitsOf_L4   _ _ _ _ h_M (inr_c rfl) (inr_c rfl))
theorem im_MO_drain  {M : Mem}  (h_M : IM M)  : Post (fun r => IM r.1 ∧ InR r.2) (t_MO_drain M) := by
  unfold t_MO_drain
  refine post_let (fun M1 e_M1 => ?_)
  have h_M1 : IM M1 := by rw [e_M1]; exact IM.setI h_M (inr_c rfl)
  clear e_M1
  refine post_ite (fun c_1 => ?_) (fun c_1 => ?_)
  · exact post_some ⟨h_M1, (inr_c rfl)⟩
  · refine post_bind (Q := fun r => IM r) (im_MO_keepNow  h_M1 ) (fun q3 h_q3 => ?_)
    refine post_bind (Q := fun r => InR r) (im_MO_bitsOf  h_q3 ) (fun q5 h_q5 => ?_)
    refine post_let (fun M7 e_M7 => ?_)
    have h_M7 : IM M7 := by rw [e_M7]; exact IM.setL h_q3
    clear e_M7
    exact post_some ⟨h_M7, h_q5⟩
theorem im_MO_flood {x1 : Int} {x2 : Int} {M : Mem}  (h_M : IM M) (h_x1 : InR x1) (h_x2 : InR x2) : Post (fun r => IM r.1) (t_MO_flood M x1 x2) := by
  unfold t_MO_flood
  refine post_let (fun M1 e_M1 => ?_)
  have h_M1 : IM M1 := by rw [e_M1]; exact IM.setI h_M (inr_c rfl)
  clear e_M1
  refine post_let (fun q2 e_q2 => ?_)
  have h_q2 : (fun r => InR r) q2 := by rw [e_q2]; exact (im_MO_isWard  h_M1 h_x1)
  clear e_q2
  refine post_ite (fun c_1 => ?_) (fun c_1 => ?_)
  · exact post_some h_M1
  · refine post_let (fun q5 e_q5 => ?_)
    have h_q5 : (fun r => InR r) q5 := by rw [e_q5]; exact (im_MO_isDown  h_M1 h_x2)
    clear e_q5
    refine post_ite (fun c_2 => ?_) (fun c_2 => ?_)
    · exact post_some h_M1
    · refine post_bind (Q := fun r => IM r) (im_MO_copies  h_M1 (inr_c rfl) (inr_c rfl)) (fun q8 h_q8 => ?_)
      refine post_guard (fun c_3 => ?_)
      refine post_let (fun M11 e_M11 => ?_)
      have h_M11 : IM M11 := by rw [e_M11]; exact IM.setI h_q8 h_x2
      clear e_M11
      refine post_bind (Q := fun r => IM r) (im_MO_floods  h_M11 (inr_c rfl)) (fun q12 h_q12 => ?_)
      exact post_some h_q12
theorem im_MO_canStep {x1 : Int} {x2 : Int} {M : Mem}  (h_M : IM M) (h_x1 : InR x1) (h_x2 : InR x2) : Post (fun r => InR r) (t_MO_canStep M x1 x2) := by
  unfold t_MO_canStep
  refine post_ite (fun c_1 => ?_) (fun c_1 => ?_)
  · exact post_some (inr_c rfl)
  · refine post_bind (Q := fun r => InR r) (im_MO_stands  h_M h_x1) (fun q2 h_q2 => ?_)
    refine post_ite (fun c_2 => ?_) (fun c_2 => ?_)
    · exact post_some (inr_c rfl)
    · refine post_bind (Q := fun r => InR r) (im_MO_stands  h_M h_x2) (fun q5 h_q5 => ?_)
      refine post_ite (fun c_3 => ?_) (fun c_3 => ?_)
      · exact post_some (inr_c rfl)
      · refine post_bind (Q := fun r => InR r) (im_MO_isLine  h_M h_x1 h_x2) (fun q8 h_q8 => ?_)
        refine post_ite (fun c_4 => ?_) (fun c_4 => ?_)
        · exact post_some (inr_c rfl)
        · refine post_guard (fun c_5 => ?_)
          refine post_ite (fun c_6 => ?_) (fun c_6 => ?_)
          · refine post_guard (fun c_7 => ?_)
            refine post_ite (fun c_8 => ?_) (fun c_8 => ?_)
            · exact post_some (inr_c rfl)
            · exact post_some (inr_c rfl)
          · exact post_some (inr_c rfl)
theorem im_MO_layWalk_L25 {x1 : Int} {bk2 : Mem → Int → Option (Mem)} {v2_ : Int} {v4_ : Int} {v5_ : Int} {M : Mem} (hbk2 : ∀ (a0_ : Mem) (a1_ : Int), IM a0_ → InR a1_ → Post (fun r => IM r) (bk2 a0_ a1_)) (h_M : IM M) (h_x1 : InR x1) (h_v2_ : InR v2_) (h_v4_ : InR v4_) (h_v5_ : InR v5_) : Post (fun r => IM r) (t_MO_layWalk_L25 x1 bk2 M v2_ v4_ v5_) := by
  unfold t_MO_layWalk_L25
  refine post_guard (fun c_1 => ?_)
  refine post_let (fun M5 e_M5 => ?_)
  have h_M5 : IM M5 := by rw [e_M5]; exact IM.setI h_M h_v5_
  clear e_M5
  exact hbk2 _ _  h_M5 (inr_w32 _)
theorem im_MO_layWalk_L116 {x1 : Int} {bk34 : Mem → Int → Option (Mem)} {bk42 : Mem → Int → Int → Option (Mem)} {bk53 : Mem → Int → Int → Int → Option (Mem)} {v1_ : Int} {v2_ : Int} {v3_ : Int} {M : Mem} (hbk34 : ∀ (a0_ : Mem) (a1_ : Int), IM a0_ → InR a1_ → Post (fun r => IM r) (bk34 a0_ a1_)) (hbk42 : ∀ (a0_ : Mem) (a1_ : Int) (a2_ : Int), IM a0_ → InR a1_ → InR a2_ → Post (fun r => IM r) (bk42 a0_ a1_ a2_)) (hbk53 : ∀ (a0_ : Mem) (a1_ : Int) (a2_ : Int) (a3_ : Int), IM a0_ → InR a1_ → InR a2_ → InR a3_ → Post (fun r => IM r) (bk53 a0_ a1_ a2_ a3_)) (h_M : IM M) (h_x1 : InR x1) (h_v1_ : InR v1_) (h_v2_ : InR v2_) (h_v3_ : InR v3_) : Post (fun r => IM r) (t_MO_layWalk_L116 x1 bk34 bk42 bk53 M v1_ v2_ v3_) := by
  unfold t_MO_layWalk_L116
  exact hbk53 _ _ _ _  h_M h_v1_ h_v2_ (inr_w32 _)
theorem im_MO_layWalk_L53 {x1 : Int} {bk34 : Mem → Int → Option (Mem)} {bk42 : Mem → Int → Int → Option (Mem)} (hbk34 : ∀ (a0_ : Mem) (a1_ : Int), IM a0_ → InR a1_ → Post (fun r => IM r) (bk34 a0_ a1_)) (hbk42 : ∀ (a0_ : Mem) (a1_ : Int) (a2_ : Int), IM a0_ → InR a1_ → InR a2_ → Post (fun r => IM r) (bk42 a0_ a1_ a2_)) (h_x1 : InR x1) : ∀ (fu : Nat) (M : Mem) (v1_ : Int) (v2_ : Int) (v3_ : Int), IM M → InR v1_ → InR v2_ → InR v3_ → Post (fun r => IM r) (t_MO_layWalk_L53 x1 bk34 bk42 fu M v1_ v2_ v3_) := by
  intro fu
  induction fu with
  | zero => intro M v1_ v2_ v3_ h_M h_v1_ h_v2_ h_v3_; exact post_none
  | succ fu ih =>
    intro M v1_ v2_ v3_ h_M h_v1_ h_v2_ h_v3_
    rw [t_MO_layWalk_L53]
    refine post_ite (fun c_1 => ?_) (fun c_1 => ?_)
    · exact hbk42 _ _ _  h_M h_v1_ (inr_w32 _)
    · refine post_bind (Q := fun r => InR r) (im_MO_beside  h_M h_v2_ h_v3_) (fun q10 h_q10 => ?_)
      refine post_bind (Q := fun r => InR r) (im_MO_canStep  h_M h_v2_ h_q10) (fun q12 h_q12 => ?_)
      refine post_ite (fun c_2 => ?_) (fun c_2 => ?_)
      · exact (im_MO_layWalk_L116 hbk34 hbk42 (fun a0_ a1_ a2_ a3_ h0_ h1_ h2_ h3_ => ih a0_ a1_ a2_ a3_ h0_ h1_ h2_ h3_) h_M h_x1 h_v1_ h_v2_ h_v3_)
      · refine post_guard (fun c_3 => ?_)
        refine post_guard (fun c_4 => ?_)
        refine post_ite (fun c_5 => ?_) (fun c_5 => ?_)
        · refine post_guard (fun c_6 => ?_)
          refine post_guard (fun c_7 => ?_)
          refine post_let (fun M23 e_M23 => ?_)
          have h_M23 : IM M23 := by rw [e_M23]; exact IM.setI h_M (inr_w32 _)
          clear e_M23
          exact (im_MO_layWalk_L116 hbk34 hbk42 (fun a0_ a1_ a2_ a3_ h0_ h1_ h2_ h3_ => ih a0_ a1_ a2_ a3_ h0_ h1_ h2_ h3_) h_M23 h_x1 (inr_c rfl) h_v2_ h_v3_)
        · exact (im_MO_layWalk_L116 hbk34 hbk42 (fun a0_ a1_ a2_ a3_ h0_ h1_ h2_ h3_ => ih a0_ a1_ a2_ a3_ h0_ h1_ h2_ h3_) h_M h_x1 h_v1_ h_v2_ h_v3_)
theorem im_MO_layWalk_L42 {x1 : Int} {bk34 : Mem → Int → Option (Mem)} (hbk34 : ∀ (a0_ : Mem) (a1_ : Int), IM a0_ → InR a1_ → Post (fun r => IM r) (bk34 a0_ a1_)) (h_x1 : InR x1) : ∀ (fu : Nat) (M : Mem) (v1_ : Int) (v2_ : Int), IM M → InR v1_ → InR v2_ → Post (fun r => IM r) (t_MO_layWalk_L42 x1 bk34 fu M v1_ v2_) := by
  intro fu
  induction fu with
  | zero => intro M v1_ v2_ h_M h_v1_ h_v2_; exact post_none
  | succ fu ih =>
    intro M v1_ v2_ h_M h_v1_ h_v2_
    rw [t_MO_layWalk_L42]
    refine post_let (fun q6 e_q6 => ?_)
    have h_q6 : (fun r => InR r) q6 := by rw [e_q6]; exact (im_MO_cells  h_M )
    clear e_q6
    refine post_ite (fun c_1 => ?_) (fun c_1 => ?_)
    · exact hbk34 _ _  h_M h_v1_
    · exact (im_MO_layWalk_L53 hbk34 (fun a0_ a1_ a2_ h0_ h1_ h2_ => ih a0_ a1_ a2_ h0_ h1_ h2_) h_x1 _ _ _ _ _ h_M h_v1_ h_v2_ (inr_c rfl))
theorem im_MO_layWalk_L34 {x1 : Int}  (h_x1 : InR x1) : ∀ (fu : Nat) (M : Mem) (v1_ : Int), IM M → InR v1_ → Post (fun r => IM r) (t_MO_layWalk_L34 x1 fu M v1_) := by
  intro fu
  induction fu with
  | zero => intro M v1_ h_M h_v1_; exact post_none
  | succ fu ih =>
    intro M v1_ h_M h_v1_
    rw [t_MO_layWalk_L34]
    refine post_ite (fun c_1 => ?_) (fun c_1 => ?_)
    · exact post_some h_M
    · exact (im_MO_layWalk_L42 (fun a0_ a1_ h0_ h1_ => ih a0_ a1_ h0_ h1_) h_x1 _ _ _ _ h_M (inr_c rfl) (inr_c rfl))
theorem im_MO_layWalk_L2 {x1 : Int}  (h_x1 : InR x1) : ∀ (fu : Nat) (M : Mem) (v2_ : Int), IM M → InR v2_ → Post (fun r => IM r) (t_MO_layWalk_L2 x1 fu M v2_) := by
  intro fu
  induction fu with
  | zero => intro M v2_ h_M h_v2_; exact post_none
  | succ fu ih =>
    intro M v2_ h_M h_v2_
    rw [t_MO_layWalk_L2]
    refine post_ite (fun c_1 => ?_) (fun c_1 => ?_)
    · exact (im_MO_layWalk_L34  h_x1 _ _ _ h_M (inr_c rfl))
    · refine post_ite (fun c_2 => ?_) (fun c_2 => ?_)
      · exact (im_MO_layWalk_L25 (fun a0_ a1_ h0_ h1_ => ih a0_ a1_ h0_ h1_) h_M h_x1 h_v2_ h_v2_ (inr_c rfl))
      · exact (im_MO_layWalk_L25 (fun a0_ a1_ h0_ h1_ => ih a0_ a1_ h0_ h1_) h_M h_x1 h_v2_ h_v2_ (inr_c rfl))
theorem im_MO_layWalk {x1 : Int} {M : Mem}  (h_M : IM M) (h_x1 : InR x1) : Post (fun r => IM r) (t_MO_layWalk M x1) := by
  unfold t_MO_layWalk
  exact (im_MO_layWalk_L2  h_x1 _ _ _ h_M (inr_c rfl))
theorem im_MO_isWalk {x1 : Int} {x2 : Int} {M : Mem}  (h_M : IM M) (h_x1 : InR x1) (h_x2 : InR x2) : Post (fun r => InR r) (t_MO_isWalk M x1 x2) := by
  unfold t_MO_isWalk
  refine post_let (fun q1 e_q1 => ?_)
  have h_q1 : (fun r => InR r) q1 := by rw [e_q1]; exact (im_MO_isCell  h_M h_x1)
  clear e_q1
  refine post_ite (fun c_1 => ?_) (fun c_1 => ?_)
  · exact post_some (inr_c rfl)
  · refine post_let (fun q4 e_q4 => ?_)
    have h_q4 : (fun r => InR r) q4 := by rw [e_q4]; exact (im_MO_isCell  h_M h_x2)
    clear e_q4
    refine post_ite (fun c_2 => ?_) (fun c_2 => ?_)
    · exact post_some (inr_c rfl)
    · refine post_bind (Q := fun r => InR r) (im_MO_stands  h_M h_x1) (fun q7 h_q7 => ?_)
      refine post_ite (fun c_3 => ?_) (fun c_3 => ?_)
      · exact post_some (inr_c rfl)
      · refine post_bind (Q := fun r => InR r) (im_MO_stands  h_M h_x2) (fun q10 h_q10 => ?_)
        refine post_ite (fun c_4 => ?_) (fun c_4 => ?_)
        · exact post_some (inr_c rfl)
        · exact post_some (inr_c rfl)
theorem im_MO_walk {x1 : Int} {x2 : Int} {M : Mem}  (h_M : IM M) (h_x1 : InR x1) (h_x2 : InR x2) : Post (fun r => IM r.1 ∧ InR r.2) (t_MO_walk M x1 x2) := by
  unfold t_MO_walk
  refine post_let (fun M1 e_M1 => ?_)
  have h_M1 : IM M1 := by rw [e_M1]; exact IM.setI h_M (inr_c rfl)
  clear e_M1
  refine post_bind (Q := fun r => InR r) (im_MO_isWalk  h_M1 h_x1 h_x2) (fun q2 h_q2 => ?_)
  refine post_ite (fun c_1 => ?_) (fun c_1 => ?_)
  · exact post_some ⟨h_M1, (inr_c rfl)⟩
  · refine post_bind (Q := fun r => IM r) (im_MO_layWalk  h_M1 h_x2) (fun q5 h_q5 => ?_)
    refine post_guard (fun c_2 => ?_)
    refine post_ite (fun c_3 => ?_) (fun c_3 => ?_)
    · refine post_guard (fun c_4 => ?_)
      exact post_some ⟨h_q5, (h_q5 _ _)⟩
    · exact post_some ⟨h_q5, (inr_c rfl)⟩
theorem im_MO_step_L107 {x1 : Int} {x2 : Int} {x3 : Int} {bk56 : Mem → Int → Int → Option (Mem × Int)} {bk65 : Mem → Int → Int → Int → Option (Mem × Int)} {v2_ : Int} {v3_ : Int} {v4_ : Int} {M : Mem} (hbk56 : ∀ (a0_ : Mem) (a1_ : Int) (a2_ : Int), IM a0_ → InR a1_ → InR a2_ → Post (fun r => IM r.1 ∧ InR r.2) (bk56 a0_ a1_ a2_)) (hbk65 : ∀ (a0_ : Mem) (a1_ : Int) (a2_ : Int) (a3_ : Int), IM a0_ → InR a1_ → InR a2_ → InR a3_ → Post (fun r => IM r.1 ∧ InR r.2) (bk65 a0_ a1_ a2_ a3_)) (h_M : IM M) (h_x1 : InR x1) (h_x2 : InR x2) (h_x3 : InR x3) (h_v2_ : InR v2_) (h_v3_ : InR v3_) (h_v4_ : InR v4_) : Post (fun r => IM r.1 ∧ InR r.2) (t_MO_step_L107 x1 x2 x3 bk56 bk65 M v2_ v3_ v4_) := by
  unfold t_MO_step_L107
  exact hbk65 _ _ _ _  h_M h_v2_ h_v3_ (inr_w32 _)
theorem im_MO_step_L65 {x1 : Int} {x2 : Int} {x3 : Int} {bk56 : Mem → Int → Int → Option (Mem × Int)} (hbk56 : ∀ (a0_ : Mem) (a1_ : Int) (a2_ : Int), IM a0_ → InR a1_ → InR a2_ → Post (fun r => IM r.1 ∧ InR r.2) (bk56 a0_ a1_ a2_)) (h_x1 : InR x1) (h_x2 : InR x2) (h_x3 : InR x3) : ∀ (fu : Nat) (M : Mem) (v2_ : Int) (v3_ : Int) (v4_ : Int), IM M → InR v2_ → InR v3_ → InR v4_ → Post (fun r => IM r.1 ∧ InR r.2) (t_MO_step_L65 x1 x2 x3 bk56 fu M v2_ v3_ v4_) := by
  intro fu
  induction fu with
  | zero => intro M v2_ v3_ v4_ h_M h_v2_ h_v3_ h_v4_; exact post_none
  | succ fu ih =>
    intro M v2_ v3_ v4_ h_M h_v2_ h_v3_ h_v4_
    rw [t_MO_step_L65]
    refine post_bind (Q := fun r => InR r) (im_MO_beside  h_M h_v2_ h_v4_) (fun q15 h_q15 => ?_)
    refine post_bind (Q := fun r => InR r) (im_MO_canStep  h_M h_v2_ h_q15) (fun q17 h_q17 => ?_)
    refine post_ite (fun c_1 => ?_) (fun c_1 => ?_)
    · exact (im_MO_step_L107 hbk56 (fun a0_ a1_ a2_ a3_ h0_ h1_ h2_ h3_ => ih a0_ a1_ a2_ a3_ h0_ h1_ h2_ h3_) h_M h_x1 h_x2 h_x3 h_v2_ h_v3_ h_v4_)
    · refine post_bind (Q := fun r => InR r) (im_MO_beside  h_M h_v2_ h_v4_) (fun q20 h_q20 => ?_)
      refine post_guard (fun c_2 => ?_)
      refine post_guard (fun c_3 => ?_)
      refine post_ite (fun c_4 => ?_) (fun c_4 => ?_)
      · refine post_bind (Q := fun r => InR r) (im_MO_beside  h_M h_v2_ h_v4_) (fun q27 h_q27 => ?_)
        exact hbk56 _ _ _  h_M h_q27 (inr_w32 _)
      · exact (im_MO_step_L107 hbk56 (fun a0_ a1_ a2_ a3_ h0_ h1_ h2_ h3_ => ih a0_ a1_ a2_ a3_ h0_ h1_ h2_ h3_) h_M h_x1 h_x2 h_x3 h_v2_ h_v3_ h_v4_)
theorem im_MO_step_L56 {x1 : Int} {x2 : Int} {x3 : Int}  (h_x1 : InR x1) (h_x2 : InR x2) (h_x3 : InR x3) : ∀ (fu : Nat) (M : Mem) (v2_ : Int) (v3_ : Int), IM M → InR v2_ → InR v3_ → Post (fun r => IM r.1 ∧ InR r.2) (t_MO_step_L56 x1 x2 x3 fu M v2_ v3_) := by
  intro fu
  induction fu with
  | zero => intro M v2_ v3_ h_M h_v2_ h_v3_; exact post_none
  | succ fu ih =>
    intro M v2_ v3_ h_M h_v2_ h_v3_
    rw [t_MO_step_L56]
    refine post_ite (fun c_1 => ?_) (fun c_1 => ?_)
    · exact post_some ⟨h_M, h_v2_⟩
    · exact (im_MO_step_L65 (fun a0_ a1_ a2_ h0_ h1_ h2_ => ih a0_ a1_ a2_ h0_ h1_ h2_) h_x1 h_x2 h_x3 _ _ _ _ _ h_M h_v2_ h_v3_ (inr_c rfl))
theorem im_MO_step {x1 : Int} {x2 : Int} {x3 : Int} {M : Mem}  (h_M : IM M) (h_x1 : InR x1) (h_x2 : InR x2) (h_x3 : InR x3) : Post (fun r => IM r.1 ∧ InR r.2) (t_MO_step M x1 x2 x3) := by
  unfold t_MO_step
  refine post_let (fun M1 e_M1 => ?_)
  have h_M1 : IM M1 := by rw [e_M1]; exact IM.setI h_M (inr_c rfl)
  clear e_M1
  refine post_bind (Q := fun r => InR r) (im_MO_isWalk  h_M1 h_x1 h_x2) (fun q2 h_q2 => ?_)
  refine post_ite (fun c_1 => ?_) (fun c_1 => ?_)
  · exact post_some ⟨h_M1, (inr_c rfl)⟩
  · refine post_ite (fun c_2 => ?_) (fun c_2 => ?_)
    · refine post_bind (Q := fun r => IM r) (im_MO_layWalk  h_M1 h_x2) (fun q6 h_q6 => ?_)
      refine post_guard (fun c_3 => ?_)
      refine post_ite (fun c_4 => ?_) (fun c_4 => ?_)
      · exact post_some ⟨h_q6, (inr_c rfl)⟩
      · refine post_guard (fun c_5 => ?_)
        refine post_ite (fun c_6 => ?_) (fun c_6 => ?_)
        · exact (im_MO_step_L56  h_x1 h_x2 h_x3 _ _ _ _ h_q6 h_x1 (inr_c rfl))
        · exact post_some ⟨h_q6, (inr_c rfl)⟩
    · exact post_some ⟨h_M1, (inr_c rfl)⟩
theorem im_MO_pushOf {x1 : Int} {x2 : Int} {M : Mem}  (h_M : IM M) (h_x1 : InR x1) (h_x2 : InR x2) : Post (fun r => IM r.1 ∧ InR r.2) (t_MO_pushOf M x1 x2) := by
  unfold t_MO_pushOf
  refine post_bind (Q := fun r => InR r) (im_MO_nextOf  h_M (inr_c rfl) h_x1) (fun q1 h_q1 => ?_)
  refine post_bind (Q := fun r => InR r) (im_MO_beside  h_M h_x1 h_x2) (fun q3 h_q3 => ?_)
  refine post_ite (fun c_1 => ?_) (fun c_1 => ?_)
  · exact post_some ⟨h_M, (inr_c rfl)⟩
  · refine post_bind (Q := fun r => IM r) (im_MO_callsPush  h_M h_x1 h_x2) (fun q6 h_q6 => ?_)
    refine post_bind (Q := fun r => IM r.1 ∧ InR r.2) (im_MO_within  h_q6 (inr_c rfl) (inr_c rfl) (inr_c rfl)) (fun q8 h_q8 => ?_)
    exact post_some ⟨h_q8.1, h_q8.2⟩
theorem im_MO_layPush_L43 {x1 : Int} {bk2 : Mem → Int → Option (Mem)} {v2_ : Int} {v4_ : Int} {v5_ : Int} {M : Mem} (hbk2 : ∀ (a0_ : Mem) (a1_ : Int), IM a0_ → InR a1_ → Post (fun r => IM r) (bk2 a0_ a1_)) (h_M : IM M) (h_x1 : InR x1) (h_v2_ : InR v2_) (h_v4_ : InR v4_) (h_v5_ : InR v5_) : Post (fun r => IM r) (t_MO_layPush_L43 x1 bk2 M v2_ v4_ v5_) := by
  unfold t_MO_layPush_L43
  refine post_guard (fun c_1 => ?_)
  refine post_let (fun M11 e_M11 => ?_)
  have h_M11 : IM M11 := by rw [e_M11]; exact IM.setI h_M h_v5_
  clear e_M11
  exact hbk2 _ _  h_M11 (inr_w32 _)
theorem im_MO_layPush_L25 {x1 : Int} {bk2 : Mem → Int → Option (Mem)} {v2_ : Int} {v4_ : Int} {v5_ : Int} {M : Mem} (hbk2 : ∀ (a0_ : Mem) (a1_ : Int), IM a0_ → InR a1_ → Post (fun r => IM r) (bk2 a0_ a1_)) (h_M : IM M) (h_x1 : InR x1) (h_v2_ : InR v2_) (h_v4_ : InR v4_) (h_v5_ : InR v5_) : Post (fun r => IM r) (t_MO_layPush_L25 x1 bk2 M v2_ v4_ v5_) := by
  unfold t_MO_layPush_L25
  refine post_guard (fun c_1 => ?_)
  refine post_let (fun M5 e_M5 => ?_)
  have h_M5 : IM M5 := by rw [e_M5]; exact IM.setI h_M h_v5_
  clear e_M5
  refine post_ite (fun c_2 => ?_) (fun c_2 => ?_)
  · exact (im_MO_layPush_L43 hbk2 h_M5 h_x1 h_v2_ h_v2_ (inr_c rfl))
  · exact (im_MO_layPush_L43 hbk2 h_M5 h_x1 h_v2_ h_v2_ (inr_c rfl))
theorem im_MO_layPush_L212 {x1 : Int} {bk52 : Mem → Int → Option (Mem)} {bk60 : Mem → Int → Int → Option (Mem)} {bk71 : Mem → Int → Int → Int → Option (Mem)} {v1_ : Int} {v2_ : Int} {v3_ : Int} {M : Mem} (hbk52 : ∀ (a0_ : Mem) (a1_ : Int), IM a0_ → InR a1_ → Post (fun r => IM r) (bk52 a0_ a1_)) (hbk60 : ∀ (a0_ : Mem) (a1_ : Int) (a2_ : Int), IM a0_ → InR a1_ → InR a2_ → Post (fun r => IM r) (bk60 a0_ a1_ a2_)) (hbk71 : ∀ (a0_ : Mem) (a1_ : Int) (a2_ : Int) (a3_ : Int), IM a0_ → InR a1_ → InR a2_ → InR a3_ → Post (fun r => IM r) (bk71 a0_ a1_ a2_ a3_)) (h_M : IM M) (h_x1 : InR x1) (h_v1_ : InR v1_) (h_v2_ : InR v2_) (h_v3_ : InR v3_) : Post (fun r => IM r) (t_MO_layPush_L212 x1 bk52 bk60 bk71 M v1_ v2_ v3_) := by
  unfold t_MO_layPush_L212
  exact hbk71 _ _ _ _  h_M h_v1_ h_v2_ (inr_w32 _)
theorem im_MO_layPush_L187 {x1 : Int} {bk52 : Mem → Int → Option (Mem)} {bk60 : Mem → Int → Int → Option (Mem)} {bk71 : Mem → Int → Int → Int → Option (Mem)} {v1_ : Int} {v2_ : Int} {v3_ : Int} {v4_ : Int} {M : Mem} (hbk52 : ∀ (a0_ : Mem) (a1_ : Int), IM a0_ → InR a1_ → Post (fun r => IM r) (bk52 a0_ a1_)) (hbk60 : ∀ (a0_ : Mem) (a1_ : Int) (a2_ : Int), IM a0_ → InR a1_ → InR a2_ → Post (fun r => IM r) (bk60 a0_ a1_ a2_)) (hbk71 : ∀ (a0_ : Mem) (a1_ : Int) (a2_ : Int) (a3_ : Int), IM a0_ → InR a1_ → InR a2_ → InR a3_ → Post (fun r => IM r) (bk71 a0_ a1_ a2_ a3_)) (h_M : IM M) (h_x1 : InR x1) (h_v1_ : InR v1_) (h_v2_ : InR v2_) (h_v3_ : InR v3_) (h_v4_ : InR v4_) : Post (fun r => IM r) (t_MO_layPush_L187 x1 bk52 bk60 bk71 M v1_ v2_ v3_ v4_) := by
  unfold t_MO_layPush_L187
  refine post_guard (fun c_1 => ?_)
  refine post_let (fun M41 e_M41 => ?_)
  have h_M41 : IM M41 := by rw [e_M41]; exact IM.setI h_M h_v4_
  clear e_M41
  refine post_guard (fun c_2 => ?_)
  refine post_guard (fun c_3 => ?_)
  refine post_let (fun M45 e_M45 => ?_)
  have h_M45 : IM M45 := by rw [e_M45]; exact IM.setI h_M41 (inr_w32 _)
  clear e_M45
  exact (im_MO_layPush_L212 hbk52 hbk60 hbk71 h_M45 h_x1 (inr_c rfl) h_v1_ h_v2_)
theorem im_MO_layPush_L218 {x1 : Int} {bk52 : Mem → Int → Option (Mem)} {bk60 : Mem → Int → Int → Option (Mem)} {v1_ : Int} {v2_ : Int} {M : Mem} (hbk52 : ∀ (a0_ : Mem) (a1_ : Int), IM a0_ → InR a1_ → Post (fun r => IM r) (bk52 a0_ a1_)) (hbk60 : ∀ (a0_ : Mem) (a1_ : Int) (a2_ : Int), IM a0_ → InR a1_ → InR a2_ → Post (fun r => IM r) (bk60 a0_ a1_ a2_)) (h_M : IM M) (h_x1 : InR x1) (h_v1_ : InR v1_) (h_v2_ : InR v2_) : Post (fun r => IM r) (t_MO_layPush_L218 x1 bk52 bk60 M v1_ v2_) := by
  unfold t_MO_layPush_L218
  exact hbk60 _ _ _  h_M h_v1_ (inr_w32 _)
theorem im_MO_layPush_L71 {x1 : Int} {bk52 : Mem → Int → Option (Mem)} {bk60 : Mem → Int → Int → Option (Mem)} (hbk52 : ∀ (a0_ : Mem) (a1_ : Int), IM a0_ → InR a1_ → Post (fun r => IM r) (bk52 a0_ a1_)) (hbk60 : ∀ (a0_ : Mem) (a1_ : Int) (a2_ : Int), IM a0_ → InR a1_ → InR a2_ → Post (fun r => IM r) (bk60 a0_ a1_ a2_)) (h_x1 : InR x1) : ∀ (fu : Nat) (M : Mem) (v1_ : Int) (v2_ : Int) (v3_ : Int), IM M → InR v1_ → InR v2_ → InR v3_ → Post (fun r => IM r) (t_MO_layPush_L71 x1 bk52 bk60 fu M v1_ v2_ v3_) := by
  intro fu
  induction fu with
  | zero => intro M v1_ v2_ v3_ h_M h_v1_ h_v2_ h_v3_; exact post_none
  | succ fu ih =>
    intro M v1_ v2_ v3_ h_M h_v1_ h_v2_ h_v3_
    rw [t_MO_layPush_L71]
    refine post_ite (fun c_1 => ?_) (fun c_1 => ?_)
    · exact (im_MO_layPush_L218 hbk52 hbk60 h_M h_x1 h_v1_ h_v2_)
    · refine post_guard (fun c_2 => ?_)
      refine post_ite (fun c_3 => ?_) (fun c_3 => ?_)
      · refine post_bind (Q := fun r => InR r) (im_MO_beside  h_M h_v2_ h_v3_) (fun q16 h_q16 => ?_)
        refine post_ite (fun c_4 => ?_) (fun c_4 => ?_)
        · exact (im_MO_layPush_L212 hbk52 hbk60 (fun a0_ a1_ a2_ a3_ h0_ h1_ h2_ h3_ => ih a0_ a1_ a2_ a3_ h0_ h1_ h2_ h3_) h_M h_x1 h_v1_ h_v2_ h_v3_)
        · refine post_guard (fun c_5 => ?_)
          refine post_ite (fun c_6 => ?_) (fun c_6 => ?_)
          · refine post_guard (fun c_7 => ?_)
            refine post_ite (fun c_8 => ?_) (fun c_8 => ?_)
            · refine post_guard (fun c_9 => ?_)
              refine post_bind (Q := fun r => IM r.1 ∧ InR r.2) (im_MO_pushOf  h_M h_v2_ h_v3_) (fun q27 h_q27 => ?_)
              refine post_guard (fun c_10 => ?_)
              refine post_ite (fun c_11 => ?_) (fun c_11 => ?_)
              · exact (im_MO_layPush_L212 hbk52 hbk60 (fun a0_ a1_ a2_ a3_ h0_ h1_ h2_ h3_ => ih a0_ a1_ a2_ a3_ h0_ h1_ h2_ h3_) h_q27.1 h_x1 h_v1_ h_v2_ h_v3_)
              · refine post_guard (fun c_12 => ?_)
                refine post_ite (fun c_13 => ?_) (fun c_13 => ?_)
                · refine post_guard (fun c_14 => ?_)
                  refine post_guard (fun c_15 => ?_)
                  refine post_ite (fun c_16 => ?_) (fun c_16 => ?_)
                  · exact (im_MO_layPush_L187 hbk52 hbk60 (fun a0_ a1_ a2_ a3_ h0_ h1_ h2_ h3_ => ih a0_ a1_ a2_ a3_ h0_ h1_ h2_ h3_) h_q27.1 h_x1 h_v2_ h_v3_ h_q16 (inr_w32 _))
                  · exact (im_MO_layPush_L212 hbk52 hbk60 (fun a0_ a1_ a2_ a3_ h0_ h1_ h2_ h3_ => ih a0_ a1_ a2_ a3_ h0_ h1_ h2_ h3_) h_q27.1 h_x1 h_v1_ h_v2_ h_v3_)
                · exact (im_MO_layPush_L187 hbk52 hbk60 (fun a0_ a1_ a2_ a3_ h0_ h1_ h2_ h3_ => ih a0_ a1_ a2_ a3_ h0_ h1_ h2_ h3_) h_q27.1 h_x1 h_v2_ h_v3_ h_q16 (inr_w32 _))
            · exact (im_MO_layPush_L212 hbk52 hbk60 (fun a0_ a1_ a2_ a3_ h0_ h1_ h2_ h3_ => ih a0_ a1_ a2_ a3_ h0_ h1_ h2_ h3_) h_M h_x1 h_v1_ h_v2_ h_v3_)
          · exact (im_MO_layPush_L212 hbk52 hbk60 (fun a0_ a1_ a2_ a3_ h0_ h1_ h2_ h3_ => ih a0_ a1_ a2_ a3_ h0_ h1_ h2_ h3_) h_M h_x1 h_v1_ h_v2_ h_v3_)
      · exact (im_MO_layPush_L218 hbk52 hbk60 h_M h_x1 h_v1_ h_v2_)
theorem im_MO_layPush_L60 {x1 : Int} {bk52 : Mem → Int → Option (Mem)} (hbk52 : ∀ (a0_ : Mem) (a1_ : Int), IM a0_ → InR a1_ → Post (fun r => IM r) (bk52 a0_ a1_)) (h_x1 : InR x1) : ∀ (fu : Nat) (M : Mem) (v1_ : Int) (v2_ : Int), IM M → InR v1_ → InR v2_ → Post (fun r => IM r) (t_MO_layPush_L60 x1 bk52 fu M v1_ v2_) := by
  intro fu
  induction fu with
  | zero => intro M v1_ v2_ h_M h_v1_ h_v2_; exact post_none
  | succ fu ih =>
    intro M v1_ v2_ h_M h_v1_ h_v2_
    rw [t_MO_layPush_L60]
    refine post_let (fun q7 e_q7 => ?_)
    have h_q7 : (fun r => InR r) q7 := by rw [e_q7]; exact (im_MO_cells  h_M )
    clear e_q7
    refine post_ite (fun c_1 => ?_) (fun c_1 => ?_)
    · exact hbk52 _ _  h_M h_v1_
    · exact (im_MO_layPush_L71 hbk52 (fun a0_ a1_ a2_ h0_ h1_ h2_ => ih a0_ a1_ a2_ h0_ h1_ h2_) h_x1 _ _ _ _ _ h_M h_v1_ h_v2_ (inr_c rfl))
theorem im_MO_layPush_L52 {x1 : Int}  (h_x1 : InR x1) : ∀ (fu : Nat) (M : Mem) (v1_ : Int), IM M → InR v1_ → Post (fun r => IM r) (t_MO_layPush_L52 x1 fu M v1_) := by
  intro fu
  induction fu with
  | zero => intro M v1_ h_M h_v1_; exact post_none
  | succ fu ih =>
    intro M v1_ h_M h_v1_
    rw [t_MO_layPush_L52]
    refine post_ite (fun c_1 => ?_) (fun c_1 => ?_)
    · exact post_some h_M
    · exact (im_MO_layPush_L60 (fun a0_ a1_ h0_ h1_ => ih a0_ a1_ h0_ h1_) h_x1 _ _ _ _ h_M (inr_c rfl) (inr_c rfl))
theorem im_MO_layPush_L2 {x1 : Int}  (h_x1 : InR x1) : ∀ (fu : Nat) (M : Mem) (v2_ : Int), IM M → InR v2_ → Post (fun r => IM r) (t_MO_layPush_L2 x1 fu M v2_) := by
  intro fu
  induction fu with
  | zero => intro M v2_ h_M h_v2_; exact post_none
  | succ fu ih =>
    intro M v2_ h_M h_v2_
    rw [t_MO_layPush_L2]
    refine post_ite (fun c_1 => ?_) (fun c_1 => ?_)
    · exact (im_MO_layPush_L52  h_x1 _ _ _ h_M (inr_c rfl))
    · refine post_ite (fun c_2 => ?_) (fun c_2 => ?_)
      · exact (im_MO_layPush_L25 (fun a0_ a1_ h0_ h1_ => ih a0_ a1_ h0_ h1_) h_M h_x1 h_v2_ h_v2_ (inr_c rfl))
      · exact (im_MO_layPush_L25 (fun a0_ a1_ h0_ h1_ => ih a0_ a1_ h0_ h1_) h_M h_x1 h_v2_ h_v2_ (inr_c rfl))
theorem im_MO_layPush {x1 : Int} {M : Mem}  (h_M : IM M) (h_x1 : InR x1) : Post (fun r => IM r) (t_MO_layPush M x1) := by
  unfold t_MO_layPush
  exact (im_MO_layPush_L2  h_x1 _ _ _ h_M (inr_c rfl))
theorem im_MO_push {x1 : Int} {x2 : Int} {x3 : Int} {M : Mem}  (h_M : IM M) (h_x1 : InR x1) (h_x2 : InR x2) (h_x3 : InR x3) : Post (fun r => IM r.1 ∧ InR r.2) (t_MO_push M x1 x2 x3) := by
  unfold t_MO_push
  refine post_let (fun M1 e_M1 => ?_)
  have h_M1 : IM M1 := by rw [e_M1]; exact IM.setI h_M (inr_c rfl)
  clear e_M1
  refine post_bind (Q := fun r => InR r) (im_MO_isOpen  h_M1 h_x1) (fun q2 h_q2 => ?_)
  refine post_ite (fun c_1 => ?_) (fun c_1 => ?_)
  · exact post_some ⟨h_M1, (inr_c rfl)⟩
  · refine post_bind (Q := fun r => InR r) (im_MO_isOpen  h_M1 h_x2) (fun q5 h_q5 => ?_)
    refine post_ite (fun c_2 => ?_) (fun c_2 => ?_)
    · exact post_some ⟨h_M1, (inr_c rfl)⟩
    · refine post_ite (fun c_3 => ?_) (fun c_3 => ?_)
      · exact post_some ⟨h_M1, (inr_c rfl)⟩
      · refine post_ite (fun c_4 => ?_) (fun c_4 => ?_)
        · refine post_bind (Q := fun r => IM r) (im_MO_layPush  h_M1 h_x2) (fun q10 h_q10 => ?_)
          refine post_guard (fun c_5 => ?_)
          refine post_ite (fun c_6 => ?_) (fun c_6 => ?_)
          · refine post_ite (fun c_7 => ?_) (fun c_7 => ?_)
            · refine post_guard (fun c_8 => ?_)
              exact post_some ⟨h_q10, (h_q10 _ _)⟩
            · refine post_guard (fun c_9 => ?_)
              exact post_some ⟨h_q10, (h_q10 _ _)⟩
          · exact post_some ⟨h_q10, (inr_c rfl)⟩
        · exact post_some ⟨h_M1, (inr_c rfl)⟩
end
